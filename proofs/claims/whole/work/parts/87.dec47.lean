set_option maxHeartbeats 400000000 in
set_option maxRecDepth 100000 in
theorem gM_one1_2 (l : Launch) (hl9 : l.stackTraces = false) (D : va_G) (cT : Nat → ClassId) (aK aV : Nat → Nat) (sz d n : Nat) (aM : Nat) (ad rd gd vad : Nat → Nat) (st : xS) (x0 : Int32) (c1 : Nat) (out : Nat × Nat × Nat × Nat × xS) (hf : fM_one1 d n st x0 c1 = some out) (hkd : out.1 = 2) : xMetY l yM_one1 wyM_one1 (16 * d + 11) out.2.1 out.2.2.1 (400 * d + 224) D cT aK aV sz [.ref aM, .int x0, xv vad c1] (xMw cT aM ad rd gd vad st []) "java/lang/IndexOutOfBoundsException" (fun u => xE vad st out.2.2.2.2 u) (fun A u t => xB D xcl cT A (xMw cT aM u.1 rd u.2.1 u.2.2 out.2.2.2.2 []) t) := by
  refine vx_ofW (cc := prog_13_method_66_code) (maxL := 3) (ret := (some (.object "ValueBenchModel$V"))) (by decide) rfl ?_
  intro p e s m args below meth c s₁ B hml hne hv
  obtain ⟨rfl, hsz, hZ, hP, hK, hD0⟩ := hv
  have hx := B.exec
  have hb := B.bytes
  have hr := B.returns
  have hts := atoms_spec (ws := wyM_one1) B.pre
  have htx := fun w h => hts w (List.mem_cons_of_mem _ h)
  have hown : s.vm.findClass "ValueBenchModel" = some m.cls := findClass_of_methodNamed B.named
  have hlocks := B.notSynchronized
  subst hsz
  have hD := hD0.self (sz := s.heap.size)
  generalize hAe : va_A (xMw cT aM ad rd gd vad st []) s.heap.size = A at hD hZ ⊢
  have hA : ∀ q : Nat, s.heap.size ≤ q → A q := fun q h => by rw [← hAe]; exact Or.inr h
  have hS : va_S A s.heap s.heap [] := va_S.rf
  have hl := lv_entry ([.ref aM, .int x0, xv vad c1]) (n := 3) (by simp [lg_sl, xvcat, xrscat, xcI, xcL, xcR, xcN])
  rw [show lv_args 0 [.ref aM, .int x0, xv vad c1] = [(0, .ref aM), (1, .int x0), (2, xv vad c1)] from by simp [lv_args, xvcat, xrscat, xcI, xcL, xcR, xcN]] at hl
  rw [lg_entry_eq]
  generalize (lg_sl ([.ref aM, .int x0, xv vad c1]) ++ List.replicate (3 - (lg_sl ([.ref aM, .int x0, xv vad c1])).length) Slot.unset).toArray = ls at hl ⊢
  have hl : lv_has ls 3 [(0, .ref aM), (1, .int x0), (2, xv vad c1)] := hl
  have hE : ∀ p, p < xct st → vad p = vad p := fun _ _ => rfl
  have hN : xct st ≤ xct st := Nat.le_refl _
  unfold fM_one1 at hf
  refine lv_iload_n hx hb dM_one1_0 rfl (lv_at hl 1 rfl) ?_
  by_cases hc1 : x0 = 0
  · rw [if_pos hc1] at hf
    refine lv_tableIn (off := 67) (tgt := 68) hx hb dM_one1_1 (by rw [hc1]; decide) (by rw [hc1]; decide) (by rw [hc1]; decide) (by decide) ?_
    refine lv_aload_n hx hb dM_one1_68 rfl (lv_at hl 0 rfl) ?_
    refine lv_aload_n hx hb dM_one1_69 rfl (lv_at hl 0 rfl) ?_
    refine xm_aload_n hx hb (xvor _ _) dM_one1_70 rfl (lv_at hl 2 rfl) ?_
    obtain ⟨o2, hq3, hf⟩ := xbind hf
    have hl := lv_sub (l' := [(0, .ref aM), (1, .int x0)]) hl [0, 1] rfl
    have hFc := xm_free hD hS hA
    refine va_calli (va_runV (C := "ValueBenchModel") (As := [xv vad c1]) (rest := [.ref aM]) ⟨hx, hb, hml, hown, htx⟩ (gM_isTrue l hl9 D cT aK aV s.heap.size n aM ad rd gd vad st c1 o2 hq3) ⟨callB_of 1 htx (xw_goodC kw_7_1) rfl rfl rfl (htx _ kw_1_5) (htx _ kw_6_238) ⟨by decide, by decide, by decide +kernel⟩ ⟨Nat.le_of_ble_eq_true rfl, Nat.le_of_ble_eq_true rfl⟩, (htx _ kw_7_0), (htx _ kp_M_isTrue)⟩ ⟨xPre_blind, va_recv hK hP (ci := 5) rfl (q0 := 0) rfl, (fun U hU hW => ⟨rfl, xPre_of hZ hS hFc hP hD hK U hU hW⟩)⟩ rfl rfl hl.1 rfl (xm_room (Nat.le_of_ble_eq_true rfl)) dM_one1_71 ⟨Nat.zero_le _, Nat.zero_le _⟩) hS (fun q _ h => hFc q h) hFc (fun r4 u9 t H1 locs ht hvm hr9 hB hz1 hk1 hS => ?_)
    obtain ⟨hP1, hK1, hD1⟩ := hB
    rw [ht] at hP1
    have hP : va_P D xcl (xMw cT aM ad rd gd vad st []) H1 := hP1
    have hD : va_D A (xMw cT aM ad rd gd vad st []) := hD1.weaken (fun k q _ h => hFc q.1 h)
    generalize H1 = H at hP hS ⊢
    rw [hr9]
    refine W.eq (g2 := F0 m 74 ls [.int o2, .ref aM]) (by first | rfl | (skip; rfl)) ?_
    refine lv_if_ne (tgt := 81) hx hb dM_one1_74 (by decide) (fun hc => ?_) (fun hc => ?_)
    · rw [if_neg hc] at hf
      refine lv_iconst (v := 0) hx hb dM_one1_81 (by decide) ?_
      obtain ⟨o5, hq6, hf⟩ := xbind hf
      obtain ⟨hm7, hf⟩ := xmoE hf
      have hFc := xm_free hD hS hA
      refine va_callq (va_runV (C := "ValueBenchModel") (As := [.int 0]) (rest := []) ⟨hx, hb, hml, hown, htx⟩ (gM_truth l hl9 D cT aK aV H.size n aM ad rd gd vad st (0 : Int32) o5 hq6) ⟨callB_of 1 htx (xw_goodC kw_7_5) rfl rfl rfl (htx _ kw_1_5) (htx _ kw_7_2) ⟨by decide, by decide, by decide +kernel⟩ ⟨Nat.le_of_ble_eq_true rfl, Nat.le_of_ble_eq_true rfl⟩, (htx _ kw_7_4), (htx _ kp_M_truth)⟩ ⟨xPre_blind, va_recv hK hP (ci := 5) rfl (q0 := 0) rfl, (fun U hU hW => ⟨rfl, xPre_of hZ hS hFc hP hD hK U hU hW⟩)⟩ rfl rfl hl.1 rfl (xm_room (Nat.le_of_ble_eq_true rfl)) dM_one1_82 ⟨hm7.1, hm7.2⟩) hS (fun q _ h => hFc q h) hFc (fun r8 u9 t H1 locs ht hvm hr9 hB hz1 hk1 hS => ?_)
      obtain ⟨hP1, hK1, hD1⟩ := hB
      rw [ht] at hP1
      obtain ⟨ad9, gd10, vad11⟩ := u9
      obtain ⟨hr9, hv12, hn13⟩ := hr9
      have hP : va_P D xcl (xMw cT aM ad9 rd gd10 vad11 o5.2.2.2 []) H1 := hP1
      have hD : va_D A (xMw cT aM ad9 rd gd10 vad11 o5.2.2.2 []) := hD1.weaken (fun k q _ h => hFc q.1 h)
      generalize H1 = H at hP hS ⊢
      have hE9 : ∀ p, p < xct st → vad11 p = vad p := fun p h => (hv12 p (Nat.lt_of_lt_of_le h hN)).trans (hE p h)
      have hE := hE9
      have hN : xct st ≤ xct o5.2.2.2 := Nat.le_trans hN hn13
      rw [hr9]
      refine W.eq (g2 := F0 m 85 ls [xv vad11 o5.2.2.1]) (by first | rfl | (skip; rfl)) ?_
      obtain rfl := Option.some.inj hf
      exact absurd (show (0 : Nat) = 2 from hkd) (by decide)
    · rw [if_pos hc] at hf
      refine lv_iconst (v := 1) hx hb dM_one1_77 (by decide) ?_
      refine lv_goto (tgt := 82) hx hb dM_one1_78 (by decide) ?_
      obtain ⟨o5, hq6, hf⟩ := xbind hf
      obtain ⟨hm7, hf⟩ := xmoE hf
      have hFc := xm_free hD hS hA
      refine va_callq (va_runV (C := "ValueBenchModel") (As := [.int 1]) (rest := []) ⟨hx, hb, hml, hown, htx⟩ (gM_truth l hl9 D cT aK aV H.size n aM ad rd gd vad st (1 : Int32) o5 hq6) ⟨callB_of 1 htx (xw_goodC kw_7_5) rfl rfl rfl (htx _ kw_1_5) (htx _ kw_7_2) ⟨by decide, by decide, by decide +kernel⟩ ⟨Nat.le_of_ble_eq_true rfl, Nat.le_of_ble_eq_true rfl⟩, (htx _ kw_7_4), (htx _ kp_M_truth)⟩ ⟨xPre_blind, va_recv hK hP (ci := 5) rfl (q0 := 0) rfl, (fun U hU hW => ⟨rfl, xPre_of hZ hS hFc hP hD hK U hU hW⟩)⟩ rfl rfl hl.1 rfl (xm_room (Nat.le_of_ble_eq_true rfl)) dM_one1_82 ⟨hm7.1, hm7.2⟩) hS (fun q _ h => hFc q h) hFc (fun r8 u9 t H1 locs ht hvm hr9 hB hz1 hk1 hS => ?_)
      obtain ⟨hP1, hK1, hD1⟩ := hB
      rw [ht] at hP1
      obtain ⟨ad9, gd10, vad11⟩ := u9
      obtain ⟨hr9, hv12, hn13⟩ := hr9
      have hP : va_P D xcl (xMw cT aM ad9 rd gd10 vad11 o5.2.2.2 []) H1 := hP1
      have hD : va_D A (xMw cT aM ad9 rd gd10 vad11 o5.2.2.2 []) := hD1.weaken (fun k q _ h => hFc q.1 h)
      generalize H1 = H at hP hS ⊢
      have hE9 : ∀ p, p < xct st → vad11 p = vad p := fun p h => (hv12 p (Nat.lt_of_lt_of_le h hN)).trans (hE p h)
      have hE := hE9
      have hN : xct st ≤ xct o5.2.2.2 := Nat.le_trans hN hn13
      rw [hr9]
      refine W.eq (g2 := F0 m 85 ls [xv vad11 o5.2.2.1]) (by first | rfl | (skip; rfl)) ?_
      obtain rfl := Option.some.inj hf
      exact absurd (show (0 : Nat) = 2 from hkd) (by decide)
  rw [if_neg hc1] at hf
  by_cases hc5 : x0 = 1
  · rw [if_pos hc5] at hf
    refine lv_tableIn (off := 85) (tgt := 86) hx hb dM_one1_1 (by rw [hc5]; decide) (by rw [hc5]; decide) (by rw [hc5]; decide) (by decide) ?_
    refine lv_aload_n hx hb dM_one1_86 rfl (lv_at hl 0 rfl) ?_
    refine xm_aload_n hx hb (xvor _ _) dM_one1_87 rfl (lv_at hl 2 rfl) ?_
    obtain ⟨o6, hq7, hf⟩ := xbind hf
    have hl := lv_sub (l' := [(0, .ref aM), (1, .int x0)]) hl [0, 1] rfl
    by_cases hk8 : o6.1 = 0
    · rw [if_pos hk8] at hf
      obtain ⟨hm9, hf⟩ := xmoE hf
      have hFc := xm_free hD hS hA
      refine va_callq (va_runV (C := "ValueBenchModel") (As := [xv vad c1]) (rest := []) ⟨hx, hb, hml, hown, htx⟩ (gM_length l hl9 D cT aK aV s.heap.size n aM ad rd gd vad st c1 o6 hq7 hk8) ⟨callB_of 1 htx (xw_goodC kw_7_9) rfl rfl rfl (htx _ kw_1_5) (htx _ kw_7_6) ⟨by decide, by decide, by decide +kernel⟩ ⟨Nat.le_of_ble_eq_true rfl, Nat.le_of_ble_eq_true rfl⟩, (htx _ kw_7_8), (htx _ kp_M_length)⟩ ⟨xPre_blind, va_recv hK hP (ci := 5) rfl (q0 := 0) rfl, (fun U hU hW => ⟨rfl, xPre_of hZ hS hFc hP hD hK U hU hW⟩)⟩ rfl rfl hl.1 rfl (xm_room (Nat.le_of_ble_eq_true rfl)) dM_one1_88 ⟨hm9.1, hm9.2⟩) hS (fun q _ h => hFc q h) hFc (fun r10 u9 t H1 locs ht hvm hr9 hB hz1 hk1 hS => ?_)
      obtain ⟨hP1, hK1, hD1⟩ := hB
      rw [ht] at hP1
      obtain ⟨ad11, gd12, vad13⟩ := u9
      obtain ⟨hr9, hv14, hn15⟩ := hr9
      have hP : va_P D xcl (xMw cT aM ad11 rd gd12 vad13 o6.2.2.2.2 []) H1 := hP1
      have hD : va_D A (xMw cT aM ad11 rd gd12 vad13 o6.2.2.2.2 []) := hD1.weaken (fun k q _ h => hFc q.1 h)
      generalize H1 = H at hP hS ⊢
      have hE9 : ∀ p, p < xct st → vad13 p = vad p := fun p h => (hv14 p (Nat.lt_of_lt_of_le h hN)).trans (hE p h)
      have hE := hE9
      have hN : xct st ≤ xct o6.2.2.2.2 := Nat.le_trans hN hn15
      rw [hr9]
      refine W.eq (g2 := F0 m 91 ls [xv vad13 o6.2.2.2.1]) (by first | rfl | (skip; rfl)) ?_
      obtain rfl := Option.some.inj hf
      exact absurd (show (0 : Nat) = 2 from hkd) (by decide)
    rw [if_neg hk8] at hf
    by_cases hk16 : o6.1 = 1
    · rw [if_pos hk16] at hf
      obtain ⟨hm17, hf⟩ := xmoE hf
      obtain rfl := Option.some.inj hf
      exact absurd (show (1 : Nat) = 2 from hkd) (by decide)
    rw [if_neg hk16] at hf
    exact nomatch hf
  rw [if_neg hc5] at hf
  by_cases hc24 : x0 = 2
  · rw [if_pos hc24] at hf
    refine lv_tableIn (off := 91) (tgt := 92) hx hb dM_one1_1 (by rw [hc24]; decide) (by rw [hc24]; decide) (by rw [hc24]; decide) (by decide) ?_
    refine lv_aload_n hx hb dM_one1_92 rfl (lv_at hl 0 rfl) ?_
    refine xm_aload_n hx hb (xvor _ _) dM_one1_93 rfl (lv_at hl 2 rfl) ?_
    refine lv_iconst (v := 1) hx hb dM_one1_94 (by decide) ?_
    obtain ⟨o25, hq26, hf⟩ := xbind hf
    have hl := lv_sub (l' := [(0, .ref aM), (1, .int x0)]) hl [0, 1] rfl
    by_cases hk27 : o25.1 = 0
    · rw [if_pos hk27] at hf
      obtain ⟨hm28, hf⟩ := xmoE hf
      have hFc := xm_free hD hS hA
      refine va_callq (va_runV (C := "ValueBenchModel") (As := [xv vad c1, .int 1]) (rest := []) ⟨hx, hb, hml, hown, htx⟩ (gM_keysOf l hl9 D cT aK aV s.heap.size d n aM ad rd gd vad st c1 (1 : Int32) o25 hq26 hk27) ⟨callB_of 2 htx (xw_goodC kw_7_13) rfl rfl rfl (htx _ kw_1_5) (htx _ kw_7_10) ⟨by decide, by decide, by decide +kernel⟩ ⟨(by show (16 * d + 10) + 1 ≤ 16 * d + 11; omega), (by show 8 + (5 + 11) + (400 * d + 200) ≤ 400 * d + 224; omega)⟩, (htx _ kw_7_12), (htx _ kp_M_keysOf)⟩ ⟨xPre_blind, va_recv hK hP (ci := 5) rfl (q0 := 0) rfl, (fun U hU hW => ⟨rfl, xPre_of hZ hS hFc hP hD hK U hU hW⟩)⟩ rfl rfl hl.1 rfl (xm_room (Nat.le_of_ble_eq_true rfl)) dM_one1_95 ⟨hm28.1, hm28.2⟩) hS (fun q _ h => hFc q h) hFc (fun r29 u9 t H1 locs ht hvm hr9 hB hz1 hk1 hS => ?_)
      obtain ⟨hP1, hK1, hD1⟩ := hB
      rw [ht] at hP1
      obtain ⟨ad30, gd31, vad32⟩ := u9
      obtain ⟨hr9, hv33, hn34⟩ := hr9
      have hP : va_P D xcl (xMw cT aM ad30 rd gd31 vad32 o25.2.2.2.2 []) H1 := hP1
      have hD : va_D A (xMw cT aM ad30 rd gd31 vad32 o25.2.2.2.2 []) := hD1.weaken (fun k q _ h => hFc q.1 h)
      generalize H1 = H at hP hS ⊢
      have hE9 : ∀ p, p < xct st → vad32 p = vad p := fun p h => (hv33 p (Nat.lt_of_lt_of_le h hN)).trans (hE p h)
      have hE := hE9
      have hN : xct st ≤ xct o25.2.2.2.2 := Nat.le_trans hN hn34
      rw [hr9]
      refine W.eq (g2 := F0 m 98 ls [xv vad32 o25.2.2.2.1]) (by first | rfl | (skip; rfl)) ?_
      obtain rfl := Option.some.inj hf
      exact absurd (show (0 : Nat) = 2 from hkd) (by decide)
    rw [if_neg hk27] at hf
    by_cases hk35 : o25.1 = 1
    · rw [if_pos hk35] at hf
      obtain ⟨hm36, hf⟩ := xmoE hf
      have hFc := xm_free hD hS hA
      refine xx_thr (vx_runV (C := "ValueBenchModel") (As := [xv vad c1, .int 1]) (rest := []) ⟨hx, hb, hml, hown, htx⟩ (gM_keysOf_1 l hl9 D cT aK aV s.heap.size d n aM ad rd gd vad st c1 (1 : Int32) o25 hq26 hk35) ⟨callB_of 2 htx (xw_goodC kw_7_13) rfl rfl rfl (htx _ kw_1_5) (htx _ kw_7_10) ⟨by decide, by decide, by decide +kernel⟩ ⟨(by show (16 * d + 10) + 1 ≤ 16 * d + 11; omega), (by show 8 + (5 + 11) + (400 * d + 200) ≤ 400 * d + 224; omega)⟩, (htx _ kw_7_12), (htx _ kp_M_keysOf)⟩ ⟨xPre_blind, va_recv hK hP (ci := 5) rfl (q0 := 0) rfl, (fun U hU hW => ⟨rfl, xPre_of hZ hS hFc hP hD hK U hU hW⟩)⟩ rfl rfl hl.1 rfl (xm_room (Nat.le_of_ble_eq_true rfl)) dM_one1_95 ⟨hm36.1, hm36.2⟩) hS hFc (fun q _ h => hFc q h) (fun E ce q9 u9 t H1 locs ht hvm hr9 hB hz1 hk1 hS hce hcv hcl => ?_)
      obtain ⟨rfl, hP1, hK1, hD1⟩ := hB
      rw [ht] at hP1
      obtain ⟨ad38, gd39, vad40⟩ := u9
      obtain ⟨hv41, hn42⟩ := hr9
      have hP : va_P D xcl (xMw cT aM ad38 rd gd39 vad40 o25.2.2.2.2 []) H1 := hP1
      have hD : va_D A (xMw cT aM ad38 rd gd39 vad40 o25.2.2.2.2 []) := hD1.weaken (fun k q _ h => hFc q.1 h)
      generalize H1 = H at hP hS hce ⊢
      have hE9 : ∀ p, p < xct st → vad40 p = vad p := fun p h => (hv41 p (Nat.lt_of_lt_of_le h hN)).trans (hE p h)
      have hE := hE9
      have hN : xct st ≤ xct o25.2.2.2.2 := Nat.le_trans hN hn42
      obtain rfl := Option.some.inj hf
      exact vx_out (E := "java/lang/IndexOutOfBoundsException") (fun x h => (hne x h).elim) hlocks hce hcv hcl (fun t ht ha => ⟨(ad38, gd39, vad40), ⟨hE, hN⟩, ⟨rfl, by rw [ht]; exact hP, va_K.moved ha hK, hD⟩, hS.F ht⟩) hS.2.2 (Nat.le_refl _) (Nat.le_refl _)
    rw [if_neg hk35] at hf
    by_cases hk43 : o25.1 = 2
    · rw [if_pos hk43] at hf
      obtain ⟨hm44, hf⟩ := xmoE hf
      obtain rfl := Option.some.inj hf
      exact absurd (show (1 : Nat) = 2 from hkd) (by decide)
    rw [if_neg hk43] at hf
    exact nomatch hf
  rw [if_neg hc24] at hf
  by_cases hc51 : x0 = 3
  · rw [if_pos hc51] at hf
    refine lv_tableIn (off := 98) (tgt := 99) hx hb dM_one1_1 (by rw [hc51]; decide) (by rw [hc51]; decide) (by rw [hc51]; decide) (by decide) ?_
    refine lv_aload_n hx hb dM_one1_99 rfl (lv_at hl 0 rfl) ?_
    refine xm_aload_n hx hb (xvor _ _) dM_one1_100 rfl (lv_at hl 2 rfl) ?_
    refine lv_iconst (v := 0) hx hb dM_one1_101 (by decide) ?_
    obtain ⟨o52, hq53, hf⟩ := xbind hf
    have hl := lv_sub (l' := [(0, .ref aM), (1, .int x0)]) hl [0, 1] rfl
    by_cases hk54 : o52.1 = 0
    · rw [if_pos hk54] at hf
      obtain ⟨hm55, hf⟩ := xmoE hf
      have hFc := xm_free hD hS hA
      refine va_callq (va_runV (C := "ValueBenchModel") (As := [xv vad c1, .int 0]) (rest := []) ⟨hx, hb, hml, hown, htx⟩ (gM_keysOf l hl9 D cT aK aV s.heap.size d n aM ad rd gd vad st c1 (0 : Int32) o52 hq53 hk54) ⟨callB_of 2 htx (xw_goodC kw_7_13) rfl rfl rfl (htx _ kw_1_5) (htx _ kw_7_10) ⟨by decide, by decide, by decide +kernel⟩ ⟨(by show (16 * d + 10) + 1 ≤ 16 * d + 11; omega), (by show 8 + (5 + 11) + (400 * d + 200) ≤ 400 * d + 224; omega)⟩, (htx _ kw_7_12), (htx _ kp_M_keysOf)⟩ ⟨xPre_blind, va_recv hK hP (ci := 5) rfl (q0 := 0) rfl, (fun U hU hW => ⟨rfl, xPre_of hZ hS hFc hP hD hK U hU hW⟩)⟩ rfl rfl hl.1 rfl (xm_room (Nat.le_of_ble_eq_true rfl)) dM_one1_102 ⟨hm55.1, hm55.2⟩) hS (fun q _ h => hFc q h) hFc (fun r56 u9 t H1 locs ht hvm hr9 hB hz1 hk1 hS => ?_)
      obtain ⟨hP1, hK1, hD1⟩ := hB
      rw [ht] at hP1
      obtain ⟨ad57, gd58, vad59⟩ := u9
      obtain ⟨hr9, hv60, hn61⟩ := hr9
      have hP : va_P D xcl (xMw cT aM ad57 rd gd58 vad59 o52.2.2.2.2 []) H1 := hP1
      have hD : va_D A (xMw cT aM ad57 rd gd58 vad59 o52.2.2.2.2 []) := hD1.weaken (fun k q _ h => hFc q.1 h)
      generalize H1 = H at hP hS ⊢
      have hE9 : ∀ p, p < xct st → vad59 p = vad p := fun p h => (hv60 p (Nat.lt_of_lt_of_le h hN)).trans (hE p h)
      have hE := hE9
      have hN : xct st ≤ xct o52.2.2.2.2 := Nat.le_trans hN hn61
      rw [hr9]
      refine W.eq (g2 := F0 m 105 ls [xv vad59 o52.2.2.2.1]) (by first | rfl | (skip; rfl)) ?_
      obtain rfl := Option.some.inj hf
      exact absurd (show (0 : Nat) = 2 from hkd) (by decide)
    rw [if_neg hk54] at hf
    by_cases hk62 : o52.1 = 1
    · rw [if_pos hk62] at hf
      obtain ⟨hm63, hf⟩ := xmoE hf
      have hFc := xm_free hD hS hA
      refine xx_thr (vx_runV (C := "ValueBenchModel") (As := [xv vad c1, .int 0]) (rest := []) ⟨hx, hb, hml, hown, htx⟩ (gM_keysOf_1 l hl9 D cT aK aV s.heap.size d n aM ad rd gd vad st c1 (0 : Int32) o52 hq53 hk62) ⟨callB_of 2 htx (xw_goodC kw_7_13) rfl rfl rfl (htx _ kw_1_5) (htx _ kw_7_10) ⟨by decide, by decide, by decide +kernel⟩ ⟨(by show (16 * d + 10) + 1 ≤ 16 * d + 11; omega), (by show 8 + (5 + 11) + (400 * d + 200) ≤ 400 * d + 224; omega)⟩, (htx _ kw_7_12), (htx _ kp_M_keysOf)⟩ ⟨xPre_blind, va_recv hK hP (ci := 5) rfl (q0 := 0) rfl, (fun U hU hW => ⟨rfl, xPre_of hZ hS hFc hP hD hK U hU hW⟩)⟩ rfl rfl hl.1 rfl (xm_room (Nat.le_of_ble_eq_true rfl)) dM_one1_102 ⟨hm63.1, hm63.2⟩) hS hFc (fun q _ h => hFc q h) (fun E ce q9 u9 t H1 locs ht hvm hr9 hB hz1 hk1 hS hce hcv hcl => ?_)
      obtain ⟨rfl, hP1, hK1, hD1⟩ := hB
      rw [ht] at hP1
      obtain ⟨ad65, gd66, vad67⟩ := u9
      obtain ⟨hv68, hn69⟩ := hr9
      have hP : va_P D xcl (xMw cT aM ad65 rd gd66 vad67 o52.2.2.2.2 []) H1 := hP1
      have hD : va_D A (xMw cT aM ad65 rd gd66 vad67 o52.2.2.2.2 []) := hD1.weaken (fun k q _ h => hFc q.1 h)
      generalize H1 = H at hP hS hce ⊢
      have hE9 : ∀ p, p < xct st → vad67 p = vad p := fun p h => (hv68 p (Nat.lt_of_lt_of_le h hN)).trans (hE p h)
      have hE := hE9
      have hN : xct st ≤ xct o52.2.2.2.2 := Nat.le_trans hN hn69
      obtain rfl := Option.some.inj hf
      exact vx_out (E := "java/lang/IndexOutOfBoundsException") (fun x h => (hne x h).elim) hlocks hce hcv hcl (fun t ht ha => ⟨(ad65, gd66, vad67), ⟨hE, hN⟩, ⟨rfl, by rw [ht]; exact hP, va_K.moved ha hK, hD⟩, hS.F ht⟩) hS.2.2 (Nat.le_refl _) (Nat.le_refl _)
    rw [if_neg hk62] at hf
    by_cases hk70 : o52.1 = 2
    · rw [if_pos hk70] at hf
      obtain ⟨hm71, hf⟩ := xmoE hf
      obtain rfl := Option.some.inj hf
      exact absurd (show (1 : Nat) = 2 from hkd) (by decide)
    rw [if_neg hk70] at hf
    exact nomatch hf
  rw [if_neg hc51] at hf
  by_cases hc78 : x0 = 4
  · rw [if_pos hc78] at hf
    refine lv_tableIn (off := 105) (tgt := 106) hx hb dM_one1_1 (by rw [hc78]; decide) (by rw [hc78]; decide) (by rw [hc78]; decide) (by decide) ?_
    refine xm_aload_n hx hb (xvor _ _) dM_one1_106 rfl (lv_at hl 2 rfl) ?_
    obtain ⟨hg79, hf⟩ := xifn hf
    refine xm_vget (v := .int ((xpi st 0) (c1 - 1))) hx hb htx hown hK hP 0 (by decide) hg79 rfl ((hZ.1 (93, "kind", "I") (List.mem_of_getElem? (i := 0) rfl)).use rfl) rfl dM_one1_107 ?_
    refine lv_iconst (v := 4) hx hb dM_one1_110 (by decide) ?_
    refine lv_icmp_ne (tgt := 118) hx hb dM_one1_111 (by decide) (fun hc => ?_) (fun hc => ?_)
    · rw [if_neg hc] at hf
      refine lv_aload_n hx hb dM_one1_118 rfl (lv_at hl 0 rfl) ?_
      refine xm_aload_n hx hb (xvor _ _) dM_one1_119 rfl (lv_at hl 2 rfl) ?_
      obtain ⟨o80, hq81, hf⟩ := xbind hf
      have hl := lv_sub (l' := [(0, .ref aM), (1, .int x0)]) hl [0, 1] rfl
      by_cases hk82 : o80.1 = 0
      · rw [if_pos hk82] at hf
        obtain ⟨hm83, hf⟩ := xmoE hf
        have hFc := xm_free hD hS hA
        refine va_callq (va_runV (C := "ValueBenchModel") (As := [xv vad c1]) (rest := []) ⟨hx, hb, hml, hown, htx⟩ (gM_told l hl9 D cT aK aV s.heap.size d n aM ad rd gd vad st c1 o80 hq81 hk82) ⟨callB_of 1 htx (xw_goodC kw_7_46) rfl rfl rfl (htx _ kw_1_5) (htx _ kw_7_43) ⟨by decide, by decide, by decide +kernel⟩ ⟨(by show (16 * d + 8) + 1 ≤ 16 * d + 11; omega), (by show 8 + (6 + 11) + (400 * d + 142) ≤ 400 * d + 224; omega)⟩, (htx _ kw_7_45), (htx _ kp_M_told)⟩ ⟨xPre_blind, va_recv hK hP (ci := 5) rfl (q0 := 0) rfl, (fun U hU hW => ⟨rfl, xPre_of hZ hS hFc hP hD hK U hU hW⟩)⟩ rfl rfl hl.1 rfl (xm_room (Nat.le_of_ble_eq_true rfl)) dM_one1_120 ⟨hm83.1, hm83.2⟩) hS (fun q _ h => hFc q h) hFc (fun r84 u9 t H1 locs ht hvm hr9 hB hz1 hk1 hS => ?_)
        obtain ⟨hP1, hK1, hD1⟩ := hB
        rw [ht] at hP1
        obtain ⟨ad85, gd86, vad87⟩ := u9
        obtain ⟨hr9, hv88, hn89⟩ := hr9
        have hP : va_P D xcl (xMw cT aM ad85 rd gd86 vad87 o80.2.2.2.2 []) H1 := hP1
        have hD : va_D A (xMw cT aM ad85 rd gd86 vad87 o80.2.2.2.2 []) := hD1.weaken (fun k q _ h => hFc q.1 h)
        generalize H1 = H at hP hS ⊢
        have hE9 : ∀ p, p < xct st → vad87 p = vad p := fun p h => (hv88 p (Nat.lt_of_lt_of_le h hN)).trans (hE p h)
        have hE := hE9
        have hN : xct st ≤ xct o80.2.2.2.2 := Nat.le_trans hN hn89
        rw [hr9]
        refine W.eq (g2 := F0 m 123 ls [xv vad87 o80.2.2.2.1]) (by first | rfl | (skip; rfl)) ?_
        obtain rfl := Option.some.inj hf
        exact absurd (show (0 : Nat) = 2 from hkd) (by decide)
      rw [if_neg hk82] at hf
      by_cases hk90 : o80.1 = 1
      · rw [if_pos hk90] at hf
        obtain ⟨hm91, hf⟩ := xmoE hf
        have hFc := xm_free hD hS hA
        refine xx_thr (vx_runV (C := "ValueBenchModel") (As := [xv vad c1]) (rest := []) ⟨hx, hb, hml, hown, htx⟩ (gM_told_1 l hl9 D cT aK aV s.heap.size d n aM ad rd gd vad st c1 o80 hq81 hk90) ⟨callB_of 1 htx (xw_goodC kw_7_46) rfl rfl rfl (htx _ kw_1_5) (htx _ kw_7_43) ⟨by decide, by decide, by decide +kernel⟩ ⟨(by show (16 * d + 8) + 1 ≤ 16 * d + 11; omega), (by show 8 + (6 + 11) + (400 * d + 142) ≤ 400 * d + 224; omega)⟩, (htx _ kw_7_45), (htx _ kp_M_told)⟩ ⟨xPre_blind, va_recv hK hP (ci := 5) rfl (q0 := 0) rfl, (fun U hU hW => ⟨rfl, xPre_of hZ hS hFc hP hD hK U hU hW⟩)⟩ rfl rfl hl.1 rfl (xm_room (Nat.le_of_ble_eq_true rfl)) dM_one1_120 ⟨hm91.1, hm91.2⟩) hS hFc (fun q _ h => hFc q h) (fun E ce q9 u9 t H1 locs ht hvm hr9 hB hz1 hk1 hS hce hcv hcl => ?_)
        obtain ⟨rfl, hP1, hK1, hD1⟩ := hB
        rw [ht] at hP1
        obtain ⟨ad93, gd94, vad95⟩ := u9
        obtain ⟨hv96, hn97⟩ := hr9
        have hP : va_P D xcl (xMw cT aM ad93 rd gd94 vad95 o80.2.2.2.2 []) H1 := hP1
        have hD : va_D A (xMw cT aM ad93 rd gd94 vad95 o80.2.2.2.2 []) := hD1.weaken (fun k q _ h => hFc q.1 h)
        generalize H1 = H at hP hS hce ⊢
        have hE9 : ∀ p, p < xct st → vad95 p = vad p := fun p h => (hv96 p (Nat.lt_of_lt_of_le h hN)).trans (hE p h)
        have hE := hE9
        have hN : xct st ≤ xct o80.2.2.2.2 := Nat.le_trans hN hn97
        obtain rfl := Option.some.inj hf
        exact vx_out (E := "java/lang/IndexOutOfBoundsException") (fun x h => (hne x h).elim) hlocks hce hcv hcl (fun t ht ha => ⟨(ad93, gd94, vad95), ⟨hE, hN⟩, ⟨rfl, by rw [ht]; exact hP, va_K.moved ha hK, hD⟩, hS.F ht⟩) hS.2.2 (Nat.le_refl _) (Nat.le_refl _)
      rw [if_neg hk90] at hf
      exact nomatch hf
    · rw [if_pos hc] at hf
      refine xm_aload_n hx hb (xvor _ _) dM_one1_114 rfl (lv_at hl 2 rfl) ?_
      refine lv_goto (tgt := 123) hx hb dM_one1_115 (by decide) ?_
      obtain rfl := Option.some.inj hf
      exact absurd (show (0 : Nat) = 2 from hkd) (by decide)
  rw [if_neg hc78] at hf
  by_cases hc80 : x0 = 5
  · rw [if_pos hc80] at hf
    refine lv_tableIn (off := 123) (tgt := 124) hx hb dM_one1_1 (by rw [hc80]; decide) (by rw [hc80]; decide) (by rw [hc80]; decide) (by decide) ?_
    refine lv_aload_n hx hb dM_one1_124 rfl (lv_at hl 0 rfl) ?_
    refine xm_aload_n hx hb (xvor _ _) dM_one1_125 rfl (lv_at hl 2 rfl) ?_
    obtain ⟨o81, hq82, hf⟩ := xbind hf
    have hl := lv_sub (l' := [(0, .ref aM), (1, .int x0)]) hl [0, 1] rfl
    by_cases hk83 : o81.1 = 0
    · rw [if_pos hk83] at hf
      obtain ⟨hm84, hf⟩ := xmoE hf
      have hFc := xm_free hD hS hA
      refine va_callq (va_runV (C := "ValueBenchModel") (As := [xv vad c1]) (rest := []) ⟨hx, hb, hml, hown, htx⟩ (gM_toNumber l hl9 D cT aK aV s.heap.size n aM ad rd gd vad st c1 o81 hq82 hk83) ⟨callB_of 1 htx (xw_goodC kw_7_50) rfl rfl rfl (htx _ kw_1_5) (htx _ kw_7_47) ⟨by decide, by decide, by decide +kernel⟩ ⟨Nat.le_of_ble_eq_true rfl, Nat.le_of_ble_eq_true rfl⟩, (htx _ kw_7_49), (htx _ kp_M_toNumber)⟩ ⟨xPre_blind, va_recv hK hP (ci := 5) rfl (q0 := 0) rfl, (fun U hU hW => ⟨rfl, xPre_of hZ hS hFc hP hD hK U hU hW⟩)⟩ rfl rfl hl.1 rfl (xm_room (Nat.le_of_ble_eq_true rfl)) dM_one1_126 ⟨hm84.1, hm84.2⟩) hS (fun q _ h => hFc q h) hFc (fun r85 u9 t H1 locs ht hvm hr9 hB hz1 hk1 hS => ?_)
      obtain ⟨hP1, hK1, hD1⟩ := hB
      rw [ht] at hP1
      obtain ⟨ad86, gd87, vad88⟩ := u9
      obtain ⟨hr9, hv89, hn90⟩ := hr9
      have hP : va_P D xcl (xMw cT aM ad86 rd gd87 vad88 o81.2.2.2.2 []) H1 := hP1
      have hD : va_D A (xMw cT aM ad86 rd gd87 vad88 o81.2.2.2.2 []) := hD1.weaken (fun k q _ h => hFc q.1 h)
      generalize H1 = H at hP hS ⊢
      have hE9 : ∀ p, p < xct st → vad88 p = vad p := fun p h => (hv89 p (Nat.lt_of_lt_of_le h hN)).trans (hE p h)
      have hE := hE9
      have hN : xct st ≤ xct o81.2.2.2.2 := Nat.le_trans hN hn90
      rw [hr9]
      refine W.eq (g2 := F0 m 129 ls [xv vad88 o81.2.2.2.1]) (by first | rfl | (skip; rfl)) ?_
      obtain rfl := Option.some.inj hf
      exact absurd (show (0 : Nat) = 2 from hkd) (by decide)
    rw [if_neg hk83] at hf
    by_cases hk91 : o81.1 = 1
    · rw [if_pos hk91] at hf
      obtain ⟨hm92, hf⟩ := xmoE hf
      obtain rfl := Option.some.inj hf
      exact absurd (show (1 : Nat) = 2 from hkd) (by decide)
    rw [if_neg hk91] at hf
    exact nomatch hf
  rw [if_neg hc80] at hf
  by_cases hc99 : x0 = 6
  · rw [if_pos hc99] at hf
    refine lv_tableIn (off := 129) (tgt := 130) hx hb dM_one1_1 (by rw [hc99]; decide) (by rw [hc99]; decide) (by rw [hc99]; decide) (by decide) ?_
    refine lv_aload_n hx hb dM_one1_130 rfl (lv_at hl 0 rfl) ?_
    refine xm_aload_n hx hb (xvor _ _) dM_one1_131 rfl (lv_at hl 2 rfl) ?_
    obtain ⟨o100, hq101, hf⟩ := xbind hf
    have hl := lv_sub (l' := [(0, .ref aM), (1, .int x0)]) hl [0, 1] rfl
    by_cases hk102 : o100.1 = 0
    · rw [if_pos hk102] at hf
      obtain ⟨hm103, hf⟩ := xmoE hf
      have hFc := xm_free hD hS hA
      refine va_callq (va_runV (C := "ValueBenchModel") (As := [xv vad c1]) (rest := []) ⟨hx, hb, hml, hown, htx⟩ (gM_told l hl9 D cT aK aV s.heap.size d n aM ad rd gd vad st c1 o100 hq101 hk102) ⟨callB_of 1 htx (xw_goodC kw_7_46) rfl rfl rfl (htx _ kw_1_5) (htx _ kw_7_43) ⟨by decide, by decide, by decide +kernel⟩ ⟨(by show (16 * d + 8) + 1 ≤ 16 * d + 11; omega), (by show 8 + (6 + 11) + (400 * d + 142) ≤ 400 * d + 224; omega)⟩, (htx _ kw_7_45), (htx _ kp_M_told)⟩ ⟨xPre_blind, va_recv hK hP (ci := 5) rfl (q0 := 0) rfl, (fun U hU hW => ⟨rfl, xPre_of hZ hS hFc hP hD hK U hU hW⟩)⟩ rfl rfl hl.1 rfl (xm_room (Nat.le_of_ble_eq_true rfl)) dM_one1_132 ⟨hm103.1, hm103.2⟩) hS (fun q _ h => hFc q h) hFc (fun r104 u9 t H1 locs ht hvm hr9 hB hz1 hk1 hS => ?_)
      obtain ⟨hP1, hK1, hD1⟩ := hB
      rw [ht] at hP1
      obtain ⟨ad105, gd106, vad107⟩ := u9
      obtain ⟨hr9, hv108, hn109⟩ := hr9
      have hP : va_P D xcl (xMw cT aM ad105 rd gd106 vad107 o100.2.2.2.2 []) H1 := hP1
      have hD : va_D A (xMw cT aM ad105 rd gd106 vad107 o100.2.2.2.2 []) := hD1.weaken (fun k q _ h => hFc q.1 h)
      generalize H1 = H at hP hS ⊢
      have hE9 : ∀ p, p < xct st → vad107 p = vad p := fun p h => (hv108 p (Nat.lt_of_lt_of_le h hN)).trans (hE p h)
      have hE := hE9
      have hN : xct st ≤ xct o100.2.2.2.2 := Nat.le_trans hN hn109
      rw [hr9]
      refine W.eq (g2 := F0 m 135 ls [xv vad107 o100.2.2.2.1]) (by first | rfl | (skip; rfl)) ?_
      obtain rfl := Option.some.inj hf
      exact absurd (show (0 : Nat) = 2 from hkd) (by decide)
    rw [if_neg hk102] at hf
    by_cases hk110 : o100.1 = 1
    · rw [if_pos hk110] at hf
      obtain ⟨hm111, hf⟩ := xmoE hf
      have hFc := xm_free hD hS hA
      refine xx_thr (vx_runV (C := "ValueBenchModel") (As := [xv vad c1]) (rest := []) ⟨hx, hb, hml, hown, htx⟩ (gM_told_1 l hl9 D cT aK aV s.heap.size d n aM ad rd gd vad st c1 o100 hq101 hk110) ⟨callB_of 1 htx (xw_goodC kw_7_46) rfl rfl rfl (htx _ kw_1_5) (htx _ kw_7_43) ⟨by decide, by decide, by decide +kernel⟩ ⟨(by show (16 * d + 8) + 1 ≤ 16 * d + 11; omega), (by show 8 + (6 + 11) + (400 * d + 142) ≤ 400 * d + 224; omega)⟩, (htx _ kw_7_45), (htx _ kp_M_told)⟩ ⟨xPre_blind, va_recv hK hP (ci := 5) rfl (q0 := 0) rfl, (fun U hU hW => ⟨rfl, xPre_of hZ hS hFc hP hD hK U hU hW⟩)⟩ rfl rfl hl.1 rfl (xm_room (Nat.le_of_ble_eq_true rfl)) dM_one1_132 ⟨hm111.1, hm111.2⟩) hS hFc (fun q _ h => hFc q h) (fun E ce q9 u9 t H1 locs ht hvm hr9 hB hz1 hk1 hS hce hcv hcl => ?_)
      obtain ⟨rfl, hP1, hK1, hD1⟩ := hB
      rw [ht] at hP1
      obtain ⟨ad113, gd114, vad115⟩ := u9
      obtain ⟨hv116, hn117⟩ := hr9
      have hP : va_P D xcl (xMw cT aM ad113 rd gd114 vad115 o100.2.2.2.2 []) H1 := hP1
      have hD : va_D A (xMw cT aM ad113 rd gd114 vad115 o100.2.2.2.2 []) := hD1.weaken (fun k q _ h => hFc q.1 h)
      generalize H1 = H at hP hS hce ⊢
      have hE9 : ∀ p, p < xct st → vad115 p = vad p := fun p h => (hv116 p (Nat.lt_of_lt_of_le h hN)).trans (hE p h)
      have hE := hE9
      have hN : xct st ≤ xct o100.2.2.2.2 := Nat.le_trans hN hn117
      obtain rfl := Option.some.inj hf
      exact vx_out (E := "java/lang/IndexOutOfBoundsException") (fun x h => (hne x h).elim) hlocks hce hcv hcl (fun t ht ha => ⟨(ad113, gd114, vad115), ⟨hE, hN⟩, ⟨rfl, by rw [ht]; exact hP, va_K.moved ha hK, hD⟩, hS.F ht⟩) hS.2.2 (Nat.le_refl _) (Nat.le_refl _)
    rw [if_neg hk110] at hf
    exact nomatch hf
  rw [if_neg hc99] at hf
  by_cases hc118 : x0 = 7
  · rw [if_pos hc118] at hf
    refine lv_tableIn (off := 135) (tgt := 136) hx hb dM_one1_1 (by rw [hc118]; decide) (by rw [hc118]; decide) (by rw [hc118]; decide) (by decide) ?_
    refine lv_aload_n hx hb dM_one1_136 rfl (lv_at hl 0 rfl) ?_
    refine xm_aload_n hx hb (xvor _ _) dM_one1_137 rfl (lv_at hl 2 rfl) ?_
    obtain ⟨o119, hq120, hf⟩ := xbind hf
    have hl := lv_sub (l' := [(0, .ref aM), (1, .int x0)]) hl [0, 1] rfl
    by_cases hk121 : o119.1 = 0
    · rw [if_pos hk121] at hf
      obtain ⟨hm122, hf⟩ := xmoE hf
      have hFc := xm_free hD hS hA
      refine va_callq (vx_runVW (C := "ValueBenchModel") (As := [xv vad c1]) (rest := []) ⟨hx, hb, hml, hown, htx⟩ (gM_fromJson l hl9 D cT aK aV s.heap.size d n aM ad rd gd vad st c1 o119 hq120 hk121) (xcVW 1 htx (xw_goodC kw_7_58) rfl rfl rfl (htx _ kw_1_5) (htx _ kw_7_55) ⟨by decide, by decide, by decide +kernel⟩ ⟨(by show (16 * d + 8) + 1 ≤ 16 * d + 11; omega), (by show 8 + (10 + 11) + (400 * d + 145) ≤ 400 * d + 224; omega)⟩ (htx _ kw_7_57) (htx _ kp_M_fromJson)) ⟨xPre_blind, va_recv hK hP (ci := 5) rfl (q0 := 0) rfl, (fun U hU hW => ⟨rfl, xPre_of hZ hS hFc hP hD hK U hU hW⟩)⟩ rfl rfl hl.1 rfl (xm_room (Nat.le_of_ble_eq_true rfl)) dM_one1_138 ⟨hm122.1, hm122.2⟩) hS (fun q _ h => hFc q h) hFc (fun r123 u9 t H1 locs ht hvm hr9 hB hz1 hk1 hS => ?_)
      obtain ⟨hP1, hK1, hD1⟩ := hB
      rw [ht] at hP1
      obtain ⟨ad124, gd125, vad126⟩ := u9
      obtain ⟨hr9, hv127, hn128⟩ := hr9
      have hP : va_P D xcl (xMw cT aM ad124 rd gd125 vad126 o119.2.2.2.2 []) H1 := hP1
      have hD : va_D A (xMw cT aM ad124 rd gd125 vad126 o119.2.2.2.2 []) := hD1.weaken (fun k q _ h => hFc q.1 h)
      generalize H1 = H at hP hS ⊢
      have hE9 : ∀ p, p < xct st → vad126 p = vad p := fun p h => (hv127 p (Nat.lt_of_lt_of_le h hN)).trans (hE p h)
      have hE := hE9
      have hN : xct st ≤ xct o119.2.2.2.2 := Nat.le_trans hN hn128
      rw [hr9]
      refine W.eq (g2 := F0 m 141 ls [xv vad126 o119.2.2.2.1]) (by first | rfl | (skip; rfl)) ?_
      obtain rfl := Option.some.inj hf
      exact absurd (show (0 : Nat) = 2 from hkd) (by decide)
    rw [if_neg hk121] at hf
    by_cases hk129 : o119.1 = 1
    · rw [if_pos hk129] at hf
      obtain ⟨hm130, hf⟩ := xmoE hf
      obtain rfl := Option.some.inj hf
      exact absurd (show (1 : Nat) = 2 from hkd) (by decide)
    rw [if_neg hk129] at hf
    exact nomatch hf
  rw [if_neg hc118] at hf
  by_cases hc137 : x0 = 8
  · rw [if_pos hc137] at hf
    refine lv_tableIn (off := 141) (tgt := 142) hx hb dM_one1_1 (by rw [hc137]; decide) (by rw [hc137]; decide) (by rw [hc137]; decide) (by decide) ?_
    refine lv_aload_n hx hb dM_one1_142 rfl (lv_at hl 0 rfl) ?_
    refine lv_aload_n hx hb dM_one1_143 rfl (lv_at hl 0 rfl) ?_
    refine xm_aload_n hx hb (xvor _ _) dM_one1_144 rfl (lv_at hl 2 rfl) ?_
    obtain ⟨o138, hq139, hf⟩ := xbind hf
    by_cases hk140 : o138.1 = 0
    · rw [if_pos hk140] at hf
      obtain ⟨hg141, hf⟩ := xifn hf
      obtain ⟨hm142, hf⟩ := xmoE hf
      have hFc := xm_free hD hS hA
      refine va_callq (va_runV (C := "ValueBenchModel") (As := [xv vad c1]) (rest := [.ref aM]) ⟨hx, hb, hml, hown, htx⟩ (gM_array l hl9 D cT aK aV s.heap.size n aM ad rd gd vad st c1 o138 hq139 hk140) ⟨callB_of 1 htx (xw_goodC kw_7_42) rfl rfl rfl (htx _ kw_1_5) (htx _ kw_7_39) ⟨by decide, by decide, by decide +kernel⟩ ⟨Nat.le_of_ble_eq_true rfl, Nat.le_of_ble_eq_true rfl⟩, (htx _ kw_7_41), (htx _ kp_M_array)⟩ ⟨xPre_blind, va_recv hK hP (ci := 5) rfl (q0 := 0) rfl, (fun U hU hW => ⟨rfl, xPre_of hZ hS hFc hP hD hK U hU hW⟩)⟩ rfl rfl hl.1 rfl (xm_room (Nat.le_of_ble_eq_true rfl)) dM_one1_145 ⟨hm142.1, hm142.2⟩) hS (fun q _ h => hFc q h) hFc (fun r143 u9 t H1 locs ht hvm hr9 hB hz1 hk1 hS => ?_)
      obtain ⟨hP1, hK1, hD1⟩ := hB
      rw [ht] at hP1
      obtain ⟨ad144, gd145, vad146⟩ := u9
      obtain ⟨hr9, hv147, hn148⟩ := hr9
      have hP : va_P D xcl (xMw cT aM ad144 rd gd145 vad146 o138.2.2.2.2 []) H1 := hP1
      have hD : va_D A (xMw cT aM ad144 rd gd145 vad146 o138.2.2.2.2 []) := hD1.weaken (fun k q _ h => hFc q.1 h)
      generalize H1 = H at hP hS ⊢
      have hE9 : ∀ p, p < xct st → vad146 p = vad p := fun p h => (hv147 p (Nat.lt_of_lt_of_le h hN)).trans (hE p h)
      have hE := hE9
      have hN : xct st ≤ xct o138.2.2.2.2 := Nat.le_trans hN hn148
      have ev149 : xv vad c1 = xv vad146 c1 := xvE hv147 hg141
      have hl : lv_has ls 3 [(0, .ref aM), (1, .int x0), (2, xv vad146 c1)] := by first | exact hl | ((try (rw [← ev149])); exact hl)
      rw [hr9]
      refine W.eq (g2 := F0 m 148 ls [xv vad146 o138.2.2.2.1, .ref aM]) (by first | rfl | ((try (rw [ev149])); rfl)) ?_
      refine xm_aload_n hx hb (xvor _ _) dM_one1_148 rfl (lv_at hl 2 rfl) ?_
      refine lv_iconst (v := 0) hx hb dM_one1_149 (by decide) ?_
      obtain ⟨o150, hq151, hf⟩ := xbind hf
      have hl := lv_sub (l' := [(0, .ref aM), (1, .int x0)]) hl [0, 1] rfl
      by_cases hk152 : o150.1 = 0
      · rw [if_pos hk152] at hf
        obtain ⟨hm153, hf⟩ := xmoE hf
        have hFc := xm_free hD hS hA
        refine va_callq (va_runV (C := "ValueBenchModel") (As := [xv vad146 o138.2.2.2.1, xv vad146 c1, .int 0]) (rest := []) ⟨hx, hb, hml, hown, htx⟩ (gM_sort1 l hl9 D cT aK aV H.size d n aM ad144 rd gd145 vad146 o138.2.2.2.2 o138.2.2.2.1 c1 (0 : Int32) o150 hq151 hk152) ⟨callB_of 3 htx (xw_goodC kw_7_21) rfl rfl rfl (htx _ kw_1_5) (htx _ kw_7_18) ⟨by decide, by decide, by decide +kernel⟩ ⟨(by show (16 * d + 8) + 1 ≤ 16 * d + 11; omega), (by show 8 + (10 + 11) + (400 * d + 147) ≤ 400 * d + 224; omega)⟩, (htx _ kw_7_20), (htx _ kp_M_sort1)⟩ ⟨xPre_blind, va_recv hK hP (ci := 5) rfl (q0 := 0) rfl, (fun U hU hW => ⟨rfl, xPre_of hZ hS hFc hP hD hK U hU hW⟩)⟩ rfl rfl hl.1 rfl (xm_room (Nat.le_of_ble_eq_true rfl)) dM_one1_150 ⟨hm153.1, hm153.2⟩) hS (fun q _ h => hFc q h) hFc (fun r154 u9 t H1 locs ht hvm hr9 hB hz1 hk1 hS => ?_)
        obtain ⟨hP1, hK1, hD1⟩ := hB
        rw [ht] at hP1
        obtain ⟨ad155, gd156, vad157⟩ := u9
        obtain ⟨hr9, hv158, hn159⟩ := hr9
        have hP : va_P D xcl (xMw cT aM ad155 rd gd156 vad157 o150.2.2.2.2 []) H1 := hP1
        have hD : va_D A (xMw cT aM ad155 rd gd156 vad157 o150.2.2.2.2 []) := hD1.weaken (fun k q _ h => hFc q.1 h)
        generalize H1 = H at hP hS ⊢
        have hE9 : ∀ p, p < xct st → vad157 p = vad p := fun p h => (hv158 p (Nat.lt_of_lt_of_le h hN)).trans (hE p h)
        have hE := hE9
        have hN : xct st ≤ xct o150.2.2.2.2 := Nat.le_trans hN hn159
        rw [hr9]
        refine W.eq (g2 := F0 m 153 ls [xv vad157 o150.2.2.2.1]) (by first | rfl | (skip; rfl)) ?_
        obtain rfl := Option.some.inj hf
        exact absurd (show (0 : Nat) = 2 from hkd) (by decide)
      rw [if_neg hk152] at hf
      by_cases hk160 : o150.1 = 1
      · rw [if_pos hk160] at hf
        obtain ⟨hm161, hf⟩ := xmoE hf
        have hFc := xm_free hD hS hA
        refine xx_thr (vx_runV (C := "ValueBenchModel") (As := [xv vad146 o138.2.2.2.1, xv vad146 c1, .int 0]) (rest := []) ⟨hx, hb, hml, hown, htx⟩ (gM_sort1_1 l hl9 D cT aK aV H.size d n aM ad144 rd gd145 vad146 o138.2.2.2.2 o138.2.2.2.1 c1 (0 : Int32) o150 hq151 hk160) ⟨callB_of 3 htx (xw_goodC kw_7_21) rfl rfl rfl (htx _ kw_1_5) (htx _ kw_7_18) ⟨by decide, by decide, by decide +kernel⟩ ⟨(by show (16 * d + 8) + 1 ≤ 16 * d + 11; omega), (by show 8 + (10 + 11) + (400 * d + 147) ≤ 400 * d + 224; omega)⟩, (htx _ kw_7_20), (htx _ kp_M_sort1)⟩ ⟨xPre_blind, va_recv hK hP (ci := 5) rfl (q0 := 0) rfl, (fun U hU hW => ⟨rfl, xPre_of hZ hS hFc hP hD hK U hU hW⟩)⟩ rfl rfl hl.1 rfl (xm_room (Nat.le_of_ble_eq_true rfl)) dM_one1_150 ⟨hm161.1, hm161.2⟩) hS hFc (fun q _ h => hFc q h) (fun E ce q9 u9 t H1 locs ht hvm hr9 hB hz1 hk1 hS hce hcv hcl => ?_)
        obtain ⟨rfl, hP1, hK1, hD1⟩ := hB
        rw [ht] at hP1
        obtain ⟨ad163, gd164, vad165⟩ := u9
        obtain ⟨hv166, hn167⟩ := hr9
        have hP : va_P D xcl (xMw cT aM ad163 rd gd164 vad165 o150.2.2.2.2 []) H1 := hP1
        have hD : va_D A (xMw cT aM ad163 rd gd164 vad165 o150.2.2.2.2 []) := hD1.weaken (fun k q _ h => hFc q.1 h)
        generalize H1 = H at hP hS hce ⊢
        have hE9 : ∀ p, p < xct st → vad165 p = vad p := fun p h => (hv166 p (Nat.lt_of_lt_of_le h hN)).trans (hE p h)
        have hE := hE9
        have hN : xct st ≤ xct o150.2.2.2.2 := Nat.le_trans hN hn167
        obtain rfl := Option.some.inj hf
        exact vx_out (E := "java/lang/IndexOutOfBoundsException") (fun x h => (hne x h).elim) hlocks hce hcv hcl (fun t ht ha => ⟨(ad163, gd164, vad165), ⟨hE, hN⟩, ⟨rfl, by rw [ht]; exact hP, va_K.moved ha hK, hD⟩, hS.F ht⟩) hS.2.2 (Nat.le_refl _) (Nat.le_refl _)
      rw [if_neg hk160] at hf
      exact nomatch hf
    rw [if_neg hk140] at hf
    by_cases hk168 : o138.1 = 1
    · rw [if_pos hk168] at hf
      obtain ⟨hg169, hf⟩ := xifn hf
      obtain ⟨hm170, hf⟩ := xmoE hf
      obtain rfl := Option.some.inj hf
      exact absurd (show (1 : Nat) = 2 from hkd) (by decide)
    rw [if_neg hk168] at hf
    exact nomatch hf
  rw [if_neg hc137] at hf
  by_cases hc178 : x0 = 9
  · rw [if_pos hc178] at hf
    refine lv_tableIn (off := 153) (tgt := 154) hx hb dM_one1_1 (by rw [hc178]; decide) (by rw [hc178]; decide) (by rw [hc178]; decide) (by decide) ?_
    refine lv_aload_n hx hb dM_one1_154 rfl (lv_at hl 0 rfl) ?_
    refine xm_aload_n hx hb (xvor _ _) dM_one1_155 rfl (lv_at hl 2 rfl) ?_
    obtain ⟨o179, hq180, hf⟩ := xbind hf
    have hl := lv_sub (l' := [(0, .ref aM), (1, .int x0)]) hl [0, 1] rfl
    by_cases hk181 : o179.1 = 0
    · rw [if_pos hk181] at hf
      obtain ⟨hm182, hf⟩ := xmoE hf
      have hFc := xm_free hD hS hA
      refine va_callq (va_runV (C := "ValueBenchModel") (As := [xv vad c1]) (rest := []) ⟨hx, hb, hml, hown, htx⟩ (gM_reversed l hl9 D cT aK aV s.heap.size n aM ad rd gd vad st c1 o179 hq180 hk181) ⟨callB_of 1 htx (xw_goodC kw_7_62) rfl rfl rfl (htx _ kw_1_5) (htx _ kw_7_59) ⟨by decide, by decide, by decide +kernel⟩ ⟨Nat.le_of_ble_eq_true rfl, Nat.le_of_ble_eq_true rfl⟩, (htx _ kw_7_61), (htx _ kp_M_reversed)⟩ ⟨xPre_blind, va_recv hK hP (ci := 5) rfl (q0 := 0) rfl, (fun U hU hW => ⟨rfl, xPre_of hZ hS hFc hP hD hK U hU hW⟩)⟩ rfl rfl hl.1 rfl (xm_room (Nat.le_of_ble_eq_true rfl)) dM_one1_156 ⟨hm182.1, hm182.2⟩) hS (fun q _ h => hFc q h) hFc (fun r183 u9 t H1 locs ht hvm hr9 hB hz1 hk1 hS => ?_)
      obtain ⟨hP1, hK1, hD1⟩ := hB
      rw [ht] at hP1
      obtain ⟨ad184, gd185, vad186⟩ := u9
      obtain ⟨hr9, hv187, hn188⟩ := hr9
      have hP : va_P D xcl (xMw cT aM ad184 rd gd185 vad186 o179.2.2.2.2 []) H1 := hP1
      have hD : va_D A (xMw cT aM ad184 rd gd185 vad186 o179.2.2.2.2 []) := hD1.weaken (fun k q _ h => hFc q.1 h)
      generalize H1 = H at hP hS ⊢
      have hE9 : ∀ p, p < xct st → vad186 p = vad p := fun p h => (hv187 p (Nat.lt_of_lt_of_le h hN)).trans (hE p h)
      have hE := hE9
      have hN : xct st ≤ xct o179.2.2.2.2 := Nat.le_trans hN hn188
      rw [hr9]
      refine W.eq (g2 := F0 m 159 ls [xv vad186 o179.2.2.2.1]) (by first | rfl | (skip; rfl)) ?_
      obtain rfl := Option.some.inj hf
      exact absurd (show (0 : Nat) = 2 from hkd) (by decide)
    rw [if_neg hk181] at hf
    by_cases hk189 : o179.1 = 1
    · rw [if_pos hk189] at hf
      obtain ⟨hm190, hf⟩ := xmoE hf
      obtain rfl := Option.some.inj hf
      exact absurd (show (1 : Nat) = 2 from hkd) (by decide)
    rw [if_neg hk189] at hf
    by_cases hk197 : o179.1 = 2
    · rw [if_pos hk197] at hf
      obtain ⟨hm198, hf⟩ := xmoE hf
      have hFc := xm_free hD hS hA
      refine xx_thr (vx_runV (C := "ValueBenchModel") (As := [xv vad c1]) (rest := []) ⟨hx, hb, hml, hown, htx⟩ (gM_reversed_2 l hl9 D cT aK aV s.heap.size n aM ad rd gd vad st c1 o179 hq180 hk197) ⟨callB_of 1 htx (xw_goodC kw_7_62) rfl rfl rfl (htx _ kw_1_5) (htx _ kw_7_59) ⟨by decide, by decide, by decide +kernel⟩ ⟨Nat.le_of_ble_eq_true rfl, Nat.le_of_ble_eq_true rfl⟩, (htx _ kw_7_61), (htx _ kp_M_reversed)⟩ ⟨xPre_blind, va_recv hK hP (ci := 5) rfl (q0 := 0) rfl, (fun U hU hW => ⟨rfl, xPre_of hZ hS hFc hP hD hK U hU hW⟩)⟩ rfl rfl hl.1 rfl (xm_room (Nat.le_of_ble_eq_true rfl)) dM_one1_156 ⟨hm198.1, hm198.2⟩) hS hFc (fun q _ h => hFc q h) (fun E ce q9 u9 t H1 locs ht hvm hr9 hB hz1 hk1 hS hce hcv hcl => ?_)
      obtain ⟨rfl, hP1, hK1, hD1⟩ := hB
      rw [ht] at hP1
      obtain ⟨ad200, gd201, vad202⟩ := u9
      obtain ⟨hv203, hn204⟩ := hr9
      have hP : va_P D xcl (xMw cT aM ad200 rd gd201 vad202 o179.2.2.2.2 []) H1 := hP1
      have hD : va_D A (xMw cT aM ad200 rd gd201 vad202 o179.2.2.2.2 []) := hD1.weaken (fun k q _ h => hFc q.1 h)
      generalize H1 = H at hP hS hce ⊢
      have hE9 : ∀ p, p < xct st → vad202 p = vad p := fun p h => (hv203 p (Nat.lt_of_lt_of_le h hN)).trans (hE p h)
      have hE := hE9
      have hN : xct st ≤ xct o179.2.2.2.2 := Nat.le_trans hN hn204
      obtain rfl := Option.some.inj hf
      exact vx_out (E := "java/lang/IndexOutOfBoundsException") (fun x h => (hne x h).elim) hlocks hce hcv hcl (fun t ht ha => ⟨(ad200, gd201, vad202), ⟨hE, hN⟩, ⟨rfl, by rw [ht]; exact hP, va_K.moved ha hK, hD⟩, hS.F ht⟩) hS.2.2 (Nat.le_refl _) (Nat.le_refl _)
    rw [if_neg hk197] at hf
    exact nomatch hf
  rw [if_neg hc178] at hf
  by_cases hc205 : x0 = 10
  · rw [if_pos hc205] at hf
    refine lv_tableIn (off := 159) (tgt := 160) hx hb dM_one1_1 (by rw [hc205]; decide) (by rw [hc205]; decide) (by rw [hc205]; decide) (by decide) ?_
    refine lv_aload_n hx hb dM_one1_160 rfl (lv_at hl 0 rfl) ?_
    refine xm_aload_n hx hb (xvor _ _) dM_one1_161 rfl (lv_at hl 2 rfl) ?_
    obtain ⟨o206, hq207, hf⟩ := xbind hf
    have hl := lv_sub (l' := [(0, .ref aM), (1, .int x0)]) hl [0, 1] rfl
    by_cases hk208 : o206.1 = 0
    · rw [if_pos hk208] at hf
      obtain ⟨hm209, hf⟩ := xmoE hf
      have hFc := xm_free hD hS hA
      refine va_callq (va_runV (C := "ValueBenchModel") (As := [xv vad c1]) (rest := []) ⟨hx, hb, hml, hown, htx⟩ (gM_explode l hl9 D cT aK aV s.heap.size n aM ad rd gd vad st c1 o206 hq207 hk208) ⟨callB_of 1 htx (xw_goodC kw_7_66) rfl rfl rfl (htx _ kw_1_5) (htx _ kw_7_63) ⟨by decide, by decide, by decide +kernel⟩ ⟨Nat.le_of_ble_eq_true rfl, Nat.le_of_ble_eq_true rfl⟩, (htx _ kw_7_65), (htx _ kp_M_explode)⟩ ⟨xPre_blind, va_recv hK hP (ci := 5) rfl (q0 := 0) rfl, (fun U hU hW => ⟨rfl, xPre_of hZ hS hFc hP hD hK U hU hW⟩)⟩ rfl rfl hl.1 rfl (xm_room (Nat.le_of_ble_eq_true rfl)) dM_one1_162 ⟨hm209.1, hm209.2⟩) hS (fun q _ h => hFc q h) hFc (fun r210 u9 t H1 locs ht hvm hr9 hB hz1 hk1 hS => ?_)
      obtain ⟨hP1, hK1, hD1⟩ := hB
      rw [ht] at hP1
      obtain ⟨ad211, gd212, vad213⟩ := u9
      obtain ⟨hr9, hv214, hn215⟩ := hr9
      have hP : va_P D xcl (xMw cT aM ad211 rd gd212 vad213 o206.2.2.2.2 []) H1 := hP1
      have hD : va_D A (xMw cT aM ad211 rd gd212 vad213 o206.2.2.2.2 []) := hD1.weaken (fun k q _ h => hFc q.1 h)
      generalize H1 = H at hP hS ⊢
      have hE9 : ∀ p, p < xct st → vad213 p = vad p := fun p h => (hv214 p (Nat.lt_of_lt_of_le h hN)).trans (hE p h)
      have hE := hE9
      have hN : xct st ≤ xct o206.2.2.2.2 := Nat.le_trans hN hn215
      rw [hr9]
      refine W.eq (g2 := F0 m 165 ls [xv vad213 o206.2.2.2.1]) (by first | rfl | (skip; rfl)) ?_
      obtain rfl := Option.some.inj hf
      exact absurd (show (0 : Nat) = 2 from hkd) (by decide)
    rw [if_neg hk208] at hf
    by_cases hk216 : o206.1 = 1
    · rw [if_pos hk216] at hf
      obtain ⟨hm217, hf⟩ := xmoE hf
      have hFc := xm_free hD hS hA
      refine xx_thr (vx_runV (C := "ValueBenchModel") (As := [xv vad c1]) (rest := []) ⟨hx, hb, hml, hown, htx⟩ (gM_explode_1 l hl9 D cT aK aV s.heap.size n aM ad rd gd vad st c1 o206 hq207 hk216) ⟨callB_of 1 htx (xw_goodC kw_7_66) rfl rfl rfl (htx _ kw_1_5) (htx _ kw_7_63) ⟨by decide, by decide, by decide +kernel⟩ ⟨Nat.le_of_ble_eq_true rfl, Nat.le_of_ble_eq_true rfl⟩, (htx _ kw_7_65), (htx _ kp_M_explode)⟩ ⟨xPre_blind, va_recv hK hP (ci := 5) rfl (q0 := 0) rfl, (fun U hU hW => ⟨rfl, xPre_of hZ hS hFc hP hD hK U hU hW⟩)⟩ rfl rfl hl.1 rfl (xm_room (Nat.le_of_ble_eq_true rfl)) dM_one1_162 ⟨hm217.1, hm217.2⟩) hS hFc (fun q _ h => hFc q h) (fun E ce q9 u9 t H1 locs ht hvm hr9 hB hz1 hk1 hS hce hcv hcl => ?_)
      obtain ⟨rfl, hP1, hK1, hD1⟩ := hB
      rw [ht] at hP1
      obtain ⟨ad219, gd220, vad221⟩ := u9
      obtain ⟨hv222, hn223⟩ := hr9
      have hP : va_P D xcl (xMw cT aM ad219 rd gd220 vad221 o206.2.2.2.2 []) H1 := hP1
      have hD : va_D A (xMw cT aM ad219 rd gd220 vad221 o206.2.2.2.2 []) := hD1.weaken (fun k q _ h => hFc q.1 h)
      generalize H1 = H at hP hS hce ⊢
      have hE9 : ∀ p, p < xct st → vad221 p = vad p := fun p h => (hv222 p (Nat.lt_of_lt_of_le h hN)).trans (hE p h)
      have hE := hE9
      have hN : xct st ≤ xct o206.2.2.2.2 := Nat.le_trans hN hn223
      obtain rfl := Option.some.inj hf
      exact vx_out (E := "java/lang/IndexOutOfBoundsException") (fun x h => (hne x h).elim) hlocks hce hcv hcl (fun t ht ha => ⟨(ad219, gd220, vad221), ⟨hE, hN⟩, ⟨rfl, by rw [ht]; exact hP, va_K.moved ha hK, hD⟩, hS.F ht⟩) hS.2.2 (Nat.le_refl _) (Nat.le_refl _)
    rw [if_neg hk216] at hf
    by_cases hk224 : o206.1 = 2
    · rw [if_pos hk224] at hf
      obtain ⟨hm225, hf⟩ := xmoE hf
      obtain rfl := Option.some.inj hf
      exact absurd (show (1 : Nat) = 2 from hkd) (by decide)
    rw [if_neg hk224] at hf
    exact nomatch hf
  rw [if_neg hc205] at hf
  by_cases hc232 : x0 = 11
  · rw [if_pos hc232] at hf
    refine lv_tableIn (off := 165) (tgt := 166) hx hb dM_one1_1 (by rw [hc232]; decide) (by rw [hc232]; decide) (by rw [hc232]; decide) (by decide) ?_
    refine lv_aload_n hx hb dM_one1_166 rfl (lv_at hl 0 rfl) ?_
    refine xm_aload_n hx hb (xvor _ _) dM_one1_167 rfl (lv_at hl 2 rfl) ?_
    obtain ⟨o233, hq234, hf⟩ := xbind hf
    have hl := lv_sub (l' := [(0, .ref aM), (1, .int x0)]) hl [0, 1] rfl
    by_cases hk235 : o233.1 = 0
    · rw [if_pos hk235] at hf
      obtain ⟨hm236, hf⟩ := xmoE hf
      have hFc := xm_free hD hS hA
      refine va_callq (va_runV (C := "ValueBenchModel") (As := [xv vad c1]) (rest := []) ⟨hx, hb, hml, hown, htx⟩ (gM_implode l hl9 D cT aK aV s.heap.size n aM ad rd gd vad st c1 o233 hq234 hk235) ⟨callB_of 1 htx (xw_goodC kw_7_70) rfl rfl rfl (htx _ kw_1_5) (htx _ kw_7_67) ⟨by decide, by decide, by decide +kernel⟩ ⟨Nat.le_of_ble_eq_true rfl, Nat.le_of_ble_eq_true rfl⟩, (htx _ kw_7_69), (htx _ kp_M_implode)⟩ ⟨xPre_blind, va_recv hK hP (ci := 5) rfl (q0 := 0) rfl, (fun U hU hW => ⟨rfl, xPre_of hZ hS hFc hP hD hK U hU hW⟩)⟩ rfl rfl hl.1 rfl (xm_room (Nat.le_of_ble_eq_true rfl)) dM_one1_168 ⟨hm236.1, hm236.2⟩) hS (fun q _ h => hFc q h) hFc (fun r237 u9 t H1 locs ht hvm hr9 hB hz1 hk1 hS => ?_)
      obtain ⟨hP1, hK1, hD1⟩ := hB
      rw [ht] at hP1
      obtain ⟨ad238, gd239, vad240⟩ := u9
      obtain ⟨hr9, hv241, hn242⟩ := hr9
      have hP : va_P D xcl (xMw cT aM ad238 rd gd239 vad240 o233.2.2.2.2 []) H1 := hP1
      have hD : va_D A (xMw cT aM ad238 rd gd239 vad240 o233.2.2.2.2 []) := hD1.weaken (fun k q _ h => hFc q.1 h)
      generalize H1 = H at hP hS ⊢
      have hE9 : ∀ p, p < xct st → vad240 p = vad p := fun p h => (hv241 p (Nat.lt_of_lt_of_le h hN)).trans (hE p h)
      have hE := hE9
      have hN : xct st ≤ xct o233.2.2.2.2 := Nat.le_trans hN hn242
      rw [hr9]
      refine W.eq (g2 := F0 m 171 ls [xv vad240 o233.2.2.2.1]) (by first | rfl | (skip; rfl)) ?_
      obtain rfl := Option.some.inj hf
      exact absurd (show (0 : Nat) = 2 from hkd) (by decide)
    rw [if_neg hk235] at hf
    by_cases hk243 : o233.1 = 1
    · rw [if_pos hk243] at hf
      obtain ⟨hm244, hf⟩ := xmoE hf
      obtain rfl := Option.some.inj hf
      exact absurd (show (1 : Nat) = 2 from hkd) (by decide)
    rw [if_neg hk243] at hf
    by_cases hk251 : o233.1 = 2
    · rw [if_pos hk251] at hf
      obtain ⟨hm252, hf⟩ := xmoE hf
      have hFc := xm_free hD hS hA
      refine xx_thr (vx_runV (C := "ValueBenchModel") (As := [xv vad c1]) (rest := []) ⟨hx, hb, hml, hown, htx⟩ (gM_implode_2 l hl9 D cT aK aV s.heap.size n aM ad rd gd vad st c1 o233 hq234 hk251) ⟨callB_of 1 htx (xw_goodC kw_7_70) rfl rfl rfl (htx _ kw_1_5) (htx _ kw_7_67) ⟨by decide, by decide, by decide +kernel⟩ ⟨Nat.le_of_ble_eq_true rfl, Nat.le_of_ble_eq_true rfl⟩, (htx _ kw_7_69), (htx _ kp_M_implode)⟩ ⟨xPre_blind, va_recv hK hP (ci := 5) rfl (q0 := 0) rfl, (fun U hU hW => ⟨rfl, xPre_of hZ hS hFc hP hD hK U hU hW⟩)⟩ rfl rfl hl.1 rfl (xm_room (Nat.le_of_ble_eq_true rfl)) dM_one1_168 ⟨hm252.1, hm252.2⟩) hS hFc (fun q _ h => hFc q h) (fun E ce q9 u9 t H1 locs ht hvm hr9 hB hz1 hk1 hS hce hcv hcl => ?_)
      obtain ⟨rfl, hP1, hK1, hD1⟩ := hB
      rw [ht] at hP1
      obtain ⟨ad254, gd255, vad256⟩ := u9
      obtain ⟨hv257, hn258⟩ := hr9
      have hP : va_P D xcl (xMw cT aM ad254 rd gd255 vad256 o233.2.2.2.2 []) H1 := hP1
      have hD : va_D A (xMw cT aM ad254 rd gd255 vad256 o233.2.2.2.2 []) := hD1.weaken (fun k q _ h => hFc q.1 h)
      generalize H1 = H at hP hS hce ⊢
      have hE9 : ∀ p, p < xct st → vad256 p = vad p := fun p h => (hv257 p (Nat.lt_of_lt_of_le h hN)).trans (hE p h)
      have hE := hE9
      have hN : xct st ≤ xct o233.2.2.2.2 := Nat.le_trans hN hn258
      obtain rfl := Option.some.inj hf
      exact vx_out (E := "java/lang/IndexOutOfBoundsException") (fun x h => (hne x h).elim) hlocks hce hcv hcl (fun t ht ha => ⟨(ad254, gd255, vad256), ⟨hE, hN⟩, ⟨rfl, by rw [ht]; exact hP, va_K.moved ha hK, hD⟩, hS.F ht⟩) hS.2.2 (Nat.le_refl _) (Nat.le_refl _)
    rw [if_neg hk251] at hf
    exact nomatch hf
  rw [if_neg hc232] at hf
  by_cases hc259 : x0 = 12
  · rw [if_pos hc259] at hf
    refine lv_tableIn (off := 171) (tgt := 172) hx hb dM_one1_1 (by rw [hc259]; decide) (by rw [hc259]; decide) (by rw [hc259]; decide) (by decide) ?_
    refine lv_aload_n hx hb dM_one1_172 rfl (lv_at hl 0 rfl) ?_
    refine xm_aload_n hx hb (xvor _ _) dM_one1_173 rfl (lv_at hl 2 rfl) ?_
    refine lv_iconst (v := 0) hx hb dM_one1_174 (by decide) ?_
    obtain ⟨o260, hq261, hf⟩ := xbind hf
    have hl := lv_sub (l' := [(0, .ref aM), (1, .int x0)]) hl [0, 1] rfl
    by_cases hk262 : o260.1 = 0
    · rw [if_pos hk262] at hf
      obtain ⟨hm263, hf⟩ := xmoE hf
      have hFc := xm_free hD hS hA
      refine va_callq (va_runV (C := "ValueBenchModel") (As := [xv vad c1, .int 0]) (rest := []) ⟨hx, hb, hml, hown, htx⟩ (gM_cased l hl9 D cT aK aV s.heap.size n aM ad rd gd vad st c1 (0 : Int32) o260 hq261 hk262) ⟨callB_of 2 htx (xw_goodC kw_7_75) rfl rfl rfl (htx _ kw_1_5) (htx _ kw_7_72) ⟨by decide, by decide, by decide +kernel⟩ ⟨Nat.le_of_ble_eq_true rfl, Nat.le_of_ble_eq_true rfl⟩, (htx _ kw_7_74), (htx _ kp_M_cased)⟩ ⟨xPre_blind, va_recv hK hP (ci := 5) rfl (q0 := 0) rfl, (fun U hU hW => ⟨rfl, xPre_of hZ hS hFc hP hD hK U hU hW⟩)⟩ rfl rfl hl.1 rfl (xm_room (Nat.le_of_ble_eq_true rfl)) dM_one1_175 ⟨hm263.1, hm263.2⟩) hS (fun q _ h => hFc q h) hFc (fun r264 u9 t H1 locs ht hvm hr9 hB hz1 hk1 hS => ?_)
      obtain ⟨hP1, hK1, hD1⟩ := hB
      rw [ht] at hP1
      obtain ⟨ad265, gd266, vad267⟩ := u9
      obtain ⟨hr9, hv268, hn269⟩ := hr9
      have hP : va_P D xcl (xMw cT aM ad265 rd gd266 vad267 o260.2.2.2.2 []) H1 := hP1
      have hD : va_D A (xMw cT aM ad265 rd gd266 vad267 o260.2.2.2.2 []) := hD1.weaken (fun k q _ h => hFc q.1 h)
      generalize H1 = H at hP hS ⊢
      have hE9 : ∀ p, p < xct st → vad267 p = vad p := fun p h => (hv268 p (Nat.lt_of_lt_of_le h hN)).trans (hE p h)
      have hE := hE9
      have hN : xct st ≤ xct o260.2.2.2.2 := Nat.le_trans hN hn269
      rw [hr9]
      refine W.eq (g2 := F0 m 178 ls [xv vad267 o260.2.2.2.1]) (by first | rfl | (skip; rfl)) ?_
      obtain rfl := Option.some.inj hf
      exact absurd (show (0 : Nat) = 2 from hkd) (by decide)
    rw [if_neg hk262] at hf
    by_cases hk270 : o260.1 = 1
    · rw [if_pos hk270] at hf
      obtain ⟨hm271, hf⟩ := xmoE hf
      have hFc := xm_free hD hS hA
      refine xx_thr (vx_runV (C := "ValueBenchModel") (As := [xv vad c1, .int 0]) (rest := []) ⟨hx, hb, hml, hown, htx⟩ (gM_cased_1 l hl9 D cT aK aV s.heap.size n aM ad rd gd vad st c1 (0 : Int32) o260 hq261 hk270) ⟨callB_of 2 htx (xw_goodC kw_7_75) rfl rfl rfl (htx _ kw_1_5) (htx _ kw_7_72) ⟨by decide, by decide, by decide +kernel⟩ ⟨Nat.le_of_ble_eq_true rfl, Nat.le_of_ble_eq_true rfl⟩, (htx _ kw_7_74), (htx _ kp_M_cased)⟩ ⟨xPre_blind, va_recv hK hP (ci := 5) rfl (q0 := 0) rfl, (fun U hU hW => ⟨rfl, xPre_of hZ hS hFc hP hD hK U hU hW⟩)⟩ rfl rfl hl.1 rfl (xm_room (Nat.le_of_ble_eq_true rfl)) dM_one1_175 ⟨hm271.1, hm271.2⟩) hS hFc (fun q _ h => hFc q h) (fun E ce q9 u9 t H1 locs ht hvm hr9 hB hz1 hk1 hS hce hcv hcl => ?_)
      obtain ⟨rfl, hP1, hK1, hD1⟩ := hB
      rw [ht] at hP1
      obtain ⟨ad273, gd274, vad275⟩ := u9
      obtain ⟨hv276, hn277⟩ := hr9
      have hP : va_P D xcl (xMw cT aM ad273 rd gd274 vad275 o260.2.2.2.2 []) H1 := hP1
      have hD : va_D A (xMw cT aM ad273 rd gd274 vad275 o260.2.2.2.2 []) := hD1.weaken (fun k q _ h => hFc q.1 h)
      generalize H1 = H at hP hS hce ⊢
      have hE9 : ∀ p, p < xct st → vad275 p = vad p := fun p h => (hv276 p (Nat.lt_of_lt_of_le h hN)).trans (hE p h)
      have hE := hE9
      have hN : xct st ≤ xct o260.2.2.2.2 := Nat.le_trans hN hn277
      obtain rfl := Option.some.inj hf
      exact vx_out (E := "java/lang/IndexOutOfBoundsException") (fun x h => (hne x h).elim) hlocks hce hcv hcl (fun t ht ha => ⟨(ad273, gd274, vad275), ⟨hE, hN⟩, ⟨rfl, by rw [ht]; exact hP, va_K.moved ha hK, hD⟩, hS.F ht⟩) hS.2.2 (Nat.le_refl _) (Nat.le_refl _)
    rw [if_neg hk270] at hf
    by_cases hk278 : o260.1 = 2
    · rw [if_pos hk278] at hf
      obtain ⟨hm279, hf⟩ := xmoE hf
      obtain rfl := Option.some.inj hf
      exact absurd (show (1 : Nat) = 2 from hkd) (by decide)
    rw [if_neg hk278] at hf
    exact nomatch hf
  rw [if_neg hc259] at hf
  refine lv_tableOut (tgt := 179) hx hb dM_one1_1 (by have e0 : x0.toInt ≠ 0 := xsw hc1 (by decide); have e1 : x0.toInt ≠ 1 := xsw hc5 (by decide); have e2 : x0.toInt ≠ 2 := xsw hc24 (by decide); have e3 : x0.toInt ≠ 3 := xsw hc51 (by decide); have e4 : x0.toInt ≠ 4 := xsw hc78 (by decide); have e5 : x0.toInt ≠ 5 := xsw hc80 (by decide); have e6 : x0.toInt ≠ 6 := xsw hc99 (by decide); have e7 : x0.toInt ≠ 7 := xsw hc118 (by decide); have e8 : x0.toInt ≠ 8 := xsw hc137 (by decide); have e9 : x0.toInt ≠ 9 := xsw hc178 (by decide); have e10 : x0.toInt ≠ 10 := xsw hc205 (by decide); have e11 : x0.toInt ≠ 11 := xsw hc232 (by decide); have e12 : x0.toInt ≠ 12 := xsw hc259 (by decide); omega) (by decide) ?_
  refine lv_aload_n hx hb dM_one1_179 rfl (lv_at hl 0 rfl) ?_
  refine xm_aload_n hx hb (xvor _ _) dM_one1_180 rfl (lv_at hl 2 rfl) ?_
  refine lv_iconst (v := 1) hx hb dM_one1_181 (by decide) ?_
  obtain ⟨o286, hq287, hf⟩ := xbind hf
  have hl := lv_sub (l' := [(0, .ref aM), (1, .int x0)]) hl [0, 1] rfl
  by_cases hk288 : o286.1 = 0
  · rw [if_pos hk288] at hf
    obtain ⟨hm289, hf⟩ := xmoE hf
    have hFc := xm_free hD hS hA
    refine va_callq (va_runV (C := "ValueBenchModel") (As := [xv vad c1, .int 1]) (rest := []) ⟨hx, hb, hml, hown, htx⟩ (gM_cased l hl9 D cT aK aV s.heap.size n aM ad rd gd vad st c1 (1 : Int32) o286 hq287 hk288) ⟨callB_of 2 htx (xw_goodC kw_7_75) rfl rfl rfl (htx _ kw_1_5) (htx _ kw_7_72) ⟨by decide, by decide, by decide +kernel⟩ ⟨Nat.le_of_ble_eq_true rfl, Nat.le_of_ble_eq_true rfl⟩, (htx _ kw_7_74), (htx _ kp_M_cased)⟩ ⟨xPre_blind, va_recv hK hP (ci := 5) rfl (q0 := 0) rfl, (fun U hU hW => ⟨rfl, xPre_of hZ hS hFc hP hD hK U hU hW⟩)⟩ rfl rfl hl.1 rfl (xm_room (Nat.le_of_ble_eq_true rfl)) dM_one1_182 ⟨hm289.1, hm289.2⟩) hS (fun q _ h => hFc q h) hFc (fun r290 u9 t H1 locs ht hvm hr9 hB hz1 hk1 hS => ?_)
    obtain ⟨hP1, hK1, hD1⟩ := hB
    rw [ht] at hP1
    obtain ⟨ad291, gd292, vad293⟩ := u9
    obtain ⟨hr9, hv294, hn295⟩ := hr9
    have hP : va_P D xcl (xMw cT aM ad291 rd gd292 vad293 o286.2.2.2.2 []) H1 := hP1
    have hD : va_D A (xMw cT aM ad291 rd gd292 vad293 o286.2.2.2.2 []) := hD1.weaken (fun k q _ h => hFc q.1 h)
    generalize H1 = H at hP hS ⊢
    have hE9 : ∀ p, p < xct st → vad293 p = vad p := fun p h => (hv294 p (Nat.lt_of_lt_of_le h hN)).trans (hE p h)
    have hE := hE9
    have hN : xct st ≤ xct o286.2.2.2.2 := Nat.le_trans hN hn295
    rw [hr9]
    refine W.eq (g2 := F0 m 185 ls [xv vad293 o286.2.2.2.1]) (by first | rfl | (skip; rfl)) ?_
    obtain rfl := Option.some.inj hf
    exact absurd (show (0 : Nat) = 2 from hkd) (by decide)
  rw [if_neg hk288] at hf
  by_cases hk296 : o286.1 = 1
  · rw [if_pos hk296] at hf
    obtain ⟨hm297, hf⟩ := xmoE hf
    have hFc := xm_free hD hS hA
    refine xx_thr (vx_runV (C := "ValueBenchModel") (As := [xv vad c1, .int 1]) (rest := []) ⟨hx, hb, hml, hown, htx⟩ (gM_cased_1 l hl9 D cT aK aV s.heap.size n aM ad rd gd vad st c1 (1 : Int32) o286 hq287 hk296) ⟨callB_of 2 htx (xw_goodC kw_7_75) rfl rfl rfl (htx _ kw_1_5) (htx _ kw_7_72) ⟨by decide, by decide, by decide +kernel⟩ ⟨Nat.le_of_ble_eq_true rfl, Nat.le_of_ble_eq_true rfl⟩, (htx _ kw_7_74), (htx _ kp_M_cased)⟩ ⟨xPre_blind, va_recv hK hP (ci := 5) rfl (q0 := 0) rfl, (fun U hU hW => ⟨rfl, xPre_of hZ hS hFc hP hD hK U hU hW⟩)⟩ rfl rfl hl.1 rfl (xm_room (Nat.le_of_ble_eq_true rfl)) dM_one1_182 ⟨hm297.1, hm297.2⟩) hS hFc (fun q _ h => hFc q h) (fun E ce q9 u9 t H1 locs ht hvm hr9 hB hz1 hk1 hS hce hcv hcl => ?_)
    obtain ⟨rfl, hP1, hK1, hD1⟩ := hB
    rw [ht] at hP1
    obtain ⟨ad299, gd300, vad301⟩ := u9
    obtain ⟨hv302, hn303⟩ := hr9
    have hP : va_P D xcl (xMw cT aM ad299 rd gd300 vad301 o286.2.2.2.2 []) H1 := hP1
    have hD : va_D A (xMw cT aM ad299 rd gd300 vad301 o286.2.2.2.2 []) := hD1.weaken (fun k q _ h => hFc q.1 h)
    generalize H1 = H at hP hS hce ⊢
    have hE9 : ∀ p, p < xct st → vad301 p = vad p := fun p h => (hv302 p (Nat.lt_of_lt_of_le h hN)).trans (hE p h)
    have hE := hE9
    have hN : xct st ≤ xct o286.2.2.2.2 := Nat.le_trans hN hn303
    obtain rfl := Option.some.inj hf
    exact vx_out (E := "java/lang/IndexOutOfBoundsException") (fun x h => (hne x h).elim) hlocks hce hcv hcl (fun t ht ha => ⟨(ad299, gd300, vad301), ⟨hE, hN⟩, ⟨rfl, by rw [ht]; exact hP, va_K.moved ha hK, hD⟩, hS.F ht⟩) hS.2.2 (Nat.le_refl _) (Nat.le_refl _)
  rw [if_neg hk296] at hf
  by_cases hk304 : o286.1 = 2
  · rw [if_pos hk304] at hf
    obtain ⟨hm305, hf⟩ := xmoE hf
    obtain rfl := Option.some.inj hf
    exact absurd (show (1 : Nat) = 2 from hkd) (by decide)
  rw [if_neg hk304] at hf
  exact nomatch hf
set_option maxHeartbeats 400000000 in
set_option maxRecDepth 100000 in
theorem gM_without (l : Launch) (hl9 : l.stackTraces = false) (D : va_G) (cT : Nat → ClassId) (aK aV : Nat → Nat) (sz d n : Nat) (aM : Nat) (ad rd gd vad : Nat → Nat) (st : xS) (c0 : Nat) (c1 : Nat) (out : Nat × Nat × Nat × Nat × xS) (hf : fM_without d n st c0 c1 = some out) (hkd : out.1 = 0) : xMet l yM_without wyM_without (16 * d + 8) out.2.1 out.2.2.1 (400 * d + 147) D cT aK aV sz [.ref aM, xv vad c0, xv vad c1] (xMw cT aM ad rd gd vad st []) (fun A => va_Qq (fun (r : Option Nat) (u : xU) => r = xca u.2.2 out.2.2.2.1 ∧ xE vad st out.2.2.2.2 u) (fun u t => xB D xcl cT A (xMw cT aM u.1 rd u.2.1 u.2.2 out.2.2.2.2 []) t) A) := by
  refine Met.ofW (cc := prog_13_method_50_code) (maxL := 7) (ret := (some (.object "ValueBenchModel$V"))) (by decide) rfl ?_
  intro p e s m args below meth c s₁ B hml hv
  obtain ⟨rfl, hsz, hZ, hP, hK, hD0⟩ := hv
  have hx := B.exec
  have hb := B.bytes
  have hr := B.returns
  have hts := atoms_spec (ws := wyM_without) B.pre
  have htx := fun w h => hts w (List.mem_cons_of_mem _ h)
  have hown : s.vm.findClass "ValueBenchModel" = some m.cls := findClass_of_methodNamed B.named
  have hlocks := B.notSynchronized
  subst hsz
  have hD := hD0.self (sz := s.heap.size)
  generalize hAe : va_A (xMw cT aM ad rd gd vad st []) s.heap.size = A at hD hZ ⊢
  have hA : ∀ q : Nat, s.heap.size ≤ q → A q := fun q h => by rw [← hAe]; exact Or.inr h
  have hS : va_S A s.heap s.heap [] := va_S.rf
  have hl := lv_entry ([.ref aM, xv vad c0, xv vad c1]) (n := 7) (by simp [lg_sl, xvcat, xrscat, xcI, xcL, xcR, xcN])
  rw [show lv_args 0 [.ref aM, xv vad c0, xv vad c1] = [(0, .ref aM), (1, xv vad c0), (2, xv vad c1)] from by simp [lv_args, xvcat, xrscat, xcI, xcL, xcR, xcN]] at hl
  rw [lg_entry_eq]
  generalize (lg_sl ([.ref aM, xv vad c0, xv vad c1]) ++ List.replicate (7 - (lg_sl ([.ref aM, xv vad c0, xv vad c1])).length) Slot.unset).toArray = ls at hl ⊢
  have hl : lv_has ls 7 [(0, .ref aM), (1, xv vad c0), (2, xv vad c1)] := hl
  have hE : ∀ p, p < xct st → vad p = vad p := fun _ _ => rfl
  have hN : xct st ≤ xct st := Nat.le_refl _
  unfold fM_without at hf
  refine xloopM (σ := Nat × Int32 × Int32 × Nat × Nat × Int32 × Int32 × xS × Nat × Nat) (fun n x H locs ls => (∃ (adL gdL vadL : Nat → Nat), x.1 = 1 ∧ fM_without_b d n x.1 x.2.1 x.2.2.1 x.2.2.2.1 x.2.2.2.2.1 x.2.2.2.2.2.1 x.2.2.2.2.2.2.1 x.2.2.2.2.2.2.2.1 x.2.2.2.2.2.2.2.2.1 x.2.2.2.2.2.2.2.2.2 = some out ∧ va_P D xcl (xMw cT aM adL rd gdL vadL x.2.2.2.2.2.2.2.1 []) H ∧ va_D A (xMw cT aM adL rd gdL vadL x.2.2.2.2.2.2.2.1 []) ∧ va_S A s.heap H locs ∧ lv_has ls 7 [(4, .int x.2.1), (3, .int x.2.2.1), (0, .ref aM), (1, xv vadL x.2.2.2.1), (2, xv vadL x.2.2.2.2.1)] ∧ (∀ p, p < xct st → vadL p = vad p) ∧ xct st ≤ xct x.2.2.2.2.2.2.2.1) ∨ (∃ (adL gdL vadL : Nat → Nat), x.1 = 2 ∧ fM_without_b d n x.1 x.2.1 x.2.2.1 x.2.2.2.1 x.2.2.2.2.1 x.2.2.2.2.2.1 x.2.2.2.2.2.2.1 x.2.2.2.2.2.2.2.1 x.2.2.2.2.2.2.2.2.1 x.2.2.2.2.2.2.2.2.2 = some out ∧ va_P D xcl (xMw cT aM adL rd gdL vadL x.2.2.2.2.2.2.2.1 []) H ∧ va_D A (xMw cT aM adL rd gdL vadL x.2.2.2.2.2.2.2.1 []) ∧ va_S A s.heap H locs ∧ lv_has ls 7 [(6, .int x.2.2.2.2.2.1), (5, .int x.2.2.2.2.2.2.1), (4, .int x.2.1), (3, .int x.2.2.1), (0, .ref aM), (1, xv vadL x.2.2.2.1), (2, xv vadL x.2.2.2.2.1)] ∧ (∀ p, p < xct st → vadL p = vad p) ∧ xct st ≤ xct x.2.2.2.2.2.2.2.1)) (fun x => if x.1 = 1 then 8 else 23) (fun x => x.2.2.2.2.2.2.2.2.1) (fun x => x.2.2.2.2.2.2.2.2.2) (fun x H locs ls h => by rcases h with h | h; (obtain ⟨_, _, _, h⟩ := h; exact absurd h.2.1 (by rw [fM_without_b]; exact fun h => nomatch h)); (obtain ⟨_, _, _, h⟩ := h; exact absurd h.2.1 (by rw [fM_without_b]; exact fun h => nomatch h))) (fun n ih x H locs ls hv => ?_) (fun key => ?_)
  · obtain ⟨lb, y4, y3, y1, y2, y6, y5, ws9, wc, wn⟩ := x
    rcases hv with ⟨adL, gdL, vadL, hj, hf, hP, hD, hS, hl, hE, hN⟩ | ⟨adL, gdL, vadL, hj, hf, hP, hD, hS, hl, hE, hN⟩
    · subst hj
      have hf : fM_without_b d (n + 1) 1 y4 y3 y1 y2 y6 y5 ws9 wc wn = some out := hf
      rw [fM_without_b, if_pos rfl] at hf
      obtain ⟨hP, hD⟩ : xPD D xcl A (xMw cT aM adL rd gdL vadL ws9 []) H := ⟨hP, hD⟩
      have hl : lv_has ls 7 [(4, .int y4), (3, .int y3), (0, .ref aM), (1, xv vadL y1), (2, xv vadL y2)] := hl
      refine W.eq (g2 := F0 m 8 ls []) rfl ?_
      show W p l e _ s m _ below meth c H locs wc wn _ _
      obtain ⟨hm0, hf⟩ := xmoE hf
      refine lv_iload hx hb dM_without_8 (lv_at hl 0 rfl) ?_
      refine xm_aload_n hx hb (xvor _ _) dM_without_10 rfl (lv_at hl 3 rfl) ?_
      obtain ⟨hg1, hf⟩ := xifn hf
      refine xm_vget (v := .int ((xpi ws9 3) (y1 - 1))) hx hb htx hown hK hP 3 (by decide) hg1 rfl ((hZ.1 (103, "count", "I") (List.mem_of_getElem? (i := 3) rfl)).use rfl) rfl dM_without_11 ?_
      refine lv_icmp_ge (tgt := 86) hx hb dM_without_14 (by decide) (fun hc => ?_) (fun hc => ?_)
      · rw [if_pos hc] at hf
        refine lv_aload_n hx hb dM_without_86 rfl (lv_at hl 2 rfl) ?_
        refine lv_iconst (v := 5) hx hb dM_without_87 (by decide) ?_
        refine lv_iload_n hx hb dM_without_88 rfl (lv_at hl 1 rfl) ?_
        obtain ⟨o2, hq3, hf⟩ := xbind hf
        have hl := lv_sub (l' := [(4, .int y4), (3, .int y3), (0, .ref aM)]) hl [0, 1, 2] rfl
        by_cases hk4 : o2.1 = 0
        · rw [if_pos hk4] at hf
          obtain ⟨hm5, hf⟩ := xmoE hf
          have hFc := xm_free hD hS hA
          refine va_callq (va_runV (C := "ValueBenchModel") (As := [.int 5, .int y3]) (rest := []) ⟨hx, hb, hml, hown, htx⟩ (gM_whole l hl9 D cT aK aV H.size n aM adL rd gdL vadL ws9 (5 : Int32) y3 o2 hq3 hk4) ⟨callB_of 2 htx (xw_goodC kw_6_106) rfl rfl rfl (htx _ kw_1_5) (htx _ kw_6_103) ⟨by decide, by decide, by decide +kernel⟩ ⟨Nat.le_of_ble_eq_true rfl, Nat.le_of_ble_eq_true rfl⟩, (htx _ kw_6_105), (htx _ kp_M_whole)⟩ ⟨xPre_blind, va_recv hK hP (ci := 5) rfl (q0 := 0) rfl, (fun U hU hW => ⟨rfl, xPre_of hZ hS hFc hP hD hK U hU hW⟩)⟩ rfl rfl hl.1 rfl (xm_room (Nat.le_of_ble_eq_true rfl)) dM_without_89 ⟨hm5.1, hm5.2⟩) hS (fun q _ h => hFc q h) hFc (fun r6 u9 t H1 locs ht hvm hr9 hB hz1 hk1 hS => ?_)
          obtain ⟨hP1, hK1, hD1⟩ := hB
          rw [ht] at hP1
          obtain ⟨ad7, gd8, vad9⟩ := u9
          obtain ⟨hr9, hv10, hn11⟩ := hr9
          have hP : va_P D xcl (xMw cT aM ad7 rd gd8 vad9 o2.2.2.2.2 []) H1 := hP1
          have hD : va_D A (xMw cT aM ad7 rd gd8 vad9 o2.2.2.2.2 []) := hD1.weaken (fun k q _ h => hFc q.1 h)
          generalize H1 = H at hP hS ⊢
          have hE9 : ∀ p, p < xct st → vad9 p = vad p := fun p h => (hv10 p (Nat.lt_of_lt_of_le h hN)).trans (hE p h)
          have hE := hE9
          have hN : xct st ≤ xct o2.2.2.2.2 := Nat.le_trans hN hn11
          rw [hr9]
          refine W.eq (g2 := F0 m 92 ls [xv vad9 o2.2.2.2.1]) (by first | rfl | (skip; rfl)) ?_
          obtain rfl := Option.some.inj hf
          exact W.aret (v := xv vad9 o2.2.2.2.1) hx hb hr (Or.inl ⟨_, rfl⟩) (xvor _ _) (fun t ht hW => ⟨⟨xca vad9 o2.2.2.2.1, (ad7, gd8, vad9), rfl, ⟨rfl, hE, hN⟩, by rw [ht]; exact hP, va_K.moved hW.alike hK, hD⟩, hS.F ht⟩) hS.2.2 dM_without_92
        rw [if_neg hk4] at hf
        by_cases hk12 : o2.1 = 1
        · rw [if_pos hk12] at hf
          obtain ⟨hm13, hf⟩ := xmoE hf
          obtain rfl := Option.some.inj hf
          exact absurd (show (1 : Nat) = 0 from hkd) (by decide)
        rw [if_neg hk12] at hf
        exact nomatch hf
      · rw [if_neg hc] at hf
        refine lv_iconst (v := 0) hx hb dM_without_17 (by decide) ?_
        refine lv_istore (lv' := [(5, .int 0), (4, .int y4), (3, .int y3), (0, .ref aM), (1, xv vadL y1), (2, xv vadL y2)]) hx hb dM_without_18 hl (by decide) rfl (fun ls hl => ?_)
        refine lv_iconst (v := 0) hx hb dM_without_20 (by decide) ?_
        refine lv_istore (lv' := [(6, .int 0), (5, .int 0), (4, .int y4), (3, .int y3), (0, .ref aM), (1, xv vadL y1), (2, xv vadL y2)]) hx hb dM_without_21 hl (by decide) rfl (fun ls hl => ?_)
        exact ih (2, y4, y3, y1, y2, (0 : Int32), (0 : Int32), ws9, wc, wn) _ _ ls (Or.inr (⟨adL, gdL, vadL, rfl, hf, hP, hD, hS, lv_sub hl [0, 1, 2, 3, 4, 5, 6] rfl, hE, hN⟩))
    · subst hj
      have hf : fM_without_b d (n + 1) 2 y4 y3 y1 y2 y6 y5 ws9 wc wn = some out := hf
      rw [fM_without_b, if_neg (by decide)] at hf
      obtain ⟨hP, hD⟩ : xPD D xcl A (xMw cT aM adL rd gdL vadL ws9 []) H := ⟨hP, hD⟩
      have hl : lv_has ls 7 [(6, .int y6), (5, .int y5), (4, .int y4), (3, .int y3), (0, .ref aM), (1, xv vadL y1), (2, xv vadL y2)] := hl
      refine W.eq (g2 := F0 m 23 ls []) rfl ?_
      show W p l e _ s m _ below meth c H locs wc wn _ _
      obtain ⟨hm0, hf⟩ := xmoE hf
      refine lv_iload hx hb dM_without_23 (lv_at hl 0 rfl) ?_
      refine xm_aload_n hx hb (xvor _ _) dM_without_25 rfl (lv_at hl 6 rfl) ?_
      obtain ⟨hg1, hf⟩ := xifn hf
      refine xm_vget (v := .int ((xpi ws9 3) (y2 - 1))) hx hb htx hown hK hP 3 (by decide) hg1 rfl ((hZ.1 (103, "count", "I") (List.mem_of_getElem? (i := 3) rfl)).use rfl) rfl dM_without_26 ?_
      refine lv_icmp_ge (tgt := 63) hx hb dM_without_29 (by decide) (fun hc => ?_) (fun hc => ?_)
      · rw [if_pos hc] at hf
        refine lv_iload hx hb dM_without_63 (lv_at hl 1 rfl) ?_
        refine lv_if_ne (tgt := 80) hx hb dM_without_65 (by decide) (fun hc => ?_) (fun hc => ?_)
        · rw [if_neg hc] at hf
          refine lv_iinc (v := (y4 + 1)) (lv' := [(4, .int (y4 + 1)), (6, .int y6), (5, .int y5), (3, .int y3), (0, .ref aM), (1, xv vadL y1), (2, xv vadL y2)]) hx hb dM_without_80 hl (k := 2) rfl rfl (by decide) rfl (fun ls hl => ?_)
          refine lv_goto (tgt := 8) hx hb dM_without_83 (by decide) ?_
          exact ih (1, (y4 + 1), y3, y1, y2, y6, y5, ws9, wc, wn) _ _ ls (Or.inl ⟨adL, gdL, vadL, rfl, hf, hP, hD, hS, lv_sub hl [0, 3, 4, 5, 6] rfl, hE, hN⟩)
        · rw [if_pos hc] at hf
          refine lv_aload_n hx hb dM_without_68 rfl (lv_at hl 4 rfl) ?_
          refine lv_null hx hb dM_without_69 ?_
          refine lv_aload_n hx hb dM_without_70 rfl (lv_at hl 4 rfl) ?_
          refine xm_aload_n hx hb (xvor _ _) dM_without_71 rfl (lv_at hl 5 rfl) ?_
          refine lv_iload hx hb dM_without_72 (lv_at hl 2 rfl) ?_
          obtain ⟨o2, hq3, hf⟩ := xbind hf
          have hFc := xm_free hD hS hA
          refine va_callq (va_runV (C := "ValueBenchModel") (As := [xv vadL y1, .int y4]) (rest := [.null, .ref aM]) ⟨hx, hb, hml, hown, htx⟩ (gM_kid l hl9 D cT aK aV H.size n aM adL rd gdL vadL ws9 y1 y4 o2 hq3) ⟨callB_of 2 htx (xw_goodC kw_6_158) rfl rfl rfl (htx _ kw_1_5) (htx _ kw_6_155) ⟨by decide, by decide, by decide +kernel⟩ ⟨Nat.le_of_ble_eq_true rfl, Nat.le_of_ble_eq_true rfl⟩, (htx _ kw_6_157), (htx _ kp_M_kid)⟩ ⟨xPre_blind, va_recv hK hP (ci := 5) rfl (q0 := 0) rfl, (fun U hU hW => ⟨rfl, xPre_of hZ hS hFc hP hD hK U hU hW⟩)⟩ rfl rfl hl.1 rfl (xm_room (Nat.le_of_ble_eq_true rfl)) dM_without_74 ⟨hm0.1, hm0.2⟩) hS (fun q _ h => hFc q h) hFc (fun r4 u9 t H1 locs ht hvm hr9 hB hz1 hk1 hS => ?_)
          obtain ⟨hP1, hK1, hD1⟩ := hB
          rw [ht] at hP1
          have hP : va_P D xcl (xMw cT aM adL rd gdL vadL ws9 []) H1 := hP1
          have hD : va_D A (xMw cT aM adL rd gdL vadL ws9 []) := hD1.weaken (fun k q _ h => hFc q.1 h)
          generalize H1 = H at hP hS ⊢
          rw [hr9]
          refine W.eq (g2 := F0 m 77 ls [xv vadL o2, .null, .ref aM]) (by first | rfl | (skip; rfl)) ?_
          obtain ⟨o5, hq6, hf⟩ := xbind hf
          obtain ⟨hg7, hf⟩ := xifn hf
          obtain ⟨hm8, hf⟩ := xmoE hf
          have hFc := xm_free hD hS hA
          refine va_callv (va_runV (C := "ValueBenchModel") (As := [.null, xv vadL o2]) (rest := []) ⟨hx, hb, hml, hown, htx⟩ (gM_wait l hl9 D cT aK aV H.size n aM adL rd gdL vadL ws9 0 o2 o5 hq6) ⟨callB_of 2 htx (xw_goodC kw_6_112) rfl rfl rfl (htx _ kw_1_5) (htx _ kw_6_109) ⟨by decide, by decide, by decide +kernel⟩ ⟨Nat.le_of_ble_eq_true rfl, Nat.le_of_ble_eq_true rfl⟩, (htx _ kw_6_111), (htx _ kp_M_wait)⟩ ⟨xPre_blind, va_recv hK hP (ci := 5) rfl (q0 := 0) rfl, (fun U hU hW => ⟨rfl, xPre_of hZ hS hFc hP hD hK U hU hW⟩)⟩ rfl rfl hl.1 rfl (xm_room (Nat.le_of_ble_eq_true rfl)) dM_without_77 ⟨hm8.1, hm8.2⟩) hS (fun q _ h => hFc q h) hFc (fun u9 t H1 locs ht hvm hr9 hB hz1 hk1 hS => ?_)
          obtain ⟨hP1, hK1, hD1⟩ := hB
          rw [ht] at hP1
          obtain ⟨ad10, gd11, vad12⟩ := u9
          obtain ⟨hv13, hn14⟩ := hr9
          have hP : va_P D xcl (xMw cT aM ad10 rd gd11 vad12 o5.2.2 []) H1 := hP1
          have hD : va_D A (xMw cT aM ad10 rd gd11 vad12 o5.2.2 []) := hD1.weaken (fun k q _ h => hFc q.1 h)
          generalize H1 = H at hP hS ⊢
          have hE9 : ∀ p, p < xct st → vad12 p = vad p := fun p h => (hv13 p (Nat.lt_of_lt_of_le h hN)).trans (hE p h)
          have hE := hE9
          have hN : xct st ≤ xct o5.2.2 := Nat.le_trans hN hn14
          have ev15 : xv vadL y1 = xv vad12 y1 := xvE hv13 hg7
          have ev16 : xv vadL y2 = xv vad12 y2 := xvE hv13 (fun h => hg1 (Or.inr h))
          have hl : lv_has ls 7 [(6, .int y6), (5, .int y5), (4, .int y4), (3, .int y3), (0, .ref aM), (1, xv vad12 y1), (2, xv vad12 y2)] := by first | exact hl | ((try (rw [← ev15])); (try (rw [← ev16])); exact hl)
          refine W.eq (g2 := F0 m 80 ls []) (by first | rfl | ((try (rw [ev15])); (try (rw [ev16])); rfl)) ?_
          refine lv_iinc (v := (y4 + 1)) (lv' := [(4, .int (y4 + 1)), (6, .int y6), (5, .int y5), (3, .int y3), (0, .ref aM), (1, xv vad12 y1), (2, xv vad12 y2)]) hx hb dM_without_80 hl (k := 2) rfl rfl (by decide) rfl (fun ls hl => ?_)
          refine lv_goto (tgt := 8) hx hb dM_without_83 (by decide) ?_
          exact ih (1, (y4 + 1), y3, y1, y2, y6, y5, o5.2.2, (wc + o5.1), (wn + o5.2.1)) _ _ ls (Or.inl ⟨ad10, gd11, vad12, rfl, hf, hP, hD, hS, lv_sub hl [0, 3, 4, 5, 6] rfl, hE, hN⟩)
      · rw [if_neg hc] at hf
        refine lv_iload hx hb dM_without_32 (lv_at hl 1 rfl) ?_
        refine lv_if_ne (tgt := 63) hx hb dM_without_34 (by decide) (fun hc => ?_) (fun hc => ?_)
        · rw [if_neg hc] at hf
          refine lv_iload hx hb dM_without_63 (lv_at hl 1 rfl) ?_
          refine lv_if_ne (tgt := 80) hx hb dM_without_65 (by decide) (fun hc => ?_) (fun hc => ?_)
          · rw [if_neg hc] at hf
            refine lv_iinc (v := (y4 + 1)) (lv' := [(4, .int (y4 + 1)), (6, .int y6), (5, .int y5), (3, .int y3), (0, .ref aM), (1, xv vadL y1), (2, xv vadL y2)]) hx hb dM_without_80 hl (k := 2) rfl rfl (by decide) rfl (fun ls hl => ?_)
            refine lv_goto (tgt := 8) hx hb dM_without_83 (by decide) ?_
            exact ih (1, (y4 + 1), y3, y1, y2, y6, y5, ws9, wc, wn) _ _ ls (Or.inl ⟨adL, gdL, vadL, rfl, hf, hP, hD, hS, lv_sub hl [0, 3, 4, 5, 6] rfl, hE, hN⟩)
          · rw [if_pos hc] at hf
            refine lv_aload_n hx hb dM_without_68 rfl (lv_at hl 4 rfl) ?_
            refine lv_null hx hb dM_without_69 ?_
            refine lv_aload_n hx hb dM_without_70 rfl (lv_at hl 4 rfl) ?_
            refine xm_aload_n hx hb (xvor _ _) dM_without_71 rfl (lv_at hl 5 rfl) ?_
            refine lv_iload hx hb dM_without_72 (lv_at hl 2 rfl) ?_
            obtain ⟨o2, hq3, hf⟩ := xbind hf
            have hFc := xm_free hD hS hA
            refine va_callq (va_runV (C := "ValueBenchModel") (As := [xv vadL y1, .int y4]) (rest := [.null, .ref aM]) ⟨hx, hb, hml, hown, htx⟩ (gM_kid l hl9 D cT aK aV H.size n aM adL rd gdL vadL ws9 y1 y4 o2 hq3) ⟨callB_of 2 htx (xw_goodC kw_6_158) rfl rfl rfl (htx _ kw_1_5) (htx _ kw_6_155) ⟨by decide, by decide, by decide +kernel⟩ ⟨Nat.le_of_ble_eq_true rfl, Nat.le_of_ble_eq_true rfl⟩, (htx _ kw_6_157), (htx _ kp_M_kid)⟩ ⟨xPre_blind, va_recv hK hP (ci := 5) rfl (q0 := 0) rfl, (fun U hU hW => ⟨rfl, xPre_of hZ hS hFc hP hD hK U hU hW⟩)⟩ rfl rfl hl.1 rfl (xm_room (Nat.le_of_ble_eq_true rfl)) dM_without_74 ⟨hm0.1, hm0.2⟩) hS (fun q _ h => hFc q h) hFc (fun r4 u9 t H1 locs ht hvm hr9 hB hz1 hk1 hS => ?_)
            obtain ⟨hP1, hK1, hD1⟩ := hB
            rw [ht] at hP1
            have hP : va_P D xcl (xMw cT aM adL rd gdL vadL ws9 []) H1 := hP1
            have hD : va_D A (xMw cT aM adL rd gdL vadL ws9 []) := hD1.weaken (fun k q _ h => hFc q.1 h)
            generalize H1 = H at hP hS ⊢
            rw [hr9]
            refine W.eq (g2 := F0 m 77 ls [xv vadL o2, .null, .ref aM]) (by first | rfl | (skip; rfl)) ?_
            obtain ⟨o5, hq6, hf⟩ := xbind hf
            obtain ⟨hg7, hf⟩ := xifn hf
            obtain ⟨hm8, hf⟩ := xmoE hf
            have hFc := xm_free hD hS hA
            refine va_callv (va_runV (C := "ValueBenchModel") (As := [.null, xv vadL o2]) (rest := []) ⟨hx, hb, hml, hown, htx⟩ (gM_wait l hl9 D cT aK aV H.size n aM adL rd gdL vadL ws9 0 o2 o5 hq6) ⟨callB_of 2 htx (xw_goodC kw_6_112) rfl rfl rfl (htx _ kw_1_5) (htx _ kw_6_109) ⟨by decide, by decide, by decide +kernel⟩ ⟨Nat.le_of_ble_eq_true rfl, Nat.le_of_ble_eq_true rfl⟩, (htx _ kw_6_111), (htx _ kp_M_wait)⟩ ⟨xPre_blind, va_recv hK hP (ci := 5) rfl (q0 := 0) rfl, (fun U hU hW => ⟨rfl, xPre_of hZ hS hFc hP hD hK U hU hW⟩)⟩ rfl rfl hl.1 rfl (xm_room (Nat.le_of_ble_eq_true rfl)) dM_without_77 ⟨hm8.1, hm8.2⟩) hS (fun q _ h => hFc q h) hFc (fun u9 t H1 locs ht hvm hr9 hB hz1 hk1 hS => ?_)
            obtain ⟨hP1, hK1, hD1⟩ := hB
            rw [ht] at hP1
            obtain ⟨ad10, gd11, vad12⟩ := u9
            obtain ⟨hv13, hn14⟩ := hr9
            have hP : va_P D xcl (xMw cT aM ad10 rd gd11 vad12 o5.2.2 []) H1 := hP1
            have hD : va_D A (xMw cT aM ad10 rd gd11 vad12 o5.2.2 []) := hD1.weaken (fun k q _ h => hFc q.1 h)
            generalize H1 = H at hP hS ⊢
            have hE9 : ∀ p, p < xct st → vad12 p = vad p := fun p h => (hv13 p (Nat.lt_of_lt_of_le h hN)).trans (hE p h)
            have hE := hE9
            have hN : xct st ≤ xct o5.2.2 := Nat.le_trans hN hn14
            have ev15 : xv vadL y1 = xv vad12 y1 := xvE hv13 hg7
            have ev16 : xv vadL y2 = xv vad12 y2 := xvE hv13 (fun h => hg1 (Or.inr h))
            have hl : lv_has ls 7 [(6, .int y6), (5, .int y5), (4, .int y4), (3, .int y3), (0, .ref aM), (1, xv vad12 y1), (2, xv vad12 y2)] := by first | exact hl | ((try (rw [← ev15])); (try (rw [← ev16])); exact hl)
            refine W.eq (g2 := F0 m 80 ls []) (by first | rfl | ((try (rw [ev15])); (try (rw [ev16])); rfl)) ?_
            refine lv_iinc (v := (y4 + 1)) (lv' := [(4, .int (y4 + 1)), (6, .int y6), (5, .int y5), (3, .int y3), (0, .ref aM), (1, xv vad12 y1), (2, xv vad12 y2)]) hx hb dM_without_80 hl (k := 2) rfl rfl (by decide) rfl (fun ls hl => ?_)
            refine lv_goto (tgt := 8) hx hb dM_without_83 (by decide) ?_
            exact ih (1, (y4 + 1), y3, y1, y2, y6, y5, o5.2.2, (wc + o5.1), (wn + o5.2.1)) _ _ ls (Or.inl ⟨ad10, gd11, vad12, rfl, hf, hP, hD, hS, lv_sub hl [0, 3, 4, 5, 6] rfl, hE, hN⟩)
        · rw [if_pos hc] at hf
          refine lv_aload_n hx hb dM_without_37 rfl (lv_at hl 4 rfl) ?_
          refine lv_aload_n hx hb dM_without_38 rfl (lv_at hl 4 rfl) ?_
          refine xm_aload_n hx hb (xvor _ _) dM_without_39 rfl (lv_at hl 5 rfl) ?_
          refine lv_iload hx hb dM_without_40 (lv_at hl 2 rfl) ?_
          obtain ⟨o2, hq3, hf⟩ := xbind hf
          have hFc := xm_free hD hS hA
          refine va_callq (va_runV (C := "ValueBenchModel") (As := [xv vadL y1, .int y4]) (rest := [.ref aM]) ⟨hx, hb, hml, hown, htx⟩ (gM_kid l hl9 D cT aK aV H.size n aM adL rd gdL vadL ws9 y1 y4 o2 hq3) ⟨callB_of 2 htx (xw_goodC kw_6_158) rfl rfl rfl (htx _ kw_1_5) (htx _ kw_6_155) ⟨by decide, by decide, by decide +kernel⟩ ⟨Nat.le_of_ble_eq_true rfl, Nat.le_of_ble_eq_true rfl⟩, (htx _ kw_6_157), (htx _ kp_M_kid)⟩ ⟨xPre_blind, va_recv hK hP (ci := 5) rfl (q0 := 0) rfl, (fun U hU hW => ⟨rfl, xPre_of hZ hS hFc hP hD hK U hU hW⟩)⟩ rfl rfl hl.1 rfl (xm_room (Nat.le_of_ble_eq_true rfl)) dM_without_42 ⟨hm0.1, hm0.2⟩) hS (fun q _ h => hFc q h) hFc (fun r4 u9 t H1 locs ht hvm hr9 hB hz1 hk1 hS => ?_)
          obtain ⟨hP1, hK1, hD1⟩ := hB
          rw [ht] at hP1
          have hP : va_P D xcl (xMw cT aM adL rd gdL vadL ws9 []) H1 := hP1
          have hD : va_D A (xMw cT aM adL rd gdL vadL ws9 []) := hD1.weaken (fun k q _ h => hFc q.1 h)
          generalize H1 = H at hP hS ⊢
          rw [hr9]
          refine W.eq (g2 := F0 m 45 ls [xv vadL o2, .ref aM]) (by first | rfl | (skip; rfl)) ?_
          refine lv_aload_n hx hb dM_without_45 rfl (lv_at hl 4 rfl) ?_
          refine xm_aload_n hx hb (xvor _ _) dM_without_46 rfl (lv_at hl 6 rfl) ?_
          refine lv_iload hx hb dM_without_47 (lv_at hl 0 rfl) ?_
          obtain ⟨o5, hq6, hf⟩ := xbind hf
          have hFc := xm_free hD hS hA
          refine va_callq (va_runV (C := "ValueBenchModel") (As := [xv vadL y2, .int y6]) (rest := [xv vadL o2, .ref aM]) ⟨hx, hb, hml, hown, htx⟩ (gM_kid l hl9 D cT aK aV H.size n aM adL rd gdL vadL ws9 y2 y6 o5 hq6) ⟨callB_of 2 htx (xw_goodC kw_6_158) rfl rfl rfl (htx _ kw_1_5) (htx _ kw_6_155) ⟨by decide, by decide, by decide +kernel⟩ ⟨Nat.le_of_ble_eq_true rfl, Nat.le_of_ble_eq_true rfl⟩, (htx _ kw_6_157), (htx _ kp_M_kid)⟩ ⟨xPre_blind, va_recv hK hP (ci := 5) rfl (q0 := 0) rfl, (fun U hU hW => ⟨rfl, xPre_of hZ hS hFc hP hD hK U hU hW⟩)⟩ rfl rfl hl.1 rfl (xm_room (by simp [xvcat, xrscat, xcI, xcL, xcR, xcN])) dM_without_49 ⟨hm0.1, hm0.2⟩) hS (fun q _ h => hFc q h) hFc (fun r7 u9 t H1 locs ht hvm hr9 hB hz1 hk1 hS => ?_)
          obtain ⟨hP1, hK1, hD1⟩ := hB
          rw [ht] at hP1
          have hP : va_P D xcl (xMw cT aM adL rd gdL vadL ws9 []) H1 := hP1
          have hD : va_D A (xMw cT aM adL rd gdL vadL ws9 []) := hD1.weaken (fun k q _ h => hFc q.1 h)
          generalize H1 = H at hP hS ⊢
          rw [hr9]
          refine W.eq (g2 := F0 m 52 ls [xv vadL o5, xv vadL o2, .ref aM]) (by first | rfl | (skip; rfl)) ?_
          obtain ⟨o8, hq9, hf⟩ := xbind hf
          have hFc := xm_free hD hS hA
          refine va_calli (va_runV (C := "ValueBenchModel") (As := [xv vadL o2, xv vadL o5]) (rest := []) ⟨hx, hb, hml, hown, htx⟩ (gM_same1 l hl9 D cT aK aV d H.size n aM adL rd gdL vadL ws9 o2 o5 o8 hq9) ⟨callB_of 2 htx (xw_goodC kw_6_174) rfl rfl rfl (htx _ kw_1_5) (htx _ kw_6_171) ⟨by decide, by decide, by decide +kernel⟩ ⟨(by show (16 * d) + 1 ≤ 16 * d + 8; omega), (by show 8 + (5 + 11) + (400 * d) ≤ 400 * d + 147; omega)⟩, (htx _ kw_6_173), (htx _ kp_M_same1)⟩ ⟨xPre_blind, va_recv hK hP (ci := 5) rfl (q0 := 0) rfl, (fun U hU hW => ⟨rfl, xPre_of hZ hS hFc hP hD hK U hU hW⟩)⟩ rfl rfl hl.1 rfl (xm_room (Nat.le_of_ble_eq_true rfl)) dM_without_52 ⟨hm0.1, hm0.2⟩) hS (fun q _ h => hFc q h) hFc (fun r10 u9 t H1 locs ht hvm hr9 hB hz1 hk1 hS => ?_)
          obtain ⟨hP1, hK1, hD1⟩ := hB
          rw [ht] at hP1
          have hP : va_P D xcl (xMw cT aM adL rd gdL vadL ws9 []) H1 := hP1
          have hD : va_D A (xMw cT aM adL rd gdL vadL ws9 []) := hD1.weaken (fun k q _ h => hFc q.1 h)
          generalize H1 = H at hP hS ⊢
          rw [hr9]
          refine W.eq (g2 := F0 m 55 ls [.int o8]) (by first | rfl | (skip; rfl)) ?_
          refine lv_istore (lv' := [(5, .int o8), (6, .int y6), (4, .int y4), (3, .int y3), (0, .ref aM), (1, xv vadL y1), (2, xv vadL y2)]) hx hb dM_without_55 hl (by decide) rfl (fun ls hl => ?_)
          refine lv_iinc (v := (y6 + 1)) (lv' := [(6, .int (y6 + 1)), (5, .int o8), (4, .int y4), (3, .int y3), (0, .ref aM), (1, xv vadL y1), (2, xv vadL y2)]) hx hb dM_without_57 hl (k := 1) rfl rfl (by decide) rfl (fun ls hl => ?_)
          refine lv_goto (tgt := 23) hx hb dM_without_60 (by decide) ?_
          exact ih (2, y4, y3, y1, y2, (y6 + 1), o8, ws9, wc, wn) _ _ ls (Or.inr (⟨adL, gdL, vadL, rfl, hf, hP, hD, hS, lv_sub hl [0, 1, 2, 3, 4, 5, 6] rfl, hE, hN⟩))
  refine lv_aload_n hx hb dM_without_0 rfl (lv_at hl 0 rfl) ?_
  refine xm_get (v := .int (xsi st 12)) hx hb htx hown hK hP 12 (by decide) rfl (htx _ kw_5_99) rfl dM_without_1 ?_
  refine lv_istore_n (lv' := [(3, .int (xsi st 12)), (0, .ref aM), (1, xv vad c0), (2, xv vad c1)]) hx hb dM_without_4 rfl hl (by decide) (by simp only [List.filter, xvcat, xrscat, xcI, xcL, xcR, xcN]; rfl) (fun ls hl => ?_)
  refine lv_iconst (v := 0) hx hb dM_without_5 (by decide) ?_
  refine lv_istore (lv' := [(4, .int 0), (3, .int (xsi st 12)), (0, .ref aM), (1, xv vad c0), (2, xv vad c1)]) hx hb dM_without_6 hl (by decide) rfl (fun ls hl => ?_)
  exact key n (1, (0 : Int32), (xsi st 12), c0, c1, 0, 0, st, 0, 0) _ _ ls (Or.inl ⟨ad, gd, vad, rfl, hf, hP, hD, hS, lv_sub hl [0, 1, 2, 3, 4] rfl, hE, hN⟩)
set_option maxHeartbeats 400000000 in
set_option maxRecDepth 100000 in
theorem gM_without_1 (l : Launch) (hl9 : l.stackTraces = false) (D : va_G) (cT : Nat → ClassId) (aK aV : Nat → Nat) (sz d n : Nat) (aM : Nat) (ad rd gd vad : Nat → Nat) (st : xS) (c0 : Nat) (c1 : Nat) (out : Nat × Nat × Nat × Nat × xS) (hf : fM_without d n st c0 c1 = some out) (hkd : out.1 = 1) : xMetY l yM_without wyM_without (16 * d + 8) out.2.1 out.2.2.1 (400 * d + 147) D cT aK aV sz [.ref aM, xv vad c0, xv vad c1] (xMw cT aM ad rd gd vad st []) "java/lang/IndexOutOfBoundsException" (fun u => xE vad st out.2.2.2.2 u) (fun A u t => xB D xcl cT A (xMw cT aM u.1 rd u.2.1 u.2.2 out.2.2.2.2 []) t) := by
  refine vx_ofW (cc := prog_13_method_50_code) (maxL := 7) (ret := (some (.object "ValueBenchModel$V"))) (by decide) rfl ?_
  intro p e s m args below meth c s₁ B hml hne hv
  obtain ⟨rfl, hsz, hZ, hP, hK, hD0⟩ := hv
  have hx := B.exec
  have hb := B.bytes
  have hr := B.returns
  have hts := atoms_spec (ws := wyM_without) B.pre
  have htx := fun w h => hts w (List.mem_cons_of_mem _ h)
  have hown : s.vm.findClass "ValueBenchModel" = some m.cls := findClass_of_methodNamed B.named
  have hlocks := B.notSynchronized
  subst hsz
  have hD := hD0.self (sz := s.heap.size)
  generalize hAe : va_A (xMw cT aM ad rd gd vad st []) s.heap.size = A at hD hZ ⊢
  have hA : ∀ q : Nat, s.heap.size ≤ q → A q := fun q h => by rw [← hAe]; exact Or.inr h
  have hS : va_S A s.heap s.heap [] := va_S.rf
  have hl := lv_entry ([.ref aM, xv vad c0, xv vad c1]) (n := 7) (by simp [lg_sl, xvcat, xrscat, xcI, xcL, xcR, xcN])
  rw [show lv_args 0 [.ref aM, xv vad c0, xv vad c1] = [(0, .ref aM), (1, xv vad c0), (2, xv vad c1)] from by simp [lv_args, xvcat, xrscat, xcI, xcL, xcR, xcN]] at hl
  rw [lg_entry_eq]
  generalize (lg_sl ([.ref aM, xv vad c0, xv vad c1]) ++ List.replicate (7 - (lg_sl ([.ref aM, xv vad c0, xv vad c1])).length) Slot.unset).toArray = ls at hl ⊢
  have hl : lv_has ls 7 [(0, .ref aM), (1, xv vad c0), (2, xv vad c1)] := hl
  have hE : ∀ p, p < xct st → vad p = vad p := fun _ _ => rfl
  have hN : xct st ≤ xct st := Nat.le_refl _
  unfold fM_without at hf
  refine xloopM (σ := Nat × Int32 × Int32 × Nat × Nat × Int32 × Int32 × xS × Nat × Nat) (fun n x H locs ls => (∃ (adL gdL vadL : Nat → Nat), x.1 = 1 ∧ fM_without_b d n x.1 x.2.1 x.2.2.1 x.2.2.2.1 x.2.2.2.2.1 x.2.2.2.2.2.1 x.2.2.2.2.2.2.1 x.2.2.2.2.2.2.2.1 x.2.2.2.2.2.2.2.2.1 x.2.2.2.2.2.2.2.2.2 = some out ∧ va_P D xcl (xMw cT aM adL rd gdL vadL x.2.2.2.2.2.2.2.1 []) H ∧ va_D A (xMw cT aM adL rd gdL vadL x.2.2.2.2.2.2.2.1 []) ∧ va_S A s.heap H locs ∧ lv_has ls 7 [(4, .int x.2.1), (3, .int x.2.2.1), (0, .ref aM), (1, xv vadL x.2.2.2.1), (2, xv vadL x.2.2.2.2.1)] ∧ (∀ p, p < xct st → vadL p = vad p) ∧ xct st ≤ xct x.2.2.2.2.2.2.2.1) ∨ (∃ (adL gdL vadL : Nat → Nat), x.1 = 2 ∧ fM_without_b d n x.1 x.2.1 x.2.2.1 x.2.2.2.1 x.2.2.2.2.1 x.2.2.2.2.2.1 x.2.2.2.2.2.2.1 x.2.2.2.2.2.2.2.1 x.2.2.2.2.2.2.2.2.1 x.2.2.2.2.2.2.2.2.2 = some out ∧ va_P D xcl (xMw cT aM adL rd gdL vadL x.2.2.2.2.2.2.2.1 []) H ∧ va_D A (xMw cT aM adL rd gdL vadL x.2.2.2.2.2.2.2.1 []) ∧ va_S A s.heap H locs ∧ lv_has ls 7 [(6, .int x.2.2.2.2.2.1), (5, .int x.2.2.2.2.2.2.1), (4, .int x.2.1), (3, .int x.2.2.1), (0, .ref aM), (1, xv vadL x.2.2.2.1), (2, xv vadL x.2.2.2.2.1)] ∧ (∀ p, p < xct st → vadL p = vad p) ∧ xct st ≤ xct x.2.2.2.2.2.2.2.1)) (fun x => if x.1 = 1 then 8 else 23) (fun x => x.2.2.2.2.2.2.2.2.1) (fun x => x.2.2.2.2.2.2.2.2.2) (fun x H locs ls h => by rcases h with h | h; (obtain ⟨_, _, _, h⟩ := h; exact absurd h.2.1 (by rw [fM_without_b]; exact fun h => nomatch h)); (obtain ⟨_, _, _, h⟩ := h; exact absurd h.2.1 (by rw [fM_without_b]; exact fun h => nomatch h))) (fun n ih x H locs ls hv => ?_) (fun key => ?_)
  · obtain ⟨lb, y4, y3, y1, y2, y6, y5, ws9, wc, wn⟩ := x
    rcases hv with ⟨adL, gdL, vadL, hj, hf, hP, hD, hS, hl, hE, hN⟩ | ⟨adL, gdL, vadL, hj, hf, hP, hD, hS, hl, hE, hN⟩
    · subst hj
      have hf : fM_without_b d (n + 1) 1 y4 y3 y1 y2 y6 y5 ws9 wc wn = some out := hf
      rw [fM_without_b, if_pos rfl] at hf
      obtain ⟨hP, hD⟩ : xPD D xcl A (xMw cT aM adL rd gdL vadL ws9 []) H := ⟨hP, hD⟩
      have hl : lv_has ls 7 [(4, .int y4), (3, .int y3), (0, .ref aM), (1, xv vadL y1), (2, xv vadL y2)] := hl
      refine W.eq (g2 := F0 m 8 ls []) rfl ?_
      show W p l e _ s m _ below meth c H locs wc wn _ _
      obtain ⟨hm0, hf⟩ := xmoE hf
      refine lv_iload hx hb dM_without_8 (lv_at hl 0 rfl) ?_
      refine xm_aload_n hx hb (xvor _ _) dM_without_10 rfl (lv_at hl 3 rfl) ?_
      obtain ⟨hg1, hf⟩ := xifn hf
      refine xm_vget (v := .int ((xpi ws9 3) (y1 - 1))) hx hb htx hown hK hP 3 (by decide) hg1 rfl ((hZ.1 (103, "count", "I") (List.mem_of_getElem? (i := 3) rfl)).use rfl) rfl dM_without_11 ?_
      refine lv_icmp_ge (tgt := 86) hx hb dM_without_14 (by decide) (fun hc => ?_) (fun hc => ?_)
      · rw [if_pos hc] at hf
        refine lv_aload_n hx hb dM_without_86 rfl (lv_at hl 2 rfl) ?_
        refine lv_iconst (v := 5) hx hb dM_without_87 (by decide) ?_
        refine lv_iload_n hx hb dM_without_88 rfl (lv_at hl 1 rfl) ?_
        obtain ⟨o2, hq3, hf⟩ := xbind hf
        have hl := lv_sub (l' := [(4, .int y4), (3, .int y3), (0, .ref aM)]) hl [0, 1, 2] rfl
        by_cases hk4 : o2.1 = 0
        · rw [if_pos hk4] at hf
          obtain ⟨hm5, hf⟩ := xmoE hf
          have hFc := xm_free hD hS hA
          refine va_callq (va_runV (C := "ValueBenchModel") (As := [.int 5, .int y3]) (rest := []) ⟨hx, hb, hml, hown, htx⟩ (gM_whole l hl9 D cT aK aV H.size n aM adL rd gdL vadL ws9 (5 : Int32) y3 o2 hq3 hk4) ⟨callB_of 2 htx (xw_goodC kw_6_106) rfl rfl rfl (htx _ kw_1_5) (htx _ kw_6_103) ⟨by decide, by decide, by decide +kernel⟩ ⟨Nat.le_of_ble_eq_true rfl, Nat.le_of_ble_eq_true rfl⟩, (htx _ kw_6_105), (htx _ kp_M_whole)⟩ ⟨xPre_blind, va_recv hK hP (ci := 5) rfl (q0 := 0) rfl, (fun U hU hW => ⟨rfl, xPre_of hZ hS hFc hP hD hK U hU hW⟩)⟩ rfl rfl hl.1 rfl (xm_room (Nat.le_of_ble_eq_true rfl)) dM_without_89 ⟨hm5.1, hm5.2⟩) hS (fun q _ h => hFc q h) hFc (fun r6 u9 t H1 locs ht hvm hr9 hB hz1 hk1 hS => ?_)
          obtain ⟨hP1, hK1, hD1⟩ := hB
          rw [ht] at hP1
          obtain ⟨ad7, gd8, vad9⟩ := u9
          obtain ⟨hr9, hv10, hn11⟩ := hr9
          have hP : va_P D xcl (xMw cT aM ad7 rd gd8 vad9 o2.2.2.2.2 []) H1 := hP1
          have hD : va_D A (xMw cT aM ad7 rd gd8 vad9 o2.2.2.2.2 []) := hD1.weaken (fun k q _ h => hFc q.1 h)
          generalize H1 = H at hP hS ⊢
          have hE9 : ∀ p, p < xct st → vad9 p = vad p := fun p h => (hv10 p (Nat.lt_of_lt_of_le h hN)).trans (hE p h)
          have hE := hE9
          have hN : xct st ≤ xct o2.2.2.2.2 := Nat.le_trans hN hn11
          rw [hr9]
          refine W.eq (g2 := F0 m 92 ls [xv vad9 o2.2.2.2.1]) (by first | rfl | (skip; rfl)) ?_
          obtain rfl := Option.some.inj hf
          exact absurd (show (0 : Nat) = 1 from hkd) (by decide)
        rw [if_neg hk4] at hf
        by_cases hk12 : o2.1 = 1
        · rw [if_pos hk12] at hf
          obtain ⟨hm13, hf⟩ := xmoE hf
          have hFc := xm_free hD hS hA
          refine xx_thr (vx_runV (C := "ValueBenchModel") (As := [.int 5, .int y3]) (rest := []) ⟨hx, hb, hml, hown, htx⟩ (gM_whole_1 l hl9 D cT aK aV H.size n aM adL rd gdL vadL ws9 (5 : Int32) y3 o2 hq3 hk12) ⟨callB_of 2 htx (xw_goodC kw_6_106) rfl rfl rfl (htx _ kw_1_5) (htx _ kw_6_103) ⟨by decide, by decide, by decide +kernel⟩ ⟨Nat.le_of_ble_eq_true rfl, Nat.le_of_ble_eq_true rfl⟩, (htx _ kw_6_105), (htx _ kp_M_whole)⟩ ⟨xPre_blind, va_recv hK hP (ci := 5) rfl (q0 := 0) rfl, (fun U hU hW => ⟨rfl, xPre_of hZ hS hFc hP hD hK U hU hW⟩)⟩ rfl rfl hl.1 rfl (xm_room (Nat.le_of_ble_eq_true rfl)) dM_without_89 ⟨hm13.1, hm13.2⟩) hS hFc (fun q _ h => hFc q h) (fun E ce q9 u9 t H1 locs ht hvm hr9 hB hz1 hk1 hS hce hcv hcl => ?_)
          obtain ⟨rfl, hP1, hK1, hD1⟩ := hB
          rw [ht] at hP1
          obtain ⟨ad15, gd16, vad17⟩ := u9
          obtain ⟨hv18, hn19⟩ := hr9
          have hP : va_P D xcl (xMw cT aM ad15 rd gd16 vad17 o2.2.2.2.2 []) H1 := hP1
          have hD : va_D A (xMw cT aM ad15 rd gd16 vad17 o2.2.2.2.2 []) := hD1.weaken (fun k q _ h => hFc q.1 h)
          generalize H1 = H at hP hS hce ⊢
          have hE9 : ∀ p, p < xct st → vad17 p = vad p := fun p h => (hv18 p (Nat.lt_of_lt_of_le h hN)).trans (hE p h)
          have hE := hE9
          have hN : xct st ≤ xct o2.2.2.2.2 := Nat.le_trans hN hn19
          obtain rfl := Option.some.inj hf
          exact vx_out (E := "java/lang/IndexOutOfBoundsException") (fun x h => (hne x h).elim) hlocks hce hcv hcl (fun t ht ha => ⟨(ad15, gd16, vad17), ⟨hE, hN⟩, ⟨rfl, by rw [ht]; exact hP, va_K.moved ha hK, hD⟩, hS.F ht⟩) hS.2.2 (Nat.le_refl _) (Nat.le_refl _)
        rw [if_neg hk12] at hf
        exact nomatch hf
      · rw [if_neg hc] at hf
        refine lv_iconst (v := 0) hx hb dM_without_17 (by decide) ?_
        refine lv_istore (lv' := [(5, .int 0), (4, .int y4), (3, .int y3), (0, .ref aM), (1, xv vadL y1), (2, xv vadL y2)]) hx hb dM_without_18 hl (by decide) rfl (fun ls hl => ?_)
        refine lv_iconst (v := 0) hx hb dM_without_20 (by decide) ?_
        refine lv_istore (lv' := [(6, .int 0), (5, .int 0), (4, .int y4), (3, .int y3), (0, .ref aM), (1, xv vadL y1), (2, xv vadL y2)]) hx hb dM_without_21 hl (by decide) rfl (fun ls hl => ?_)
        exact ih (2, y4, y3, y1, y2, (0 : Int32), (0 : Int32), ws9, wc, wn) _ _ ls (Or.inr (⟨adL, gdL, vadL, rfl, hf, hP, hD, hS, lv_sub hl [0, 1, 2, 3, 4, 5, 6] rfl, hE, hN⟩))
    · subst hj
      have hf : fM_without_b d (n + 1) 2 y4 y3 y1 y2 y6 y5 ws9 wc wn = some out := hf
      rw [fM_without_b, if_neg (by decide)] at hf
      obtain ⟨hP, hD⟩ : xPD D xcl A (xMw cT aM adL rd gdL vadL ws9 []) H := ⟨hP, hD⟩
      have hl : lv_has ls 7 [(6, .int y6), (5, .int y5), (4, .int y4), (3, .int y3), (0, .ref aM), (1, xv vadL y1), (2, xv vadL y2)] := hl
      refine W.eq (g2 := F0 m 23 ls []) rfl ?_
      show W p l e _ s m _ below meth c H locs wc wn _ _
      obtain ⟨hm0, hf⟩ := xmoE hf
      refine lv_iload hx hb dM_without_23 (lv_at hl 0 rfl) ?_
      refine xm_aload_n hx hb (xvor _ _) dM_without_25 rfl (lv_at hl 6 rfl) ?_
      obtain ⟨hg1, hf⟩ := xifn hf
      refine xm_vget (v := .int ((xpi ws9 3) (y2 - 1))) hx hb htx hown hK hP 3 (by decide) hg1 rfl ((hZ.1 (103, "count", "I") (List.mem_of_getElem? (i := 3) rfl)).use rfl) rfl dM_without_26 ?_
      refine lv_icmp_ge (tgt := 63) hx hb dM_without_29 (by decide) (fun hc => ?_) (fun hc => ?_)
      · rw [if_pos hc] at hf
        refine lv_iload hx hb dM_without_63 (lv_at hl 1 rfl) ?_
        refine lv_if_ne (tgt := 80) hx hb dM_without_65 (by decide) (fun hc => ?_) (fun hc => ?_)
        · rw [if_neg hc] at hf
          refine lv_iinc (v := (y4 + 1)) (lv' := [(4, .int (y4 + 1)), (6, .int y6), (5, .int y5), (3, .int y3), (0, .ref aM), (1, xv vadL y1), (2, xv vadL y2)]) hx hb dM_without_80 hl (k := 2) rfl rfl (by decide) rfl (fun ls hl => ?_)
          refine lv_goto (tgt := 8) hx hb dM_without_83 (by decide) ?_
          exact ih (1, (y4 + 1), y3, y1, y2, y6, y5, ws9, wc, wn) _ _ ls (Or.inl ⟨adL, gdL, vadL, rfl, hf, hP, hD, hS, lv_sub hl [0, 3, 4, 5, 6] rfl, hE, hN⟩)
        · rw [if_pos hc] at hf
          refine lv_aload_n hx hb dM_without_68 rfl (lv_at hl 4 rfl) ?_
          refine lv_null hx hb dM_without_69 ?_
          refine lv_aload_n hx hb dM_without_70 rfl (lv_at hl 4 rfl) ?_
          refine xm_aload_n hx hb (xvor _ _) dM_without_71 rfl (lv_at hl 5 rfl) ?_
          refine lv_iload hx hb dM_without_72 (lv_at hl 2 rfl) ?_
          obtain ⟨o2, hq3, hf⟩ := xbind hf
          have hFc := xm_free hD hS hA
          refine va_callq (va_runV (C := "ValueBenchModel") (As := [xv vadL y1, .int y4]) (rest := [.null, .ref aM]) ⟨hx, hb, hml, hown, htx⟩ (gM_kid l hl9 D cT aK aV H.size n aM adL rd gdL vadL ws9 y1 y4 o2 hq3) ⟨callB_of 2 htx (xw_goodC kw_6_158) rfl rfl rfl (htx _ kw_1_5) (htx _ kw_6_155) ⟨by decide, by decide, by decide +kernel⟩ ⟨Nat.le_of_ble_eq_true rfl, Nat.le_of_ble_eq_true rfl⟩, (htx _ kw_6_157), (htx _ kp_M_kid)⟩ ⟨xPre_blind, va_recv hK hP (ci := 5) rfl (q0 := 0) rfl, (fun U hU hW => ⟨rfl, xPre_of hZ hS hFc hP hD hK U hU hW⟩)⟩ rfl rfl hl.1 rfl (xm_room (Nat.le_of_ble_eq_true rfl)) dM_without_74 ⟨hm0.1, hm0.2⟩) hS (fun q _ h => hFc q h) hFc (fun r4 u9 t H1 locs ht hvm hr9 hB hz1 hk1 hS => ?_)
          obtain ⟨hP1, hK1, hD1⟩ := hB
          rw [ht] at hP1
          have hP : va_P D xcl (xMw cT aM adL rd gdL vadL ws9 []) H1 := hP1
          have hD : va_D A (xMw cT aM adL rd gdL vadL ws9 []) := hD1.weaken (fun k q _ h => hFc q.1 h)
          generalize H1 = H at hP hS ⊢
          rw [hr9]
          refine W.eq (g2 := F0 m 77 ls [xv vadL o2, .null, .ref aM]) (by first | rfl | (skip; rfl)) ?_
          obtain ⟨o5, hq6, hf⟩ := xbind hf
          obtain ⟨hg7, hf⟩ := xifn hf
          obtain ⟨hm8, hf⟩ := xmoE hf
          have hFc := xm_free hD hS hA
          refine va_callv (va_runV (C := "ValueBenchModel") (As := [.null, xv vadL o2]) (rest := []) ⟨hx, hb, hml, hown, htx⟩ (gM_wait l hl9 D cT aK aV H.size n aM adL rd gdL vadL ws9 0 o2 o5 hq6) ⟨callB_of 2 htx (xw_goodC kw_6_112) rfl rfl rfl (htx _ kw_1_5) (htx _ kw_6_109) ⟨by decide, by decide, by decide +kernel⟩ ⟨Nat.le_of_ble_eq_true rfl, Nat.le_of_ble_eq_true rfl⟩, (htx _ kw_6_111), (htx _ kp_M_wait)⟩ ⟨xPre_blind, va_recv hK hP (ci := 5) rfl (q0 := 0) rfl, (fun U hU hW => ⟨rfl, xPre_of hZ hS hFc hP hD hK U hU hW⟩)⟩ rfl rfl hl.1 rfl (xm_room (Nat.le_of_ble_eq_true rfl)) dM_without_77 ⟨hm8.1, hm8.2⟩) hS (fun q _ h => hFc q h) hFc (fun u9 t H1 locs ht hvm hr9 hB hz1 hk1 hS => ?_)
          obtain ⟨hP1, hK1, hD1⟩ := hB
          rw [ht] at hP1
          obtain ⟨ad10, gd11, vad12⟩ := u9
          obtain ⟨hv13, hn14⟩ := hr9
          have hP : va_P D xcl (xMw cT aM ad10 rd gd11 vad12 o5.2.2 []) H1 := hP1
          have hD : va_D A (xMw cT aM ad10 rd gd11 vad12 o5.2.2 []) := hD1.weaken (fun k q _ h => hFc q.1 h)
          generalize H1 = H at hP hS ⊢
          have hE9 : ∀ p, p < xct st → vad12 p = vad p := fun p h => (hv13 p (Nat.lt_of_lt_of_le h hN)).trans (hE p h)
          have hE := hE9
          have hN : xct st ≤ xct o5.2.2 := Nat.le_trans hN hn14
          have ev15 : xv vadL y1 = xv vad12 y1 := xvE hv13 hg7
          have ev16 : xv vadL y2 = xv vad12 y2 := xvE hv13 (fun h => hg1 (Or.inr h))
          have hl : lv_has ls 7 [(6, .int y6), (5, .int y5), (4, .int y4), (3, .int y3), (0, .ref aM), (1, xv vad12 y1), (2, xv vad12 y2)] := by first | exact hl | ((try (rw [← ev15])); (try (rw [← ev16])); exact hl)
          refine W.eq (g2 := F0 m 80 ls []) (by first | rfl | ((try (rw [ev15])); (try (rw [ev16])); rfl)) ?_
          refine lv_iinc (v := (y4 + 1)) (lv' := [(4, .int (y4 + 1)), (6, .int y6), (5, .int y5), (3, .int y3), (0, .ref aM), (1, xv vad12 y1), (2, xv vad12 y2)]) hx hb dM_without_80 hl (k := 2) rfl rfl (by decide) rfl (fun ls hl => ?_)
          refine lv_goto (tgt := 8) hx hb dM_without_83 (by decide) ?_
          exact ih (1, (y4 + 1), y3, y1, y2, y6, y5, o5.2.2, (wc + o5.1), (wn + o5.2.1)) _ _ ls (Or.inl ⟨ad10, gd11, vad12, rfl, hf, hP, hD, hS, lv_sub hl [0, 3, 4, 5, 6] rfl, hE, hN⟩)
      · rw [if_neg hc] at hf
        refine lv_iload hx hb dM_without_32 (lv_at hl 1 rfl) ?_
        refine lv_if_ne (tgt := 63) hx hb dM_without_34 (by decide) (fun hc => ?_) (fun hc => ?_)
        · rw [if_neg hc] at hf
          refine lv_iload hx hb dM_without_63 (lv_at hl 1 rfl) ?_
          refine lv_if_ne (tgt := 80) hx hb dM_without_65 (by decide) (fun hc => ?_) (fun hc => ?_)
          · rw [if_neg hc] at hf
            refine lv_iinc (v := (y4 + 1)) (lv' := [(4, .int (y4 + 1)), (6, .int y6), (5, .int y5), (3, .int y3), (0, .ref aM), (1, xv vadL y1), (2, xv vadL y2)]) hx hb dM_without_80 hl (k := 2) rfl rfl (by decide) rfl (fun ls hl => ?_)
            refine lv_goto (tgt := 8) hx hb dM_without_83 (by decide) ?_
            exact ih (1, (y4 + 1), y3, y1, y2, y6, y5, ws9, wc, wn) _ _ ls (Or.inl ⟨adL, gdL, vadL, rfl, hf, hP, hD, hS, lv_sub hl [0, 3, 4, 5, 6] rfl, hE, hN⟩)
          · rw [if_pos hc] at hf
            refine lv_aload_n hx hb dM_without_68 rfl (lv_at hl 4 rfl) ?_
            refine lv_null hx hb dM_without_69 ?_
            refine lv_aload_n hx hb dM_without_70 rfl (lv_at hl 4 rfl) ?_
            refine xm_aload_n hx hb (xvor _ _) dM_without_71 rfl (lv_at hl 5 rfl) ?_
            refine lv_iload hx hb dM_without_72 (lv_at hl 2 rfl) ?_
            obtain ⟨o2, hq3, hf⟩ := xbind hf
            have hFc := xm_free hD hS hA
            refine va_callq (va_runV (C := "ValueBenchModel") (As := [xv vadL y1, .int y4]) (rest := [.null, .ref aM]) ⟨hx, hb, hml, hown, htx⟩ (gM_kid l hl9 D cT aK aV H.size n aM adL rd gdL vadL ws9 y1 y4 o2 hq3) ⟨callB_of 2 htx (xw_goodC kw_6_158) rfl rfl rfl (htx _ kw_1_5) (htx _ kw_6_155) ⟨by decide, by decide, by decide +kernel⟩ ⟨Nat.le_of_ble_eq_true rfl, Nat.le_of_ble_eq_true rfl⟩, (htx _ kw_6_157), (htx _ kp_M_kid)⟩ ⟨xPre_blind, va_recv hK hP (ci := 5) rfl (q0 := 0) rfl, (fun U hU hW => ⟨rfl, xPre_of hZ hS hFc hP hD hK U hU hW⟩)⟩ rfl rfl hl.1 rfl (xm_room (Nat.le_of_ble_eq_true rfl)) dM_without_74 ⟨hm0.1, hm0.2⟩) hS (fun q _ h => hFc q h) hFc (fun r4 u9 t H1 locs ht hvm hr9 hB hz1 hk1 hS => ?_)
            obtain ⟨hP1, hK1, hD1⟩ := hB
            rw [ht] at hP1
            have hP : va_P D xcl (xMw cT aM adL rd gdL vadL ws9 []) H1 := hP1
            have hD : va_D A (xMw cT aM adL rd gdL vadL ws9 []) := hD1.weaken (fun k q _ h => hFc q.1 h)
            generalize H1 = H at hP hS ⊢
            rw [hr9]
            refine W.eq (g2 := F0 m 77 ls [xv vadL o2, .null, .ref aM]) (by first | rfl | (skip; rfl)) ?_
            obtain ⟨o5, hq6, hf⟩ := xbind hf
            obtain ⟨hg7, hf⟩ := xifn hf
            obtain ⟨hm8, hf⟩ := xmoE hf
            have hFc := xm_free hD hS hA
            refine va_callv (va_runV (C := "ValueBenchModel") (As := [.null, xv vadL o2]) (rest := []) ⟨hx, hb, hml, hown, htx⟩ (gM_wait l hl9 D cT aK aV H.size n aM adL rd gdL vadL ws9 0 o2 o5 hq6) ⟨callB_of 2 htx (xw_goodC kw_6_112) rfl rfl rfl (htx _ kw_1_5) (htx _ kw_6_109) ⟨by decide, by decide, by decide +kernel⟩ ⟨Nat.le_of_ble_eq_true rfl, Nat.le_of_ble_eq_true rfl⟩, (htx _ kw_6_111), (htx _ kp_M_wait)⟩ ⟨xPre_blind, va_recv hK hP (ci := 5) rfl (q0 := 0) rfl, (fun U hU hW => ⟨rfl, xPre_of hZ hS hFc hP hD hK U hU hW⟩)⟩ rfl rfl hl.1 rfl (xm_room (Nat.le_of_ble_eq_true rfl)) dM_without_77 ⟨hm8.1, hm8.2⟩) hS (fun q _ h => hFc q h) hFc (fun u9 t H1 locs ht hvm hr9 hB hz1 hk1 hS => ?_)
            obtain ⟨hP1, hK1, hD1⟩ := hB
            rw [ht] at hP1
            obtain ⟨ad10, gd11, vad12⟩ := u9
            obtain ⟨hv13, hn14⟩ := hr9
            have hP : va_P D xcl (xMw cT aM ad10 rd gd11 vad12 o5.2.2 []) H1 := hP1
            have hD : va_D A (xMw cT aM ad10 rd gd11 vad12 o5.2.2 []) := hD1.weaken (fun k q _ h => hFc q.1 h)
            generalize H1 = H at hP hS ⊢
            have hE9 : ∀ p, p < xct st → vad12 p = vad p := fun p h => (hv13 p (Nat.lt_of_lt_of_le h hN)).trans (hE p h)
            have hE := hE9
            have hN : xct st ≤ xct o5.2.2 := Nat.le_trans hN hn14
            have ev15 : xv vadL y1 = xv vad12 y1 := xvE hv13 hg7
            have ev16 : xv vadL y2 = xv vad12 y2 := xvE hv13 (fun h => hg1 (Or.inr h))
            have hl : lv_has ls 7 [(6, .int y6), (5, .int y5), (4, .int y4), (3, .int y3), (0, .ref aM), (1, xv vad12 y1), (2, xv vad12 y2)] := by first | exact hl | ((try (rw [← ev15])); (try (rw [← ev16])); exact hl)
            refine W.eq (g2 := F0 m 80 ls []) (by first | rfl | ((try (rw [ev15])); (try (rw [ev16])); rfl)) ?_
            refine lv_iinc (v := (y4 + 1)) (lv' := [(4, .int (y4 + 1)), (6, .int y6), (5, .int y5), (3, .int y3), (0, .ref aM), (1, xv vad12 y1), (2, xv vad12 y2)]) hx hb dM_without_80 hl (k := 2) rfl rfl (by decide) rfl (fun ls hl => ?_)
            refine lv_goto (tgt := 8) hx hb dM_without_83 (by decide) ?_
            exact ih (1, (y4 + 1), y3, y1, y2, y6, y5, o5.2.2, (wc + o5.1), (wn + o5.2.1)) _ _ ls (Or.inl ⟨ad10, gd11, vad12, rfl, hf, hP, hD, hS, lv_sub hl [0, 3, 4, 5, 6] rfl, hE, hN⟩)
        · rw [if_pos hc] at hf
          refine lv_aload_n hx hb dM_without_37 rfl (lv_at hl 4 rfl) ?_
          refine lv_aload_n hx hb dM_without_38 rfl (lv_at hl 4 rfl) ?_
          refine xm_aload_n hx hb (xvor _ _) dM_without_39 rfl (lv_at hl 5 rfl) ?_
          refine lv_iload hx hb dM_without_40 (lv_at hl 2 rfl) ?_
          obtain ⟨o2, hq3, hf⟩ := xbind hf
          have hFc := xm_free hD hS hA
          refine va_callq (va_runV (C := "ValueBenchModel") (As := [xv vadL y1, .int y4]) (rest := [.ref aM]) ⟨hx, hb, hml, hown, htx⟩ (gM_kid l hl9 D cT aK aV H.size n aM adL rd gdL vadL ws9 y1 y4 o2 hq3) ⟨callB_of 2 htx (xw_goodC kw_6_158) rfl rfl rfl (htx _ kw_1_5) (htx _ kw_6_155) ⟨by decide, by decide, by decide +kernel⟩ ⟨Nat.le_of_ble_eq_true rfl, Nat.le_of_ble_eq_true rfl⟩, (htx _ kw_6_157), (htx _ kp_M_kid)⟩ ⟨xPre_blind, va_recv hK hP (ci := 5) rfl (q0 := 0) rfl, (fun U hU hW => ⟨rfl, xPre_of hZ hS hFc hP hD hK U hU hW⟩)⟩ rfl rfl hl.1 rfl (xm_room (Nat.le_of_ble_eq_true rfl)) dM_without_42 ⟨hm0.1, hm0.2⟩) hS (fun q _ h => hFc q h) hFc (fun r4 u9 t H1 locs ht hvm hr9 hB hz1 hk1 hS => ?_)
          obtain ⟨hP1, hK1, hD1⟩ := hB
          rw [ht] at hP1
          have hP : va_P D xcl (xMw cT aM adL rd gdL vadL ws9 []) H1 := hP1
          have hD : va_D A (xMw cT aM adL rd gdL vadL ws9 []) := hD1.weaken (fun k q _ h => hFc q.1 h)
          generalize H1 = H at hP hS ⊢
          rw [hr9]
          refine W.eq (g2 := F0 m 45 ls [xv vadL o2, .ref aM]) (by first | rfl | (skip; rfl)) ?_
          refine lv_aload_n hx hb dM_without_45 rfl (lv_at hl 4 rfl) ?_
          refine xm_aload_n hx hb (xvor _ _) dM_without_46 rfl (lv_at hl 6 rfl) ?_
          refine lv_iload hx hb dM_without_47 (lv_at hl 0 rfl) ?_
          obtain ⟨o5, hq6, hf⟩ := xbind hf
          have hFc := xm_free hD hS hA
          refine va_callq (va_runV (C := "ValueBenchModel") (As := [xv vadL y2, .int y6]) (rest := [xv vadL o2, .ref aM]) ⟨hx, hb, hml, hown, htx⟩ (gM_kid l hl9 D cT aK aV H.size n aM adL rd gdL vadL ws9 y2 y6 o5 hq6) ⟨callB_of 2 htx (xw_goodC kw_6_158) rfl rfl rfl (htx _ kw_1_5) (htx _ kw_6_155) ⟨by decide, by decide, by decide +kernel⟩ ⟨Nat.le_of_ble_eq_true rfl, Nat.le_of_ble_eq_true rfl⟩, (htx _ kw_6_157), (htx _ kp_M_kid)⟩ ⟨xPre_blind, va_recv hK hP (ci := 5) rfl (q0 := 0) rfl, (fun U hU hW => ⟨rfl, xPre_of hZ hS hFc hP hD hK U hU hW⟩)⟩ rfl rfl hl.1 rfl (xm_room (by simp [xvcat, xrscat, xcI, xcL, xcR, xcN])) dM_without_49 ⟨hm0.1, hm0.2⟩) hS (fun q _ h => hFc q h) hFc (fun r7 u9 t H1 locs ht hvm hr9 hB hz1 hk1 hS => ?_)
          obtain ⟨hP1, hK1, hD1⟩ := hB
          rw [ht] at hP1
          have hP : va_P D xcl (xMw cT aM adL rd gdL vadL ws9 []) H1 := hP1
          have hD : va_D A (xMw cT aM adL rd gdL vadL ws9 []) := hD1.weaken (fun k q _ h => hFc q.1 h)
          generalize H1 = H at hP hS ⊢
          rw [hr9]
          refine W.eq (g2 := F0 m 52 ls [xv vadL o5, xv vadL o2, .ref aM]) (by first | rfl | (skip; rfl)) ?_
          obtain ⟨o8, hq9, hf⟩ := xbind hf
          have hFc := xm_free hD hS hA
          refine va_calli (va_runV (C := "ValueBenchModel") (As := [xv vadL o2, xv vadL o5]) (rest := []) ⟨hx, hb, hml, hown, htx⟩ (gM_same1 l hl9 D cT aK aV d H.size n aM adL rd gdL vadL ws9 o2 o5 o8 hq9) ⟨callB_of 2 htx (xw_goodC kw_6_174) rfl rfl rfl (htx _ kw_1_5) (htx _ kw_6_171) ⟨by decide, by decide, by decide +kernel⟩ ⟨(by show (16 * d) + 1 ≤ 16 * d + 8; omega), (by show 8 + (5 + 11) + (400 * d) ≤ 400 * d + 147; omega)⟩, (htx _ kw_6_173), (htx _ kp_M_same1)⟩ ⟨xPre_blind, va_recv hK hP (ci := 5) rfl (q0 := 0) rfl, (fun U hU hW => ⟨rfl, xPre_of hZ hS hFc hP hD hK U hU hW⟩)⟩ rfl rfl hl.1 rfl (xm_room (Nat.le_of_ble_eq_true rfl)) dM_without_52 ⟨hm0.1, hm0.2⟩) hS (fun q _ h => hFc q h) hFc (fun r10 u9 t H1 locs ht hvm hr9 hB hz1 hk1 hS => ?_)
          obtain ⟨hP1, hK1, hD1⟩ := hB
          rw [ht] at hP1
          have hP : va_P D xcl (xMw cT aM adL rd gdL vadL ws9 []) H1 := hP1
          have hD : va_D A (xMw cT aM adL rd gdL vadL ws9 []) := hD1.weaken (fun k q _ h => hFc q.1 h)
          generalize H1 = H at hP hS ⊢
          rw [hr9]
          refine W.eq (g2 := F0 m 55 ls [.int o8]) (by first | rfl | (skip; rfl)) ?_
          refine lv_istore (lv' := [(5, .int o8), (6, .int y6), (4, .int y4), (3, .int y3), (0, .ref aM), (1, xv vadL y1), (2, xv vadL y2)]) hx hb dM_without_55 hl (by decide) rfl (fun ls hl => ?_)
          refine lv_iinc (v := (y6 + 1)) (lv' := [(6, .int (y6 + 1)), (5, .int o8), (4, .int y4), (3, .int y3), (0, .ref aM), (1, xv vadL y1), (2, xv vadL y2)]) hx hb dM_without_57 hl (k := 1) rfl rfl (by decide) rfl (fun ls hl => ?_)
          refine lv_goto (tgt := 23) hx hb dM_without_60 (by decide) ?_
          exact ih (2, y4, y3, y1, y2, (y6 + 1), o8, ws9, wc, wn) _ _ ls (Or.inr (⟨adL, gdL, vadL, rfl, hf, hP, hD, hS, lv_sub hl [0, 1, 2, 3, 4, 5, 6] rfl, hE, hN⟩))
  refine lv_aload_n hx hb dM_without_0 rfl (lv_at hl 0 rfl) ?_
  refine xm_get (v := .int (xsi st 12)) hx hb htx hown hK hP 12 (by decide) rfl (htx _ kw_5_99) rfl dM_without_1 ?_
  refine lv_istore_n (lv' := [(3, .int (xsi st 12)), (0, .ref aM), (1, xv vad c0), (2, xv vad c1)]) hx hb dM_without_4 rfl hl (by decide) (by simp only [List.filter, xvcat, xrscat, xcI, xcL, xcR, xcN]; rfl) (fun ls hl => ?_)
  refine lv_iconst (v := 0) hx hb dM_without_5 (by decide) ?_
  refine lv_istore (lv' := [(4, .int 0), (3, .int (xsi st 12)), (0, .ref aM), (1, xv vad c0), (2, xv vad c1)]) hx hb dM_without_6 hl (by decide) rfl (fun ls hl => ?_)
  exact key n (1, (0 : Int32), (xsi st 12), c0, c1, 0, 0, st, 0, 0) _ _ ls (Or.inl ⟨ad, gd, vad, rfl, hf, hP, hD, hS, lv_sub hl [0, 1, 2, 3, 4] rfl, hE, hN⟩)
set_option maxHeartbeats 400000000 in
set_option maxRecDepth 100000 in
theorem gM_merged (l : Launch) (hl9 : l.stackTraces = false) (D : va_G) (cT : Nat → ClassId) (aK aV : Nat → Nat) : ∀ (d sz n : Nat) (aM : Nat) (ad rd gd vad : Nat → Nat) (st : xS) (c0 : Nat) (c1 : Nat) (out : Nat × Nat × Nat × Nat × xS) (hf : fM_merged d n st c0 c1 = some out), (out.1 = 0 → xMet l yM_merged wyM_merged ((16 * d)) out.2.1 out.2.2.1 ((400 * d)) D cT aK aV sz [.ref aM, xv vad c0, xv vad c1] (xMw cT aM ad rd gd vad st []) (fun A => va_Qq (fun (r : Option Nat) (u : xU) => r = xca u.2.2 out.2.2.2.1 ∧ xE vad st out.2.2.2.2 u) (fun u t => xB D xcl cT A (xMw cT aM u.1 rd u.2.1 u.2.2 out.2.2.2.2 []) t) A)) ∧ (out.1 = 1 → xMetY l yM_merged wyM_merged ((16 * d)) out.2.1 out.2.2.1 ((400 * d)) D cT aK aV sz [.ref aM, xv vad c0, xv vad c1] (xMw cT aM ad rd gd vad st []) "java/lang/IndexOutOfBoundsException" (fun u => xE vad st out.2.2.2.2 u) (fun A u t => xB D xcl cT A (xMw cT aM u.1 rd u.2.1 u.2.2 out.2.2.2.2 []) t)) := by
  intro d
  induction d with
  | zero =>
    intro sz n aM ad rd gd vad st c0 c1 out hf
    rw [fM_merged] at hf
    exact nomatch hf
  | succ d ih =>
    intro sz n aM ad rd gd vad st c0 c1 out hf
    rw [fM_merged] at hf
    obtain ⟨rec, hrec, hf⟩ : ∃ rec : xS → Nat → Nat → Option (Nat × Nat × Nat × Nat × xS), (∀ (sz aM : Nat) (ad rd gd vad : Nat → Nat) (st : xS) (c0 : Nat) (c1 : Nat) (out : Nat × Nat × Nat × Nat × xS), rec st c0 c1 = some out → (out.1 = 0 → xMet l yM_merged wyM_merged (16 * d) out.2.1 out.2.2.1 (400 * d) D cT aK aV sz [.ref aM, xv vad c0, xv vad c1] (xMw cT aM ad rd gd vad st []) (fun A => va_Qq (fun (r : Option Nat) (u : xU) => r = xca u.2.2 out.2.2.2.1 ∧ xE vad st out.2.2.2.2 u) (fun u t => xB D xcl cT A (xMw cT aM u.1 rd u.2.1 u.2.2 out.2.2.2.2 []) t) A)) ∧ (out.1 = 1 → xMetY l yM_merged wyM_merged (16 * d) out.2.1 out.2.2.1 (400 * d) D cT aK aV sz [.ref aM, xv vad c0, xv vad c1] (xMw cT aM ad rd gd vad st []) "java/lang/IndexOutOfBoundsException" (fun u => xE vad st out.2.2.2.2 u) (fun A u t => xB D xcl cT A (xMw cT aM u.1 rd u.2.1 u.2.2 out.2.2.2.2 []) t))) ∧ (fM_merged_b rec n 1 (0 : Int32) (xsi st 12) c0 c1 st 0 0) = some out := ⟨fM_merged d n, fun sz => ih sz n, hf⟩
    refine ⟨fun hkd => ?_, fun hkd => ?_⟩
    · refine Met.ofW (cc := prog_13_method_52_code) (maxL := 8) (ret := (some (.object "ValueBenchModel$V"))) (by decide) rfl ?_
      intro p e s m args below meth c s₁ B hml hv
      obtain ⟨rfl, hsz, hZ, hP, hK, hD0⟩ := hv
      have hx := B.exec
      have hb := B.bytes
      have hr := B.returns
      have hts := atoms_spec (ws := wyM_merged) B.pre
      have htx := fun w h => hts w (List.mem_cons_of_mem _ h)
      have hown : s.vm.findClass "ValueBenchModel" = some m.cls := findClass_of_methodNamed B.named
      have hlocks := B.notSynchronized
      subst hsz
      have hD := hD0.self (sz := s.heap.size)
      generalize hAe : va_A (xMw cT aM ad rd gd vad st []) s.heap.size = A at hD hZ ⊢
      have hA : ∀ q : Nat, s.heap.size ≤ q → A q := fun q h => by rw [← hAe]; exact Or.inr h
      have hS : va_S A s.heap s.heap [] := va_S.rf
      have hl := lv_entry ([.ref aM, xv vad c0, xv vad c1]) (n := 8) (by simp [lg_sl, xvcat, xrscat, xcI, xcL, xcR, xcN])
      rw [show lv_args 0 [.ref aM, xv vad c0, xv vad c1] = [(0, .ref aM), (1, xv vad c0), (2, xv vad c1)] from by simp [lv_args, xvcat, xrscat, xcI, xcL, xcR, xcN]] at hl
      rw [lg_entry_eq]
      generalize (lg_sl ([.ref aM, xv vad c0, xv vad c1]) ++ List.replicate (8 - (lg_sl ([.ref aM, xv vad c0, xv vad c1])).length) Slot.unset).toArray = ls at hl ⊢
      have hl : lv_has ls 8 [(0, .ref aM), (1, xv vad c0), (2, xv vad c1)] := hl
      have hE : ∀ p, p < xct st → vad p = vad p := fun _ _ => rfl
      have hN : xct st ≤ xct st := Nat.le_refl _
      refine xloopM (σ := Nat × Int32 × Int32 × Nat × Nat × xS × Nat × Nat) (fun n x H locs ls => (∃ (adL gdL vadL : Nat → Nat), x.1 = 1 ∧ fM_merged_b rec n x.1 x.2.1 x.2.2.1 x.2.2.2.1 x.2.2.2.2.1 x.2.2.2.2.2.1 x.2.2.2.2.2.2.1 x.2.2.2.2.2.2.2 = some out ∧ va_P D xcl (xMw cT aM adL rd gdL vadL x.2.2.2.2.2.1 []) H ∧ va_D A (xMw cT aM adL rd gdL vadL x.2.2.2.2.2.1 []) ∧ va_S A s.heap H locs ∧ lv_has ls 8 [(4, .int x.2.1), (3, .int x.2.2.1), (0, .ref aM), (1, xv vadL x.2.2.2.1), (2, xv vadL x.2.2.2.2.1)] ∧ (∀ p, p < xct st → vadL p = vad p) ∧ xct st ≤ xct x.2.2.2.2.2.1) ∨ (∃ (adL gdL vadL : Nat → Nat), x.1 = 2 ∧ fM_merged_b rec n x.1 x.2.1 x.2.2.1 x.2.2.2.1 x.2.2.2.2.1 x.2.2.2.2.2.1 x.2.2.2.2.2.2.1 x.2.2.2.2.2.2.2 = some out ∧ va_P D xcl (xMw cT aM adL rd gdL vadL x.2.2.2.2.2.1 []) H ∧ va_D A (xMw cT aM adL rd gdL vadL x.2.2.2.2.2.1 []) ∧ va_S A s.heap H locs ∧ lv_has ls 8 [(4, .int x.2.1), (3, .int x.2.2.1), (0, .ref aM), (1, xv vadL x.2.2.2.1), (2, xv vadL x.2.2.2.2.1)] ∧ (∀ p, p < xct st → vadL p = vad p) ∧ xct st ≤ xct x.2.2.2.2.2.1)) (fun x => if x.1 = 1 then 8 else 127) (fun x => x.2.2.2.2.2.2.1) (fun x => x.2.2.2.2.2.2.2) (fun x H locs ls h => by rcases h with h | h; (obtain ⟨_, _, _, h⟩ := h; exact absurd h.2.1 (by rw [fM_merged_b]; exact fun h => nomatch h)); (obtain ⟨_, _, _, h⟩ := h; exact absurd h.2.1 (by rw [fM_merged_b]; exact fun h => nomatch h))) (fun n ih x H locs ls hv => ?_) (fun key => ?_)
      · obtain ⟨lb, y4, y3, y1, y2, ws9, wc, wn⟩ := x
        rcases hv with ⟨adL, gdL, vadL, hj, hf, hP, hD, hS, hl, hE, hN⟩ | ⟨adL, gdL, vadL, hj, hf, hP, hD, hS, hl, hE, hN⟩
        · subst hj
          have hf : fM_merged_b rec (n + 1) 1 y4 y3 y1 y2 ws9 wc wn = some out := hf
          rw [fM_merged_b, if_pos rfl] at hf
          obtain ⟨hP, hD⟩ : xPD D xcl A (xMw cT aM adL rd gdL vadL ws9 []) H := ⟨hP, hD⟩
          have hl : lv_has ls 8 [(4, .int y4), (3, .int y3), (0, .ref aM), (1, xv vadL y1), (2, xv vadL y2)] := hl
          refine W.eq (g2 := F0 m 8 ls []) rfl ?_
          show W p l e _ s m _ below meth c H locs wc wn _ _
          obtain ⟨hm0, hf⟩ := xmoE hf
          refine lv_iload hx hb dM_merged_8 (lv_at hl 0 rfl) ?_
          refine xm_aload_n hx hb (xvor _ _) dM_merged_10 rfl (lv_at hl 3 rfl) ?_
          obtain ⟨hg1, hf⟩ := xifn hf
          refine xm_vget (v := .int ((xpi ws9 3) (y1 - 1))) hx hb htx hown hK hP 3 (by decide) hg1 rfl ((hZ.1 (103, "count", "I") (List.mem_of_getElem? (i := 3) rfl)).use rfl) rfl dM_merged_11 ?_
          refine lv_icmp_ge (tgt := 124) hx hb dM_merged_14 (by decide) (fun hc => ?_) (fun hc => ?_)
          · rw [if_pos hc] at hf
            refine lv_iconst (v := 0) hx hb dM_merged_124 (by decide) ?_
            refine lv_istore (lv' := [(4, .int 0), (3, .int y3), (0, .ref aM), (1, xv vadL y1), (2, xv vadL y2)]) hx hb dM_merged_125 hl (by decide) rfl (fun ls hl => ?_)
            exact ih (2, (0 : Int32), y3, y1, y2, ws9, wc, wn) _ _ ls (Or.inr (⟨adL, gdL, vadL, rfl, hf, hP, hD, hS, lv_sub hl [0, 1, 2, 3, 4] rfl, hE, hN⟩))
          · rw [if_neg hc] at hf
            refine lv_aload_n hx hb dM_merged_17 rfl (lv_at hl 2 rfl) ?_
            refine xm_aload_n hx hb (xvor _ _) dM_merged_18 rfl (lv_at hl 4 rfl) ?_
            refine lv_aload_n hx hb dM_merged_19 rfl (lv_at hl 2 rfl) ?_
            refine xm_aload_n hx hb (xvor _ _) dM_merged_20 rfl (lv_at hl 3 rfl) ?_
            refine lv_iload hx hb dM_merged_21 (lv_at hl 0 rfl) ?_
            obtain ⟨o2, hq3, hf⟩ := xbind hf
            have hFc := xm_free hD hS hA
            refine va_callq (va_runV (C := "ValueBenchModel") (As := [xv vadL y1, .int y4]) (rest := [xv vadL y2, .ref aM]) ⟨hx, hb, hml, hown, htx⟩ (gM_name l hl9 D cT aK aV H.size n aM adL rd gdL vadL ws9 y1 y4 o2 hq3) ⟨callB_of 2 htx (xw_goodC kw_6_154) rfl rfl rfl (htx _ kw_1_5) (htx _ kw_6_151) ⟨by decide, by decide, by decide +kernel⟩ ⟨Nat.le_of_ble_eq_true rfl, Nat.le_of_ble_eq_true rfl⟩, (htx _ kw_6_153), (htx _ kp_M_name)⟩ ⟨xPre_blind, va_recv hK hP (ci := 5) rfl (q0 := 0) rfl, (fun U hU hW => ⟨rfl, xPre_of hZ hS hFc hP hD hK U hU hW⟩)⟩ rfl rfl hl.1 rfl (xm_room (by simp [xvcat, xrscat, xcI, xcL, xcR, xcN])) dM_merged_23 ⟨hm0.1, hm0.2⟩) hS (fun q _ h => hFc q h) hFc (fun r4 u9 t H1 locs ht hvm hr9 hB hz1 hk1 hS => ?_)
            obtain ⟨hP1, hK1, hD1⟩ := hB
            rw [ht] at hP1
            have hP : va_P D xcl (xMw cT aM adL rd gdL vadL ws9 []) H1 := hP1
            have hD : va_D A (xMw cT aM adL rd gdL vadL ws9 []) := hD1.weaken (fun k q _ h => hFc q.1 h)
            generalize H1 = H at hP hS ⊢
            rw [hr9]
            refine W.eq (g2 := F0 m 26 ls [xv vadL o2, xv vadL y2, .ref aM]) (by first | rfl | (skip; rfl)) ?_
            obtain ⟨o5, hq6, hf⟩ := xbind hf
            have hFc := xm_free hD hS hA
            refine va_calli (va_runV (C := "ValueBenchModel") (As := [xv vadL y2, xv vadL o2]) (rest := []) ⟨hx, hb, hml, hown, htx⟩ (gM_place l hl9 D cT aK aV H.size n aM adL rd gdL vadL ws9 y2 o2 o5 hq6) ⟨callB_of 2 htx (xw_goodC kw_6_178) rfl rfl rfl (htx _ kw_1_5) (htx _ kw_6_175) ⟨by decide, by decide, by decide +kernel⟩ ⟨Nat.le_of_ble_eq_true rfl, Nat.le_of_ble_eq_true rfl⟩, (htx _ kw_6_177), (htx _ kp_M_place)⟩ ⟨xPre_blind, va_recv hK hP (ci := 5) rfl (q0 := 0) rfl, (fun U hU hW => ⟨rfl, xPre_of hZ hS hFc hP hD hK U hU hW⟩)⟩ rfl rfl hl.1 rfl (xm_room (Nat.le_of_ble_eq_true rfl)) dM_merged_26 ⟨hm0.1, hm0.2⟩) hS (fun q _ h => hFc q h) hFc (fun r7 u9 t H1 locs ht hvm hr9 hB hz1 hk1 hS => ?_)
            obtain ⟨hP1, hK1, hD1⟩ := hB
            rw [ht] at hP1
            have hP : va_P D xcl (xMw cT aM adL rd gdL vadL ws9 []) H1 := hP1
            have hD : va_D A (xMw cT aM adL rd gdL vadL ws9 []) := hD1.weaken (fun k q _ h => hFc q.1 h)
            generalize H1 = H at hP hS ⊢
            rw [hr9]
            refine W.eq (g2 := F0 m 29 ls [.int o5]) (by first | rfl | (skip; rfl)) ?_
            refine lv_istore (lv' := [(5, .int o5), (4, .int y4), (3, .int y3), (0, .ref aM), (1, xv vadL y1), (2, xv vadL y2)]) hx hb dM_merged_29 hl (by decide) rfl (fun ls hl => ?_)
            refine lv_aload_n hx hb dM_merged_31 rfl (lv_at hl 3 rfl) ?_
            refine xm_aload_n hx hb (xvor _ _) dM_merged_32 rfl (lv_at hl 4 rfl) ?_
            refine lv_iload hx hb dM_merged_33 (lv_at hl 1 rfl) ?_
            obtain ⟨o8, hq9, hf⟩ := xbind hf
            have hFc := xm_free hD hS hA
            refine va_callq (va_runV (C := "ValueBenchModel") (As := [xv vadL y1, .int y4]) (rest := []) ⟨hx, hb, hml, hown, htx⟩ (gM_kid l hl9 D cT aK aV H.size n aM adL rd gdL vadL ws9 y1 y4 o8 hq9) ⟨callB_of 2 htx (xw_goodC kw_6_158) rfl rfl rfl (htx _ kw_1_5) (htx _ kw_6_155) ⟨by decide, by decide, by decide +kernel⟩ ⟨Nat.le_of_ble_eq_true rfl, Nat.le_of_ble_eq_true rfl⟩, (htx _ kw_6_157), (htx _ kp_M_kid)⟩ ⟨xPre_blind, va_recv hK hP (ci := 5) rfl (q0 := 0) rfl, (fun U hU hW => ⟨rfl, xPre_of hZ hS hFc hP hD hK U hU hW⟩)⟩ rfl rfl hl.1 rfl (xm_room (Nat.le_of_ble_eq_true rfl)) dM_merged_35 ⟨hm0.1, hm0.2⟩) hS (fun q _ h => hFc q h) hFc (fun r10 u9 t H1 locs ht hvm hr9 hB hz1 hk1 hS => ?_)
            obtain ⟨hP1, hK1, hD1⟩ := hB
            rw [ht] at hP1
            have hP : va_P D xcl (xMw cT aM adL rd gdL vadL ws9 []) H1 := hP1
            have hD : va_D A (xMw cT aM adL rd gdL vadL ws9 []) := hD1.weaken (fun k q _ h => hFc q.1 h)
            generalize H1 = H at hP hS ⊢
            rw [hr9]
            refine W.eq (g2 := F0 m 38 ls [xv vadL o8]) (by first | rfl | (skip; rfl)) ?_
            refine xm_astore (lv' := [(6, xv vadL o8), (5, .int o5), (4, .int y4), (3, .int y3), (0, .ref aM), (1, xv vadL y1), (2, xv vadL y2)]) hx hb (xvor _ _) dM_merged_38 hl (by decide) rfl (fun ls hl => ?_)
            refine lv_iload hx hb dM_merged_40 (lv_at hl 1 rfl) ?_
            refine lv_if_lt (tgt := 105) hx hb dM_merged_42 (by decide) (fun hc => ?_) (fun hc => ?_)
            · rw [if_pos hc] at hf
              refine lv_aload_n hx hb dM_merged_105 rfl (lv_at hl 4 rfl) ?_
              refine lv_aload_n hx hb dM_merged_106 rfl (lv_at hl 4 rfl) ?_
              refine xm_aload_n hx hb (xvor _ _) dM_merged_107 rfl (lv_at hl 5 rfl) ?_
              refine lv_iload hx hb dM_merged_108 (lv_at hl 2 rfl) ?_
              obtain ⟨o11, hq12, hf⟩ := xbind hf
              have hFc := xm_free hD hS hA
              refine va_callq (va_runV (C := "ValueBenchModel") (As := [xv vadL y1, .int y4]) (rest := [.ref aM]) ⟨hx, hb, hml, hown, htx⟩ (gM_name l hl9 D cT aK aV H.size n aM adL rd gdL vadL ws9 y1 y4 o11 hq12) ⟨callB_of 2 htx (xw_goodC kw_6_154) rfl rfl rfl (htx _ kw_1_5) (htx _ kw_6_151) ⟨by decide, by decide, by decide +kernel⟩ ⟨Nat.le_of_ble_eq_true rfl, Nat.le_of_ble_eq_true rfl⟩, (htx _ kw_6_153), (htx _ kp_M_name)⟩ ⟨xPre_blind, va_recv hK hP (ci := 5) rfl (q0 := 0) rfl, (fun U hU hW => ⟨rfl, xPre_of hZ hS hFc hP hD hK U hU hW⟩)⟩ rfl rfl hl.1 rfl (xm_room (Nat.le_of_ble_eq_true rfl)) dM_merged_110 ⟨hm0.1, hm0.2⟩) hS (fun q _ h => hFc q h) hFc (fun r13 u9 t H1 locs ht hvm hr9 hB hz1 hk1 hS => ?_)
              obtain ⟨hP1, hK1, hD1⟩ := hB
              rw [ht] at hP1
              have hP : va_P D xcl (xMw cT aM adL rd gdL vadL ws9 []) H1 := hP1
              have hD : va_D A (xMw cT aM adL rd gdL vadL ws9 []) := hD1.weaken (fun k q _ h => hFc q.1 h)
              generalize H1 = H at hP hS ⊢
              rw [hr9]
              refine W.eq (g2 := F0 m 113 ls [xv vadL o11, .ref aM]) (by first | rfl | (skip; rfl)) ?_
              refine xm_aload hx hb (xvor _ _) dM_merged_113 (lv_at hl 0 rfl) ?_
              obtain ⟨o14, hq15, hf⟩ := xbind hf
              obtain ⟨hg16, hf⟩ := xifn hf
              obtain ⟨hg17, hf⟩ := xifn hf
              obtain ⟨hm18, hf⟩ := xmoE hf
              have hFc := xm_free hD hS hA
              refine va_callv (va_runV (C := "ValueBenchModel") (As := [xv vadL o11, xv vadL o8]) (rest := []) ⟨hx, hb, hml, hown, htx⟩ (gM_wait l hl9 D cT aK aV H.size n aM adL rd gdL vadL ws9 o11 o8 o14 hq15) ⟨callB_of 2 htx (xw_goodC kw_6_112) rfl rfl rfl (htx _ kw_1_5) (htx _ kw_6_109) ⟨by decide, by decide, by decide +kernel⟩ ⟨Nat.le_of_ble_eq_true rfl, Nat.le_of_ble_eq_true rfl⟩, (htx _ kw_6_111), (htx _ kp_M_wait)⟩ ⟨xPre_blind, va_recv hK hP (ci := 5) rfl (q0 := 0) rfl, (fun U hU hW => ⟨rfl, xPre_of hZ hS hFc hP hD hK U hU hW⟩)⟩ rfl rfl hl.1 rfl (xm_room (Nat.le_of_ble_eq_true rfl)) dM_merged_115 ⟨hm18.1, hm18.2⟩) hS (fun q _ h => hFc q h) hFc (fun u9 t H1 locs ht hvm hr9 hB hz1 hk1 hS => ?_)
              obtain ⟨hP1, hK1, hD1⟩ := hB
              rw [ht] at hP1
              obtain ⟨ad20, gd21, vad22⟩ := u9
              obtain ⟨hv23, hn24⟩ := hr9
              have hP : va_P D xcl (xMw cT aM ad20 rd gd21 vad22 o14.2.2 []) H1 := hP1
              have hD : va_D A (xMw cT aM ad20 rd gd21 vad22 o14.2.2 []) := hD1.weaken (fun k q _ h => hFc q.1 h)
              generalize H1 = H at hP hS ⊢
              have hE9 : ∀ p, p < xct st → vad22 p = vad p := fun p h => (hv23 p (Nat.lt_of_lt_of_le h hN)).trans (hE p h)
              have hE := hE9
              have hN : xct st ≤ xct o14.2.2 := Nat.le_trans hN hn24
              have ev25 : xv vadL o8 = xv vad22 o8 := xvE hv23 hg16
              have ev26 : xv vadL y1 = xv vad22 y1 := xvE hv23 (fun h => hg1 (Or.inr h))
              have ev27 : xv vadL y2 = xv vad22 y2 := xvE hv23 hg17
              have hl : lv_has ls 8 [(6, xv vad22 o8), (5, .int o5), (4, .int y4), (3, .int y3), (0, .ref aM), (1, xv vad22 y1), (2, xv vad22 y2)] := by first | exact hl | ((try (rw [← ev25])); (try (rw [← ev26])); (try (rw [← ev27])); exact hl)
              refine W.eq (g2 := F0 m 118 ls []) (by first | rfl | ((try (rw [ev25])); (try (rw [ev26])); (try (rw [ev27])); rfl)) ?_
              refine lv_iinc (v := (y4 + 1)) (lv' := [(4, .int (y4 + 1)), (6, xv vad22 o8), (5, .int o5), (3, .int y3), (0, .ref aM), (1, xv vad22 y1), (2, xv vad22 y2)]) hx hb dM_merged_118 hl (k := 2) rfl rfl (by decide) rfl (fun ls hl => ?_)
              refine lv_goto (tgt := 8) hx hb dM_merged_121 (by decide) ?_
              exact ih (1, (y4 + 1), y3, y1, y2, o14.2.2, (wc + o14.1), (wn + o14.2.1)) _ _ ls (Or.inl ⟨ad20, gd21, vad22, rfl, hf, hP, hD, hS, lv_sub hl [0, 3, 4, 5, 6] rfl, hE, hN⟩)
            · rw [if_neg hc] at hf
              refine lv_aload_n hx hb dM_merged_45 rfl (lv_at hl 4 rfl) ?_
              refine xm_aload_n hx hb (xvor _ _) dM_merged_46 rfl (lv_at hl 6 rfl) ?_
              refine lv_iload hx hb dM_merged_47 (lv_at hl 1 rfl) ?_
              obtain ⟨o11, hq12, hf⟩ := xbind hf
              have hFc := xm_free hD hS hA
              refine va_callq (va_runV (C := "ValueBenchModel") (As := [xv vadL y2, .int o5]) (rest := []) ⟨hx, hb, hml, hown, htx⟩ (gM_kid l hl9 D cT aK aV H.size n aM adL rd gdL vadL ws9 y2 o5 o11 hq12) ⟨callB_of 2 htx (xw_goodC kw_6_158) rfl rfl rfl (htx _ kw_1_5) (htx _ kw_6_155) ⟨by decide, by decide, by decide +kernel⟩ ⟨Nat.le_of_ble_eq_true rfl, Nat.le_of_ble_eq_true rfl⟩, (htx _ kw_6_157), (htx _ kp_M_kid)⟩ ⟨xPre_blind, va_recv hK hP (ci := 5) rfl (q0 := 0) rfl, (fun U hU hW => ⟨rfl, xPre_of hZ hS hFc hP hD hK U hU hW⟩)⟩ rfl rfl hl.1 rfl (xm_room (Nat.le_of_ble_eq_true rfl)) dM_merged_49 ⟨hm0.1, hm0.2⟩) hS (fun q _ h => hFc q h) hFc (fun r13 u9 t H1 locs ht hvm hr9 hB hz1 hk1 hS => ?_)
              obtain ⟨hP1, hK1, hD1⟩ := hB
              rw [ht] at hP1
              have hP : va_P D xcl (xMw cT aM adL rd gdL vadL ws9 []) H1 := hP1
              have hD : va_D A (xMw cT aM adL rd gdL vadL ws9 []) := hD1.weaken (fun k q _ h => hFc q.1 h)
              generalize H1 = H at hP hS ⊢
              rw [hr9]
              refine W.eq (g2 := F0 m 52 ls [xv vadL o11]) (by first | rfl | (skip; rfl)) ?_
              refine xm_astore (lv' := [(7, xv vadL o11), (6, xv vadL o8), (5, .int o5), (4, .int y4), (3, .int y3), (0, .ref aM), (1, xv vadL y1), (2, xv vadL y2)]) hx hb (xvor _ _) dM_merged_52 hl (by decide) (by simp only [List.filter, xvcat, xrscat, xcI, xcL, xcR, xcN]; rfl) (fun ls hl => ?_)
              refine xm_aload hx hb (xvor _ _) dM_merged_54 (lv_at hl 1 rfl) ?_
              obtain ⟨hg14, hf⟩ := xifn hf
              refine xm_vget (v := .int ((xpi ws9 0) (o8 - 1))) hx hb htx hown hK hP 0 (by decide) hg14 rfl ((hZ.1 (93, "kind", "I") (List.mem_of_getElem? (i := 0) rfl)).use rfl) rfl dM_merged_56 ?_
              refine lv_bipush (v := 6) hx hb dM_merged_59 (by decide) ?_
              refine lv_icmp_ne (tgt := 101) hx hb dM_merged_61 (by decide) (fun hc => ?_) (fun hc => ?_)
              · rw [if_neg hc] at hf
                refine xm_aload hx hb (xvor _ _) dM_merged_101 (lv_at hl 0 rfl) ?_
                refine xm_astore (lv' := [(6, xv vadL o11), (7, xv vadL o11), (5, .int o5), (4, .int y4), (3, .int y3), (0, .ref aM), (1, xv vadL y1), (2, xv vadL y2)]) hx hb (xvor _ _) dM_merged_103 hl (by decide) rfl (fun ls hl => ?_)
                refine lv_aload_n hx hb dM_merged_105 rfl (lv_at hl 5 rfl) ?_
                refine lv_aload_n hx hb dM_merged_106 rfl (lv_at hl 5 rfl) ?_
                refine xm_aload_n hx hb (xvor _ _) dM_merged_107 rfl (lv_at hl 6 rfl) ?_
                refine lv_iload hx hb dM_merged_108 (lv_at hl 3 rfl) ?_
                obtain ⟨o15, hq16, hf⟩ := xbind hf
                have hFc := xm_free hD hS hA
                refine va_callq (va_runV (C := "ValueBenchModel") (As := [xv vadL y1, .int y4]) (rest := [.ref aM]) ⟨hx, hb, hml, hown, htx⟩ (gM_name l hl9 D cT aK aV H.size n aM adL rd gdL vadL ws9 y1 y4 o15 hq16) ⟨callB_of 2 htx (xw_goodC kw_6_154) rfl rfl rfl (htx _ kw_1_5) (htx _ kw_6_151) ⟨by decide, by decide, by decide +kernel⟩ ⟨Nat.le_of_ble_eq_true rfl, Nat.le_of_ble_eq_true rfl⟩, (htx _ kw_6_153), (htx _ kp_M_name)⟩ ⟨xPre_blind, va_recv hK hP (ci := 5) rfl (q0 := 0) rfl, (fun U hU hW => ⟨rfl, xPre_of hZ hS hFc hP hD hK U hU hW⟩)⟩ rfl rfl hl.1 rfl (xm_room (Nat.le_of_ble_eq_true rfl)) dM_merged_110 ⟨hm0.1, hm0.2⟩) hS (fun q _ h => hFc q h) hFc (fun r17 u9 t H1 locs ht hvm hr9 hB hz1 hk1 hS => ?_)
                obtain ⟨hP1, hK1, hD1⟩ := hB
                rw [ht] at hP1
                have hP : va_P D xcl (xMw cT aM adL rd gdL vadL ws9 []) H1 := hP1
                have hD : va_D A (xMw cT aM adL rd gdL vadL ws9 []) := hD1.weaken (fun k q _ h => hFc q.1 h)
                generalize H1 = H at hP hS ⊢
                rw [hr9]
                refine W.eq (g2 := F0 m 113 ls [xv vadL o15, .ref aM]) (by first | rfl | (skip; rfl)) ?_
                refine xm_aload hx hb (xvor _ _) dM_merged_113 (lv_at hl 0 rfl) ?_
                obtain ⟨o18, hq19, hf⟩ := xbind hf
                obtain ⟨hg20, hf⟩ := xifn hf
                obtain ⟨hg21, hf⟩ := xifn hf
                obtain ⟨hm22, hf⟩ := xmoE hf
                have hFc := xm_free hD hS hA
                refine va_callv (va_runV (C := "ValueBenchModel") (As := [xv vadL o15, xv vadL o11]) (rest := []) ⟨hx, hb, hml, hown, htx⟩ (gM_wait l hl9 D cT aK aV H.size n aM adL rd gdL vadL ws9 o15 o11 o18 hq19) ⟨callB_of 2 htx (xw_goodC kw_6_112) rfl rfl rfl (htx _ kw_1_5) (htx _ kw_6_109) ⟨by decide, by decide, by decide +kernel⟩ ⟨Nat.le_of_ble_eq_true rfl, Nat.le_of_ble_eq_true rfl⟩, (htx _ kw_6_111), (htx _ kp_M_wait)⟩ ⟨xPre_blind, va_recv hK hP (ci := 5) rfl (q0 := 0) rfl, (fun U hU hW => ⟨rfl, xPre_of hZ hS hFc hP hD hK U hU hW⟩)⟩ rfl rfl hl.1 rfl (xm_room (Nat.le_of_ble_eq_true rfl)) dM_merged_115 ⟨hm22.1, hm22.2⟩) hS (fun q _ h => hFc q h) hFc (fun u9 t H1 locs ht hvm hr9 hB hz1 hk1 hS => ?_)
                obtain ⟨hP1, hK1, hD1⟩ := hB
                rw [ht] at hP1
                obtain ⟨ad24, gd25, vad26⟩ := u9
                obtain ⟨hv27, hn28⟩ := hr9
                have hP : va_P D xcl (xMw cT aM ad24 rd gd25 vad26 o18.2.2 []) H1 := hP1
                have hD : va_D A (xMw cT aM ad24 rd gd25 vad26 o18.2.2 []) := hD1.weaken (fun k q _ h => hFc q.1 h)
                generalize H1 = H at hP hS ⊢
                have hE9 : ∀ p, p < xct st → vad26 p = vad p := fun p h => (hv27 p (Nat.lt_of_lt_of_le h hN)).trans (hE p h)
                have hE := hE9
                have hN : xct st ≤ xct o18.2.2 := Nat.le_trans hN hn28
                have ev29 : xv vadL o11 = xv vad26 o11 := xvE hv27 hg20
                have ev30 : xv vadL y1 = xv vad26 y1 := xvE hv27 (fun h => hg1 (Or.inr h))
                have ev31 : xv vadL y2 = xv vad26 y2 := xvE hv27 hg21
                have hl : lv_has ls 8 [(6, xv vad26 o11), (7, xv vad26 o11), (5, .int o5), (4, .int y4), (3, .int y3), (0, .ref aM), (1, xv vad26 y1), (2, xv vad26 y2)] := by first | exact hl | ((try (rw [← ev29])); (try (rw [← ev30])); (try (rw [← ev31])); exact hl)
                refine W.eq (g2 := F0 m 118 ls []) (by first | rfl | ((try (rw [ev29])); (try (rw [ev30])); (try (rw [ev31])); rfl)) ?_
                refine lv_iinc (v := (y4 + 1)) (lv' := [(4, .int (y4 + 1)), (6, xv vad26 o11), (7, xv vad26 o11), (5, .int o5), (3, .int y3), (0, .ref aM), (1, xv vad26 y1), (2, xv vad26 y2)]) hx hb dM_merged_118 hl (k := 3) rfl rfl (by decide) rfl (fun ls hl => ?_)
                refine lv_goto (tgt := 8) hx hb dM_merged_121 (by decide) ?_
                exact ih (1, (y4 + 1), y3, y1, y2, o18.2.2, (wc + o18.1), (wn + o18.2.1)) _ _ ls (Or.inl ⟨ad24, gd25, vad26, rfl, hf, hP, hD, hS, lv_sub hl [0, 4, 5, 6, 7] rfl, hE, hN⟩)
              · rw [if_pos hc] at hf
                refine xm_aload hx hb (xvor _ _) dM_merged_64 (lv_at hl 0 rfl) ?_
                obtain ⟨hg15, hf⟩ := xifn hf
                refine xm_vget (v := .int ((xpi ws9 0) (o11 - 1))) hx hb htx hown hK hP 0 (by decide) hg15 rfl ((hZ.1 (93, "kind", "I") (List.mem_of_getElem? (i := 0) rfl)).use rfl) rfl dM_merged_66 ?_
                refine lv_bipush (v := 6) hx hb dM_merged_69 (by decide) ?_
                refine lv_icmp_ne (tgt := 101) hx hb dM_merged_71 (by decide) (fun hc => ?_) (fun hc => ?_)
                · rw [if_neg hc] at hf
                  refine xm_aload hx hb (xvor _ _) dM_merged_101 (lv_at hl 0 rfl) ?_
                  refine xm_astore (lv' := [(6, xv vadL o11), (7, xv vadL o11), (5, .int o5), (4, .int y4), (3, .int y3), (0, .ref aM), (1, xv vadL y1), (2, xv vadL y2)]) hx hb (xvor _ _) dM_merged_103 hl (by decide) rfl (fun ls hl => ?_)
                  refine lv_aload_n hx hb dM_merged_105 rfl (lv_at hl 5 rfl) ?_
                  refine lv_aload_n hx hb dM_merged_106 rfl (lv_at hl 5 rfl) ?_
                  refine xm_aload_n hx hb (xvor _ _) dM_merged_107 rfl (lv_at hl 6 rfl) ?_
                  refine lv_iload hx hb dM_merged_108 (lv_at hl 3 rfl) ?_
                  obtain ⟨o16, hq17, hf⟩ := xbind hf
                  have hFc := xm_free hD hS hA
                  refine va_callq (va_runV (C := "ValueBenchModel") (As := [xv vadL y1, .int y4]) (rest := [.ref aM]) ⟨hx, hb, hml, hown, htx⟩ (gM_name l hl9 D cT aK aV H.size n aM adL rd gdL vadL ws9 y1 y4 o16 hq17) ⟨callB_of 2 htx (xw_goodC kw_6_154) rfl rfl rfl (htx _ kw_1_5) (htx _ kw_6_151) ⟨by decide, by decide, by decide +kernel⟩ ⟨Nat.le_of_ble_eq_true rfl, Nat.le_of_ble_eq_true rfl⟩, (htx _ kw_6_153), (htx _ kp_M_name)⟩ ⟨xPre_blind, va_recv hK hP (ci := 5) rfl (q0 := 0) rfl, (fun U hU hW => ⟨rfl, xPre_of hZ hS hFc hP hD hK U hU hW⟩)⟩ rfl rfl hl.1 rfl (xm_room (Nat.le_of_ble_eq_true rfl)) dM_merged_110 ⟨hm0.1, hm0.2⟩) hS (fun q _ h => hFc q h) hFc (fun r18 u9 t H1 locs ht hvm hr9 hB hz1 hk1 hS => ?_)
                  obtain ⟨hP1, hK1, hD1⟩ := hB
                  rw [ht] at hP1
                  have hP : va_P D xcl (xMw cT aM adL rd gdL vadL ws9 []) H1 := hP1
                  have hD : va_D A (xMw cT aM adL rd gdL vadL ws9 []) := hD1.weaken (fun k q _ h => hFc q.1 h)
                  generalize H1 = H at hP hS ⊢
                  rw [hr9]
                  refine W.eq (g2 := F0 m 113 ls [xv vadL o16, .ref aM]) (by first | rfl | (skip; rfl)) ?_
                  refine xm_aload hx hb (xvor _ _) dM_merged_113 (lv_at hl 0 rfl) ?_
                  obtain ⟨o19, hq20, hf⟩ := xbind hf
                  obtain ⟨hg21, hf⟩ := xifn hf
                  obtain ⟨hm22, hf⟩ := xmoE hf
                  have hFc := xm_free hD hS hA
                  refine va_callv (va_runV (C := "ValueBenchModel") (As := [xv vadL o16, xv vadL o11]) (rest := []) ⟨hx, hb, hml, hown, htx⟩ (gM_wait l hl9 D cT aK aV H.size n aM adL rd gdL vadL ws9 o16 o11 o19 hq20) ⟨callB_of 2 htx (xw_goodC kw_6_112) rfl rfl rfl (htx _ kw_1_5) (htx _ kw_6_109) ⟨by decide, by decide, by decide +kernel⟩ ⟨Nat.le_of_ble_eq_true rfl, Nat.le_of_ble_eq_true rfl⟩, (htx _ kw_6_111), (htx _ kp_M_wait)⟩ ⟨xPre_blind, va_recv hK hP (ci := 5) rfl (q0 := 0) rfl, (fun U hU hW => ⟨rfl, xPre_of hZ hS hFc hP hD hK U hU hW⟩)⟩ rfl rfl hl.1 rfl (xm_room (Nat.le_of_ble_eq_true rfl)) dM_merged_115 ⟨hm22.1, hm22.2⟩) hS (fun q _ h => hFc q h) hFc (fun u9 t H1 locs ht hvm hr9 hB hz1 hk1 hS => ?_)
                  obtain ⟨hP1, hK1, hD1⟩ := hB
                  rw [ht] at hP1
                  obtain ⟨ad24, gd25, vad26⟩ := u9
                  obtain ⟨hv27, hn28⟩ := hr9
                  have hP : va_P D xcl (xMw cT aM ad24 rd gd25 vad26 o19.2.2 []) H1 := hP1
                  have hD : va_D A (xMw cT aM ad24 rd gd25 vad26 o19.2.2 []) := hD1.weaken (fun k q _ h => hFc q.1 h)
                  generalize H1 = H at hP hS ⊢
                  have hE9 : ∀ p, p < xct st → vad26 p = vad p := fun p h => (hv27 p (Nat.lt_of_lt_of_le h hN)).trans (hE p h)
                  have hE := hE9
                  have hN : xct st ≤ xct o19.2.2 := Nat.le_trans hN hn28
                  have ev29 : xv vadL o11 = xv vad26 o11 := xvE hv27 (fun h => hg15 (Or.inr h))
                  have ev30 : xv vadL y1 = xv vad26 y1 := xvE hv27 (fun h => hg1 (Or.inr h))
                  have ev31 : xv vadL y2 = xv vad26 y2 := xvE hv27 hg21
                  have hl : lv_has ls 8 [(6, xv vad26 o11), (7, xv vad26 o11), (5, .int o5), (4, .int y4), (3, .int y3), (0, .ref aM), (1, xv vad26 y1), (2, xv vad26 y2)] := by first | exact hl | ((try (rw [← ev29])); (try (rw [← ev30])); (try (rw [← ev31])); exact hl)
                  refine W.eq (g2 := F0 m 118 ls []) (by first | rfl | ((try (rw [ev29])); (try (rw [ev30])); (try (rw [ev31])); rfl)) ?_
                  refine lv_iinc (v := (y4 + 1)) (lv' := [(4, .int (y4 + 1)), (6, xv vad26 o11), (7, xv vad26 o11), (5, .int o5), (3, .int y3), (0, .ref aM), (1, xv vad26 y1), (2, xv vad26 y2)]) hx hb dM_merged_118 hl (k := 3) rfl rfl (by decide) rfl (fun ls hl => ?_)
                  refine lv_goto (tgt := 8) hx hb dM_merged_121 (by decide) ?_
                  exact ih (1, (y4 + 1), y3, y1, y2, o19.2.2, (wc + o19.1), (wn + o19.2.1)) _ _ ls (Or.inl ⟨ad24, gd25, vad26, rfl, hf, hP, hD, hS, lv_sub hl [0, 4, 5, 6, 7] rfl, hE, hN⟩)
                · rw [if_pos hc] at hf
                  refine lv_aload_n hx hb dM_merged_74 rfl (lv_at hl 5 rfl) ?_
                  refine xm_aload hx hb (xvor _ _) dM_merged_75 (lv_at hl 1 rfl) ?_
                  refine xm_aload hx hb (xvor _ _) dM_merged_77 (lv_at hl 0 rfl) ?_
                  obtain ⟨o16, hq17, hf⟩ := xbind hf
                  by_cases hk18 : o16.1 = 0
                  · rw [if_pos hk18] at hf
                    obtain ⟨hg19, hf⟩ := xifn hf
                    obtain ⟨hm20, hf⟩ := xmoE hf
                    have hFc := xm_free hD hS hA
                    refine va_callq (va_runV (C := "ValueBenchModel") (As := [xv vadL o8, xv vadL o11]) (rest := []) ⟨hx, hb, hml, hown, htx⟩ ((hrec H.size aM adL rd gdL vadL ws9 o8 o11 o16 hq17).1 hk18) ⟨callB_of 2 htx (xw_goodC kw_6_220) rfl rfl rfl (htx _ kw_1_5) (htx _ kw_6_217) ⟨by decide, by decide, by decide +kernel⟩ ⟨(by show (16 * d) + 1 ≤ 16 * (d + 1); omega), (by show 8 + (8 + 11) + (400 * d) ≤ 400 * (d + 1); omega)⟩, (htx _ kw_6_219), (htx _ kp_M_merged)⟩ ⟨xPre_blind, va_recv hK hP (ci := 5) rfl (q0 := 0) rfl, (fun U hU hW => ⟨rfl, xPre_of hZ hS hFc hP hD hK U hU hW⟩)⟩ rfl rfl hl.1 rfl (xm_room (Nat.le_of_ble_eq_true rfl)) dM_merged_79 ⟨hm20.1, hm20.2⟩) hS (fun q _ h => hFc q h) hFc (fun r21 u9 t H1 locs ht hvm hr9 hB hz1 hk1 hS => ?_)
                    obtain ⟨hP1, hK1, hD1⟩ := hB
                    rw [ht] at hP1
                    obtain ⟨ad22, gd23, vad24⟩ := u9
                    obtain ⟨hr9, hv25, hn26⟩ := hr9
                    have hP : va_P D xcl (xMw cT aM ad22 rd gd23 vad24 o16.2.2.2.2 []) H1 := hP1
                    have hD : va_D A (xMw cT aM ad22 rd gd23 vad24 o16.2.2.2.2 []) := hD1.weaken (fun k q _ h => hFc q.1 h)
                    generalize H1 = H at hP hS ⊢
                    have hE9 : ∀ p, p < xct st → vad24 p = vad p := fun p h => (hv25 p (Nat.lt_of_lt_of_le h hN)).trans (hE p h)
                    have hE := hE9
                    have hN : xct st ≤ xct o16.2.2.2.2 := Nat.le_trans hN hn26
                    have ev27 : xv vadL o11 = xv vad24 o11 := xvE hv25 (fun h => hg15 (Or.inr h))
                    have ev28 : xv vadL o8 = xv vad24 o8 := xvE hv25 (fun h => hg14 (Or.inr h))
                    have ev29 : xv vadL y1 = xv vad24 y1 := xvE hv25 (fun h => hg1 (Or.inr h))
                    have ev30 : xv vadL y2 = xv vad24 y2 := xvE hv25 hg19
                    have hl : lv_has ls 8 [(7, xv vad24 o11), (6, xv vad24 o8), (5, .int o5), (4, .int y4), (3, .int y3), (0, .ref aM), (1, xv vad24 y1), (2, xv vad24 y2)] := by first | exact hl | ((try (rw [← ev27])); (try (rw [← ev28])); (try (rw [← ev29])); (try (rw [← ev30])); exact hl)
                    rw [hr9]
                    refine W.eq (g2 := F0 m 82 ls [xv vad24 o16.2.2.2.1]) (by first | rfl | ((try (rw [ev27])); (try (rw [ev28])); (try (rw [ev29])); (try (rw [ev30])); rfl)) ?_
                    refine xm_astore (lv' := [(6, xv vad24 o16.2.2.2.1), (7, xv vad24 o11), (5, .int o5), (4, .int y4), (3, .int y3), (0, .ref aM), (1, xv vad24 y1), (2, xv vad24 y2)]) hx hb (xvor _ _) dM_merged_82 hl (by decide) rfl (fun ls hl => ?_)
                    refine lv_aload_n hx hb dM_merged_84 rfl (lv_at hl 5 rfl) ?_
                    refine lv_dup hx hb dM_merged_85 rfl ?_
                    refine xm_get (v := .int (xsi o16.2.2.2.2 9)) hx hb htx hown hK hP 9 (by decide) rfl (htx _ kw_5_96) rfl dM_merged_86 ?_
                    refine xm_aload hx hb (xvor _ _) dM_merged_89 (lv_at hl 0 rfl) ?_
                    obtain ⟨hg31, hf⟩ := xifn hf
                    refine xm_vget (v := .int ((xpi o16.2.2.2.2 3) (o16.2.2.2.1 - 1))) hx hb htx hown hK hP 3 (by decide) hg31 rfl ((hZ.1 (103, "count", "I") (List.mem_of_getElem? (i := 3) rfl)).use rfl) rfl dM_merged_91 ?_
                    refine lv_iadd hx hb dM_merged_94 ?_
                    refine xm_put (v := .int ((xsi o16.2.2.2.2 9) + ((xpi o16.2.2.2.2 3) (o16.2.2.2.1 - 1)))) (W' := (xMw cT aM ad22 rd gd23 vad24 (xsI o16.2.2.2.2 9 ((xsi o16.2.2.2.2 9) + ((xpi o16.2.2.2.2 3) (o16.2.2.2.1 - 1)))) [])) (ty := .int) hx hb htx hown hK hP hD hS 9 (by decide) rfl (htx _ kw_5_96) rfl rfl (by decide +kernel) rfl rfl dM_merged_95 (fun H locs hP hD hS => ?_)
                    refine lv_goto (tgt := 105) hx hb dM_merged_98 (by decide) ?_
                    refine lv_aload_n hx hb dM_merged_105 rfl (lv_at hl 5 rfl) ?_
                    refine lv_aload_n hx hb dM_merged_106 rfl (lv_at hl 5 rfl) ?_
                    refine xm_aload_n hx hb (xvor _ _) dM_merged_107 rfl (lv_at hl 6 rfl) ?_
                    refine lv_iload hx hb dM_merged_108 (lv_at hl 3 rfl) ?_
                    obtain ⟨o32, hq33, hf⟩ := xbind hf
                    have hFc := xm_free hD hS hA
                    refine va_callq (va_runV (C := "ValueBenchModel") (As := [xv vad24 y1, .int y4]) (rest := [.ref aM]) ⟨hx, hb, hml, hown, htx⟩ (gM_name l hl9 D cT aK aV H.size n aM ad22 rd gd23 vad24 (xsI o16.2.2.2.2 9 ((xsi o16.2.2.2.2 9) + ((xpi o16.2.2.2.2 3) (o16.2.2.2.1 - 1)))) y1 y4 o32 hq33) ⟨callB_of 2 htx (xw_goodC kw_6_154) rfl rfl rfl (htx _ kw_1_5) (htx _ kw_6_151) ⟨by decide, by decide, by decide +kernel⟩ ⟨Nat.le_of_ble_eq_true rfl, Nat.le_of_ble_eq_true rfl⟩, (htx _ kw_6_153), (htx _ kp_M_name)⟩ ⟨xPre_blind, va_recv hK hP (ci := 5) rfl (q0 := 0) rfl, (fun U hU hW => ⟨rfl, xPre_of hZ hS hFc hP hD hK U hU hW⟩)⟩ rfl rfl hl.1 rfl (xm_room (Nat.le_of_ble_eq_true rfl)) dM_merged_110 ⟨hm20.1, hm20.2⟩) hS (fun q _ h => hFc q h) hFc (fun r34 u9 t H1 locs ht hvm hr9 hB hz1 hk1 hS => ?_)
                    obtain ⟨hP1, hK1, hD1⟩ := hB
                    rw [ht] at hP1
                    have hP : va_P D xcl (xMw cT aM ad22 rd gd23 vad24 (xsI o16.2.2.2.2 9 ((xsi o16.2.2.2.2 9) + ((xpi o16.2.2.2.2 3) (o16.2.2.2.1 - 1)))) []) H1 := hP1
                    have hD : va_D A (xMw cT aM ad22 rd gd23 vad24 (xsI o16.2.2.2.2 9 ((xsi o16.2.2.2.2 9) + ((xpi o16.2.2.2.2 3) (o16.2.2.2.1 - 1)))) []) := hD1.weaken (fun k q _ h => hFc q.1 h)
                    generalize H1 = H at hP hS ⊢
                    rw [hr9]
                    refine W.eq (g2 := F0 m 113 ls [xv vad24 o32, .ref aM]) (by first | rfl | (skip; rfl)) ?_
                    refine xm_aload hx hb (xvor _ _) dM_merged_113 (lv_at hl 0 rfl) ?_
                    obtain ⟨o35, hq36, hf⟩ := xbind hf
                    obtain ⟨hg37, hf⟩ := xifn hf
                    obtain ⟨hg38, hf⟩ := xifn hf
                    obtain ⟨hg39, hf⟩ := xifn hf
                    obtain ⟨hm40, hf⟩ := xmoE hf
                    have hFc := xm_free hD hS hA
                    refine va_callv (va_runV (C := "ValueBenchModel") (As := [xv vad24 o32, xv vad24 o16.2.2.2.1]) (rest := []) ⟨hx, hb, hml, hown, htx⟩ (gM_wait l hl9 D cT aK aV H.size n aM ad22 rd gd23 vad24 (xsI o16.2.2.2.2 9 ((xsi o16.2.2.2.2 9) + ((xpi o16.2.2.2.2 3) (o16.2.2.2.1 - 1)))) o32 o16.2.2.2.1 o35 hq36) ⟨callB_of 2 htx (xw_goodC kw_6_112) rfl rfl rfl (htx _ kw_1_5) (htx _ kw_6_109) ⟨by decide, by decide, by decide +kernel⟩ ⟨Nat.le_of_ble_eq_true rfl, Nat.le_of_ble_eq_true rfl⟩, (htx _ kw_6_111), (htx _ kp_M_wait)⟩ ⟨xPre_blind, va_recv hK hP (ci := 5) rfl (q0 := 0) rfl, (fun U hU hW => ⟨rfl, xPre_of hZ hS hFc hP hD hK U hU hW⟩)⟩ rfl rfl hl.1 rfl (xm_room (Nat.le_of_ble_eq_true rfl)) dM_merged_115 ⟨hm40.1, hm40.2⟩) hS (fun q _ h => hFc q h) hFc (fun u9 t H1 locs ht hvm hr9 hB hz1 hk1 hS => ?_)
                    obtain ⟨hP1, hK1, hD1⟩ := hB
                    rw [ht] at hP1
                    obtain ⟨ad42, gd43, vad44⟩ := u9
                    obtain ⟨hv45, hn46⟩ := hr9
                    have hP : va_P D xcl (xMw cT aM ad42 rd gd43 vad44 o35.2.2 []) H1 := hP1
                    have hD : va_D A (xMw cT aM ad42 rd gd43 vad44 o35.2.2 []) := hD1.weaken (fun k q _ h => hFc q.1 h)
                    generalize H1 = H at hP hS ⊢
                    have hE9 : ∀ p, p < xct st → vad44 p = vad p := fun p h => (hv45 p (Nat.lt_of_lt_of_le h hN)).trans (hE p h)
                    have hE := hE9
                    have hN : xct st ≤ xct o35.2.2 := Nat.le_trans hN hn46
                    have ev47 : xv vad24 o16.2.2.2.1 = xv vad44 o16.2.2.2.1 := xvE hv45 (fun h => hg31 (Or.inr h))
                    have ev48 : xv vad24 o11 = xv vad44 o11 := xvE hv45 hg37
                    have ev49 : xv vad24 y1 = xv vad44 y1 := xvE hv45 hg38
                    have ev50 : xv vad24 y2 = xv vad44 y2 := xvE hv45 hg39
                    have hl : lv_has ls 8 [(6, xv vad44 o16.2.2.2.1), (7, xv vad44 o11), (5, .int o5), (4, .int y4), (3, .int y3), (0, .ref aM), (1, xv vad44 y1), (2, xv vad44 y2)] := by first | exact hl | ((try (rw [← ev47])); (try (rw [← ev48])); (try (rw [← ev49])); (try (rw [← ev50])); exact hl)
                    refine W.eq (g2 := F0 m 118 ls []) (by first | rfl | ((try (rw [ev47])); (try (rw [ev48])); (try (rw [ev49])); (try (rw [ev50])); rfl)) ?_
                    refine lv_iinc (v := (y4 + 1)) (lv' := [(4, .int (y4 + 1)), (6, xv vad44 o16.2.2.2.1), (7, xv vad44 o11), (5, .int o5), (3, .int y3), (0, .ref aM), (1, xv vad44 y1), (2, xv vad44 y2)]) hx hb dM_merged_118 hl (k := 3) rfl rfl (by decide) rfl (fun ls hl => ?_)
                    refine lv_goto (tgt := 8) hx hb dM_merged_121 (by decide) ?_
                    exact ih (1, (y4 + 1), y3, y1, y2, o35.2.2, ((wc + o16.2.1) + o35.1), ((wn + o16.2.2.1) + o35.2.1)) _ _ ls (Or.inl ⟨ad42, gd43, vad44, rfl, hf, hP, hD, hS, lv_sub hl [0, 4, 5, 6, 7] rfl, hE, hN⟩)
                  rw [if_neg hk18] at hf
                  by_cases hk51 : o16.1 = 1
                  · rw [if_pos hk51] at hf
                    obtain ⟨hg52, hf⟩ := xifn hf
                    obtain ⟨hm53, hf⟩ := xmoE hf
                    obtain rfl := Option.some.inj hf
                    exact absurd (show (1 : Nat) = 0 from hkd) (by decide)
                  rw [if_neg hk51] at hf
                  exact nomatch hf
        · subst hj
          have hf : fM_merged_b rec (n + 1) 2 y4 y3 y1 y2 ws9 wc wn = some out := hf
          rw [fM_merged_b, if_neg (by decide)] at hf
          obtain ⟨hP, hD⟩ : xPD D xcl A (xMw cT aM adL rd gdL vadL ws9 []) H := ⟨hP, hD⟩
          have hl : lv_has ls 8 [(4, .int y4), (3, .int y3), (0, .ref aM), (1, xv vadL y1), (2, xv vadL y2)] := hl
          refine W.eq (g2 := F0 m 127 ls []) rfl ?_
          show W p l e _ s m _ below meth c H locs wc wn _ _
          obtain ⟨hm0, hf⟩ := xmoE hf
          refine lv_iload hx hb dM_merged_127 (lv_at hl 0 rfl) ?_
          refine xm_aload_n hx hb (xvor _ _) dM_merged_129 rfl (lv_at hl 4 rfl) ?_
          obtain ⟨hg1, hf⟩ := xifn hf
          refine xm_vget (v := .int ((xpi ws9 3) (y2 - 1))) hx hb htx hown hK hP 3 (by decide) hg1 rfl ((hZ.1 (103, "count", "I") (List.mem_of_getElem? (i := 3) rfl)).use rfl) rfl dM_merged_130 ?_
          refine lv_icmp_ge (tgt := 175) hx hb dM_merged_133 (by decide) (fun hc => ?_) (fun hc => ?_)
          · rw [if_pos hc] at hf
            refine lv_aload_n hx hb dM_merged_175 rfl (lv_at hl 2 rfl) ?_
            refine lv_bipush (v := 6) hx hb dM_merged_176 (by decide) ?_
            refine lv_iload_n hx hb dM_merged_178 rfl (lv_at hl 1 rfl) ?_
            obtain ⟨o2, hq3, hf⟩ := xbind hf
            have hl := lv_sub (l' := [(4, .int y4), (3, .int y3), (0, .ref aM)]) hl [0, 1, 2] rfl
            by_cases hk4 : o2.1 = 0
            · rw [if_pos hk4] at hf
              obtain ⟨hm5, hf⟩ := xmoE hf
              have hFc := xm_free hD hS hA
              refine va_callq (va_runV (C := "ValueBenchModel") (As := [.int 6, .int y3]) (rest := []) ⟨hx, hb, hml, hown, htx⟩ (gM_whole l hl9 D cT aK aV H.size n aM adL rd gdL vadL ws9 (6 : Int32) y3 o2 hq3 hk4) ⟨callB_of 2 htx (xw_goodC kw_6_106) rfl rfl rfl (htx _ kw_1_5) (htx _ kw_6_103) ⟨by decide, by decide, by decide +kernel⟩ ⟨Nat.le_of_ble_eq_true rfl, Nat.le_of_ble_eq_true rfl⟩, (htx _ kw_6_105), (htx _ kp_M_whole)⟩ ⟨xPre_blind, va_recv hK hP (ci := 5) rfl (q0 := 0) rfl, (fun U hU hW => ⟨rfl, xPre_of hZ hS hFc hP hD hK U hU hW⟩)⟩ rfl rfl hl.1 rfl (xm_room (Nat.le_of_ble_eq_true rfl)) dM_merged_179 ⟨hm5.1, hm5.2⟩) hS (fun q _ h => hFc q h) hFc (fun r6 u9 t H1 locs ht hvm hr9 hB hz1 hk1 hS => ?_)
              obtain ⟨hP1, hK1, hD1⟩ := hB
              rw [ht] at hP1
              obtain ⟨ad7, gd8, vad9⟩ := u9
              obtain ⟨hr9, hv10, hn11⟩ := hr9
              have hP : va_P D xcl (xMw cT aM ad7 rd gd8 vad9 o2.2.2.2.2 []) H1 := hP1
              have hD : va_D A (xMw cT aM ad7 rd gd8 vad9 o2.2.2.2.2 []) := hD1.weaken (fun k q _ h => hFc q.1 h)
              generalize H1 = H at hP hS ⊢
              have hE9 : ∀ p, p < xct st → vad9 p = vad p := fun p h => (hv10 p (Nat.lt_of_lt_of_le h hN)).trans (hE p h)
              have hE := hE9
              have hN : xct st ≤ xct o2.2.2.2.2 := Nat.le_trans hN hn11
              rw [hr9]
              refine W.eq (g2 := F0 m 182 ls [xv vad9 o2.2.2.2.1]) (by first | rfl | (skip; rfl)) ?_
              obtain rfl := Option.some.inj hf
              exact W.aret (v := xv vad9 o2.2.2.2.1) hx hb hr (Or.inl ⟨_, rfl⟩) (xvor _ _) (fun t ht hW => ⟨⟨xca vad9 o2.2.2.2.1, (ad7, gd8, vad9), rfl, ⟨rfl, hE, hN⟩, by rw [ht]; exact hP, va_K.moved hW.alike hK, hD⟩, hS.F ht⟩) hS.2.2 dM_merged_182
            rw [if_neg hk4] at hf
            by_cases hk12 : o2.1 = 1
            · rw [if_pos hk12] at hf
              obtain ⟨hm13, hf⟩ := xmoE hf
              obtain rfl := Option.some.inj hf
              exact absurd (show (1 : Nat) = 0 from hkd) (by decide)
            rw [if_neg hk12] at hf
            exact nomatch hf
          · rw [if_neg hc] at hf
            refine lv_aload_n hx hb dM_merged_136 rfl (lv_at hl 2 rfl) ?_
            refine xm_aload_n hx hb (xvor _ _) dM_merged_137 rfl (lv_at hl 3 rfl) ?_
            refine lv_aload_n hx hb dM_merged_138 rfl (lv_at hl 2 rfl) ?_
            refine xm_aload_n hx hb (xvor _ _) dM_merged_139 rfl (lv_at hl 4 rfl) ?_
            refine lv_iload hx hb dM_merged_140 (lv_at hl 0 rfl) ?_
            obtain ⟨o2, hq3, hf⟩ := xbind hf
            have hFc := xm_free hD hS hA
            refine va_callq (va_runV (C := "ValueBenchModel") (As := [xv vadL y2, .int y4]) (rest := [xv vadL y1, .ref aM]) ⟨hx, hb, hml, hown, htx⟩ (gM_name l hl9 D cT aK aV H.size n aM adL rd gdL vadL ws9 y2 y4 o2 hq3) ⟨callB_of 2 htx (xw_goodC kw_6_154) rfl rfl rfl (htx _ kw_1_5) (htx _ kw_6_151) ⟨by decide, by decide, by decide +kernel⟩ ⟨Nat.le_of_ble_eq_true rfl, Nat.le_of_ble_eq_true rfl⟩, (htx _ kw_6_153), (htx _ kp_M_name)⟩ ⟨xPre_blind, va_recv hK hP (ci := 5) rfl (q0 := 0) rfl, (fun U hU hW => ⟨rfl, xPre_of hZ hS hFc hP hD hK U hU hW⟩)⟩ rfl rfl hl.1 rfl (xm_room (by simp [xvcat, xrscat, xcI, xcL, xcR, xcN])) dM_merged_142 ⟨hm0.1, hm0.2⟩) hS (fun q _ h => hFc q h) hFc (fun r4 u9 t H1 locs ht hvm hr9 hB hz1 hk1 hS => ?_)
            obtain ⟨hP1, hK1, hD1⟩ := hB
            rw [ht] at hP1
            have hP : va_P D xcl (xMw cT aM adL rd gdL vadL ws9 []) H1 := hP1
            have hD : va_D A (xMw cT aM adL rd gdL vadL ws9 []) := hD1.weaken (fun k q _ h => hFc q.1 h)
            generalize H1 = H at hP hS ⊢
            rw [hr9]
            refine W.eq (g2 := F0 m 145 ls [xv vadL o2, xv vadL y1, .ref aM]) (by first | rfl | (skip; rfl)) ?_
            obtain ⟨o5, hq6, hf⟩ := xbind hf
            have hFc := xm_free hD hS hA
            refine va_calli (va_runV (C := "ValueBenchModel") (As := [xv vadL y1, xv vadL o2]) (rest := []) ⟨hx, hb, hml, hown, htx⟩ (gM_place l hl9 D cT aK aV H.size n aM adL rd gdL vadL ws9 y1 o2 o5 hq6) ⟨callB_of 2 htx (xw_goodC kw_6_178) rfl rfl rfl (htx _ kw_1_5) (htx _ kw_6_175) ⟨by decide, by decide, by decide +kernel⟩ ⟨Nat.le_of_ble_eq_true rfl, Nat.le_of_ble_eq_true rfl⟩, (htx _ kw_6_177), (htx _ kp_M_place)⟩ ⟨xPre_blind, va_recv hK hP (ci := 5) rfl (q0 := 0) rfl, (fun U hU hW => ⟨rfl, xPre_of hZ hS hFc hP hD hK U hU hW⟩)⟩ rfl rfl hl.1 rfl (xm_room (Nat.le_of_ble_eq_true rfl)) dM_merged_145 ⟨hm0.1, hm0.2⟩) hS (fun q _ h => hFc q h) hFc (fun r7 u9 t H1 locs ht hvm hr9 hB hz1 hk1 hS => ?_)
            obtain ⟨hP1, hK1, hD1⟩ := hB
            rw [ht] at hP1
            have hP : va_P D xcl (xMw cT aM adL rd gdL vadL ws9 []) H1 := hP1
            have hD : va_D A (xMw cT aM adL rd gdL vadL ws9 []) := hD1.weaken (fun k q _ h => hFc q.1 h)
            generalize H1 = H at hP hS ⊢
            rw [hr9]
            refine W.eq (g2 := F0 m 148 ls [.int o5]) (by first | rfl | (skip; rfl)) ?_
            refine lv_if_ge (tgt := 169) hx hb dM_merged_148 (by decide) (fun hc => ?_) (fun hc => ?_)
            · rw [if_pos hc] at hf
              refine lv_iinc (v := (y4 + 1)) (lv' := [(4, .int (y4 + 1)), (3, .int y3), (0, .ref aM), (1, xv vadL y1), (2, xv vadL y2)]) hx hb dM_merged_169 hl (k := 0) rfl rfl (by decide) rfl (fun ls hl => ?_)
              refine lv_goto (tgt := 127) hx hb dM_merged_172 (by decide) ?_
              exact ih (2, (y4 + 1), y3, y1, y2, ws9, wc, wn) _ _ ls (Or.inr (⟨adL, gdL, vadL, rfl, hf, hP, hD, hS, lv_sub hl [0, 1, 2, 3, 4] rfl, hE, hN⟩))
            · rw [if_neg hc] at hf
              refine lv_aload_n hx hb dM_merged_151 rfl (lv_at hl 2 rfl) ?_
              refine lv_aload_n hx hb dM_merged_152 rfl (lv_at hl 2 rfl) ?_
              refine xm_aload_n hx hb (xvor _ _) dM_merged_153 rfl (lv_at hl 4 rfl) ?_
              refine lv_iload hx hb dM_merged_154 (lv_at hl 0 rfl) ?_
              obtain ⟨o8, hq9, hf⟩ := xbind hf
              have hFc := xm_free hD hS hA
              refine va_callq (va_runV (C := "ValueBenchModel") (As := [xv vadL y2, .int y4]) (rest := [.ref aM]) ⟨hx, hb, hml, hown, htx⟩ (gM_name l hl9 D cT aK aV H.size n aM adL rd gdL vadL ws9 y2 y4 o8 hq9) ⟨callB_of 2 htx (xw_goodC kw_6_154) rfl rfl rfl (htx _ kw_1_5) (htx _ kw_6_151) ⟨by decide, by decide, by decide +kernel⟩ ⟨Nat.le_of_ble_eq_true rfl, Nat.le_of_ble_eq_true rfl⟩, (htx _ kw_6_153), (htx _ kp_M_name)⟩ ⟨xPre_blind, va_recv hK hP (ci := 5) rfl (q0 := 0) rfl, (fun U hU hW => ⟨rfl, xPre_of hZ hS hFc hP hD hK U hU hW⟩)⟩ rfl rfl hl.1 rfl (xm_room (Nat.le_of_ble_eq_true rfl)) dM_merged_156 ⟨hm0.1, hm0.2⟩) hS (fun q _ h => hFc q h) hFc (fun r10 u9 t H1 locs ht hvm hr9 hB hz1 hk1 hS => ?_)
              obtain ⟨hP1, hK1, hD1⟩ := hB
              rw [ht] at hP1
              have hP : va_P D xcl (xMw cT aM adL rd gdL vadL ws9 []) H1 := hP1
              have hD : va_D A (xMw cT aM adL rd gdL vadL ws9 []) := hD1.weaken (fun k q _ h => hFc q.1 h)
              generalize H1 = H at hP hS ⊢
              rw [hr9]
              refine W.eq (g2 := F0 m 159 ls [xv vadL o8, .ref aM]) (by first | rfl | (skip; rfl)) ?_
              refine lv_aload_n hx hb dM_merged_159 rfl (lv_at hl 2 rfl) ?_
              refine xm_aload_n hx hb (xvor _ _) dM_merged_160 rfl (lv_at hl 4 rfl) ?_
              refine lv_iload hx hb dM_merged_161 (lv_at hl 0 rfl) ?_
              obtain ⟨o11, hq12, hf⟩ := xbind hf
              have hFc := xm_free hD hS hA
              refine va_callq (va_runV (C := "ValueBenchModel") (As := [xv vadL y2, .int y4]) (rest := [xv vadL o8, .ref aM]) ⟨hx, hb, hml, hown, htx⟩ (gM_kid l hl9 D cT aK aV H.size n aM adL rd gdL vadL ws9 y2 y4 o11 hq12) ⟨callB_of 2 htx (xw_goodC kw_6_158) rfl rfl rfl (htx _ kw_1_5) (htx _ kw_6_155) ⟨by decide, by decide, by decide +kernel⟩ ⟨Nat.le_of_ble_eq_true rfl, Nat.le_of_ble_eq_true rfl⟩, (htx _ kw_6_157), (htx _ kp_M_kid)⟩ ⟨xPre_blind, va_recv hK hP (ci := 5) rfl (q0 := 0) rfl, (fun U hU hW => ⟨rfl, xPre_of hZ hS hFc hP hD hK U hU hW⟩)⟩ rfl rfl hl.1 rfl (xm_room (by simp [xvcat, xrscat, xcI, xcL, xcR, xcN])) dM_merged_163 ⟨hm0.1, hm0.2⟩) hS (fun q _ h => hFc q h) hFc (fun r13 u9 t H1 locs ht hvm hr9 hB hz1 hk1 hS => ?_)
              obtain ⟨hP1, hK1, hD1⟩ := hB
              rw [ht] at hP1
              have hP : va_P D xcl (xMw cT aM adL rd gdL vadL ws9 []) H1 := hP1
              have hD : va_D A (xMw cT aM adL rd gdL vadL ws9 []) := hD1.weaken (fun k q _ h => hFc q.1 h)
              generalize H1 = H at hP hS ⊢
              rw [hr9]
              refine W.eq (g2 := F0 m 166 ls [xv vadL o11, xv vadL o8, .ref aM]) (by first | rfl | (skip; rfl)) ?_
              obtain ⟨o14, hq15, hf⟩ := xbind hf
              obtain ⟨hg16, hf⟩ := xifn hf
              obtain ⟨hm17, hf⟩ := xmoE hf
              have hFc := xm_free hD hS hA
              refine va_callv (va_runV (C := "ValueBenchModel") (As := [xv vadL o8, xv vadL o11]) (rest := []) ⟨hx, hb, hml, hown, htx⟩ (gM_wait l hl9 D cT aK aV H.size n aM adL rd gdL vadL ws9 o8 o11 o14 hq15) ⟨callB_of 2 htx (xw_goodC kw_6_112) rfl rfl rfl (htx _ kw_1_5) (htx _ kw_6_109) ⟨by decide, by decide, by decide +kernel⟩ ⟨Nat.le_of_ble_eq_true rfl, Nat.le_of_ble_eq_true rfl⟩, (htx _ kw_6_111), (htx _ kp_M_wait)⟩ ⟨xPre_blind, va_recv hK hP (ci := 5) rfl (q0 := 0) rfl, (fun U hU hW => ⟨rfl, xPre_of hZ hS hFc hP hD hK U hU hW⟩)⟩ rfl rfl hl.1 rfl (xm_room (Nat.le_of_ble_eq_true rfl)) dM_merged_166 ⟨hm17.1, hm17.2⟩) hS (fun q _ h => hFc q h) hFc (fun u9 t H1 locs ht hvm hr9 hB hz1 hk1 hS => ?_)
              obtain ⟨hP1, hK1, hD1⟩ := hB
              rw [ht] at hP1
              obtain ⟨ad19, gd20, vad21⟩ := u9
              obtain ⟨hv22, hn23⟩ := hr9
              have hP : va_P D xcl (xMw cT aM ad19 rd gd20 vad21 o14.2.2 []) H1 := hP1
              have hD : va_D A (xMw cT aM ad19 rd gd20 vad21 o14.2.2 []) := hD1.weaken (fun k q _ h => hFc q.1 h)
              generalize H1 = H at hP hS ⊢
              have hE9 : ∀ p, p < xct st → vad21 p = vad p := fun p h => (hv22 p (Nat.lt_of_lt_of_le h hN)).trans (hE p h)
              have hE := hE9
              have hN : xct st ≤ xct o14.2.2 := Nat.le_trans hN hn23
              have ev24 : xv vadL y1 = xv vad21 y1 := xvE hv22 hg16
              have ev25 : xv vadL y2 = xv vad21 y2 := xvE hv22 (fun h => hg1 (Or.inr h))
              have hl : lv_has ls 8 [(4, .int y4), (3, .int y3), (0, .ref aM), (1, xv vad21 y1), (2, xv vad21 y2)] := by first | exact hl | ((try (rw [← ev24])); (try (rw [← ev25])); exact hl)
              refine W.eq (g2 := F0 m 169 ls []) (by first | rfl | ((try (rw [ev24])); (try (rw [ev25])); rfl)) ?_
              refine lv_iinc (v := (y4 + 1)) (lv' := [(4, .int (y4 + 1)), (3, .int y3), (0, .ref aM), (1, xv vad21 y1), (2, xv vad21 y2)]) hx hb dM_merged_169 hl (k := 0) rfl rfl (by decide) rfl (fun ls hl => ?_)
              refine lv_goto (tgt := 127) hx hb dM_merged_172 (by decide) ?_
              exact ih (2, (y4 + 1), y3, y1, y2, o14.2.2, (wc + o14.1), (wn + o14.2.1)) _ _ ls (Or.inr (⟨ad19, gd20, vad21, rfl, hf, hP, hD, hS, lv_sub hl [0, 1, 2, 3, 4] rfl, hE, hN⟩))
      refine lv_aload_n hx hb dM_merged_0 rfl (lv_at hl 0 rfl) ?_
      refine xm_get (v := .int (xsi st 12)) hx hb htx hown hK hP 12 (by decide) rfl (htx _ kw_5_99) rfl dM_merged_1 ?_
      refine lv_istore_n (lv' := [(3, .int (xsi st 12)), (0, .ref aM), (1, xv vad c0), (2, xv vad c1)]) hx hb dM_merged_4 rfl hl (by decide) (by simp only [List.filter, xvcat, xrscat, xcI, xcL, xcR, xcN]; rfl) (fun ls hl => ?_)
      refine lv_iconst (v := 0) hx hb dM_merged_5 (by decide) ?_
      refine lv_istore (lv' := [(4, .int 0), (3, .int (xsi st 12)), (0, .ref aM), (1, xv vad c0), (2, xv vad c1)]) hx hb dM_merged_6 hl (by decide) rfl (fun ls hl => ?_)
      exact key n (1, (0 : Int32), (xsi st 12), c0, c1, st, 0, 0) _ _ ls (Or.inl ⟨ad, gd, vad, rfl, hf, hP, hD, hS, lv_sub hl [0, 1, 2, 3, 4] rfl, hE, hN⟩)
    · refine vx_ofW (cc := prog_13_method_52_code) (maxL := 8) (ret := (some (.object "ValueBenchModel$V"))) (by decide) rfl ?_
      intro p e s m args below meth c s₁ B hml hne hv
      obtain ⟨rfl, hsz, hZ, hP, hK, hD0⟩ := hv
      have hx := B.exec
      have hb := B.bytes
      have hr := B.returns
      have hts := atoms_spec (ws := wyM_merged) B.pre
      have htx := fun w h => hts w (List.mem_cons_of_mem _ h)
      have hown : s.vm.findClass "ValueBenchModel" = some m.cls := findClass_of_methodNamed B.named
      have hlocks := B.notSynchronized
      subst hsz
      have hD := hD0.self (sz := s.heap.size)
      generalize hAe : va_A (xMw cT aM ad rd gd vad st []) s.heap.size = A at hD hZ ⊢
      have hA : ∀ q : Nat, s.heap.size ≤ q → A q := fun q h => by rw [← hAe]; exact Or.inr h
      have hS : va_S A s.heap s.heap [] := va_S.rf
      have hl := lv_entry ([.ref aM, xv vad c0, xv vad c1]) (n := 8) (by simp [lg_sl, xvcat, xrscat, xcI, xcL, xcR, xcN])
      rw [show lv_args 0 [.ref aM, xv vad c0, xv vad c1] = [(0, .ref aM), (1, xv vad c0), (2, xv vad c1)] from by simp [lv_args, xvcat, xrscat, xcI, xcL, xcR, xcN]] at hl
      rw [lg_entry_eq]
      generalize (lg_sl ([.ref aM, xv vad c0, xv vad c1]) ++ List.replicate (8 - (lg_sl ([.ref aM, xv vad c0, xv vad c1])).length) Slot.unset).toArray = ls at hl ⊢
      have hl : lv_has ls 8 [(0, .ref aM), (1, xv vad c0), (2, xv vad c1)] := hl
      have hE : ∀ p, p < xct st → vad p = vad p := fun _ _ => rfl
      have hN : xct st ≤ xct st := Nat.le_refl _
      refine xloopM (σ := Nat × Int32 × Int32 × Nat × Nat × xS × Nat × Nat) (fun n x H locs ls => (∃ (adL gdL vadL : Nat → Nat), x.1 = 1 ∧ fM_merged_b rec n x.1 x.2.1 x.2.2.1 x.2.2.2.1 x.2.2.2.2.1 x.2.2.2.2.2.1 x.2.2.2.2.2.2.1 x.2.2.2.2.2.2.2 = some out ∧ va_P D xcl (xMw cT aM adL rd gdL vadL x.2.2.2.2.2.1 []) H ∧ va_D A (xMw cT aM adL rd gdL vadL x.2.2.2.2.2.1 []) ∧ va_S A s.heap H locs ∧ lv_has ls 8 [(4, .int x.2.1), (3, .int x.2.2.1), (0, .ref aM), (1, xv vadL x.2.2.2.1), (2, xv vadL x.2.2.2.2.1)] ∧ (∀ p, p < xct st → vadL p = vad p) ∧ xct st ≤ xct x.2.2.2.2.2.1) ∨ (∃ (adL gdL vadL : Nat → Nat), x.1 = 2 ∧ fM_merged_b rec n x.1 x.2.1 x.2.2.1 x.2.2.2.1 x.2.2.2.2.1 x.2.2.2.2.2.1 x.2.2.2.2.2.2.1 x.2.2.2.2.2.2.2 = some out ∧ va_P D xcl (xMw cT aM adL rd gdL vadL x.2.2.2.2.2.1 []) H ∧ va_D A (xMw cT aM adL rd gdL vadL x.2.2.2.2.2.1 []) ∧ va_S A s.heap H locs ∧ lv_has ls 8 [(4, .int x.2.1), (3, .int x.2.2.1), (0, .ref aM), (1, xv vadL x.2.2.2.1), (2, xv vadL x.2.2.2.2.1)] ∧ (∀ p, p < xct st → vadL p = vad p) ∧ xct st ≤ xct x.2.2.2.2.2.1)) (fun x => if x.1 = 1 then 8 else 127) (fun x => x.2.2.2.2.2.2.1) (fun x => x.2.2.2.2.2.2.2) (fun x H locs ls h => by rcases h with h | h; (obtain ⟨_, _, _, h⟩ := h; exact absurd h.2.1 (by rw [fM_merged_b]; exact fun h => nomatch h)); (obtain ⟨_, _, _, h⟩ := h; exact absurd h.2.1 (by rw [fM_merged_b]; exact fun h => nomatch h))) (fun n ih x H locs ls hv => ?_) (fun key => ?_)
      · obtain ⟨lb, y4, y3, y1, y2, ws9, wc, wn⟩ := x
        rcases hv with ⟨adL, gdL, vadL, hj, hf, hP, hD, hS, hl, hE, hN⟩ | ⟨adL, gdL, vadL, hj, hf, hP, hD, hS, hl, hE, hN⟩
        · subst hj
          have hf : fM_merged_b rec (n + 1) 1 y4 y3 y1 y2 ws9 wc wn = some out := hf
          rw [fM_merged_b, if_pos rfl] at hf
          obtain ⟨hP, hD⟩ : xPD D xcl A (xMw cT aM adL rd gdL vadL ws9 []) H := ⟨hP, hD⟩
          have hl : lv_has ls 8 [(4, .int y4), (3, .int y3), (0, .ref aM), (1, xv vadL y1), (2, xv vadL y2)] := hl
          refine W.eq (g2 := F0 m 8 ls []) rfl ?_
          show W p l e _ s m _ below meth c H locs wc wn _ _
          obtain ⟨hm0, hf⟩ := xmoE hf
          refine lv_iload hx hb dM_merged_8 (lv_at hl 0 rfl) ?_
          refine xm_aload_n hx hb (xvor _ _) dM_merged_10 rfl (lv_at hl 3 rfl) ?_
          obtain ⟨hg1, hf⟩ := xifn hf
          refine xm_vget (v := .int ((xpi ws9 3) (y1 - 1))) hx hb htx hown hK hP 3 (by decide) hg1 rfl ((hZ.1 (103, "count", "I") (List.mem_of_getElem? (i := 3) rfl)).use rfl) rfl dM_merged_11 ?_
          refine lv_icmp_ge (tgt := 124) hx hb dM_merged_14 (by decide) (fun hc => ?_) (fun hc => ?_)
          · rw [if_pos hc] at hf
            refine lv_iconst (v := 0) hx hb dM_merged_124 (by decide) ?_
            refine lv_istore (lv' := [(4, .int 0), (3, .int y3), (0, .ref aM), (1, xv vadL y1), (2, xv vadL y2)]) hx hb dM_merged_125 hl (by decide) rfl (fun ls hl => ?_)
            exact ih (2, (0 : Int32), y3, y1, y2, ws9, wc, wn) _ _ ls (Or.inr (⟨adL, gdL, vadL, rfl, hf, hP, hD, hS, lv_sub hl [0, 1, 2, 3, 4] rfl, hE, hN⟩))
          · rw [if_neg hc] at hf
            refine lv_aload_n hx hb dM_merged_17 rfl (lv_at hl 2 rfl) ?_
            refine xm_aload_n hx hb (xvor _ _) dM_merged_18 rfl (lv_at hl 4 rfl) ?_
            refine lv_aload_n hx hb dM_merged_19 rfl (lv_at hl 2 rfl) ?_
            refine xm_aload_n hx hb (xvor _ _) dM_merged_20 rfl (lv_at hl 3 rfl) ?_
            refine lv_iload hx hb dM_merged_21 (lv_at hl 0 rfl) ?_
            obtain ⟨o2, hq3, hf⟩ := xbind hf
            have hFc := xm_free hD hS hA
            refine va_callq (va_runV (C := "ValueBenchModel") (As := [xv vadL y1, .int y4]) (rest := [xv vadL y2, .ref aM]) ⟨hx, hb, hml, hown, htx⟩ (gM_name l hl9 D cT aK aV H.size n aM adL rd gdL vadL ws9 y1 y4 o2 hq3) ⟨callB_of 2 htx (xw_goodC kw_6_154) rfl rfl rfl (htx _ kw_1_5) (htx _ kw_6_151) ⟨by decide, by decide, by decide +kernel⟩ ⟨Nat.le_of_ble_eq_true rfl, Nat.le_of_ble_eq_true rfl⟩, (htx _ kw_6_153), (htx _ kp_M_name)⟩ ⟨xPre_blind, va_recv hK hP (ci := 5) rfl (q0 := 0) rfl, (fun U hU hW => ⟨rfl, xPre_of hZ hS hFc hP hD hK U hU hW⟩)⟩ rfl rfl hl.1 rfl (xm_room (by simp [xvcat, xrscat, xcI, xcL, xcR, xcN])) dM_merged_23 ⟨hm0.1, hm0.2⟩) hS (fun q _ h => hFc q h) hFc (fun r4 u9 t H1 locs ht hvm hr9 hB hz1 hk1 hS => ?_)
            obtain ⟨hP1, hK1, hD1⟩ := hB
            rw [ht] at hP1
            have hP : va_P D xcl (xMw cT aM adL rd gdL vadL ws9 []) H1 := hP1
            have hD : va_D A (xMw cT aM adL rd gdL vadL ws9 []) := hD1.weaken (fun k q _ h => hFc q.1 h)
            generalize H1 = H at hP hS ⊢
            rw [hr9]
            refine W.eq (g2 := F0 m 26 ls [xv vadL o2, xv vadL y2, .ref aM]) (by first | rfl | (skip; rfl)) ?_
            obtain ⟨o5, hq6, hf⟩ := xbind hf
            have hFc := xm_free hD hS hA
            refine va_calli (va_runV (C := "ValueBenchModel") (As := [xv vadL y2, xv vadL o2]) (rest := []) ⟨hx, hb, hml, hown, htx⟩ (gM_place l hl9 D cT aK aV H.size n aM adL rd gdL vadL ws9 y2 o2 o5 hq6) ⟨callB_of 2 htx (xw_goodC kw_6_178) rfl rfl rfl (htx _ kw_1_5) (htx _ kw_6_175) ⟨by decide, by decide, by decide +kernel⟩ ⟨Nat.le_of_ble_eq_true rfl, Nat.le_of_ble_eq_true rfl⟩, (htx _ kw_6_177), (htx _ kp_M_place)⟩ ⟨xPre_blind, va_recv hK hP (ci := 5) rfl (q0 := 0) rfl, (fun U hU hW => ⟨rfl, xPre_of hZ hS hFc hP hD hK U hU hW⟩)⟩ rfl rfl hl.1 rfl (xm_room (Nat.le_of_ble_eq_true rfl)) dM_merged_26 ⟨hm0.1, hm0.2⟩) hS (fun q _ h => hFc q h) hFc (fun r7 u9 t H1 locs ht hvm hr9 hB hz1 hk1 hS => ?_)
            obtain ⟨hP1, hK1, hD1⟩ := hB
            rw [ht] at hP1
            have hP : va_P D xcl (xMw cT aM adL rd gdL vadL ws9 []) H1 := hP1
            have hD : va_D A (xMw cT aM adL rd gdL vadL ws9 []) := hD1.weaken (fun k q _ h => hFc q.1 h)
            generalize H1 = H at hP hS ⊢
            rw [hr9]
            refine W.eq (g2 := F0 m 29 ls [.int o5]) (by first | rfl | (skip; rfl)) ?_
            refine lv_istore (lv' := [(5, .int o5), (4, .int y4), (3, .int y3), (0, .ref aM), (1, xv vadL y1), (2, xv vadL y2)]) hx hb dM_merged_29 hl (by decide) rfl (fun ls hl => ?_)
            refine lv_aload_n hx hb dM_merged_31 rfl (lv_at hl 3 rfl) ?_
            refine xm_aload_n hx hb (xvor _ _) dM_merged_32 rfl (lv_at hl 4 rfl) ?_
            refine lv_iload hx hb dM_merged_33 (lv_at hl 1 rfl) ?_
            obtain ⟨o8, hq9, hf⟩ := xbind hf
            have hFc := xm_free hD hS hA
            refine va_callq (va_runV (C := "ValueBenchModel") (As := [xv vadL y1, .int y4]) (rest := []) ⟨hx, hb, hml, hown, htx⟩ (gM_kid l hl9 D cT aK aV H.size n aM adL rd gdL vadL ws9 y1 y4 o8 hq9) ⟨callB_of 2 htx (xw_goodC kw_6_158) rfl rfl rfl (htx _ kw_1_5) (htx _ kw_6_155) ⟨by decide, by decide, by decide +kernel⟩ ⟨Nat.le_of_ble_eq_true rfl, Nat.le_of_ble_eq_true rfl⟩, (htx _ kw_6_157), (htx _ kp_M_kid)⟩ ⟨xPre_blind, va_recv hK hP (ci := 5) rfl (q0 := 0) rfl, (fun U hU hW => ⟨rfl, xPre_of hZ hS hFc hP hD hK U hU hW⟩)⟩ rfl rfl hl.1 rfl (xm_room (Nat.le_of_ble_eq_true rfl)) dM_merged_35 ⟨hm0.1, hm0.2⟩) hS (fun q _ h => hFc q h) hFc (fun r10 u9 t H1 locs ht hvm hr9 hB hz1 hk1 hS => ?_)
            obtain ⟨hP1, hK1, hD1⟩ := hB
            rw [ht] at hP1
            have hP : va_P D xcl (xMw cT aM adL rd gdL vadL ws9 []) H1 := hP1
            have hD : va_D A (xMw cT aM adL rd gdL vadL ws9 []) := hD1.weaken (fun k q _ h => hFc q.1 h)
            generalize H1 = H at hP hS ⊢
            rw [hr9]
            refine W.eq (g2 := F0 m 38 ls [xv vadL o8]) (by first | rfl | (skip; rfl)) ?_
            refine xm_astore (lv' := [(6, xv vadL o8), (5, .int o5), (4, .int y4), (3, .int y3), (0, .ref aM), (1, xv vadL y1), (2, xv vadL y2)]) hx hb (xvor _ _) dM_merged_38 hl (by decide) rfl (fun ls hl => ?_)
            refine lv_iload hx hb dM_merged_40 (lv_at hl 1 rfl) ?_
            refine lv_if_lt (tgt := 105) hx hb dM_merged_42 (by decide) (fun hc => ?_) (fun hc => ?_)
            · rw [if_pos hc] at hf
              refine lv_aload_n hx hb dM_merged_105 rfl (lv_at hl 4 rfl) ?_
              refine lv_aload_n hx hb dM_merged_106 rfl (lv_at hl 4 rfl) ?_
              refine xm_aload_n hx hb (xvor _ _) dM_merged_107 rfl (lv_at hl 5 rfl) ?_
              refine lv_iload hx hb dM_merged_108 (lv_at hl 2 rfl) ?_
              obtain ⟨o11, hq12, hf⟩ := xbind hf
              have hFc := xm_free hD hS hA
              refine va_callq (va_runV (C := "ValueBenchModel") (As := [xv vadL y1, .int y4]) (rest := [.ref aM]) ⟨hx, hb, hml, hown, htx⟩ (gM_name l hl9 D cT aK aV H.size n aM adL rd gdL vadL ws9 y1 y4 o11 hq12) ⟨callB_of 2 htx (xw_goodC kw_6_154) rfl rfl rfl (htx _ kw_1_5) (htx _ kw_6_151) ⟨by decide, by decide, by decide +kernel⟩ ⟨Nat.le_of_ble_eq_true rfl, Nat.le_of_ble_eq_true rfl⟩, (htx _ kw_6_153), (htx _ kp_M_name)⟩ ⟨xPre_blind, va_recv hK hP (ci := 5) rfl (q0 := 0) rfl, (fun U hU hW => ⟨rfl, xPre_of hZ hS hFc hP hD hK U hU hW⟩)⟩ rfl rfl hl.1 rfl (xm_room (Nat.le_of_ble_eq_true rfl)) dM_merged_110 ⟨hm0.1, hm0.2⟩) hS (fun q _ h => hFc q h) hFc (fun r13 u9 t H1 locs ht hvm hr9 hB hz1 hk1 hS => ?_)
              obtain ⟨hP1, hK1, hD1⟩ := hB
              rw [ht] at hP1
              have hP : va_P D xcl (xMw cT aM adL rd gdL vadL ws9 []) H1 := hP1
              have hD : va_D A (xMw cT aM adL rd gdL vadL ws9 []) := hD1.weaken (fun k q _ h => hFc q.1 h)
              generalize H1 = H at hP hS ⊢
              rw [hr9]
              refine W.eq (g2 := F0 m 113 ls [xv vadL o11, .ref aM]) (by first | rfl | (skip; rfl)) ?_
              refine xm_aload hx hb (xvor _ _) dM_merged_113 (lv_at hl 0 rfl) ?_
              obtain ⟨o14, hq15, hf⟩ := xbind hf
              obtain ⟨hg16, hf⟩ := xifn hf
              obtain ⟨hg17, hf⟩ := xifn hf
              obtain ⟨hm18, hf⟩ := xmoE hf
              have hFc := xm_free hD hS hA
              refine va_callv (va_runV (C := "ValueBenchModel") (As := [xv vadL o11, xv vadL o8]) (rest := []) ⟨hx, hb, hml, hown, htx⟩ (gM_wait l hl9 D cT aK aV H.size n aM adL rd gdL vadL ws9 o11 o8 o14 hq15) ⟨callB_of 2 htx (xw_goodC kw_6_112) rfl rfl rfl (htx _ kw_1_5) (htx _ kw_6_109) ⟨by decide, by decide, by decide +kernel⟩ ⟨Nat.le_of_ble_eq_true rfl, Nat.le_of_ble_eq_true rfl⟩, (htx _ kw_6_111), (htx _ kp_M_wait)⟩ ⟨xPre_blind, va_recv hK hP (ci := 5) rfl (q0 := 0) rfl, (fun U hU hW => ⟨rfl, xPre_of hZ hS hFc hP hD hK U hU hW⟩)⟩ rfl rfl hl.1 rfl (xm_room (Nat.le_of_ble_eq_true rfl)) dM_merged_115 ⟨hm18.1, hm18.2⟩) hS (fun q _ h => hFc q h) hFc (fun u9 t H1 locs ht hvm hr9 hB hz1 hk1 hS => ?_)
              obtain ⟨hP1, hK1, hD1⟩ := hB
              rw [ht] at hP1
              obtain ⟨ad20, gd21, vad22⟩ := u9
              obtain ⟨hv23, hn24⟩ := hr9
              have hP : va_P D xcl (xMw cT aM ad20 rd gd21 vad22 o14.2.2 []) H1 := hP1
              have hD : va_D A (xMw cT aM ad20 rd gd21 vad22 o14.2.2 []) := hD1.weaken (fun k q _ h => hFc q.1 h)
              generalize H1 = H at hP hS ⊢
              have hE9 : ∀ p, p < xct st → vad22 p = vad p := fun p h => (hv23 p (Nat.lt_of_lt_of_le h hN)).trans (hE p h)
              have hE := hE9
              have hN : xct st ≤ xct o14.2.2 := Nat.le_trans hN hn24
              have ev25 : xv vadL o8 = xv vad22 o8 := xvE hv23 hg16
              have ev26 : xv vadL y1 = xv vad22 y1 := xvE hv23 (fun h => hg1 (Or.inr h))
              have ev27 : xv vadL y2 = xv vad22 y2 := xvE hv23 hg17
              have hl : lv_has ls 8 [(6, xv vad22 o8), (5, .int o5), (4, .int y4), (3, .int y3), (0, .ref aM), (1, xv vad22 y1), (2, xv vad22 y2)] := by first | exact hl | ((try (rw [← ev25])); (try (rw [← ev26])); (try (rw [← ev27])); exact hl)
              refine W.eq (g2 := F0 m 118 ls []) (by first | rfl | ((try (rw [ev25])); (try (rw [ev26])); (try (rw [ev27])); rfl)) ?_
              refine lv_iinc (v := (y4 + 1)) (lv' := [(4, .int (y4 + 1)), (6, xv vad22 o8), (5, .int o5), (3, .int y3), (0, .ref aM), (1, xv vad22 y1), (2, xv vad22 y2)]) hx hb dM_merged_118 hl (k := 2) rfl rfl (by decide) rfl (fun ls hl => ?_)
              refine lv_goto (tgt := 8) hx hb dM_merged_121 (by decide) ?_
              exact ih (1, (y4 + 1), y3, y1, y2, o14.2.2, (wc + o14.1), (wn + o14.2.1)) _ _ ls (Or.inl ⟨ad20, gd21, vad22, rfl, hf, hP, hD, hS, lv_sub hl [0, 3, 4, 5, 6] rfl, hE, hN⟩)
            · rw [if_neg hc] at hf
              refine lv_aload_n hx hb dM_merged_45 rfl (lv_at hl 4 rfl) ?_
              refine xm_aload_n hx hb (xvor _ _) dM_merged_46 rfl (lv_at hl 6 rfl) ?_
              refine lv_iload hx hb dM_merged_47 (lv_at hl 1 rfl) ?_
              obtain ⟨o11, hq12, hf⟩ := xbind hf
              have hFc := xm_free hD hS hA
              refine va_callq (va_runV (C := "ValueBenchModel") (As := [xv vadL y2, .int o5]) (rest := []) ⟨hx, hb, hml, hown, htx⟩ (gM_kid l hl9 D cT aK aV H.size n aM adL rd gdL vadL ws9 y2 o5 o11 hq12) ⟨callB_of 2 htx (xw_goodC kw_6_158) rfl rfl rfl (htx _ kw_1_5) (htx _ kw_6_155) ⟨by decide, by decide, by decide +kernel⟩ ⟨Nat.le_of_ble_eq_true rfl, Nat.le_of_ble_eq_true rfl⟩, (htx _ kw_6_157), (htx _ kp_M_kid)⟩ ⟨xPre_blind, va_recv hK hP (ci := 5) rfl (q0 := 0) rfl, (fun U hU hW => ⟨rfl, xPre_of hZ hS hFc hP hD hK U hU hW⟩)⟩ rfl rfl hl.1 rfl (xm_room (Nat.le_of_ble_eq_true rfl)) dM_merged_49 ⟨hm0.1, hm0.2⟩) hS (fun q _ h => hFc q h) hFc (fun r13 u9 t H1 locs ht hvm hr9 hB hz1 hk1 hS => ?_)
              obtain ⟨hP1, hK1, hD1⟩ := hB
              rw [ht] at hP1
              have hP : va_P D xcl (xMw cT aM adL rd gdL vadL ws9 []) H1 := hP1
              have hD : va_D A (xMw cT aM adL rd gdL vadL ws9 []) := hD1.weaken (fun k q _ h => hFc q.1 h)
              generalize H1 = H at hP hS ⊢
              rw [hr9]
              refine W.eq (g2 := F0 m 52 ls [xv vadL o11]) (by first | rfl | (skip; rfl)) ?_
              refine xm_astore (lv' := [(7, xv vadL o11), (6, xv vadL o8), (5, .int o5), (4, .int y4), (3, .int y3), (0, .ref aM), (1, xv vadL y1), (2, xv vadL y2)]) hx hb (xvor _ _) dM_merged_52 hl (by decide) (by simp only [List.filter, xvcat, xrscat, xcI, xcL, xcR, xcN]; rfl) (fun ls hl => ?_)
              refine xm_aload hx hb (xvor _ _) dM_merged_54 (lv_at hl 1 rfl) ?_
              obtain ⟨hg14, hf⟩ := xifn hf
              refine xm_vget (v := .int ((xpi ws9 0) (o8 - 1))) hx hb htx hown hK hP 0 (by decide) hg14 rfl ((hZ.1 (93, "kind", "I") (List.mem_of_getElem? (i := 0) rfl)).use rfl) rfl dM_merged_56 ?_
              refine lv_bipush (v := 6) hx hb dM_merged_59 (by decide) ?_
              refine lv_icmp_ne (tgt := 101) hx hb dM_merged_61 (by decide) (fun hc => ?_) (fun hc => ?_)
              · rw [if_neg hc] at hf
                refine xm_aload hx hb (xvor _ _) dM_merged_101 (lv_at hl 0 rfl) ?_
                refine xm_astore (lv' := [(6, xv vadL o11), (7, xv vadL o11), (5, .int o5), (4, .int y4), (3, .int y3), (0, .ref aM), (1, xv vadL y1), (2, xv vadL y2)]) hx hb (xvor _ _) dM_merged_103 hl (by decide) rfl (fun ls hl => ?_)
                refine lv_aload_n hx hb dM_merged_105 rfl (lv_at hl 5 rfl) ?_
                refine lv_aload_n hx hb dM_merged_106 rfl (lv_at hl 5 rfl) ?_
                refine xm_aload_n hx hb (xvor _ _) dM_merged_107 rfl (lv_at hl 6 rfl) ?_
                refine lv_iload hx hb dM_merged_108 (lv_at hl 3 rfl) ?_
                obtain ⟨o15, hq16, hf⟩ := xbind hf
                have hFc := xm_free hD hS hA
                refine va_callq (va_runV (C := "ValueBenchModel") (As := [xv vadL y1, .int y4]) (rest := [.ref aM]) ⟨hx, hb, hml, hown, htx⟩ (gM_name l hl9 D cT aK aV H.size n aM adL rd gdL vadL ws9 y1 y4 o15 hq16) ⟨callB_of 2 htx (xw_goodC kw_6_154) rfl rfl rfl (htx _ kw_1_5) (htx _ kw_6_151) ⟨by decide, by decide, by decide +kernel⟩ ⟨Nat.le_of_ble_eq_true rfl, Nat.le_of_ble_eq_true rfl⟩, (htx _ kw_6_153), (htx _ kp_M_name)⟩ ⟨xPre_blind, va_recv hK hP (ci := 5) rfl (q0 := 0) rfl, (fun U hU hW => ⟨rfl, xPre_of hZ hS hFc hP hD hK U hU hW⟩)⟩ rfl rfl hl.1 rfl (xm_room (Nat.le_of_ble_eq_true rfl)) dM_merged_110 ⟨hm0.1, hm0.2⟩) hS (fun q _ h => hFc q h) hFc (fun r17 u9 t H1 locs ht hvm hr9 hB hz1 hk1 hS => ?_)
                obtain ⟨hP1, hK1, hD1⟩ := hB
                rw [ht] at hP1
                have hP : va_P D xcl (xMw cT aM adL rd gdL vadL ws9 []) H1 := hP1
                have hD : va_D A (xMw cT aM adL rd gdL vadL ws9 []) := hD1.weaken (fun k q _ h => hFc q.1 h)
                generalize H1 = H at hP hS ⊢
                rw [hr9]
                refine W.eq (g2 := F0 m 113 ls [xv vadL o15, .ref aM]) (by first | rfl | (skip; rfl)) ?_
                refine xm_aload hx hb (xvor _ _) dM_merged_113 (lv_at hl 0 rfl) ?_
                obtain ⟨o18, hq19, hf⟩ := xbind hf
                obtain ⟨hg20, hf⟩ := xifn hf
                obtain ⟨hg21, hf⟩ := xifn hf
                obtain ⟨hm22, hf⟩ := xmoE hf
                have hFc := xm_free hD hS hA
                refine va_callv (va_runV (C := "ValueBenchModel") (As := [xv vadL o15, xv vadL o11]) (rest := []) ⟨hx, hb, hml, hown, htx⟩ (gM_wait l hl9 D cT aK aV H.size n aM adL rd gdL vadL ws9 o15 o11 o18 hq19) ⟨callB_of 2 htx (xw_goodC kw_6_112) rfl rfl rfl (htx _ kw_1_5) (htx _ kw_6_109) ⟨by decide, by decide, by decide +kernel⟩ ⟨Nat.le_of_ble_eq_true rfl, Nat.le_of_ble_eq_true rfl⟩, (htx _ kw_6_111), (htx _ kp_M_wait)⟩ ⟨xPre_blind, va_recv hK hP (ci := 5) rfl (q0 := 0) rfl, (fun U hU hW => ⟨rfl, xPre_of hZ hS hFc hP hD hK U hU hW⟩)⟩ rfl rfl hl.1 rfl (xm_room (Nat.le_of_ble_eq_true rfl)) dM_merged_115 ⟨hm22.1, hm22.2⟩) hS (fun q _ h => hFc q h) hFc (fun u9 t H1 locs ht hvm hr9 hB hz1 hk1 hS => ?_)
                obtain ⟨hP1, hK1, hD1⟩ := hB
                rw [ht] at hP1
                obtain ⟨ad24, gd25, vad26⟩ := u9
                obtain ⟨hv27, hn28⟩ := hr9
                have hP : va_P D xcl (xMw cT aM ad24 rd gd25 vad26 o18.2.2 []) H1 := hP1
                have hD : va_D A (xMw cT aM ad24 rd gd25 vad26 o18.2.2 []) := hD1.weaken (fun k q _ h => hFc q.1 h)
                generalize H1 = H at hP hS ⊢
                have hE9 : ∀ p, p < xct st → vad26 p = vad p := fun p h => (hv27 p (Nat.lt_of_lt_of_le h hN)).trans (hE p h)
                have hE := hE9
                have hN : xct st ≤ xct o18.2.2 := Nat.le_trans hN hn28
                have ev29 : xv vadL o11 = xv vad26 o11 := xvE hv27 hg20
                have ev30 : xv vadL y1 = xv vad26 y1 := xvE hv27 (fun h => hg1 (Or.inr h))
                have ev31 : xv vadL y2 = xv vad26 y2 := xvE hv27 hg21
                have hl : lv_has ls 8 [(6, xv vad26 o11), (7, xv vad26 o11), (5, .int o5), (4, .int y4), (3, .int y3), (0, .ref aM), (1, xv vad26 y1), (2, xv vad26 y2)] := by first | exact hl | ((try (rw [← ev29])); (try (rw [← ev30])); (try (rw [← ev31])); exact hl)
                refine W.eq (g2 := F0 m 118 ls []) (by first | rfl | ((try (rw [ev29])); (try (rw [ev30])); (try (rw [ev31])); rfl)) ?_
                refine lv_iinc (v := (y4 + 1)) (lv' := [(4, .int (y4 + 1)), (6, xv vad26 o11), (7, xv vad26 o11), (5, .int o5), (3, .int y3), (0, .ref aM), (1, xv vad26 y1), (2, xv vad26 y2)]) hx hb dM_merged_118 hl (k := 3) rfl rfl (by decide) rfl (fun ls hl => ?_)
                refine lv_goto (tgt := 8) hx hb dM_merged_121 (by decide) ?_
                exact ih (1, (y4 + 1), y3, y1, y2, o18.2.2, (wc + o18.1), (wn + o18.2.1)) _ _ ls (Or.inl ⟨ad24, gd25, vad26, rfl, hf, hP, hD, hS, lv_sub hl [0, 4, 5, 6, 7] rfl, hE, hN⟩)
              · rw [if_pos hc] at hf
                refine xm_aload hx hb (xvor _ _) dM_merged_64 (lv_at hl 0 rfl) ?_
                obtain ⟨hg15, hf⟩ := xifn hf
                refine xm_vget (v := .int ((xpi ws9 0) (o11 - 1))) hx hb htx hown hK hP 0 (by decide) hg15 rfl ((hZ.1 (93, "kind", "I") (List.mem_of_getElem? (i := 0) rfl)).use rfl) rfl dM_merged_66 ?_
                refine lv_bipush (v := 6) hx hb dM_merged_69 (by decide) ?_
                refine lv_icmp_ne (tgt := 101) hx hb dM_merged_71 (by decide) (fun hc => ?_) (fun hc => ?_)
                · rw [if_neg hc] at hf
                  refine xm_aload hx hb (xvor _ _) dM_merged_101 (lv_at hl 0 rfl) ?_
                  refine xm_astore (lv' := [(6, xv vadL o11), (7, xv vadL o11), (5, .int o5), (4, .int y4), (3, .int y3), (0, .ref aM), (1, xv vadL y1), (2, xv vadL y2)]) hx hb (xvor _ _) dM_merged_103 hl (by decide) rfl (fun ls hl => ?_)
                  refine lv_aload_n hx hb dM_merged_105 rfl (lv_at hl 5 rfl) ?_
                  refine lv_aload_n hx hb dM_merged_106 rfl (lv_at hl 5 rfl) ?_
                  refine xm_aload_n hx hb (xvor _ _) dM_merged_107 rfl (lv_at hl 6 rfl) ?_
                  refine lv_iload hx hb dM_merged_108 (lv_at hl 3 rfl) ?_
                  obtain ⟨o16, hq17, hf⟩ := xbind hf
                  have hFc := xm_free hD hS hA
                  refine va_callq (va_runV (C := "ValueBenchModel") (As := [xv vadL y1, .int y4]) (rest := [.ref aM]) ⟨hx, hb, hml, hown, htx⟩ (gM_name l hl9 D cT aK aV H.size n aM adL rd gdL vadL ws9 y1 y4 o16 hq17) ⟨callB_of 2 htx (xw_goodC kw_6_154) rfl rfl rfl (htx _ kw_1_5) (htx _ kw_6_151) ⟨by decide, by decide, by decide +kernel⟩ ⟨Nat.le_of_ble_eq_true rfl, Nat.le_of_ble_eq_true rfl⟩, (htx _ kw_6_153), (htx _ kp_M_name)⟩ ⟨xPre_blind, va_recv hK hP (ci := 5) rfl (q0 := 0) rfl, (fun U hU hW => ⟨rfl, xPre_of hZ hS hFc hP hD hK U hU hW⟩)⟩ rfl rfl hl.1 rfl (xm_room (Nat.le_of_ble_eq_true rfl)) dM_merged_110 ⟨hm0.1, hm0.2⟩) hS (fun q _ h => hFc q h) hFc (fun r18 u9 t H1 locs ht hvm hr9 hB hz1 hk1 hS => ?_)
                  obtain ⟨hP1, hK1, hD1⟩ := hB
                  rw [ht] at hP1
                  have hP : va_P D xcl (xMw cT aM adL rd gdL vadL ws9 []) H1 := hP1
                  have hD : va_D A (xMw cT aM adL rd gdL vadL ws9 []) := hD1.weaken (fun k q _ h => hFc q.1 h)
                  generalize H1 = H at hP hS ⊢
                  rw [hr9]
                  refine W.eq (g2 := F0 m 113 ls [xv vadL o16, .ref aM]) (by first | rfl | (skip; rfl)) ?_
                  refine xm_aload hx hb (xvor _ _) dM_merged_113 (lv_at hl 0 rfl) ?_
                  obtain ⟨o19, hq20, hf⟩ := xbind hf
                  obtain ⟨hg21, hf⟩ := xifn hf
                  obtain ⟨hm22, hf⟩ := xmoE hf
                  have hFc := xm_free hD hS hA
                  refine va_callv (va_runV (C := "ValueBenchModel") (As := [xv vadL o16, xv vadL o11]) (rest := []) ⟨hx, hb, hml, hown, htx⟩ (gM_wait l hl9 D cT aK aV H.size n aM adL rd gdL vadL ws9 o16 o11 o19 hq20) ⟨callB_of 2 htx (xw_goodC kw_6_112) rfl rfl rfl (htx _ kw_1_5) (htx _ kw_6_109) ⟨by decide, by decide, by decide +kernel⟩ ⟨Nat.le_of_ble_eq_true rfl, Nat.le_of_ble_eq_true rfl⟩, (htx _ kw_6_111), (htx _ kp_M_wait)⟩ ⟨xPre_blind, va_recv hK hP (ci := 5) rfl (q0 := 0) rfl, (fun U hU hW => ⟨rfl, xPre_of hZ hS hFc hP hD hK U hU hW⟩)⟩ rfl rfl hl.1 rfl (xm_room (Nat.le_of_ble_eq_true rfl)) dM_merged_115 ⟨hm22.1, hm22.2⟩) hS (fun q _ h => hFc q h) hFc (fun u9 t H1 locs ht hvm hr9 hB hz1 hk1 hS => ?_)
                  obtain ⟨hP1, hK1, hD1⟩ := hB
                  rw [ht] at hP1
                  obtain ⟨ad24, gd25, vad26⟩ := u9
                  obtain ⟨hv27, hn28⟩ := hr9
                  have hP : va_P D xcl (xMw cT aM ad24 rd gd25 vad26 o19.2.2 []) H1 := hP1
                  have hD : va_D A (xMw cT aM ad24 rd gd25 vad26 o19.2.2 []) := hD1.weaken (fun k q _ h => hFc q.1 h)
                  generalize H1 = H at hP hS ⊢
                  have hE9 : ∀ p, p < xct st → vad26 p = vad p := fun p h => (hv27 p (Nat.lt_of_lt_of_le h hN)).trans (hE p h)
                  have hE := hE9
                  have hN : xct st ≤ xct o19.2.2 := Nat.le_trans hN hn28
                  have ev29 : xv vadL o11 = xv vad26 o11 := xvE hv27 (fun h => hg15 (Or.inr h))
                  have ev30 : xv vadL y1 = xv vad26 y1 := xvE hv27 (fun h => hg1 (Or.inr h))
                  have ev31 : xv vadL y2 = xv vad26 y2 := xvE hv27 hg21
                  have hl : lv_has ls 8 [(6, xv vad26 o11), (7, xv vad26 o11), (5, .int o5), (4, .int y4), (3, .int y3), (0, .ref aM), (1, xv vad26 y1), (2, xv vad26 y2)] := by first | exact hl | ((try (rw [← ev29])); (try (rw [← ev30])); (try (rw [← ev31])); exact hl)
                  refine W.eq (g2 := F0 m 118 ls []) (by first | rfl | ((try (rw [ev29])); (try (rw [ev30])); (try (rw [ev31])); rfl)) ?_
                  refine lv_iinc (v := (y4 + 1)) (lv' := [(4, .int (y4 + 1)), (6, xv vad26 o11), (7, xv vad26 o11), (5, .int o5), (3, .int y3), (0, .ref aM), (1, xv vad26 y1), (2, xv vad26 y2)]) hx hb dM_merged_118 hl (k := 3) rfl rfl (by decide) rfl (fun ls hl => ?_)
                  refine lv_goto (tgt := 8) hx hb dM_merged_121 (by decide) ?_
                  exact ih (1, (y4 + 1), y3, y1, y2, o19.2.2, (wc + o19.1), (wn + o19.2.1)) _ _ ls (Or.inl ⟨ad24, gd25, vad26, rfl, hf, hP, hD, hS, lv_sub hl [0, 4, 5, 6, 7] rfl, hE, hN⟩)
                · rw [if_pos hc] at hf
                  refine lv_aload_n hx hb dM_merged_74 rfl (lv_at hl 5 rfl) ?_
                  refine xm_aload hx hb (xvor _ _) dM_merged_75 (lv_at hl 1 rfl) ?_
                  refine xm_aload hx hb (xvor _ _) dM_merged_77 (lv_at hl 0 rfl) ?_
                  obtain ⟨o16, hq17, hf⟩ := xbind hf
                  by_cases hk18 : o16.1 = 0
                  · rw [if_pos hk18] at hf
                    obtain ⟨hg19, hf⟩ := xifn hf
                    obtain ⟨hm20, hf⟩ := xmoE hf
                    have hFc := xm_free hD hS hA
                    refine va_callq (va_runV (C := "ValueBenchModel") (As := [xv vadL o8, xv vadL o11]) (rest := []) ⟨hx, hb, hml, hown, htx⟩ ((hrec H.size aM adL rd gdL vadL ws9 o8 o11 o16 hq17).1 hk18) ⟨callB_of 2 htx (xw_goodC kw_6_220) rfl rfl rfl (htx _ kw_1_5) (htx _ kw_6_217) ⟨by decide, by decide, by decide +kernel⟩ ⟨(by show (16 * d) + 1 ≤ 16 * (d + 1); omega), (by show 8 + (8 + 11) + (400 * d) ≤ 400 * (d + 1); omega)⟩, (htx _ kw_6_219), (htx _ kp_M_merged)⟩ ⟨xPre_blind, va_recv hK hP (ci := 5) rfl (q0 := 0) rfl, (fun U hU hW => ⟨rfl, xPre_of hZ hS hFc hP hD hK U hU hW⟩)⟩ rfl rfl hl.1 rfl (xm_room (Nat.le_of_ble_eq_true rfl)) dM_merged_79 ⟨hm20.1, hm20.2⟩) hS (fun q _ h => hFc q h) hFc (fun r21 u9 t H1 locs ht hvm hr9 hB hz1 hk1 hS => ?_)
                    obtain ⟨hP1, hK1, hD1⟩ := hB
                    rw [ht] at hP1
                    obtain ⟨ad22, gd23, vad24⟩ := u9
                    obtain ⟨hr9, hv25, hn26⟩ := hr9
                    have hP : va_P D xcl (xMw cT aM ad22 rd gd23 vad24 o16.2.2.2.2 []) H1 := hP1
                    have hD : va_D A (xMw cT aM ad22 rd gd23 vad24 o16.2.2.2.2 []) := hD1.weaken (fun k q _ h => hFc q.1 h)
                    generalize H1 = H at hP hS ⊢
                    have hE9 : ∀ p, p < xct st → vad24 p = vad p := fun p h => (hv25 p (Nat.lt_of_lt_of_le h hN)).trans (hE p h)
                    have hE := hE9
                    have hN : xct st ≤ xct o16.2.2.2.2 := Nat.le_trans hN hn26
                    have ev27 : xv vadL o11 = xv vad24 o11 := xvE hv25 (fun h => hg15 (Or.inr h))
                    have ev28 : xv vadL o8 = xv vad24 o8 := xvE hv25 (fun h => hg14 (Or.inr h))
                    have ev29 : xv vadL y1 = xv vad24 y1 := xvE hv25 (fun h => hg1 (Or.inr h))
                    have ev30 : xv vadL y2 = xv vad24 y2 := xvE hv25 hg19
                    have hl : lv_has ls 8 [(7, xv vad24 o11), (6, xv vad24 o8), (5, .int o5), (4, .int y4), (3, .int y3), (0, .ref aM), (1, xv vad24 y1), (2, xv vad24 y2)] := by first | exact hl | ((try (rw [← ev27])); (try (rw [← ev28])); (try (rw [← ev29])); (try (rw [← ev30])); exact hl)
                    rw [hr9]
                    refine W.eq (g2 := F0 m 82 ls [xv vad24 o16.2.2.2.1]) (by first | rfl | ((try (rw [ev27])); (try (rw [ev28])); (try (rw [ev29])); (try (rw [ev30])); rfl)) ?_
                    refine xm_astore (lv' := [(6, xv vad24 o16.2.2.2.1), (7, xv vad24 o11), (5, .int o5), (4, .int y4), (3, .int y3), (0, .ref aM), (1, xv vad24 y1), (2, xv vad24 y2)]) hx hb (xvor _ _) dM_merged_82 hl (by decide) rfl (fun ls hl => ?_)
                    refine lv_aload_n hx hb dM_merged_84 rfl (lv_at hl 5 rfl) ?_
                    refine lv_dup hx hb dM_merged_85 rfl ?_
                    refine xm_get (v := .int (xsi o16.2.2.2.2 9)) hx hb htx hown hK hP 9 (by decide) rfl (htx _ kw_5_96) rfl dM_merged_86 ?_
                    refine xm_aload hx hb (xvor _ _) dM_merged_89 (lv_at hl 0 rfl) ?_
                    obtain ⟨hg31, hf⟩ := xifn hf
                    refine xm_vget (v := .int ((xpi o16.2.2.2.2 3) (o16.2.2.2.1 - 1))) hx hb htx hown hK hP 3 (by decide) hg31 rfl ((hZ.1 (103, "count", "I") (List.mem_of_getElem? (i := 3) rfl)).use rfl) rfl dM_merged_91 ?_
                    refine lv_iadd hx hb dM_merged_94 ?_
                    refine xm_put (v := .int ((xsi o16.2.2.2.2 9) + ((xpi o16.2.2.2.2 3) (o16.2.2.2.1 - 1)))) (W' := (xMw cT aM ad22 rd gd23 vad24 (xsI o16.2.2.2.2 9 ((xsi o16.2.2.2.2 9) + ((xpi o16.2.2.2.2 3) (o16.2.2.2.1 - 1)))) [])) (ty := .int) hx hb htx hown hK hP hD hS 9 (by decide) rfl (htx _ kw_5_96) rfl rfl (by decide +kernel) rfl rfl dM_merged_95 (fun H locs hP hD hS => ?_)
                    refine lv_goto (tgt := 105) hx hb dM_merged_98 (by decide) ?_
                    refine lv_aload_n hx hb dM_merged_105 rfl (lv_at hl 5 rfl) ?_
                    refine lv_aload_n hx hb dM_merged_106 rfl (lv_at hl 5 rfl) ?_
                    refine xm_aload_n hx hb (xvor _ _) dM_merged_107 rfl (lv_at hl 6 rfl) ?_
                    refine lv_iload hx hb dM_merged_108 (lv_at hl 3 rfl) ?_
                    obtain ⟨o32, hq33, hf⟩ := xbind hf
                    have hFc := xm_free hD hS hA
                    refine va_callq (va_runV (C := "ValueBenchModel") (As := [xv vad24 y1, .int y4]) (rest := [.ref aM]) ⟨hx, hb, hml, hown, htx⟩ (gM_name l hl9 D cT aK aV H.size n aM ad22 rd gd23 vad24 (xsI o16.2.2.2.2 9 ((xsi o16.2.2.2.2 9) + ((xpi o16.2.2.2.2 3) (o16.2.2.2.1 - 1)))) y1 y4 o32 hq33) ⟨callB_of 2 htx (xw_goodC kw_6_154) rfl rfl rfl (htx _ kw_1_5) (htx _ kw_6_151) ⟨by decide, by decide, by decide +kernel⟩ ⟨Nat.le_of_ble_eq_true rfl, Nat.le_of_ble_eq_true rfl⟩, (htx _ kw_6_153), (htx _ kp_M_name)⟩ ⟨xPre_blind, va_recv hK hP (ci := 5) rfl (q0 := 0) rfl, (fun U hU hW => ⟨rfl, xPre_of hZ hS hFc hP hD hK U hU hW⟩)⟩ rfl rfl hl.1 rfl (xm_room (Nat.le_of_ble_eq_true rfl)) dM_merged_110 ⟨hm20.1, hm20.2⟩) hS (fun q _ h => hFc q h) hFc (fun r34 u9 t H1 locs ht hvm hr9 hB hz1 hk1 hS => ?_)
                    obtain ⟨hP1, hK1, hD1⟩ := hB
                    rw [ht] at hP1
                    have hP : va_P D xcl (xMw cT aM ad22 rd gd23 vad24 (xsI o16.2.2.2.2 9 ((xsi o16.2.2.2.2 9) + ((xpi o16.2.2.2.2 3) (o16.2.2.2.1 - 1)))) []) H1 := hP1
                    have hD : va_D A (xMw cT aM ad22 rd gd23 vad24 (xsI o16.2.2.2.2 9 ((xsi o16.2.2.2.2 9) + ((xpi o16.2.2.2.2 3) (o16.2.2.2.1 - 1)))) []) := hD1.weaken (fun k q _ h => hFc q.1 h)
                    generalize H1 = H at hP hS ⊢
                    rw [hr9]
                    refine W.eq (g2 := F0 m 113 ls [xv vad24 o32, .ref aM]) (by first | rfl | (skip; rfl)) ?_
                    refine xm_aload hx hb (xvor _ _) dM_merged_113 (lv_at hl 0 rfl) ?_
                    obtain ⟨o35, hq36, hf⟩ := xbind hf
                    obtain ⟨hg37, hf⟩ := xifn hf
                    obtain ⟨hg38, hf⟩ := xifn hf
                    obtain ⟨hg39, hf⟩ := xifn hf
                    obtain ⟨hm40, hf⟩ := xmoE hf
                    have hFc := xm_free hD hS hA
                    refine va_callv (va_runV (C := "ValueBenchModel") (As := [xv vad24 o32, xv vad24 o16.2.2.2.1]) (rest := []) ⟨hx, hb, hml, hown, htx⟩ (gM_wait l hl9 D cT aK aV H.size n aM ad22 rd gd23 vad24 (xsI o16.2.2.2.2 9 ((xsi o16.2.2.2.2 9) + ((xpi o16.2.2.2.2 3) (o16.2.2.2.1 - 1)))) o32 o16.2.2.2.1 o35 hq36) ⟨callB_of 2 htx (xw_goodC kw_6_112) rfl rfl rfl (htx _ kw_1_5) (htx _ kw_6_109) ⟨by decide, by decide, by decide +kernel⟩ ⟨Nat.le_of_ble_eq_true rfl, Nat.le_of_ble_eq_true rfl⟩, (htx _ kw_6_111), (htx _ kp_M_wait)⟩ ⟨xPre_blind, va_recv hK hP (ci := 5) rfl (q0 := 0) rfl, (fun U hU hW => ⟨rfl, xPre_of hZ hS hFc hP hD hK U hU hW⟩)⟩ rfl rfl hl.1 rfl (xm_room (Nat.le_of_ble_eq_true rfl)) dM_merged_115 ⟨hm40.1, hm40.2⟩) hS (fun q _ h => hFc q h) hFc (fun u9 t H1 locs ht hvm hr9 hB hz1 hk1 hS => ?_)
                    obtain ⟨hP1, hK1, hD1⟩ := hB
                    rw [ht] at hP1
                    obtain ⟨ad42, gd43, vad44⟩ := u9
                    obtain ⟨hv45, hn46⟩ := hr9
                    have hP : va_P D xcl (xMw cT aM ad42 rd gd43 vad44 o35.2.2 []) H1 := hP1
                    have hD : va_D A (xMw cT aM ad42 rd gd43 vad44 o35.2.2 []) := hD1.weaken (fun k q _ h => hFc q.1 h)
                    generalize H1 = H at hP hS ⊢
                    have hE9 : ∀ p, p < xct st → vad44 p = vad p := fun p h => (hv45 p (Nat.lt_of_lt_of_le h hN)).trans (hE p h)
                    have hE := hE9
                    have hN : xct st ≤ xct o35.2.2 := Nat.le_trans hN hn46
                    have ev47 : xv vad24 o16.2.2.2.1 = xv vad44 o16.2.2.2.1 := xvE hv45 (fun h => hg31 (Or.inr h))
                    have ev48 : xv vad24 o11 = xv vad44 o11 := xvE hv45 hg37
                    have ev49 : xv vad24 y1 = xv vad44 y1 := xvE hv45 hg38
                    have ev50 : xv vad24 y2 = xv vad44 y2 := xvE hv45 hg39
                    have hl : lv_has ls 8 [(6, xv vad44 o16.2.2.2.1), (7, xv vad44 o11), (5, .int o5), (4, .int y4), (3, .int y3), (0, .ref aM), (1, xv vad44 y1), (2, xv vad44 y2)] := by first | exact hl | ((try (rw [← ev47])); (try (rw [← ev48])); (try (rw [← ev49])); (try (rw [← ev50])); exact hl)
                    refine W.eq (g2 := F0 m 118 ls []) (by first | rfl | ((try (rw [ev47])); (try (rw [ev48])); (try (rw [ev49])); (try (rw [ev50])); rfl)) ?_
                    refine lv_iinc (v := (y4 + 1)) (lv' := [(4, .int (y4 + 1)), (6, xv vad44 o16.2.2.2.1), (7, xv vad44 o11), (5, .int o5), (3, .int y3), (0, .ref aM), (1, xv vad44 y1), (2, xv vad44 y2)]) hx hb dM_merged_118 hl (k := 3) rfl rfl (by decide) rfl (fun ls hl => ?_)
                    refine lv_goto (tgt := 8) hx hb dM_merged_121 (by decide) ?_
                    exact ih (1, (y4 + 1), y3, y1, y2, o35.2.2, ((wc + o16.2.1) + o35.1), ((wn + o16.2.2.1) + o35.2.1)) _ _ ls (Or.inl ⟨ad42, gd43, vad44, rfl, hf, hP, hD, hS, lv_sub hl [0, 4, 5, 6, 7] rfl, hE, hN⟩)
                  rw [if_neg hk18] at hf
                  by_cases hk51 : o16.1 = 1
                  · rw [if_pos hk51] at hf
                    obtain ⟨hg52, hf⟩ := xifn hf
                    obtain ⟨hm53, hf⟩ := xmoE hf
                    have hFc := xm_free hD hS hA
                    refine xx_thr (vx_runV (C := "ValueBenchModel") (As := [xv vadL o8, xv vadL o11]) (rest := []) ⟨hx, hb, hml, hown, htx⟩ ((hrec H.size aM adL rd gdL vadL ws9 o8 o11 o16 hq17).2 hk51) ⟨callB_of 2 htx (xw_goodC kw_6_220) rfl rfl rfl (htx _ kw_1_5) (htx _ kw_6_217) ⟨by decide, by decide, by decide +kernel⟩ ⟨(by show (16 * d) + 1 ≤ 16 * (d + 1); omega), (by show 8 + (8 + 11) + (400 * d) ≤ 400 * (d + 1); omega)⟩, (htx _ kw_6_219), (htx _ kp_M_merged)⟩ ⟨xPre_blind, va_recv hK hP (ci := 5) rfl (q0 := 0) rfl, (fun U hU hW => ⟨rfl, xPre_of hZ hS hFc hP hD hK U hU hW⟩)⟩ rfl rfl hl.1 rfl (xm_room (Nat.le_of_ble_eq_true rfl)) dM_merged_79 ⟨hm53.1, hm53.2⟩) hS hFc (fun q _ h => hFc q h) (fun E ce q9 u9 t H1 locs ht hvm hr9 hB hz1 hk1 hS hce hcv hcl => ?_)
                    obtain ⟨rfl, hP1, hK1, hD1⟩ := hB
                    rw [ht] at hP1
                    obtain ⟨ad55, gd56, vad57⟩ := u9
                    obtain ⟨hv58, hn59⟩ := hr9
                    have hP : va_P D xcl (xMw cT aM ad55 rd gd56 vad57 o16.2.2.2.2 []) H1 := hP1
                    have hD : va_D A (xMw cT aM ad55 rd gd56 vad57 o16.2.2.2.2 []) := hD1.weaken (fun k q _ h => hFc q.1 h)
                    generalize H1 = H at hP hS hce ⊢
                    have hE9 : ∀ p, p < xct st → vad57 p = vad p := fun p h => (hv58 p (Nat.lt_of_lt_of_le h hN)).trans (hE p h)
                    have hE := hE9
                    have hN : xct st ≤ xct o16.2.2.2.2 := Nat.le_trans hN hn59
                    have ev60 : xv vadL o11 = xv vad57 o11 := xvE hv58 (fun h => hg15 (Or.inr h))
                    have ev61 : xv vadL o8 = xv vad57 o8 := xvE hv58 (fun h => hg14 (Or.inr h))
                    have ev62 : xv vadL y1 = xv vad57 y1 := xvE hv58 (fun h => hg1 (Or.inr h))
                    have ev63 : xv vadL y2 = xv vad57 y2 := xvE hv58 hg52
                    have hl : lv_has ls 8 [(7, xv vad57 o11), (6, xv vad57 o8), (5, .int o5), (4, .int y4), (3, .int y3), (0, .ref aM), (1, xv vad57 y1), (2, xv vad57 y2)] := by first | exact hl | ((try (rw [← ev60])); (try (rw [← ev61])); (try (rw [← ev62])); (try (rw [← ev63])); exact hl)
                    obtain rfl := Option.some.inj hf
                    exact vx_out (E := "java/lang/IndexOutOfBoundsException") (fun x h => (hne x h).elim) hlocks hce hcv hcl (fun t ht ha => ⟨(ad55, gd56, vad57), ⟨hE, hN⟩, ⟨rfl, by rw [ht]; exact hP, va_K.moved ha hK, hD⟩, hS.F ht⟩) hS.2.2 (Nat.le_refl _) (Nat.le_refl _)
                  rw [if_neg hk51] at hf
                  exact nomatch hf
        · subst hj
          have hf : fM_merged_b rec (n + 1) 2 y4 y3 y1 y2 ws9 wc wn = some out := hf
          rw [fM_merged_b, if_neg (by decide)] at hf
          obtain ⟨hP, hD⟩ : xPD D xcl A (xMw cT aM adL rd gdL vadL ws9 []) H := ⟨hP, hD⟩
          have hl : lv_has ls 8 [(4, .int y4), (3, .int y3), (0, .ref aM), (1, xv vadL y1), (2, xv vadL y2)] := hl
          refine W.eq (g2 := F0 m 127 ls []) rfl ?_
          show W p l e _ s m _ below meth c H locs wc wn _ _
          obtain ⟨hm0, hf⟩ := xmoE hf
          refine lv_iload hx hb dM_merged_127 (lv_at hl 0 rfl) ?_
          refine xm_aload_n hx hb (xvor _ _) dM_merged_129 rfl (lv_at hl 4 rfl) ?_
          obtain ⟨hg1, hf⟩ := xifn hf
          refine xm_vget (v := .int ((xpi ws9 3) (y2 - 1))) hx hb htx hown hK hP 3 (by decide) hg1 rfl ((hZ.1 (103, "count", "I") (List.mem_of_getElem? (i := 3) rfl)).use rfl) rfl dM_merged_130 ?_
          refine lv_icmp_ge (tgt := 175) hx hb dM_merged_133 (by decide) (fun hc => ?_) (fun hc => ?_)
          · rw [if_pos hc] at hf
            refine lv_aload_n hx hb dM_merged_175 rfl (lv_at hl 2 rfl) ?_
            refine lv_bipush (v := 6) hx hb dM_merged_176 (by decide) ?_
            refine lv_iload_n hx hb dM_merged_178 rfl (lv_at hl 1 rfl) ?_
            obtain ⟨o2, hq3, hf⟩ := xbind hf
            have hl := lv_sub (l' := [(4, .int y4), (3, .int y3), (0, .ref aM)]) hl [0, 1, 2] rfl
            by_cases hk4 : o2.1 = 0
            · rw [if_pos hk4] at hf
              obtain ⟨hm5, hf⟩ := xmoE hf
              have hFc := xm_free hD hS hA
              refine va_callq (va_runV (C := "ValueBenchModel") (As := [.int 6, .int y3]) (rest := []) ⟨hx, hb, hml, hown, htx⟩ (gM_whole l hl9 D cT aK aV H.size n aM adL rd gdL vadL ws9 (6 : Int32) y3 o2 hq3 hk4) ⟨callB_of 2 htx (xw_goodC kw_6_106) rfl rfl rfl (htx _ kw_1_5) (htx _ kw_6_103) ⟨by decide, by decide, by decide +kernel⟩ ⟨Nat.le_of_ble_eq_true rfl, Nat.le_of_ble_eq_true rfl⟩, (htx _ kw_6_105), (htx _ kp_M_whole)⟩ ⟨xPre_blind, va_recv hK hP (ci := 5) rfl (q0 := 0) rfl, (fun U hU hW => ⟨rfl, xPre_of hZ hS hFc hP hD hK U hU hW⟩)⟩ rfl rfl hl.1 rfl (xm_room (Nat.le_of_ble_eq_true rfl)) dM_merged_179 ⟨hm5.1, hm5.2⟩) hS (fun q _ h => hFc q h) hFc (fun r6 u9 t H1 locs ht hvm hr9 hB hz1 hk1 hS => ?_)
              obtain ⟨hP1, hK1, hD1⟩ := hB
              rw [ht] at hP1
              obtain ⟨ad7, gd8, vad9⟩ := u9
              obtain ⟨hr9, hv10, hn11⟩ := hr9
              have hP : va_P D xcl (xMw cT aM ad7 rd gd8 vad9 o2.2.2.2.2 []) H1 := hP1
              have hD : va_D A (xMw cT aM ad7 rd gd8 vad9 o2.2.2.2.2 []) := hD1.weaken (fun k q _ h => hFc q.1 h)
              generalize H1 = H at hP hS ⊢
              have hE9 : ∀ p, p < xct st → vad9 p = vad p := fun p h => (hv10 p (Nat.lt_of_lt_of_le h hN)).trans (hE p h)
              have hE := hE9
              have hN : xct st ≤ xct o2.2.2.2.2 := Nat.le_trans hN hn11
              rw [hr9]
              refine W.eq (g2 := F0 m 182 ls [xv vad9 o2.2.2.2.1]) (by first | rfl | (skip; rfl)) ?_
              obtain rfl := Option.some.inj hf
              exact absurd (show (0 : Nat) = 1 from hkd) (by decide)
            rw [if_neg hk4] at hf
            by_cases hk12 : o2.1 = 1
            · rw [if_pos hk12] at hf
              obtain ⟨hm13, hf⟩ := xmoE hf
              have hFc := xm_free hD hS hA
              refine xx_thr (vx_runV (C := "ValueBenchModel") (As := [.int 6, .int y3]) (rest := []) ⟨hx, hb, hml, hown, htx⟩ (gM_whole_1 l hl9 D cT aK aV H.size n aM adL rd gdL vadL ws9 (6 : Int32) y3 o2 hq3 hk12) ⟨callB_of 2 htx (xw_goodC kw_6_106) rfl rfl rfl (htx _ kw_1_5) (htx _ kw_6_103) ⟨by decide, by decide, by decide +kernel⟩ ⟨Nat.le_of_ble_eq_true rfl, Nat.le_of_ble_eq_true rfl⟩, (htx _ kw_6_105), (htx _ kp_M_whole)⟩ ⟨xPre_blind, va_recv hK hP (ci := 5) rfl (q0 := 0) rfl, (fun U hU hW => ⟨rfl, xPre_of hZ hS hFc hP hD hK U hU hW⟩)⟩ rfl rfl hl.1 rfl (xm_room (Nat.le_of_ble_eq_true rfl)) dM_merged_179 ⟨hm13.1, hm13.2⟩) hS hFc (fun q _ h => hFc q h) (fun E ce q9 u9 t H1 locs ht hvm hr9 hB hz1 hk1 hS hce hcv hcl => ?_)
              obtain ⟨rfl, hP1, hK1, hD1⟩ := hB
              rw [ht] at hP1
              obtain ⟨ad15, gd16, vad17⟩ := u9
              obtain ⟨hv18, hn19⟩ := hr9
              have hP : va_P D xcl (xMw cT aM ad15 rd gd16 vad17 o2.2.2.2.2 []) H1 := hP1
              have hD : va_D A (xMw cT aM ad15 rd gd16 vad17 o2.2.2.2.2 []) := hD1.weaken (fun k q _ h => hFc q.1 h)
              generalize H1 = H at hP hS hce ⊢
              have hE9 : ∀ p, p < xct st → vad17 p = vad p := fun p h => (hv18 p (Nat.lt_of_lt_of_le h hN)).trans (hE p h)
              have hE := hE9
              have hN : xct st ≤ xct o2.2.2.2.2 := Nat.le_trans hN hn19
              obtain rfl := Option.some.inj hf
              exact vx_out (E := "java/lang/IndexOutOfBoundsException") (fun x h => (hne x h).elim) hlocks hce hcv hcl (fun t ht ha => ⟨(ad15, gd16, vad17), ⟨hE, hN⟩, ⟨rfl, by rw [ht]; exact hP, va_K.moved ha hK, hD⟩, hS.F ht⟩) hS.2.2 (Nat.le_refl _) (Nat.le_refl _)
            rw [if_neg hk12] at hf
            exact nomatch hf
          · rw [if_neg hc] at hf
            refine lv_aload_n hx hb dM_merged_136 rfl (lv_at hl 2 rfl) ?_
            refine xm_aload_n hx hb (xvor _ _) dM_merged_137 rfl (lv_at hl 3 rfl) ?_
            refine lv_aload_n hx hb dM_merged_138 rfl (lv_at hl 2 rfl) ?_
            refine xm_aload_n hx hb (xvor _ _) dM_merged_139 rfl (lv_at hl 4 rfl) ?_
            refine lv_iload hx hb dM_merged_140 (lv_at hl 0 rfl) ?_
            obtain ⟨o2, hq3, hf⟩ := xbind hf
            have hFc := xm_free hD hS hA
            refine va_callq (va_runV (C := "ValueBenchModel") (As := [xv vadL y2, .int y4]) (rest := [xv vadL y1, .ref aM]) ⟨hx, hb, hml, hown, htx⟩ (gM_name l hl9 D cT aK aV H.size n aM adL rd gdL vadL ws9 y2 y4 o2 hq3) ⟨callB_of 2 htx (xw_goodC kw_6_154) rfl rfl rfl (htx _ kw_1_5) (htx _ kw_6_151) ⟨by decide, by decide, by decide +kernel⟩ ⟨Nat.le_of_ble_eq_true rfl, Nat.le_of_ble_eq_true rfl⟩, (htx _ kw_6_153), (htx _ kp_M_name)⟩ ⟨xPre_blind, va_recv hK hP (ci := 5) rfl (q0 := 0) rfl, (fun U hU hW => ⟨rfl, xPre_of hZ hS hFc hP hD hK U hU hW⟩)⟩ rfl rfl hl.1 rfl (xm_room (by simp [xvcat, xrscat, xcI, xcL, xcR, xcN])) dM_merged_142 ⟨hm0.1, hm0.2⟩) hS (fun q _ h => hFc q h) hFc (fun r4 u9 t H1 locs ht hvm hr9 hB hz1 hk1 hS => ?_)
            obtain ⟨hP1, hK1, hD1⟩ := hB
            rw [ht] at hP1
            have hP : va_P D xcl (xMw cT aM adL rd gdL vadL ws9 []) H1 := hP1
            have hD : va_D A (xMw cT aM adL rd gdL vadL ws9 []) := hD1.weaken (fun k q _ h => hFc q.1 h)
            generalize H1 = H at hP hS ⊢
            rw [hr9]
            refine W.eq (g2 := F0 m 145 ls [xv vadL o2, xv vadL y1, .ref aM]) (by first | rfl | (skip; rfl)) ?_
            obtain ⟨o5, hq6, hf⟩ := xbind hf
            have hFc := xm_free hD hS hA
            refine va_calli (va_runV (C := "ValueBenchModel") (As := [xv vadL y1, xv vadL o2]) (rest := []) ⟨hx, hb, hml, hown, htx⟩ (gM_place l hl9 D cT aK aV H.size n aM adL rd gdL vadL ws9 y1 o2 o5 hq6) ⟨callB_of 2 htx (xw_goodC kw_6_178) rfl rfl rfl (htx _ kw_1_5) (htx _ kw_6_175) ⟨by decide, by decide, by decide +kernel⟩ ⟨Nat.le_of_ble_eq_true rfl, Nat.le_of_ble_eq_true rfl⟩, (htx _ kw_6_177), (htx _ kp_M_place)⟩ ⟨xPre_blind, va_recv hK hP (ci := 5) rfl (q0 := 0) rfl, (fun U hU hW => ⟨rfl, xPre_of hZ hS hFc hP hD hK U hU hW⟩)⟩ rfl rfl hl.1 rfl (xm_room (Nat.le_of_ble_eq_true rfl)) dM_merged_145 ⟨hm0.1, hm0.2⟩) hS (fun q _ h => hFc q h) hFc (fun r7 u9 t H1 locs ht hvm hr9 hB hz1 hk1 hS => ?_)
            obtain ⟨hP1, hK1, hD1⟩ := hB
            rw [ht] at hP1
            have hP : va_P D xcl (xMw cT aM adL rd gdL vadL ws9 []) H1 := hP1
            have hD : va_D A (xMw cT aM adL rd gdL vadL ws9 []) := hD1.weaken (fun k q _ h => hFc q.1 h)
            generalize H1 = H at hP hS ⊢
            rw [hr9]
            refine W.eq (g2 := F0 m 148 ls [.int o5]) (by first | rfl | (skip; rfl)) ?_
            refine lv_if_ge (tgt := 169) hx hb dM_merged_148 (by decide) (fun hc => ?_) (fun hc => ?_)
            · rw [if_pos hc] at hf
              refine lv_iinc (v := (y4 + 1)) (lv' := [(4, .int (y4 + 1)), (3, .int y3), (0, .ref aM), (1, xv vadL y1), (2, xv vadL y2)]) hx hb dM_merged_169 hl (k := 0) rfl rfl (by decide) rfl (fun ls hl => ?_)
              refine lv_goto (tgt := 127) hx hb dM_merged_172 (by decide) ?_
              exact ih (2, (y4 + 1), y3, y1, y2, ws9, wc, wn) _ _ ls (Or.inr (⟨adL, gdL, vadL, rfl, hf, hP, hD, hS, lv_sub hl [0, 1, 2, 3, 4] rfl, hE, hN⟩))
            · rw [if_neg hc] at hf
              refine lv_aload_n hx hb dM_merged_151 rfl (lv_at hl 2 rfl) ?_
              refine lv_aload_n hx hb dM_merged_152 rfl (lv_at hl 2 rfl) ?_
              refine xm_aload_n hx hb (xvor _ _) dM_merged_153 rfl (lv_at hl 4 rfl) ?_
              refine lv_iload hx hb dM_merged_154 (lv_at hl 0 rfl) ?_
              obtain ⟨o8, hq9, hf⟩ := xbind hf
              have hFc := xm_free hD hS hA
              refine va_callq (va_runV (C := "ValueBenchModel") (As := [xv vadL y2, .int y4]) (rest := [.ref aM]) ⟨hx, hb, hml, hown, htx⟩ (gM_name l hl9 D cT aK aV H.size n aM adL rd gdL vadL ws9 y2 y4 o8 hq9) ⟨callB_of 2 htx (xw_goodC kw_6_154) rfl rfl rfl (htx _ kw_1_5) (htx _ kw_6_151) ⟨by decide, by decide, by decide +kernel⟩ ⟨Nat.le_of_ble_eq_true rfl, Nat.le_of_ble_eq_true rfl⟩, (htx _ kw_6_153), (htx _ kp_M_name)⟩ ⟨xPre_blind, va_recv hK hP (ci := 5) rfl (q0 := 0) rfl, (fun U hU hW => ⟨rfl, xPre_of hZ hS hFc hP hD hK U hU hW⟩)⟩ rfl rfl hl.1 rfl (xm_room (Nat.le_of_ble_eq_true rfl)) dM_merged_156 ⟨hm0.1, hm0.2⟩) hS (fun q _ h => hFc q h) hFc (fun r10 u9 t H1 locs ht hvm hr9 hB hz1 hk1 hS => ?_)
              obtain ⟨hP1, hK1, hD1⟩ := hB
              rw [ht] at hP1
              have hP : va_P D xcl (xMw cT aM adL rd gdL vadL ws9 []) H1 := hP1
              have hD : va_D A (xMw cT aM adL rd gdL vadL ws9 []) := hD1.weaken (fun k q _ h => hFc q.1 h)
              generalize H1 = H at hP hS ⊢
              rw [hr9]
              refine W.eq (g2 := F0 m 159 ls [xv vadL o8, .ref aM]) (by first | rfl | (skip; rfl)) ?_
              refine lv_aload_n hx hb dM_merged_159 rfl (lv_at hl 2 rfl) ?_
              refine xm_aload_n hx hb (xvor _ _) dM_merged_160 rfl (lv_at hl 4 rfl) ?_
              refine lv_iload hx hb dM_merged_161 (lv_at hl 0 rfl) ?_
              obtain ⟨o11, hq12, hf⟩ := xbind hf
              have hFc := xm_free hD hS hA
              refine va_callq (va_runV (C := "ValueBenchModel") (As := [xv vadL y2, .int y4]) (rest := [xv vadL o8, .ref aM]) ⟨hx, hb, hml, hown, htx⟩ (gM_kid l hl9 D cT aK aV H.size n aM adL rd gdL vadL ws9 y2 y4 o11 hq12) ⟨callB_of 2 htx (xw_goodC kw_6_158) rfl rfl rfl (htx _ kw_1_5) (htx _ kw_6_155) ⟨by decide, by decide, by decide +kernel⟩ ⟨Nat.le_of_ble_eq_true rfl, Nat.le_of_ble_eq_true rfl⟩, (htx _ kw_6_157), (htx _ kp_M_kid)⟩ ⟨xPre_blind, va_recv hK hP (ci := 5) rfl (q0 := 0) rfl, (fun U hU hW => ⟨rfl, xPre_of hZ hS hFc hP hD hK U hU hW⟩)⟩ rfl rfl hl.1 rfl (xm_room (by simp [xvcat, xrscat, xcI, xcL, xcR, xcN])) dM_merged_163 ⟨hm0.1, hm0.2⟩) hS (fun q _ h => hFc q h) hFc (fun r13 u9 t H1 locs ht hvm hr9 hB hz1 hk1 hS => ?_)
              obtain ⟨hP1, hK1, hD1⟩ := hB
              rw [ht] at hP1
              have hP : va_P D xcl (xMw cT aM adL rd gdL vadL ws9 []) H1 := hP1
              have hD : va_D A (xMw cT aM adL rd gdL vadL ws9 []) := hD1.weaken (fun k q _ h => hFc q.1 h)
              generalize H1 = H at hP hS ⊢
              rw [hr9]
              refine W.eq (g2 := F0 m 166 ls [xv vadL o11, xv vadL o8, .ref aM]) (by first | rfl | (skip; rfl)) ?_
              obtain ⟨o14, hq15, hf⟩ := xbind hf
              obtain ⟨hg16, hf⟩ := xifn hf
              obtain ⟨hm17, hf⟩ := xmoE hf
              have hFc := xm_free hD hS hA
              refine va_callv (va_runV (C := "ValueBenchModel") (As := [xv vadL o8, xv vadL o11]) (rest := []) ⟨hx, hb, hml, hown, htx⟩ (gM_wait l hl9 D cT aK aV H.size n aM adL rd gdL vadL ws9 o8 o11 o14 hq15) ⟨callB_of 2 htx (xw_goodC kw_6_112) rfl rfl rfl (htx _ kw_1_5) (htx _ kw_6_109) ⟨by decide, by decide, by decide +kernel⟩ ⟨Nat.le_of_ble_eq_true rfl, Nat.le_of_ble_eq_true rfl⟩, (htx _ kw_6_111), (htx _ kp_M_wait)⟩ ⟨xPre_blind, va_recv hK hP (ci := 5) rfl (q0 := 0) rfl, (fun U hU hW => ⟨rfl, xPre_of hZ hS hFc hP hD hK U hU hW⟩)⟩ rfl rfl hl.1 rfl (xm_room (Nat.le_of_ble_eq_true rfl)) dM_merged_166 ⟨hm17.1, hm17.2⟩) hS (fun q _ h => hFc q h) hFc (fun u9 t H1 locs ht hvm hr9 hB hz1 hk1 hS => ?_)
              obtain ⟨hP1, hK1, hD1⟩ := hB
              rw [ht] at hP1
              obtain ⟨ad19, gd20, vad21⟩ := u9
              obtain ⟨hv22, hn23⟩ := hr9
              have hP : va_P D xcl (xMw cT aM ad19 rd gd20 vad21 o14.2.2 []) H1 := hP1
              have hD : va_D A (xMw cT aM ad19 rd gd20 vad21 o14.2.2 []) := hD1.weaken (fun k q _ h => hFc q.1 h)
              generalize H1 = H at hP hS ⊢
              have hE9 : ∀ p, p < xct st → vad21 p = vad p := fun p h => (hv22 p (Nat.lt_of_lt_of_le h hN)).trans (hE p h)
              have hE := hE9
              have hN : xct st ≤ xct o14.2.2 := Nat.le_trans hN hn23
              have ev24 : xv vadL y1 = xv vad21 y1 := xvE hv22 hg16
              have ev25 : xv vadL y2 = xv vad21 y2 := xvE hv22 (fun h => hg1 (Or.inr h))
              have hl : lv_has ls 8 [(4, .int y4), (3, .int y3), (0, .ref aM), (1, xv vad21 y1), (2, xv vad21 y2)] := by first | exact hl | ((try (rw [← ev24])); (try (rw [← ev25])); exact hl)
              refine W.eq (g2 := F0 m 169 ls []) (by first | rfl | ((try (rw [ev24])); (try (rw [ev25])); rfl)) ?_
              refine lv_iinc (v := (y4 + 1)) (lv' := [(4, .int (y4 + 1)), (3, .int y3), (0, .ref aM), (1, xv vad21 y1), (2, xv vad21 y2)]) hx hb dM_merged_169 hl (k := 0) rfl rfl (by decide) rfl (fun ls hl => ?_)
              refine lv_goto (tgt := 127) hx hb dM_merged_172 (by decide) ?_
              exact ih (2, (y4 + 1), y3, y1, y2, o14.2.2, (wc + o14.1), (wn + o14.2.1)) _ _ ls (Or.inr (⟨ad19, gd20, vad21, rfl, hf, hP, hD, hS, lv_sub hl [0, 1, 2, 3, 4] rfl, hE, hN⟩))
      refine lv_aload_n hx hb dM_merged_0 rfl (lv_at hl 0 rfl) ?_
      refine xm_get (v := .int (xsi st 12)) hx hb htx hown hK hP 12 (by decide) rfl (htx _ kw_5_99) rfl dM_merged_1 ?_
      refine lv_istore_n (lv' := [(3, .int (xsi st 12)), (0, .ref aM), (1, xv vad c0), (2, xv vad c1)]) hx hb dM_merged_4 rfl hl (by decide) (by simp only [List.filter, xvcat, xrscat, xcI, xcL, xcR, xcN]; rfl) (fun ls hl => ?_)
      refine lv_iconst (v := 0) hx hb dM_merged_5 (by decide) ?_
      refine lv_istore (lv' := [(4, .int 0), (3, .int (xsi st 12)), (0, .ref aM), (1, xv vad c0), (2, xv vad c1)]) hx hb dM_merged_6 hl (by decide) rfl (fun ls hl => ?_)
      exact key n (1, (0 : Int32), (xsi st 12), c0, c1, st, 0, 0) _ _ ls (Or.inl ⟨ad, gd, vad, rfl, hf, hP, hD, hS, lv_sub hl [0, 1, 2, 3, 4] rfl, hE, hN⟩)
set_option maxHeartbeats 400000000 in
set_option maxRecDepth 100000 in
theorem gM_times (l : Launch) (hl9 : l.stackTraces = false) (D : va_G) (cT : Nat → ClassId) (aK aV : Nat → Nat) : ∀ (d sz n : Nat) (aM : Nat) (ad rd gd vad : Nat → Nat) (st : xS) (c0 : Nat) (c1 : Nat) (out : Nat × Nat × Nat × Nat × xS) (hf : fM_times d n st c0 c1 = some out), (out.1 = 0 → xMet l yM_times wyM_times ((16 * d)) out.2.1 out.2.2.1 ((400 * d)) D cT aK aV sz [.ref aM, xv vad c0, xv vad c1] (xMw cT aM ad rd gd vad st []) (fun A => va_Qq (fun (r : Option Nat) (u : xU) => r = xca u.2.2 out.2.2.2.1 ∧ xE vad st out.2.2.2.2 u) (fun u t => xB D xcl cT A (xMw cT aM u.1 rd u.2.1 u.2.2 out.2.2.2.2 []) t) A)) ∧ (out.1 = 1 → xMetY l yM_times wyM_times ((16 * d)) out.2.1 out.2.2.1 ((400 * d)) D cT aK aV sz [.ref aM, xv vad c0, xv vad c1] (xMw cT aM ad rd gd vad st []) "java/lang/ArithmeticException" (fun u => xE vad st out.2.2.2.2 u) (fun A u t => xB D xcl cT A (xMw cT aM u.1 rd u.2.1 u.2.2 out.2.2.2.2 []) t)) ∧ (out.1 = 2 → xMetY l yM_times wyM_times ((16 * d)) out.2.1 out.2.2.1 ((400 * d)) D cT aK aV sz [.ref aM, xv vad c0, xv vad c1] (xMw cT aM ad rd gd vad st []) "java/lang/IndexOutOfBoundsException" (fun u => xE vad st out.2.2.2.2 u) (fun A u t => xB D xcl cT A (xMw cT aM u.1 rd u.2.1 u.2.2 out.2.2.2.2 []) t)) := by
  intro d
  induction d with
  | zero =>
    intro sz n aM ad rd gd vad st c0 c1 out hf
    rw [fM_times] at hf
    exact nomatch hf
  | succ d ih =>
    intro sz n aM ad rd gd vad st c0 c1 out hf
    rw [fM_times] at hf
    obtain ⟨rec, hrec, hf⟩ : ∃ rec : xS → Nat → Nat → Option (Nat × Nat × Nat × Nat × xS), (∀ (sz aM : Nat) (ad rd gd vad : Nat → Nat) (st : xS) (c0 : Nat) (c1 : Nat) (out : Nat × Nat × Nat × Nat × xS), rec st c0 c1 = some out → (out.1 = 0 → xMet l yM_times wyM_times (16 * d) out.2.1 out.2.2.1 (400 * d) D cT aK aV sz [.ref aM, xv vad c0, xv vad c1] (xMw cT aM ad rd gd vad st []) (fun A => va_Qq (fun (r : Option Nat) (u : xU) => r = xca u.2.2 out.2.2.2.1 ∧ xE vad st out.2.2.2.2 u) (fun u t => xB D xcl cT A (xMw cT aM u.1 rd u.2.1 u.2.2 out.2.2.2.2 []) t) A)) ∧ (out.1 = 1 → xMetY l yM_times wyM_times (16 * d) out.2.1 out.2.2.1 (400 * d) D cT aK aV sz [.ref aM, xv vad c0, xv vad c1] (xMw cT aM ad rd gd vad st []) "java/lang/ArithmeticException" (fun u => xE vad st out.2.2.2.2 u) (fun A u t => xB D xcl cT A (xMw cT aM u.1 rd u.2.1 u.2.2 out.2.2.2.2 []) t)) ∧ (out.1 = 2 → xMetY l yM_times wyM_times (16 * d) out.2.1 out.2.2.1 (400 * d) D cT aK aV sz [.ref aM, xv vad c0, xv vad c1] (xMw cT aM ad rd gd vad st []) "java/lang/IndexOutOfBoundsException" (fun u => xE vad st out.2.2.2.2 u) (fun A u t => xB D xcl cT A (xMw cT aM u.1 rd u.2.1 u.2.2 out.2.2.2.2 []) t))) ∧ (if c0 = 0 ∨ (xct st) < c0 then none else (if ((xpi st 0) (c0 - 1)) = 3 then if c1 = 0 ∨ (xct st) < c1 then none else (if ((xpi st 0) (c1 - 1)) = 3 then (if (lg_cmp (if 0 < ((xpl st) (c0 - 1)) then ((xpl st) (c0 - 1)) else -((xpl st) (c0 - 1))) (0 : Int64)) = 0 then (fM_number n st (((xpl st) (c0 - 1)) * ((xpl st) (c1 - 1)))).bind fun o3 => ((if o3.1 = 0 then xmo (fun a => a.2.1) (fun a => a.2.2.1) (0 + o3.2.1) (0 + o3.2.2.1) (some (0, (0 + o3.2.1), (0 + o3.2.2.1), o3.2.2.2.1, o3.2.2.2.2)) else (if o3.1 = 1 then xmo (fun a => a.2.1) (fun a => a.2.2.1) (0 + o3.2.1) (0 + o3.2.2.1) (some (1, (0 + o3.2.1), (0 + o3.2.2.1), 0, o3.2.2.2.2)) else none))) else if (if 0 < ((xpl st) (c0 - 1)) then ((xpl st) (c0 - 1)) else -((xpl st) (c0 - 1))) = 0 then none else (if (lg_cmp (if 0 < ((xpl st) (c1 - 1)) then ((xpl st) (c1 - 1)) else -((xpl st) (c1 - 1))) ((9007199254740991 : Int64) / (if 0 < ((xpl st) (c0 - 1)) then ((xpl st) (c0 - 1)) else -((xpl st) (c0 - 1))))) ≤ 0 then (fM_number n st (((xpl st) (c0 - 1)) * ((xpl st) (c1 - 1)))).bind fun o4 => ((if o4.1 = 0 then xmo (fun a => a.2.1) (fun a => a.2.2.1) (0 + o4.2.1) (0 + o4.2.2.1) (some (0, (0 + o4.2.1), (0 + o4.2.2.1), o4.2.2.2.1, o4.2.2.2.2)) else (if o4.1 = 1 then xmo (fun a => a.2.1) (fun a => a.2.2.1) (0 + o4.2.1) (0 + o4.2.2.1) (some (1, (0 + o4.2.1), (0 + o4.2.2.1), 0, o4.2.2.2.2)) else none))) else (fM_refuse n st (2 : Int32)).bind fun o4 => ((if o4.1 = 1 then xmo (fun a => a.2.1) (fun a => a.2.2.1) (0 + o4.2.1) (0 + o4.2.2.1) (some (1, (0 + o4.2.1), (0 + o4.2.2.1), 0, o4.2.2.2.2)) else none)))) else (if ((xpi st 0) (c0 - 1)) = 6 then (if ((xpi st 0) (c1 - 1)) = 6 then (fM_merged d n st c0 c1).bind fun o3 => ((if o3.1 = 0 then xmo (fun a => a.2.1) (fun a => a.2.2.1) (0 + o3.2.1) (0 + o3.2.2.1) (some (0, (0 + o3.2.1), (0 + o3.2.2.1), o3.2.2.2.1, o3.2.2.2.2)) else (if o3.1 = 1 then xmo (fun a => a.2.1) (fun a => a.2.2.1) (0 + o3.2.1) (0 + o3.2.2.1) (some (2, (0 + o3.2.1), (0 + o3.2.2.1), 0, o3.2.2.2.2)) else none))) else (if ((xpi st 0) (c0 - 1)) = 3 then (if ((xpi st 0) (c1 - 1)) = 4 then (rec st c1 c0).bind fun o3 => ((if o3.1 = 0 then xmo (fun a => a.2.1) (fun a => a.2.2.1) (0 + o3.2.1) (0 + o3.2.2.1) (some (0, (0 + o3.2.1), (0 + o3.2.2.1), o3.2.2.2.1, o3.2.2.2.2)) else (if o3.1 = 1 then xmo (fun a => a.2.1) (fun a => a.2.2.1) (0 + o3.2.1) (0 + o3.2.2.1) (some (1, (0 + o3.2.1), (0 + o3.2.2.1), 0, o3.2.2.2.2)) else (if o3.1 = 2 then xmo (fun a => a.2.1) (fun a => a.2.2.1) (0 + o3.2.1) (0 + o3.2.2.1) (some (2, (0 + o3.2.1), (0 + o3.2.2.1), 0, o3.2.2.2.2)) else none)))) else (if ((xpi st 0) (c0 - 1)) = 4 then (if ((xpi st 0) (c1 - 1)) = 3 then (if 0 ≤ (lg_cmp ((xpl st) (c1 - 1)) (1 : Int64)) then (if (lg_cmp (((xpl st) (c1 - 1)) * (((xpi st 3) (c0 - 1)).toInt64 + (1 : Int64))) (600000 : Int64)) ≤ 0 then (if ((xpi st 3) (c0 - 1)) ≤ 0 then fM_times_b rec d n 1 (0 : Int64) (xsi st 4) c0 c1 st 0 0 else if ((xpi st 3) (c0 - 1)) = 0 then none else (if (lg_cmp ((xpl st) (c1 - 1)) ((60000 : Int32) / ((xpi st 3) (c0 - 1))).toInt64) ≤ 0 then fM_times_b rec d n 1 (0 : Int64) (xsi st 4) c0 c1 st 0 0 else (fM_limit n st).bind fun o4 => ((if o4.1 = 1 then xmo (fun a => a.2.1) (fun a => a.2.2.1) (0 + o4.2.1) (0 + o4.2.2.1) (some (2, (0 + o4.2.1), (0 + o4.2.2.1), 0, st)) else none)))) else (if ((xpi st 3) (c0 - 1)) ≤ 0 then (if ((xpi st 3) (c0 - 1)) ≤ 0 then fM_times_b rec d n 1 (0 : Int64) (xsi st 4) c0 c1 st 0 0 else if ((xpi st 3) (c0 - 1)) = 0 then none else (if (lg_cmp ((xpl st) (c1 - 1)) ((60000 : Int32) / ((xpi st 3) (c0 - 1))).toInt64) ≤ 0 then fM_times_b rec d n 1 (0 : Int64) (xsi st 4) c0 c1 st 0 0 else (fM_limit n st).bind fun o4 => ((if o4.1 = 1 then xmo (fun a => a.2.1) (fun a => a.2.2.1) (0 + o4.2.1) (0 + o4.2.2.1) (some (2, (0 + o4.2.1), (0 + o4.2.2.1), 0, st)) else none)))) else (if (lg_cmp ((xpl st) (c1 - 1)) (60000 : Int64)) ≤ 0 then (if ((xpi st 3) (c0 - 1)) ≤ 0 then fM_times_b rec d n 1 (0 : Int64) (xsi st 4) c0 c1 st 0 0 else if ((xpi st 3) (c0 - 1)) = 0 then none else (if (lg_cmp ((xpl st) (c1 - 1)) ((60000 : Int32) / ((xpi st 3) (c0 - 1))).toInt64) ≤ 0 then fM_times_b rec d n 1 (0 : Int64) (xsi st 4) c0 c1 st 0 0 else (fM_limit n st).bind fun o4 => ((if o4.1 = 1 then xmo (fun a => a.2.1) (fun a => a.2.2.1) (0 + o4.2.1) (0 + o4.2.2.1) (some (2, (0 + o4.2.1), (0 + o4.2.2.1), 0, st)) else none)))) else (fM_limit n st).bind fun o3 => ((if o3.1 = 1 then xmo (fun a => a.2.1) (fun a => a.2.2.1) (0 + o3.2.1) (0 + o3.2.2.1) (some (2, (0 + o3.2.1), (0 + o3.2.2.1), 0, st)) else none))))) else (fM_fresh n st (0 : Int32)).bind fun o3 => (xmo (fun a => a.2.1) (fun a => a.2.2.1) (0 + o3.1) (0 + o3.2.1) (some (0, (0 + o3.1), (0 + o3.2.1), o3.2.2.1, o3.2.2.2)))) else (fM_refuse n st (1 : Int32)).bind fun o3 => ((if o3.1 = 1 then xmo (fun a => a.2.1) (fun a => a.2.2.1) (0 + o3.2.1) (0 + o3.2.2.1) (some (1, (0 + o3.2.1), (0 + o3.2.2.1), 0, o3.2.2.2.2)) else none))) else (fM_refuse n st (1 : Int32)).bind fun o3 => ((if o3.1 = 1 then xmo (fun a => a.2.1) (fun a => a.2.2.1) (0 + o3.2.1) (0 + o3.2.2.1) (some (1, (0 + o3.2.1), (0 + o3.2.2.1), 0, o3.2.2.2.2)) else none)))) else (if ((xpi st 0) (c0 - 1)) = 4 then (if ((xpi st 0) (c1 - 1)) = 3 then (if 0 ≤ (lg_cmp ((xpl st) (c1 - 1)) (1 : Int64)) then (if (lg_cmp (((xpl st) (c1 - 1)) * (((xpi st 3) (c0 - 1)).toInt64 + (1 : Int64))) (600000 : Int64)) ≤ 0 then (if ((xpi st 3) (c0 - 1)) ≤ 0 then fM_times_b rec d n 1 (0 : Int64) (xsi st 4) c0 c1 st 0 0 else if ((xpi st 3) (c0 - 1)) = 0 then none else (if (lg_cmp ((xpl st) (c1 - 1)) ((60000 : Int32) / ((xpi st 3) (c0 - 1))).toInt64) ≤ 0 then fM_times_b rec d n 1 (0 : Int64) (xsi st 4) c0 c1 st 0 0 else (fM_limit n st).bind fun o4 => ((if o4.1 = 1 then xmo (fun a => a.2.1) (fun a => a.2.2.1) (0 + o4.2.1) (0 + o4.2.2.1) (some (2, (0 + o4.2.1), (0 + o4.2.2.1), 0, st)) else none)))) else (if ((xpi st 3) (c0 - 1)) ≤ 0 then (if ((xpi st 3) (c0 - 1)) ≤ 0 then fM_times_b rec d n 1 (0 : Int64) (xsi st 4) c0 c1 st 0 0 else if ((xpi st 3) (c0 - 1)) = 0 then none else (if (lg_cmp ((xpl st) (c1 - 1)) ((60000 : Int32) / ((xpi st 3) (c0 - 1))).toInt64) ≤ 0 then fM_times_b rec d n 1 (0 : Int64) (xsi st 4) c0 c1 st 0 0 else (fM_limit n st).bind fun o4 => ((if o4.1 = 1 then xmo (fun a => a.2.1) (fun a => a.2.2.1) (0 + o4.2.1) (0 + o4.2.2.1) (some (2, (0 + o4.2.1), (0 + o4.2.2.1), 0, st)) else none)))) else (if (lg_cmp ((xpl st) (c1 - 1)) (60000 : Int64)) ≤ 0 then (if ((xpi st 3) (c0 - 1)) ≤ 0 then fM_times_b rec d n 1 (0 : Int64) (xsi st 4) c0 c1 st 0 0 else if ((xpi st 3) (c0 - 1)) = 0 then none else (if (lg_cmp ((xpl st) (c1 - 1)) ((60000 : Int32) / ((xpi st 3) (c0 - 1))).toInt64) ≤ 0 then fM_times_b rec d n 1 (0 : Int64) (xsi st 4) c0 c1 st 0 0 else (fM_limit n st).bind fun o4 => ((if o4.1 = 1 then xmo (fun a => a.2.1) (fun a => a.2.2.1) (0 + o4.2.1) (0 + o4.2.2.1) (some (2, (0 + o4.2.1), (0 + o4.2.2.1), 0, st)) else none)))) else (fM_limit n st).bind fun o3 => ((if o3.1 = 1 then xmo (fun a => a.2.1) (fun a => a.2.2.1) (0 + o3.2.1) (0 + o3.2.2.1) (some (2, (0 + o3.2.1), (0 + o3.2.2.1), 0, st)) else none))))) else (fM_fresh n st (0 : Int32)).bind fun o3 => (xmo (fun a => a.2.1) (fun a => a.2.2.1) (0 + o3.1) (0 + o3.2.1) (some (0, (0 + o3.1), (0 + o3.2.1), o3.2.2.1, o3.2.2.2)))) else (fM_refuse n st (1 : Int32)).bind fun o3 => ((if o3.1 = 1 then xmo (fun a => a.2.1) (fun a => a.2.2.1) (0 + o3.2.1) (0 + o3.2.2.1) (some (1, (0 + o3.2.1), (0 + o3.2.2.1), 0, o3.2.2.2.2)) else none))) else (fM_refuse n st (1 : Int32)).bind fun o3 => ((if o3.1 = 1 then xmo (fun a => a.2.1) (fun a => a.2.2.1) (0 + o3.2.1) (0 + o3.2.2.1) (some (1, (0 + o3.2.1), (0 + o3.2.2.1), 0, o3.2.2.2.2)) else none))))) else (if ((xpi st 0) (c0 - 1)) = 3 then (if ((xpi st 0) (c1 - 1)) = 4 then (rec st c1 c0).bind fun o3 => ((if o3.1 = 0 then xmo (fun a => a.2.1) (fun a => a.2.2.1) (0 + o3.2.1) (0 + o3.2.2.1) (some (0, (0 + o3.2.1), (0 + o3.2.2.1), o3.2.2.2.1, o3.2.2.2.2)) else (if o3.1 = 1 then xmo (fun a => a.2.1) (fun a => a.2.2.1) (0 + o3.2.1) (0 + o3.2.2.1) (some (1, (0 + o3.2.1), (0 + o3.2.2.1), 0, o3.2.2.2.2)) else (if o3.1 = 2 then xmo (fun a => a.2.1) (fun a => a.2.2.1) (0 + o3.2.1) (0 + o3.2.2.1) (some (2, (0 + o3.2.1), (0 + o3.2.2.1), 0, o3.2.2.2.2)) else none)))) else (if ((xpi st 0) (c0 - 1)) = 4 then (if ((xpi st 0) (c1 - 1)) = 3 then (if 0 ≤ (lg_cmp ((xpl st) (c1 - 1)) (1 : Int64)) then (if (lg_cmp (((xpl st) (c1 - 1)) * (((xpi st 3) (c0 - 1)).toInt64 + (1 : Int64))) (600000 : Int64)) ≤ 0 then (if ((xpi st 3) (c0 - 1)) ≤ 0 then fM_times_b rec d n 1 (0 : Int64) (xsi st 4) c0 c1 st 0 0 else if ((xpi st 3) (c0 - 1)) = 0 then none else (if (lg_cmp ((xpl st) (c1 - 1)) ((60000 : Int32) / ((xpi st 3) (c0 - 1))).toInt64) ≤ 0 then fM_times_b rec d n 1 (0 : Int64) (xsi st 4) c0 c1 st 0 0 else (fM_limit n st).bind fun o4 => ((if o4.1 = 1 then xmo (fun a => a.2.1) (fun a => a.2.2.1) (0 + o4.2.1) (0 + o4.2.2.1) (some (2, (0 + o4.2.1), (0 + o4.2.2.1), 0, st)) else none)))) else (if ((xpi st 3) (c0 - 1)) ≤ 0 then (if ((xpi st 3) (c0 - 1)) ≤ 0 then fM_times_b rec d n 1 (0 : Int64) (xsi st 4) c0 c1 st 0 0 else if ((xpi st 3) (c0 - 1)) = 0 then none else (if (lg_cmp ((xpl st) (c1 - 1)) ((60000 : Int32) / ((xpi st 3) (c0 - 1))).toInt64) ≤ 0 then fM_times_b rec d n 1 (0 : Int64) (xsi st 4) c0 c1 st 0 0 else (fM_limit n st).bind fun o4 => ((if o4.1 = 1 then xmo (fun a => a.2.1) (fun a => a.2.2.1) (0 + o4.2.1) (0 + o4.2.2.1) (some (2, (0 + o4.2.1), (0 + o4.2.2.1), 0, st)) else none)))) else (if (lg_cmp ((xpl st) (c1 - 1)) (60000 : Int64)) ≤ 0 then (if ((xpi st 3) (c0 - 1)) ≤ 0 then fM_times_b rec d n 1 (0 : Int64) (xsi st 4) c0 c1 st 0 0 else if ((xpi st 3) (c0 - 1)) = 0 then none else (if (lg_cmp ((xpl st) (c1 - 1)) ((60000 : Int32) / ((xpi st 3) (c0 - 1))).toInt64) ≤ 0 then fM_times_b rec d n 1 (0 : Int64) (xsi st 4) c0 c1 st 0 0 else (fM_limit n st).bind fun o4 => ((if o4.1 = 1 then xmo (fun a => a.2.1) (fun a => a.2.2.1) (0 + o4.2.1) (0 + o4.2.2.1) (some (2, (0 + o4.2.1), (0 + o4.2.2.1), 0, st)) else none)))) else (fM_limit n st).bind fun o3 => ((if o3.1 = 1 then xmo (fun a => a.2.1) (fun a => a.2.2.1) (0 + o3.2.1) (0 + o3.2.2.1) (some (2, (0 + o3.2.1), (0 + o3.2.2.1), 0, st)) else none))))) else (fM_fresh n st (0 : Int32)).bind fun o3 => (xmo (fun a => a.2.1) (fun a => a.2.2.1) (0 + o3.1) (0 + o3.2.1) (some (0, (0 + o3.1), (0 + o3.2.1), o3.2.2.1, o3.2.2.2)))) else (fM_refuse n st (1 : Int32)).bind fun o3 => ((if o3.1 = 1 then xmo (fun a => a.2.1) (fun a => a.2.2.1) (0 + o3.2.1) (0 + o3.2.2.1) (some (1, (0 + o3.2.1), (0 + o3.2.2.1), 0, o3.2.2.2.2)) else none))) else (fM_refuse n st (1 : Int32)).bind fun o3 => ((if o3.1 = 1 then xmo (fun a => a.2.1) (fun a => a.2.2.1) (0 + o3.2.1) (0 + o3.2.2.1) (some (1, (0 + o3.2.1), (0 + o3.2.2.1), 0, o3.2.2.2.2)) else none)))) else (if ((xpi st 0) (c0 - 1)) = 4 then (if ((xpi st 0) (c1 - 1)) = 3 then (if 0 ≤ (lg_cmp ((xpl st) (c1 - 1)) (1 : Int64)) then (if (lg_cmp (((xpl st) (c1 - 1)) * (((xpi st 3) (c0 - 1)).toInt64 + (1 : Int64))) (600000 : Int64)) ≤ 0 then (if ((xpi st 3) (c0 - 1)) ≤ 0 then fM_times_b rec d n 1 (0 : Int64) (xsi st 4) c0 c1 st 0 0 else if ((xpi st 3) (c0 - 1)) = 0 then none else (if (lg_cmp ((xpl st) (c1 - 1)) ((60000 : Int32) / ((xpi st 3) (c0 - 1))).toInt64) ≤ 0 then fM_times_b rec d n 1 (0 : Int64) (xsi st 4) c0 c1 st 0 0 else (fM_limit n st).bind fun o4 => ((if o4.1 = 1 then xmo (fun a => a.2.1) (fun a => a.2.2.1) (0 + o4.2.1) (0 + o4.2.2.1) (some (2, (0 + o4.2.1), (0 + o4.2.2.1), 0, st)) else none)))) else (if ((xpi st 3) (c0 - 1)) ≤ 0 then (if ((xpi st 3) (c0 - 1)) ≤ 0 then fM_times_b rec d n 1 (0 : Int64) (xsi st 4) c0 c1 st 0 0 else if ((xpi st 3) (c0 - 1)) = 0 then none else (if (lg_cmp ((xpl st) (c1 - 1)) ((60000 : Int32) / ((xpi st 3) (c0 - 1))).toInt64) ≤ 0 then fM_times_b rec d n 1 (0 : Int64) (xsi st 4) c0 c1 st 0 0 else (fM_limit n st).bind fun o4 => ((if o4.1 = 1 then xmo (fun a => a.2.1) (fun a => a.2.2.1) (0 + o4.2.1) (0 + o4.2.2.1) (some (2, (0 + o4.2.1), (0 + o4.2.2.1), 0, st)) else none)))) else (if (lg_cmp ((xpl st) (c1 - 1)) (60000 : Int64)) ≤ 0 then (if ((xpi st 3) (c0 - 1)) ≤ 0 then fM_times_b rec d n 1 (0 : Int64) (xsi st 4) c0 c1 st 0 0 else if ((xpi st 3) (c0 - 1)) = 0 then none else (if (lg_cmp ((xpl st) (c1 - 1)) ((60000 : Int32) / ((xpi st 3) (c0 - 1))).toInt64) ≤ 0 then fM_times_b rec d n 1 (0 : Int64) (xsi st 4) c0 c1 st 0 0 else (fM_limit n st).bind fun o4 => ((if o4.1 = 1 then xmo (fun a => a.2.1) (fun a => a.2.2.1) (0 + o4.2.1) (0 + o4.2.2.1) (some (2, (0 + o4.2.1), (0 + o4.2.2.1), 0, st)) else none)))) else (fM_limit n st).bind fun o3 => ((if o3.1 = 1 then xmo (fun a => a.2.1) (fun a => a.2.2.1) (0 + o3.2.1) (0 + o3.2.2.1) (some (2, (0 + o3.2.1), (0 + o3.2.2.1), 0, st)) else none))))) else (fM_fresh n st (0 : Int32)).bind fun o3 => (xmo (fun a => a.2.1) (fun a => a.2.2.1) (0 + o3.1) (0 + o3.2.1) (some (0, (0 + o3.1), (0 + o3.2.1), o3.2.2.1, o3.2.2.2)))) else (fM_refuse n st (1 : Int32)).bind fun o3 => ((if o3.1 = 1 then xmo (fun a => a.2.1) (fun a => a.2.2.1) (0 + o3.2.1) (0 + o3.2.2.1) (some (1, (0 + o3.2.1), (0 + o3.2.2.1), 0, o3.2.2.2.2)) else none))) else (fM_refuse n st (1 : Int32)).bind fun o3 => ((if o3.1 = 1 then xmo (fun a => a.2.1) (fun a => a.2.2.1) (0 + o3.2.1) (0 + o3.2.2.1) (some (1, (0 + o3.2.1), (0 + o3.2.2.1), 0, o3.2.2.2.2)) else none)))))) else (if ((xpi st 0) (c0 - 1)) = 6 then if c1 = 0 ∨ (xct st) < c1 then none else (if ((xpi st 0) (c1 - 1)) = 6 then (fM_merged d n st c0 c1).bind fun o3 => ((if o3.1 = 0 then xmo (fun a => a.2.1) (fun a => a.2.2.1) (0 + o3.2.1) (0 + o3.2.2.1) (some (0, (0 + o3.2.1), (0 + o3.2.2.1), o3.2.2.2.1, o3.2.2.2.2)) else (if o3.1 = 1 then xmo (fun a => a.2.1) (fun a => a.2.2.1) (0 + o3.2.1) (0 + o3.2.2.1) (some (2, (0 + o3.2.1), (0 + o3.2.2.1), 0, o3.2.2.2.2)) else none))) else (if ((xpi st 0) (c0 - 1)) = 3 then (if ((xpi st 0) (c1 - 1)) = 4 then (rec st c1 c0).bind fun o3 => ((if o3.1 = 0 then xmo (fun a => a.2.1) (fun a => a.2.2.1) (0 + o3.2.1) (0 + o3.2.2.1) (some (0, (0 + o3.2.1), (0 + o3.2.2.1), o3.2.2.2.1, o3.2.2.2.2)) else (if o3.1 = 1 then xmo (fun a => a.2.1) (fun a => a.2.2.1) (0 + o3.2.1) (0 + o3.2.2.1) (some (1, (0 + o3.2.1), (0 + o3.2.2.1), 0, o3.2.2.2.2)) else (if o3.1 = 2 then xmo (fun a => a.2.1) (fun a => a.2.2.1) (0 + o3.2.1) (0 + o3.2.2.1) (some (2, (0 + o3.2.1), (0 + o3.2.2.1), 0, o3.2.2.2.2)) else none)))) else (if ((xpi st 0) (c0 - 1)) = 4 then (if ((xpi st 0) (c1 - 1)) = 3 then (if 0 ≤ (lg_cmp ((xpl st) (c1 - 1)) (1 : Int64)) then (if (lg_cmp (((xpl st) (c1 - 1)) * (((xpi st 3) (c0 - 1)).toInt64 + (1 : Int64))) (600000 : Int64)) ≤ 0 then (if ((xpi st 3) (c0 - 1)) ≤ 0 then fM_times_b rec d n 1 (0 : Int64) (xsi st 4) c0 c1 st 0 0 else if ((xpi st 3) (c0 - 1)) = 0 then none else (if (lg_cmp ((xpl st) (c1 - 1)) ((60000 : Int32) / ((xpi st 3) (c0 - 1))).toInt64) ≤ 0 then fM_times_b rec d n 1 (0 : Int64) (xsi st 4) c0 c1 st 0 0 else (fM_limit n st).bind fun o4 => ((if o4.1 = 1 then xmo (fun a => a.2.1) (fun a => a.2.2.1) (0 + o4.2.1) (0 + o4.2.2.1) (some (2, (0 + o4.2.1), (0 + o4.2.2.1), 0, st)) else none)))) else (if ((xpi st 3) (c0 - 1)) ≤ 0 then (if ((xpi st 3) (c0 - 1)) ≤ 0 then fM_times_b rec d n 1 (0 : Int64) (xsi st 4) c0 c1 st 0 0 else if ((xpi st 3) (c0 - 1)) = 0 then none else (if (lg_cmp ((xpl st) (c1 - 1)) ((60000 : Int32) / ((xpi st 3) (c0 - 1))).toInt64) ≤ 0 then fM_times_b rec d n 1 (0 : Int64) (xsi st 4) c0 c1 st 0 0 else (fM_limit n st).bind fun o4 => ((if o4.1 = 1 then xmo (fun a => a.2.1) (fun a => a.2.2.1) (0 + o4.2.1) (0 + o4.2.2.1) (some (2, (0 + o4.2.1), (0 + o4.2.2.1), 0, st)) else none)))) else (if (lg_cmp ((xpl st) (c1 - 1)) (60000 : Int64)) ≤ 0 then (if ((xpi st 3) (c0 - 1)) ≤ 0 then fM_times_b rec d n 1 (0 : Int64) (xsi st 4) c0 c1 st 0 0 else if ((xpi st 3) (c0 - 1)) = 0 then none else (if (lg_cmp ((xpl st) (c1 - 1)) ((60000 : Int32) / ((xpi st 3) (c0 - 1))).toInt64) ≤ 0 then fM_times_b rec d n 1 (0 : Int64) (xsi st 4) c0 c1 st 0 0 else (fM_limit n st).bind fun o4 => ((if o4.1 = 1 then xmo (fun a => a.2.1) (fun a => a.2.2.1) (0 + o4.2.1) (0 + o4.2.2.1) (some (2, (0 + o4.2.1), (0 + o4.2.2.1), 0, st)) else none)))) else (fM_limit n st).bind fun o3 => ((if o3.1 = 1 then xmo (fun a => a.2.1) (fun a => a.2.2.1) (0 + o3.2.1) (0 + o3.2.2.1) (some (2, (0 + o3.2.1), (0 + o3.2.2.1), 0, st)) else none))))) else (fM_fresh n st (0 : Int32)).bind fun o3 => (xmo (fun a => a.2.1) (fun a => a.2.2.1) (0 + o3.1) (0 + o3.2.1) (some (0, (0 + o3.1), (0 + o3.2.1), o3.2.2.1, o3.2.2.2)))) else (fM_refuse n st (1 : Int32)).bind fun o3 => ((if o3.1 = 1 then xmo (fun a => a.2.1) (fun a => a.2.2.1) (0 + o3.2.1) (0 + o3.2.2.1) (some (1, (0 + o3.2.1), (0 + o3.2.2.1), 0, o3.2.2.2.2)) else none))) else (fM_refuse n st (1 : Int32)).bind fun o3 => ((if o3.1 = 1 then xmo (fun a => a.2.1) (fun a => a.2.2.1) (0 + o3.2.1) (0 + o3.2.2.1) (some (1, (0 + o3.2.1), (0 + o3.2.2.1), 0, o3.2.2.2.2)) else none)))) else (if ((xpi st 0) (c0 - 1)) = 4 then (if ((xpi st 0) (c1 - 1)) = 3 then (if 0 ≤ (lg_cmp ((xpl st) (c1 - 1)) (1 : Int64)) then (if (lg_cmp (((xpl st) (c1 - 1)) * (((xpi st 3) (c0 - 1)).toInt64 + (1 : Int64))) (600000 : Int64)) ≤ 0 then (if ((xpi st 3) (c0 - 1)) ≤ 0 then fM_times_b rec d n 1 (0 : Int64) (xsi st 4) c0 c1 st 0 0 else if ((xpi st 3) (c0 - 1)) = 0 then none else (if (lg_cmp ((xpl st) (c1 - 1)) ((60000 : Int32) / ((xpi st 3) (c0 - 1))).toInt64) ≤ 0 then fM_times_b rec d n 1 (0 : Int64) (xsi st 4) c0 c1 st 0 0 else (fM_limit n st).bind fun o4 => ((if o4.1 = 1 then xmo (fun a => a.2.1) (fun a => a.2.2.1) (0 + o4.2.1) (0 + o4.2.2.1) (some (2, (0 + o4.2.1), (0 + o4.2.2.1), 0, st)) else none)))) else (if ((xpi st 3) (c0 - 1)) ≤ 0 then (if ((xpi st 3) (c0 - 1)) ≤ 0 then fM_times_b rec d n 1 (0 : Int64) (xsi st 4) c0 c1 st 0 0 else if ((xpi st 3) (c0 - 1)) = 0 then none else (if (lg_cmp ((xpl st) (c1 - 1)) ((60000 : Int32) / ((xpi st 3) (c0 - 1))).toInt64) ≤ 0 then fM_times_b rec d n 1 (0 : Int64) (xsi st 4) c0 c1 st 0 0 else (fM_limit n st).bind fun o4 => ((if o4.1 = 1 then xmo (fun a => a.2.1) (fun a => a.2.2.1) (0 + o4.2.1) (0 + o4.2.2.1) (some (2, (0 + o4.2.1), (0 + o4.2.2.1), 0, st)) else none)))) else (if (lg_cmp ((xpl st) (c1 - 1)) (60000 : Int64)) ≤ 0 then (if ((xpi st 3) (c0 - 1)) ≤ 0 then fM_times_b rec d n 1 (0 : Int64) (xsi st 4) c0 c1 st 0 0 else if ((xpi st 3) (c0 - 1)) = 0 then none else (if (lg_cmp ((xpl st) (c1 - 1)) ((60000 : Int32) / ((xpi st 3) (c0 - 1))).toInt64) ≤ 0 then fM_times_b rec d n 1 (0 : Int64) (xsi st 4) c0 c1 st 0 0 else (fM_limit n st).bind fun o4 => ((if o4.1 = 1 then xmo (fun a => a.2.1) (fun a => a.2.2.1) (0 + o4.2.1) (0 + o4.2.2.1) (some (2, (0 + o4.2.1), (0 + o4.2.2.1), 0, st)) else none)))) else (fM_limit n st).bind fun o3 => ((if o3.1 = 1 then xmo (fun a => a.2.1) (fun a => a.2.2.1) (0 + o3.2.1) (0 + o3.2.2.1) (some (2, (0 + o3.2.1), (0 + o3.2.2.1), 0, st)) else none))))) else (fM_fresh n st (0 : Int32)).bind fun o3 => (xmo (fun a => a.2.1) (fun a => a.2.2.1) (0 + o3.1) (0 + o3.2.1) (some (0, (0 + o3.1), (0 + o3.2.1), o3.2.2.1, o3.2.2.2)))) else (fM_refuse n st (1 : Int32)).bind fun o3 => ((if o3.1 = 1 then xmo (fun a => a.2.1) (fun a => a.2.2.1) (0 + o3.2.1) (0 + o3.2.2.1) (some (1, (0 + o3.2.1), (0 + o3.2.2.1), 0, o3.2.2.2.2)) else none))) else (fM_refuse n st (1 : Int32)).bind fun o3 => ((if o3.1 = 1 then xmo (fun a => a.2.1) (fun a => a.2.2.1) (0 + o3.2.1) (0 + o3.2.2.1) (some (1, (0 + o3.2.1), (0 + o3.2.2.1), 0, o3.2.2.2.2)) else none))))) else (if ((xpi st 0) (c0 - 1)) = 3 then if c1 = 0 ∨ (xct st) < c1 then none else (if ((xpi st 0) (c1 - 1)) = 4 then (rec st c1 c0).bind fun o3 => ((if o3.1 = 0 then xmo (fun a => a.2.1) (fun a => a.2.2.1) (0 + o3.2.1) (0 + o3.2.2.1) (some (0, (0 + o3.2.1), (0 + o3.2.2.1), o3.2.2.2.1, o3.2.2.2.2)) else (if o3.1 = 1 then xmo (fun a => a.2.1) (fun a => a.2.2.1) (0 + o3.2.1) (0 + o3.2.2.1) (some (1, (0 + o3.2.1), (0 + o3.2.2.1), 0, o3.2.2.2.2)) else (if o3.1 = 2 then xmo (fun a => a.2.1) (fun a => a.2.2.1) (0 + o3.2.1) (0 + o3.2.2.1) (some (2, (0 + o3.2.1), (0 + o3.2.2.1), 0, o3.2.2.2.2)) else none)))) else (if ((xpi st 0) (c0 - 1)) = 4 then (if ((xpi st 0) (c1 - 1)) = 3 then (if 0 ≤ (lg_cmp ((xpl st) (c1 - 1)) (1 : Int64)) then (if (lg_cmp (((xpl st) (c1 - 1)) * (((xpi st 3) (c0 - 1)).toInt64 + (1 : Int64))) (600000 : Int64)) ≤ 0 then (if ((xpi st 3) (c0 - 1)) ≤ 0 then fM_times_b rec d n 1 (0 : Int64) (xsi st 4) c0 c1 st 0 0 else if ((xpi st 3) (c0 - 1)) = 0 then none else (if (lg_cmp ((xpl st) (c1 - 1)) ((60000 : Int32) / ((xpi st 3) (c0 - 1))).toInt64) ≤ 0 then fM_times_b rec d n 1 (0 : Int64) (xsi st 4) c0 c1 st 0 0 else (fM_limit n st).bind fun o4 => ((if o4.1 = 1 then xmo (fun a => a.2.1) (fun a => a.2.2.1) (0 + o4.2.1) (0 + o4.2.2.1) (some (2, (0 + o4.2.1), (0 + o4.2.2.1), 0, st)) else none)))) else (if ((xpi st 3) (c0 - 1)) ≤ 0 then (if ((xpi st 3) (c0 - 1)) ≤ 0 then fM_times_b rec d n 1 (0 : Int64) (xsi st 4) c0 c1 st 0 0 else if ((xpi st 3) (c0 - 1)) = 0 then none else (if (lg_cmp ((xpl st) (c1 - 1)) ((60000 : Int32) / ((xpi st 3) (c0 - 1))).toInt64) ≤ 0 then fM_times_b rec d n 1 (0 : Int64) (xsi st 4) c0 c1 st 0 0 else (fM_limit n st).bind fun o4 => ((if o4.1 = 1 then xmo (fun a => a.2.1) (fun a => a.2.2.1) (0 + o4.2.1) (0 + o4.2.2.1) (some (2, (0 + o4.2.1), (0 + o4.2.2.1), 0, st)) else none)))) else (if (lg_cmp ((xpl st) (c1 - 1)) (60000 : Int64)) ≤ 0 then (if ((xpi st 3) (c0 - 1)) ≤ 0 then fM_times_b rec d n 1 (0 : Int64) (xsi st 4) c0 c1 st 0 0 else if ((xpi st 3) (c0 - 1)) = 0 then none else (if (lg_cmp ((xpl st) (c1 - 1)) ((60000 : Int32) / ((xpi st 3) (c0 - 1))).toInt64) ≤ 0 then fM_times_b rec d n 1 (0 : Int64) (xsi st 4) c0 c1 st 0 0 else (fM_limit n st).bind fun o4 => ((if o4.1 = 1 then xmo (fun a => a.2.1) (fun a => a.2.2.1) (0 + o4.2.1) (0 + o4.2.2.1) (some (2, (0 + o4.2.1), (0 + o4.2.2.1), 0, st)) else none)))) else (fM_limit n st).bind fun o3 => ((if o3.1 = 1 then xmo (fun a => a.2.1) (fun a => a.2.2.1) (0 + o3.2.1) (0 + o3.2.2.1) (some (2, (0 + o3.2.1), (0 + o3.2.2.1), 0, st)) else none))))) else (fM_fresh n st (0 : Int32)).bind fun o3 => (xmo (fun a => a.2.1) (fun a => a.2.2.1) (0 + o3.1) (0 + o3.2.1) (some (0, (0 + o3.1), (0 + o3.2.1), o3.2.2.1, o3.2.2.2)))) else (fM_refuse n st (1 : Int32)).bind fun o3 => ((if o3.1 = 1 then xmo (fun a => a.2.1) (fun a => a.2.2.1) (0 + o3.2.1) (0 + o3.2.2.1) (some (1, (0 + o3.2.1), (0 + o3.2.2.1), 0, o3.2.2.2.2)) else none))) else (fM_refuse n st (1 : Int32)).bind fun o3 => ((if o3.1 = 1 then xmo (fun a => a.2.1) (fun a => a.2.2.1) (0 + o3.2.1) (0 + o3.2.2.1) (some (1, (0 + o3.2.1), (0 + o3.2.2.1), 0, o3.2.2.2.2)) else none)))) else (if ((xpi st 0) (c0 - 1)) = 4 then if c1 = 0 ∨ (xct st) < c1 then none else (if ((xpi st 0) (c1 - 1)) = 3 then (if 0 ≤ (lg_cmp ((xpl st) (c1 - 1)) (1 : Int64)) then (if (lg_cmp (((xpl st) (c1 - 1)) * (((xpi st 3) (c0 - 1)).toInt64 + (1 : Int64))) (600000 : Int64)) ≤ 0 then (if ((xpi st 3) (c0 - 1)) ≤ 0 then fM_times_b rec d n 1 (0 : Int64) (xsi st 4) c0 c1 st 0 0 else if ((xpi st 3) (c0 - 1)) = 0 then none else (if (lg_cmp ((xpl st) (c1 - 1)) ((60000 : Int32) / ((xpi st 3) (c0 - 1))).toInt64) ≤ 0 then fM_times_b rec d n 1 (0 : Int64) (xsi st 4) c0 c1 st 0 0 else (fM_limit n st).bind fun o4 => ((if o4.1 = 1 then xmo (fun a => a.2.1) (fun a => a.2.2.1) (0 + o4.2.1) (0 + o4.2.2.1) (some (2, (0 + o4.2.1), (0 + o4.2.2.1), 0, st)) else none)))) else (if ((xpi st 3) (c0 - 1)) ≤ 0 then (if ((xpi st 3) (c0 - 1)) ≤ 0 then fM_times_b rec d n 1 (0 : Int64) (xsi st 4) c0 c1 st 0 0 else if ((xpi st 3) (c0 - 1)) = 0 then none else (if (lg_cmp ((xpl st) (c1 - 1)) ((60000 : Int32) / ((xpi st 3) (c0 - 1))).toInt64) ≤ 0 then fM_times_b rec d n 1 (0 : Int64) (xsi st 4) c0 c1 st 0 0 else (fM_limit n st).bind fun o4 => ((if o4.1 = 1 then xmo (fun a => a.2.1) (fun a => a.2.2.1) (0 + o4.2.1) (0 + o4.2.2.1) (some (2, (0 + o4.2.1), (0 + o4.2.2.1), 0, st)) else none)))) else (if (lg_cmp ((xpl st) (c1 - 1)) (60000 : Int64)) ≤ 0 then (if ((xpi st 3) (c0 - 1)) ≤ 0 then fM_times_b rec d n 1 (0 : Int64) (xsi st 4) c0 c1 st 0 0 else if ((xpi st 3) (c0 - 1)) = 0 then none else (if (lg_cmp ((xpl st) (c1 - 1)) ((60000 : Int32) / ((xpi st 3) (c0 - 1))).toInt64) ≤ 0 then fM_times_b rec d n 1 (0 : Int64) (xsi st 4) c0 c1 st 0 0 else (fM_limit n st).bind fun o4 => ((if o4.1 = 1 then xmo (fun a => a.2.1) (fun a => a.2.2.1) (0 + o4.2.1) (0 + o4.2.2.1) (some (2, (0 + o4.2.1), (0 + o4.2.2.1), 0, st)) else none)))) else (fM_limit n st).bind fun o3 => ((if o3.1 = 1 then xmo (fun a => a.2.1) (fun a => a.2.2.1) (0 + o3.2.1) (0 + o3.2.2.1) (some (2, (0 + o3.2.1), (0 + o3.2.2.1), 0, st)) else none))))) else (fM_fresh n st (0 : Int32)).bind fun o3 => (xmo (fun a => a.2.1) (fun a => a.2.2.1) (0 + o3.1) (0 + o3.2.1) (some (0, (0 + o3.1), (0 + o3.2.1), o3.2.2.1, o3.2.2.2)))) else (fM_refuse n st (1 : Int32)).bind fun o3 => ((if o3.1 = 1 then xmo (fun a => a.2.1) (fun a => a.2.2.1) (0 + o3.2.1) (0 + o3.2.2.1) (some (1, (0 + o3.2.1), (0 + o3.2.2.1), 0, o3.2.2.2.2)) else none))) else (fM_refuse n st (1 : Int32)).bind fun o2 => ((if o2.1 = 1 then xmo (fun a => a.2.1) (fun a => a.2.2.1) (0 + o2.2.1) (0 + o2.2.2.1) (some (1, (0 + o2.2.1), (0 + o2.2.2.1), 0, o2.2.2.2.2)) else none))))))) = some out := ⟨fM_times d n, fun sz => ih sz n, hf⟩
    refine ⟨fun hkd => ?_, fun hkd => ?_, fun hkd => ?_⟩
    · refine Met.ofW (cc := prog_13_method_51_code) (maxL := 7) (ret := (some (.object "ValueBenchModel$V"))) (by decide) rfl ?_
      intro p e s m args below meth c s₁ B hml hv
      obtain ⟨rfl, hsz, hZ, hP, hK, hD0⟩ := hv
      have hx := B.exec
      have hb := B.bytes
      have hr := B.returns
      have hts := atoms_spec (ws := wyM_times) B.pre
      have htx := fun w h => hts w (List.mem_cons_of_mem _ h)
      have hown : s.vm.findClass "ValueBenchModel" = some m.cls := findClass_of_methodNamed B.named
      have hlocks := B.notSynchronized
      subst hsz
      have hD := hD0.self (sz := s.heap.size)
      generalize hAe : va_A (xMw cT aM ad rd gd vad st []) s.heap.size = A at hD hZ ⊢
      have hA : ∀ q : Nat, s.heap.size ≤ q → A q := fun q h => by rw [← hAe]; exact Or.inr h
      have hS : va_S A s.heap s.heap [] := va_S.rf
      have hl := lv_entry ([.ref aM, xv vad c0, xv vad c1]) (n := 7) (by simp [lg_sl, xvcat, xrscat, xcI, xcL, xcR, xcN])
      rw [show lv_args 0 [.ref aM, xv vad c0, xv vad c1] = [(0, .ref aM), (1, xv vad c0), (2, xv vad c1)] from by simp [lv_args, xvcat, xrscat, xcI, xcL, xcR, xcN]] at hl
      rw [lg_entry_eq]
      generalize (lg_sl ([.ref aM, xv vad c0, xv vad c1]) ++ List.replicate (7 - (lg_sl ([.ref aM, xv vad c0, xv vad c1])).length) Slot.unset).toArray = ls at hl ⊢
      have hl : lv_has ls 7 [(0, .ref aM), (1, xv vad c0), (2, xv vad c1)] := hl
      have hE : ∀ p, p < xct st → vad p = vad p := fun _ _ => rfl
      have hN : xct st ≤ xct st := Nat.le_refl _
      refine xloopM (σ := Nat × Int64 × Int32 × Nat × Nat × xS × Nat × Nat) (fun n x H locs ls => (∃ (adL gdL vadL : Nat → Nat), x.1 = 1 ∧ fM_times_b rec d n x.1 x.2.1 x.2.2.1 x.2.2.2.1 x.2.2.2.2.1 x.2.2.2.2.2.1 x.2.2.2.2.2.2.1 x.2.2.2.2.2.2.2 = some out ∧ va_P D xcl (xMw cT aM adL rd gdL vadL x.2.2.2.2.2.1 []) H ∧ va_D A (xMw cT aM adL rd gdL vadL x.2.2.2.2.2.1 []) ∧ va_S A s.heap H locs ∧ lv_has ls 7 [(4, .long x.2.1), (3, .int x.2.2.1), (0, .ref aM), (1, xv vadL x.2.2.2.1), (2, xv vadL x.2.2.2.2.1)] ∧ (∀ p, p < xct st → vadL p = vad p) ∧ xct st ≤ xct x.2.2.2.2.2.1)) (fun x => 233) (fun x => x.2.2.2.2.2.2.1) (fun x => x.2.2.2.2.2.2.2) (fun x H locs ls h => by (obtain ⟨_, _, _, h⟩ := h; exact absurd h.2.1 (by rw [fM_times_b]; exact fun h => nomatch h))) (fun n ih x H locs ls hv => ?_) (fun key => ?_)
      · obtain ⟨lb, y4, y3, y1, y2, ws9, wc, wn⟩ := x
        rcases hv with ⟨adL, gdL, vadL, hj, hf, hP, hD, hS, hl, hE, hN⟩
        subst hj
        have hf : fM_times_b rec d (n + 1) 1 y4 y3 y1 y2 ws9 wc wn = some out := hf
        rw [fM_times_b] at hf
        obtain ⟨hP, hD⟩ : xPD D xcl A (xMw cT aM adL rd gdL vadL ws9 []) H := ⟨hP, hD⟩
        have hl : lv_has ls 7 [(4, .long y4), (3, .int y3), (0, .ref aM), (1, xv vadL y1), (2, xv vadL y2)] := hl
        refine W.eq (g2 := F0 m 233 ls []) rfl ?_
        show W p l e _ s m _ below meth c H locs wc wn _ _
        obtain ⟨hm0, hf⟩ := xmoE hf
        refine lv_lload hx hb dM_times_233 (lv_at hl 0 rfl) ?_
        refine xm_aload_n hx hb (xvor _ _) dM_times_235 rfl (lv_at hl 4 rfl) ?_
        obtain ⟨hg1, hf⟩ := xifn hf
        refine xm_vget (v := .long ((xpl ws9) (y2 - 1))) hx hb htx hown hK hP 1 (by decide) hg1 rfl ((hZ.1 (96, "n", "J") (List.mem_of_getElem? (i := 1) rfl)).use rfl) rfl dM_times_236 ?_
        refine W.lcmp hx hb dM_times_239 ?_
        refine lv_if_ge (tgt := 264) hx hb dM_times_240 (by decide) (fun hc => ?_) (fun hc => ?_)
        · rw [if_pos hc] at hf
          refine lv_aload_n hx hb dM_times_264 rfl (lv_at hl 2 rfl) ?_
          refine lv_iload_n hx hb dM_times_265 rfl (lv_at hl 1 rfl) ?_
          obtain ⟨o2, hq3, hf⟩ := xbind hf
          have hl := lv_sub (l' := [(4, .long y4), (3, .int y3), (0, .ref aM)]) hl [0, 1, 2] rfl
          by_cases hk4 : o2.1 = 0
          · rw [if_pos hk4] at hf
            obtain ⟨hm5, hf⟩ := xmoE hf
            have hFc := xm_free hD hS hA
            refine va_callq (va_runV (C := "ValueBenchModel") (As := [.int y3]) (rest := []) ⟨hx, hb, hml, hown, htx⟩ (gM_string l hl9 D cT aK aV H.size n aM adL rd gdL vadL ws9 y3 o2 hq3 hk4) ⟨callB_of 1 htx (xw_goodC kw_6_61) rfl rfl rfl (htx _ kw_1_5) (htx _ kw_6_58) ⟨by decide, by decide, by decide +kernel⟩ ⟨Nat.le_of_ble_eq_true rfl, Nat.le_of_ble_eq_true rfl⟩, (htx _ kw_6_60), (htx _ kp_M_string)⟩ ⟨xPre_blind, va_recv hK hP (ci := 5) rfl (q0 := 0) rfl, (fun U hU hW => ⟨rfl, xPre_of hZ hS hFc hP hD hK U hU hW⟩)⟩ rfl rfl hl.1 rfl (xm_room (Nat.le_of_ble_eq_true rfl)) dM_times_266 ⟨hm5.1, hm5.2⟩) hS (fun q _ h => hFc q h) hFc (fun r6 u9 t H1 locs ht hvm hr9 hB hz1 hk1 hS => ?_)
            obtain ⟨hP1, hK1, hD1⟩ := hB
            rw [ht] at hP1
            obtain ⟨ad7, gd8, vad9⟩ := u9
            obtain ⟨hr9, hv10, hn11⟩ := hr9
            have hP : va_P D xcl (xMw cT aM ad7 rd gd8 vad9 o2.2.2.2.2 []) H1 := hP1
            have hD : va_D A (xMw cT aM ad7 rd gd8 vad9 o2.2.2.2.2 []) := hD1.weaken (fun k q _ h => hFc q.1 h)
            generalize H1 = H at hP hS ⊢
            have hE9 : ∀ p, p < xct st → vad9 p = vad p := fun p h => (hv10 p (Nat.lt_of_lt_of_le h hN)).trans (hE p h)
            have hE := hE9
            have hN : xct st ≤ xct o2.2.2.2.2 := Nat.le_trans hN hn11
            rw [hr9]
            refine W.eq (g2 := F0 m 269 ls [xv vad9 o2.2.2.2.1]) (by first | rfl | (skip; rfl)) ?_
            obtain rfl := Option.some.inj hf
            exact W.aret (v := xv vad9 o2.2.2.2.1) hx hb hr (Or.inl ⟨_, rfl⟩) (xvor _ _) (fun t ht hW => ⟨⟨xca vad9 o2.2.2.2.1, (ad7, gd8, vad9), rfl, ⟨rfl, hE, hN⟩, by rw [ht]; exact hP, va_K.moved hW.alike hK, hD⟩, hS.F ht⟩) hS.2.2 dM_times_269
          rw [if_neg hk4] at hf
          by_cases hk12 : o2.1 = 1
          · rw [if_pos hk12] at hf
            obtain ⟨hm13, hf⟩ := xmoE hf
            obtain rfl := Option.some.inj hf
            exact absurd (show (2 : Nat) = 0 from hkd) (by decide)
          rw [if_neg hk12] at hf
          exact nomatch hf
        · rw [if_neg hc] at hf
          refine xm_aload_n hx hb (xvor _ _) dM_times_243 rfl (lv_at hl 3 rfl) ?_
          obtain ⟨hg2, hf⟩ := xifn hf
          refine xm_vget (v := .int ((xpi ws9 3) (y1 - 1))) hx hb htx hown hK hP 3 (by decide) hg2 rfl ((hZ.1 (103, "count", "I") (List.mem_of_getElem? (i := 3) rfl)).use rfl) rfl dM_times_244 ?_
          refine lv_if_le (tgt := 264) hx hb dM_times_247 (by decide) (fun hc => ?_) (fun hc => ?_)
          · rw [if_pos hc] at hf
            refine lv_aload_n hx hb dM_times_264 rfl (lv_at hl 2 rfl) ?_
            refine lv_iload_n hx hb dM_times_265 rfl (lv_at hl 1 rfl) ?_
            obtain ⟨o3, hq4, hf⟩ := xbind hf
            have hl := lv_sub (l' := [(4, .long y4), (3, .int y3), (0, .ref aM)]) hl [0, 1, 2] rfl
            by_cases hk5 : o3.1 = 0
            · rw [if_pos hk5] at hf
              obtain ⟨hm6, hf⟩ := xmoE hf
              have hFc := xm_free hD hS hA
              refine va_callq (va_runV (C := "ValueBenchModel") (As := [.int y3]) (rest := []) ⟨hx, hb, hml, hown, htx⟩ (gM_string l hl9 D cT aK aV H.size n aM adL rd gdL vadL ws9 y3 o3 hq4 hk5) ⟨callB_of 1 htx (xw_goodC kw_6_61) rfl rfl rfl (htx _ kw_1_5) (htx _ kw_6_58) ⟨by decide, by decide, by decide +kernel⟩ ⟨Nat.le_of_ble_eq_true rfl, Nat.le_of_ble_eq_true rfl⟩, (htx _ kw_6_60), (htx _ kp_M_string)⟩ ⟨xPre_blind, va_recv hK hP (ci := 5) rfl (q0 := 0) rfl, (fun U hU hW => ⟨rfl, xPre_of hZ hS hFc hP hD hK U hU hW⟩)⟩ rfl rfl hl.1 rfl (xm_room (Nat.le_of_ble_eq_true rfl)) dM_times_266 ⟨hm6.1, hm6.2⟩) hS (fun q _ h => hFc q h) hFc (fun r7 u9 t H1 locs ht hvm hr9 hB hz1 hk1 hS => ?_)
              obtain ⟨hP1, hK1, hD1⟩ := hB
              rw [ht] at hP1
              obtain ⟨ad8, gd9, vad10⟩ := u9
              obtain ⟨hr9, hv11, hn12⟩ := hr9
              have hP : va_P D xcl (xMw cT aM ad8 rd gd9 vad10 o3.2.2.2.2 []) H1 := hP1
              have hD : va_D A (xMw cT aM ad8 rd gd9 vad10 o3.2.2.2.2 []) := hD1.weaken (fun k q _ h => hFc q.1 h)
              generalize H1 = H at hP hS ⊢
              have hE9 : ∀ p, p < xct st → vad10 p = vad p := fun p h => (hv11 p (Nat.lt_of_lt_of_le h hN)).trans (hE p h)
              have hE := hE9
              have hN : xct st ≤ xct o3.2.2.2.2 := Nat.le_trans hN hn12
              rw [hr9]
              refine W.eq (g2 := F0 m 269 ls [xv vad10 o3.2.2.2.1]) (by first | rfl | (skip; rfl)) ?_
              obtain rfl := Option.some.inj hf
              exact W.aret (v := xv vad10 o3.2.2.2.1) hx hb hr (Or.inl ⟨_, rfl⟩) (xvor _ _) (fun t ht hW => ⟨⟨xca vad10 o3.2.2.2.1, (ad8, gd9, vad10), rfl, ⟨rfl, hE, hN⟩, by rw [ht]; exact hP, va_K.moved hW.alike hK, hD⟩, hS.F ht⟩) hS.2.2 dM_times_269
            rw [if_neg hk5] at hf
            by_cases hk13 : o3.1 = 1
            · rw [if_pos hk13] at hf
              obtain ⟨hm14, hf⟩ := xmoE hf
              obtain rfl := Option.some.inj hf
              exact absurd (show (2 : Nat) = 0 from hkd) (by decide)
            rw [if_neg hk13] at hf
            exact nomatch hf
          · rw [if_neg hc] at hf
            refine lv_aload_n hx hb dM_times_250 rfl (lv_at hl 2 rfl) ?_
            refine xm_aload_n hx hb (xvor _ _) dM_times_251 rfl (lv_at hl 3 rfl) ?_
            obtain ⟨o3, hq4, hf⟩ := xbind hf
            obtain ⟨hm5, hf⟩ := xmoE hf
            have hFc := xm_free hD hS hA
            refine va_callv (va_runV (C := "ValueBenchModel") (As := [xv vadL y1]) (rest := []) ⟨hx, hb, hml, hown, htx⟩ (gM_letters l hl9 D cT aK aV H.size n aM adL rd gdL vadL ws9 y1 o3 hq4) ⟨callB_of 1 htx (xw_goodC kw_6_207) rfl rfl rfl (htx _ kw_1_5) (htx _ kw_6_204) ⟨by decide, by decide, by decide +kernel⟩ ⟨Nat.le_of_ble_eq_true rfl, Nat.le_of_ble_eq_true rfl⟩, (htx _ kw_6_206), (htx _ kp_M_letters)⟩ ⟨xPre_blind, va_recv hK hP (ci := 5) rfl (q0 := 0) rfl, (fun U hU hW => ⟨rfl, xPre_of hZ hS hFc hP hD hK U hU hW⟩)⟩ rfl rfl hl.1 rfl (xm_room (Nat.le_of_ble_eq_true rfl)) dM_times_252 ⟨hm5.1, hm5.2⟩) hS (fun q _ h => hFc q h) hFc (fun u9 t H1 locs ht hvm hr9 hB hz1 hk1 hS => ?_)
            obtain ⟨hP1, hK1, hD1⟩ := hB
            rw [ht] at hP1
            obtain ⟨ad7, gd8, vad9⟩ := u9
            obtain ⟨hv10, hn11⟩ := hr9
            have hP : va_P D xcl (xMw cT aM ad7 rd gd8 vad9 o3.2.2 []) H1 := hP1
            have hD : va_D A (xMw cT aM ad7 rd gd8 vad9 o3.2.2 []) := hD1.weaken (fun k q _ h => hFc q.1 h)
            generalize H1 = H at hP hS ⊢
            have hE9 : ∀ p, p < xct st → vad9 p = vad p := fun p h => (hv10 p (Nat.lt_of_lt_of_le h hN)).trans (hE p h)
            have hE := hE9
            have hN : xct st ≤ xct o3.2.2 := Nat.le_trans hN hn11
            have ev12 : xv vadL y1 = xv vad9 y1 := xvE hv10 (fun h => hg2 (Or.inr h))
            have ev13 : xv vadL y2 = xv vad9 y2 := xvE hv10 (fun h => hg1 (Or.inr h))
            have hl : lv_has ls 7 [(4, .long y4), (3, .int y3), (0, .ref aM), (1, xv vad9 y1), (2, xv vad9 y2)] := by first | exact hl | ((try (rw [← ev12])); (try (rw [← ev13])); exact hl)
            refine W.eq (g2 := F0 m 255 ls []) (by first | rfl | ((try (rw [ev12])); (try (rw [ev13])); rfl)) ?_
            refine lv_lload hx hb dM_times_255 (lv_at hl 0 rfl) ?_
            refine lv_lconst (v := 1) hx hb dM_times_257 (by decide) ?_
            refine lv_ladd hx hb dM_times_258 ?_
            refine lv_lstore (lv' := [(4, .long (y4 + (1 : Int64))), (3, .int y3), (0, .ref aM), (1, xv vad9 y1), (2, xv vad9 y2)]) hx hb dM_times_259 hl (by decide) rfl (fun ls hl => ?_)
            refine lv_goto (tgt := 233) hx hb dM_times_261 (by decide) ?_
            exact ih (1, (y4 + (1 : Int64)), y3, y1, y2, o3.2.2, (wc + o3.1), (wn + o3.2.1)) _ _ ls (⟨ad7, gd8, vad9, rfl, hf, hP, hD, hS, lv_sub hl [0, 1, 2, 3, 4] rfl, hE, hN⟩)
      refine xm_aload_n hx hb (xvor _ _) dM_times_0 rfl (lv_at hl 1 rfl) ?_
      obtain ⟨hg1, hf⟩ := xifn hf
      refine xm_vget (v := .int ((xpi st 0) (c0 - 1))) hx hb htx hown hK hP 0 (by decide) hg1 rfl ((hZ.1 (93, "kind", "I") (List.mem_of_getElem? (i := 0) rfl)).use rfl) rfl dM_times_1 ?_
      refine lv_iconst (v := 3) hx hb dM_times_4 (by decide) ?_
      refine lv_icmp_ne (tgt := 70) hx hb dM_times_5 (by decide) (fun hc => ?_) (fun hc => ?_)
      · rw [if_neg hc] at hf
        refine xm_aload_n hx hb (xvor _ _) dM_times_70 rfl (lv_at hl 1 rfl) ?_
        refine xm_vget (v := .int ((xpi st 0) (c0 - 1))) hx hb htx hown hK hP 0 (by decide) hg1 rfl ((hZ.1 (93, "kind", "I") (List.mem_of_getElem? (i := 0) rfl)).use rfl) rfl dM_times_71 ?_
        refine lv_bipush (v := 6) hx hb dM_times_74 (by decide) ?_
        refine lv_icmp_ne (tgt := 95) hx hb dM_times_76 (by decide) (fun hc => ?_) (fun hc => ?_)
        · rw [if_neg hc] at hf
          refine xm_aload_n hx hb (xvor _ _) dM_times_95 rfl (lv_at hl 1 rfl) ?_
          refine xm_vget (v := .int ((xpi st 0) (c0 - 1))) hx hb htx hown hK hP 0 (by decide) hg1 rfl ((hZ.1 (93, "kind", "I") (List.mem_of_getElem? (i := 0) rfl)).use rfl) rfl dM_times_96 ?_
          refine lv_iconst (v := 3) hx hb dM_times_99 (by decide) ?_
          refine lv_icmp_ne (tgt := 118) hx hb dM_times_100 (by decide) (fun hc => ?_) (fun hc => ?_)
          · rw [if_neg hc] at hf
            refine xm_aload_n hx hb (xvor _ _) dM_times_118 rfl (lv_at hl 1 rfl) ?_
            refine xm_vget (v := .int ((xpi st 0) (c0 - 1))) hx hb htx hown hK hP 0 (by decide) hg1 rfl ((hZ.1 (93, "kind", "I") (List.mem_of_getElem? (i := 0) rfl)).use rfl) rfl dM_times_119 ?_
            refine lv_iconst (v := 4) hx hb dM_times_122 (by decide) ?_
            refine lv_icmp_ne (tgt := 134) hx hb dM_times_123 (by decide) (fun hc => ?_) (fun hc => ?_)
            · rw [if_neg hc] at hf
              refine lv_aload_n hx hb dM_times_134 rfl (lv_at hl 0 rfl) ?_
              refine lv_iconst (v := 1) hx hb dM_times_135 (by decide) ?_
              obtain ⟨o2, hq3, hf⟩ := xbind hf
              have hl := lv_sub (l' := [(0, .ref aM)]) hl [0] rfl
              by_cases hk4 : o2.1 = 1
              · rw [if_pos hk4] at hf
                obtain ⟨hm5, hf⟩ := xmoE hf
                obtain rfl := Option.some.inj hf
                exact absurd (show (1 : Nat) = 0 from hkd) (by decide)
              rw [if_neg hk4] at hf
              exact nomatch hf
            · rw [if_pos hc] at hf
              refine xm_aload_n hx hb (xvor _ _) dM_times_126 rfl (lv_at hl 2 rfl) ?_
              obtain ⟨hg2, hf⟩ := xifn hf
              refine xm_vget (v := .int ((xpi st 0) (c1 - 1))) hx hb htx hown hK hP 0 (by decide) hg2 rfl ((hZ.1 (93, "kind", "I") (List.mem_of_getElem? (i := 0) rfl)).use rfl) rfl dM_times_127 ?_
              refine lv_iconst (v := 3) hx hb dM_times_130 (by decide) ?_
              refine lv_icmp_eq (tgt := 140) hx hb dM_times_131 (by decide) (fun hc => ?_) (fun hc => ?_)
              · rw [if_pos hc] at hf
                refine xm_aload_n hx hb (xvor _ _) dM_times_140 rfl (lv_at hl 2 rfl) ?_
                refine xm_vget (v := .long ((xpl st) (c1 - 1))) hx hb htx hown hK hP 1 (by decide) hg2 rfl ((hZ.1 (96, "n", "J") (List.mem_of_getElem? (i := 1) rfl)).use rfl) rfl dM_times_141 ?_
                refine lv_lconst (v := 1) hx hb dM_times_144 (by decide) ?_
                refine W.lcmp hx hb dM_times_145 ?_
                refine lv_if_ge (tgt := 155) hx hb dM_times_146 (by decide) (fun hc => ?_) (fun hc => ?_)
                · rw [if_pos hc] at hf
                  refine xm_aload_n hx hb (xvor _ _) dM_times_155 rfl (lv_at hl 2 rfl) ?_
                  refine xm_vget (v := .long ((xpl st) (c1 - 1))) hx hb htx hown hK hP 1 (by decide) hg2 rfl ((hZ.1 (96, "n", "J") (List.mem_of_getElem? (i := 1) rfl)).use rfl) rfl dM_times_156 ?_
                  refine xm_aload_n hx hb (xvor _ _) dM_times_159 rfl (lv_at hl 1 rfl) ?_
                  refine xm_vget (v := .int ((xpi st 3) (c0 - 1))) hx hb htx hown hK hP 3 (by decide) hg1 rfl ((hZ.1 (103, "count", "I") (List.mem_of_getElem? (i := 3) rfl)).use rfl) rfl dM_times_160 ?_
                  refine lv_i2l hx hb dM_times_163 rfl ?_
                  refine lv_lconst (v := 1) hx hb dM_times_164 (by decide) ?_
                  refine lv_ladd hx hb dM_times_165 ?_
                  refine lv_lmul hx hb dM_times_166 ?_
                  refine lv_ldc2 hx hb hown (htx _ kw_6_221) dM_times_167 ?_
                  refine W.lcmp hx hb dM_times_170 ?_
                  refine lv_if_le (tgt := 197) hx hb dM_times_171 (by decide) (fun hc => ?_) (fun hc => ?_)
                  · rw [if_pos hc] at hf
                    refine xm_aload_n hx hb (xvor _ _) dM_times_197 rfl (lv_at hl 1 rfl) ?_
                    refine xm_vget (v := .int ((xpi st 3) (c0 - 1))) hx hb htx hown hK hP 3 (by decide) hg1 rfl ((hZ.1 (103, "count", "I") (List.mem_of_getElem? (i := 3) rfl)).use rfl) rfl dM_times_198 ?_
                    refine lv_if_le (tgt := 225) hx hb dM_times_201 (by decide) (fun hc => ?_) (fun hc => ?_)
                    · rw [if_pos hc] at hf
                      refine lv_aload_n hx hb dM_times_225 rfl (lv_at hl 0 rfl) ?_
                      refine xm_get (v := .int (xsi st 4)) hx hb htx hown hK hP 4 (by decide) rfl (htx _ kw_5_91) rfl dM_times_226 ?_
                      refine lv_istore_n (lv' := [(3, .int (xsi st 4)), (0, .ref aM), (1, xv vad c0), (2, xv vad c1)]) hx hb dM_times_229 rfl hl (by decide) (by simp only [List.filter, xvcat, xrscat, xcI, xcL, xcR, xcN]; rfl) (fun ls hl => ?_)
                      refine lv_lconst (v := 0) hx hb dM_times_230 (by decide) ?_
                      refine lv_lstore (lv' := [(4, .long 0), (3, .int (xsi st 4)), (0, .ref aM), (1, xv vad c0), (2, xv vad c1)]) hx hb dM_times_231 hl (by decide) rfl (fun ls hl => ?_)
                      exact key n (1, (0 : Int64), (xsi st 4), c0, c1, st, 0, 0) _ _ ls (⟨ad, gd, vad, rfl, hf, hP, hD, hS, lv_sub hl [0, 1, 2, 3, 4] rfl, hE, hN⟩)
                    · rw [if_neg hc] at hf
                      refine xm_aload_n hx hb (xvor _ _) dM_times_204 rfl (lv_at hl 2 rfl) ?_
                      refine xm_vget (v := .long ((xpl st) (c1 - 1))) hx hb htx hown hK hP 1 (by decide) hg2 rfl ((hZ.1 (96, "n", "J") (List.mem_of_getElem? (i := 1) rfl)).use rfl) rfl dM_times_205 ?_
                      refine lv_ldc hx hb hown (htx _ kw_6_62) dM_times_208 ?_
                      refine xm_aload_n hx hb (xvor _ _) dM_times_210 rfl (lv_at hl 1 rfl) ?_
                      refine xm_vget (v := .int ((xpi st 3) (c0 - 1))) hx hb htx hown hK hP 3 (by decide) hg1 rfl ((hZ.1 (103, "count", "I") (List.mem_of_getElem? (i := 3) rfl)).use rfl) rfl dM_times_211 ?_
                      obtain ⟨hg3, hf⟩ := xifn hf
                      refine lv_idiv hx hb dM_times_214 hg3 ?_
                      refine lv_i2l hx hb dM_times_215 rfl ?_
                      refine W.lcmp hx hb dM_times_216 ?_
                      refine lv_if_le (tgt := 225) hx hb dM_times_217 (by decide) (fun hc => ?_) (fun hc => ?_)
                      · rw [if_pos hc] at hf
                        refine lv_aload_n hx hb dM_times_225 rfl (lv_at hl 0 rfl) ?_
                        refine xm_get (v := .int (xsi st 4)) hx hb htx hown hK hP 4 (by decide) rfl (htx _ kw_5_91) rfl dM_times_226 ?_
                        refine lv_istore_n (lv' := [(3, .int (xsi st 4)), (0, .ref aM), (1, xv vad c0), (2, xv vad c1)]) hx hb dM_times_229 rfl hl (by decide) (by simp only [List.filter, xvcat, xrscat, xcI, xcL, xcR, xcN]; rfl) (fun ls hl => ?_)
                        refine lv_lconst (v := 0) hx hb dM_times_230 (by decide) ?_
                        refine lv_lstore (lv' := [(4, .long 0), (3, .int (xsi st 4)), (0, .ref aM), (1, xv vad c0), (2, xv vad c1)]) hx hb dM_times_231 hl (by decide) rfl (fun ls hl => ?_)
                        exact key n (1, (0 : Int64), (xsi st 4), c0, c1, st, 0, 0) _ _ ls (⟨ad, gd, vad, rfl, hf, hP, hD, hS, lv_sub hl [0, 1, 2, 3, 4] rfl, hE, hN⟩)
                      · rw [if_neg hc] at hf
                        refine lv_aload_n hx hb dM_times_220 rfl (lv_at hl 0 rfl) ?_
                        obtain ⟨o4, hq5, hf⟩ := xbind hf
                        have hl := lv_sub (l' := [(0, .ref aM)]) hl [0] rfl
                        by_cases hk6 : o4.1 = 1
                        · rw [if_pos hk6] at hf
                          obtain ⟨hm7, hf⟩ := xmoE hf
                          obtain rfl := Option.some.inj hf
                          exact absurd (show (2 : Nat) = 0 from hkd) (by decide)
                        rw [if_neg hk6] at hf
                        exact nomatch hf
                  · rw [if_neg hc] at hf
                    refine xm_aload_n hx hb (xvor _ _) dM_times_174 rfl (lv_at hl 1 rfl) ?_
                    refine xm_vget (v := .int ((xpi st 3) (c0 - 1))) hx hb htx hown hK hP 3 (by decide) hg1 rfl ((hZ.1 (103, "count", "I") (List.mem_of_getElem? (i := 3) rfl)).use rfl) rfl dM_times_175 ?_
                    refine lv_if_le (tgt := 197) hx hb dM_times_178 (by decide) (fun hc => ?_) (fun hc => ?_)
                    · rw [if_pos hc] at hf
                      refine xm_aload_n hx hb (xvor _ _) dM_times_197 rfl (lv_at hl 1 rfl) ?_
                      refine xm_vget (v := .int ((xpi st 3) (c0 - 1))) hx hb htx hown hK hP 3 (by decide) hg1 rfl ((hZ.1 (103, "count", "I") (List.mem_of_getElem? (i := 3) rfl)).use rfl) rfl dM_times_198 ?_
                      refine lv_if_le (tgt := 225) hx hb dM_times_201 (by decide) (fun hc => ?_) (fun hc => ?_)
                      · rw [if_pos hc] at hf
                        refine lv_aload_n hx hb dM_times_225 rfl (lv_at hl 0 rfl) ?_
                        refine xm_get (v := .int (xsi st 4)) hx hb htx hown hK hP 4 (by decide) rfl (htx _ kw_5_91) rfl dM_times_226 ?_
                        refine lv_istore_n (lv' := [(3, .int (xsi st 4)), (0, .ref aM), (1, xv vad c0), (2, xv vad c1)]) hx hb dM_times_229 rfl hl (by decide) (by simp only [List.filter, xvcat, xrscat, xcI, xcL, xcR, xcN]; rfl) (fun ls hl => ?_)
                        refine lv_lconst (v := 0) hx hb dM_times_230 (by decide) ?_
                        refine lv_lstore (lv' := [(4, .long 0), (3, .int (xsi st 4)), (0, .ref aM), (1, xv vad c0), (2, xv vad c1)]) hx hb dM_times_231 hl (by decide) rfl (fun ls hl => ?_)
                        exact key n (1, (0 : Int64), (xsi st 4), c0, c1, st, 0, 0) _ _ ls (⟨ad, gd, vad, rfl, hf, hP, hD, hS, lv_sub hl [0, 1, 2, 3, 4] rfl, hE, hN⟩)
                      · rw [if_neg hc] at hf
                        refine xm_aload_n hx hb (xvor _ _) dM_times_204 rfl (lv_at hl 2 rfl) ?_
                        refine xm_vget (v := .long ((xpl st) (c1 - 1))) hx hb htx hown hK hP 1 (by decide) hg2 rfl ((hZ.1 (96, "n", "J") (List.mem_of_getElem? (i := 1) rfl)).use rfl) rfl dM_times_205 ?_
                        refine lv_ldc hx hb hown (htx _ kw_6_62) dM_times_208 ?_
                        refine xm_aload_n hx hb (xvor _ _) dM_times_210 rfl (lv_at hl 1 rfl) ?_
                        refine xm_vget (v := .int ((xpi st 3) (c0 - 1))) hx hb htx hown hK hP 3 (by decide) hg1 rfl ((hZ.1 (103, "count", "I") (List.mem_of_getElem? (i := 3) rfl)).use rfl) rfl dM_times_211 ?_
                        obtain ⟨hg3, hf⟩ := xifn hf
                        refine lv_idiv hx hb dM_times_214 hg3 ?_
                        refine lv_i2l hx hb dM_times_215 rfl ?_
                        refine W.lcmp hx hb dM_times_216 ?_
                        refine lv_if_le (tgt := 225) hx hb dM_times_217 (by decide) (fun hc => ?_) (fun hc => ?_)
                        · rw [if_pos hc] at hf
                          refine lv_aload_n hx hb dM_times_225 rfl (lv_at hl 0 rfl) ?_
                          refine xm_get (v := .int (xsi st 4)) hx hb htx hown hK hP 4 (by decide) rfl (htx _ kw_5_91) rfl dM_times_226 ?_
                          refine lv_istore_n (lv' := [(3, .int (xsi st 4)), (0, .ref aM), (1, xv vad c0), (2, xv vad c1)]) hx hb dM_times_229 rfl hl (by decide) (by simp only [List.filter, xvcat, xrscat, xcI, xcL, xcR, xcN]; rfl) (fun ls hl => ?_)
                          refine lv_lconst (v := 0) hx hb dM_times_230 (by decide) ?_
                          refine lv_lstore (lv' := [(4, .long 0), (3, .int (xsi st 4)), (0, .ref aM), (1, xv vad c0), (2, xv vad c1)]) hx hb dM_times_231 hl (by decide) rfl (fun ls hl => ?_)
                          exact key n (1, (0 : Int64), (xsi st 4), c0, c1, st, 0, 0) _ _ ls (⟨ad, gd, vad, rfl, hf, hP, hD, hS, lv_sub hl [0, 1, 2, 3, 4] rfl, hE, hN⟩)
                        · rw [if_neg hc] at hf
                          refine lv_aload_n hx hb dM_times_220 rfl (lv_at hl 0 rfl) ?_
                          obtain ⟨o4, hq5, hf⟩ := xbind hf
                          have hl := lv_sub (l' := [(0, .ref aM)]) hl [0] rfl
                          by_cases hk6 : o4.1 = 1
                          · rw [if_pos hk6] at hf
                            obtain ⟨hm7, hf⟩ := xmoE hf
                            obtain rfl := Option.some.inj hf
                            exact absurd (show (2 : Nat) = 0 from hkd) (by decide)
                          rw [if_neg hk6] at hf
                          exact nomatch hf
                    · rw [if_neg hc] at hf
                      refine xm_aload_n hx hb (xvor _ _) dM_times_181 rfl (lv_at hl 2 rfl) ?_
                      refine xm_vget (v := .long ((xpl st) (c1 - 1))) hx hb htx hown hK hP 1 (by decide) hg2 rfl ((hZ.1 (96, "n", "J") (List.mem_of_getElem? (i := 1) rfl)).use rfl) rfl dM_times_182 ?_
                      refine lv_ldc2 hx hb hown (htx _ kw_6_108) dM_times_185 ?_
                      refine W.lcmp hx hb dM_times_188 ?_
                      refine lv_if_le (tgt := 197) hx hb dM_times_189 (by decide) (fun hc => ?_) (fun hc => ?_)
                      · rw [if_pos hc] at hf
                        refine xm_aload_n hx hb (xvor _ _) dM_times_197 rfl (lv_at hl 1 rfl) ?_
                        refine xm_vget (v := .int ((xpi st 3) (c0 - 1))) hx hb htx hown hK hP 3 (by decide) hg1 rfl ((hZ.1 (103, "count", "I") (List.mem_of_getElem? (i := 3) rfl)).use rfl) rfl dM_times_198 ?_
                        refine lv_if_le (tgt := 225) hx hb dM_times_201 (by decide) (fun hc => ?_) (fun hc => ?_)
                        · rw [if_pos hc] at hf
                          refine lv_aload_n hx hb dM_times_225 rfl (lv_at hl 0 rfl) ?_
                          refine xm_get (v := .int (xsi st 4)) hx hb htx hown hK hP 4 (by decide) rfl (htx _ kw_5_91) rfl dM_times_226 ?_
                          refine lv_istore_n (lv' := [(3, .int (xsi st 4)), (0, .ref aM), (1, xv vad c0), (2, xv vad c1)]) hx hb dM_times_229 rfl hl (by decide) (by simp only [List.filter, xvcat, xrscat, xcI, xcL, xcR, xcN]; rfl) (fun ls hl => ?_)
                          refine lv_lconst (v := 0) hx hb dM_times_230 (by decide) ?_
                          refine lv_lstore (lv' := [(4, .long 0), (3, .int (xsi st 4)), (0, .ref aM), (1, xv vad c0), (2, xv vad c1)]) hx hb dM_times_231 hl (by decide) rfl (fun ls hl => ?_)
                          exact key n (1, (0 : Int64), (xsi st 4), c0, c1, st, 0, 0) _ _ ls (⟨ad, gd, vad, rfl, hf, hP, hD, hS, lv_sub hl [0, 1, 2, 3, 4] rfl, hE, hN⟩)
                        · rw [if_neg hc] at hf
                          refine xm_aload_n hx hb (xvor _ _) dM_times_204 rfl (lv_at hl 2 rfl) ?_
                          refine xm_vget (v := .long ((xpl st) (c1 - 1))) hx hb htx hown hK hP 1 (by decide) hg2 rfl ((hZ.1 (96, "n", "J") (List.mem_of_getElem? (i := 1) rfl)).use rfl) rfl dM_times_205 ?_
                          refine lv_ldc hx hb hown (htx _ kw_6_62) dM_times_208 ?_
                          refine xm_aload_n hx hb (xvor _ _) dM_times_210 rfl (lv_at hl 1 rfl) ?_
                          refine xm_vget (v := .int ((xpi st 3) (c0 - 1))) hx hb htx hown hK hP 3 (by decide) hg1 rfl ((hZ.1 (103, "count", "I") (List.mem_of_getElem? (i := 3) rfl)).use rfl) rfl dM_times_211 ?_
                          obtain ⟨hg3, hf⟩ := xifn hf
                          refine lv_idiv hx hb dM_times_214 hg3 ?_
                          refine lv_i2l hx hb dM_times_215 rfl ?_
                          refine W.lcmp hx hb dM_times_216 ?_
                          refine lv_if_le (tgt := 225) hx hb dM_times_217 (by decide) (fun hc => ?_) (fun hc => ?_)
                          · rw [if_pos hc] at hf
                            refine lv_aload_n hx hb dM_times_225 rfl (lv_at hl 0 rfl) ?_
                            refine xm_get (v := .int (xsi st 4)) hx hb htx hown hK hP 4 (by decide) rfl (htx _ kw_5_91) rfl dM_times_226 ?_
                            refine lv_istore_n (lv' := [(3, .int (xsi st 4)), (0, .ref aM), (1, xv vad c0), (2, xv vad c1)]) hx hb dM_times_229 rfl hl (by decide) (by simp only [List.filter, xvcat, xrscat, xcI, xcL, xcR, xcN]; rfl) (fun ls hl => ?_)
                            refine lv_lconst (v := 0) hx hb dM_times_230 (by decide) ?_
                            refine lv_lstore (lv' := [(4, .long 0), (3, .int (xsi st 4)), (0, .ref aM), (1, xv vad c0), (2, xv vad c1)]) hx hb dM_times_231 hl (by decide) rfl (fun ls hl => ?_)
                            exact key n (1, (0 : Int64), (xsi st 4), c0, c1, st, 0, 0) _ _ ls (⟨ad, gd, vad, rfl, hf, hP, hD, hS, lv_sub hl [0, 1, 2, 3, 4] rfl, hE, hN⟩)
                          · rw [if_neg hc] at hf
                            refine lv_aload_n hx hb dM_times_220 rfl (lv_at hl 0 rfl) ?_
                            obtain ⟨o4, hq5, hf⟩ := xbind hf
                            have hl := lv_sub (l' := [(0, .ref aM)]) hl [0] rfl
                            by_cases hk6 : o4.1 = 1
                            · rw [if_pos hk6] at hf
                              obtain ⟨hm7, hf⟩ := xmoE hf
                              obtain rfl := Option.some.inj hf
                              exact absurd (show (2 : Nat) = 0 from hkd) (by decide)
                            rw [if_neg hk6] at hf
                            exact nomatch hf
                      · rw [if_neg hc] at hf
                        refine lv_aload_n hx hb dM_times_192 rfl (lv_at hl 0 rfl) ?_
                        obtain ⟨o3, hq4, hf⟩ := xbind hf
                        have hl := lv_sub (l' := [(0, .ref aM)]) hl [0] rfl
                        by_cases hk5 : o3.1 = 1
                        · rw [if_pos hk5] at hf
                          obtain ⟨hm6, hf⟩ := xmoE hf
                          obtain rfl := Option.some.inj hf
                          exact absurd (show (2 : Nat) = 0 from hkd) (by decide)
                        rw [if_neg hk5] at hf
                        exact nomatch hf
                · rw [if_neg hc] at hf
                  refine lv_aload_n hx hb dM_times_149 rfl (lv_at hl 0 rfl) ?_
                  refine lv_iconst (v := 0) hx hb dM_times_150 (by decide) ?_
                  obtain ⟨o3, hq4, hf⟩ := xbind hf
                  have hl := lv_sub (l' := [(0, .ref aM)]) hl [0] rfl
                  obtain ⟨hm5, hf⟩ := xmoE hf
                  have hFc := xm_free hD hS hA
                  refine va_callq (va_runV (C := "ValueBenchModel") (As := [.int 0]) (rest := []) ⟨hx, hb, hml, hown, htx⟩ (gM_fresh l hl9 D cT aK aV s.heap.size n aM ad rd gd vad st (0 : Int32) o3 hq4) ⟨callB_of 1 htx (xw_goodC kw_6_16) rfl rfl rfl (htx _ kw_1_5) (htx _ kw_6_13) ⟨by decide, by decide, by decide +kernel⟩ ⟨Nat.le_of_ble_eq_true rfl, Nat.le_of_ble_eq_true rfl⟩, (htx _ kw_6_15), (htx _ kp_M_fresh)⟩ ⟨xPre_blind, va_recv hK hP (ci := 5) rfl (q0 := 0) rfl, (fun U hU hW => ⟨rfl, xPre_of hZ hS hFc hP hD hK U hU hW⟩)⟩ rfl rfl hl.1 rfl (xm_room (Nat.le_of_ble_eq_true rfl)) dM_times_151 ⟨hm5.1, hm5.2⟩) hS (fun q _ h => hFc q h) hFc (fun r6 u9 t H1 locs ht hvm hr9 hB hz1 hk1 hS => ?_)
                  obtain ⟨hP1, hK1, hD1⟩ := hB
                  rw [ht] at hP1
                  obtain ⟨ad7, gd8, vad9⟩ := u9
                  obtain ⟨hr9, hv10, hn11⟩ := hr9
                  have hP : va_P D xcl (xMw cT aM ad7 rd gd8 vad9 o3.2.2.2 []) H1 := hP1
                  have hD : va_D A (xMw cT aM ad7 rd gd8 vad9 o3.2.2.2 []) := hD1.weaken (fun k q _ h => hFc q.1 h)
                  generalize H1 = H at hP hS ⊢
                  have hE9 : ∀ p, p < xct st → vad9 p = vad p := fun p h => (hv10 p (Nat.lt_of_lt_of_le h hN)).trans (hE p h)
                  have hE := hE9
                  have hN : xct st ≤ xct o3.2.2.2 := Nat.le_trans hN hn11
                  rw [hr9]
                  refine W.eq (g2 := F0 m 154 ls [xv vad9 o3.2.2.1]) (by first | rfl | (skip; rfl)) ?_
                  obtain rfl := Option.some.inj hf
                  exact W.aret (v := xv vad9 o3.2.2.1) hx hb hr (Or.inl ⟨_, rfl⟩) (xvor _ _) (fun t ht hW => ⟨⟨xca vad9 o3.2.2.1, (ad7, gd8, vad9), rfl, ⟨rfl, hE, hN⟩, by rw [ht]; exact hP, va_K.moved hW.alike hK, hD⟩, hS.F ht⟩) hS.2.2 dM_times_154
              · rw [if_neg hc] at hf
                refine lv_aload_n hx hb dM_times_134 rfl (lv_at hl 0 rfl) ?_
                refine lv_iconst (v := 1) hx hb dM_times_135 (by decide) ?_
                obtain ⟨o3, hq4, hf⟩ := xbind hf
                have hl := lv_sub (l' := [(0, .ref aM)]) hl [0] rfl
                by_cases hk5 : o3.1 = 1
                · rw [if_pos hk5] at hf
                  obtain ⟨hm6, hf⟩ := xmoE hf
                  obtain rfl := Option.some.inj hf
                  exact absurd (show (1 : Nat) = 0 from hkd) (by decide)
                rw [if_neg hk5] at hf
                exact nomatch hf
          · rw [if_pos hc] at hf
            refine xm_aload_n hx hb (xvor _ _) dM_times_103 rfl (lv_at hl 2 rfl) ?_
            obtain ⟨hg2, hf⟩ := xifn hf
            refine xm_vget (v := .int ((xpi st 0) (c1 - 1))) hx hb htx hown hK hP 0 (by decide) hg2 rfl ((hZ.1 (93, "kind", "I") (List.mem_of_getElem? (i := 0) rfl)).use rfl) rfl dM_times_104 ?_
            refine lv_iconst (v := 4) hx hb dM_times_107 (by decide) ?_
            refine lv_icmp_ne (tgt := 118) hx hb dM_times_108 (by decide) (fun hc => ?_) (fun hc => ?_)
            · rw [if_neg hc] at hf
              refine xm_aload_n hx hb (xvor _ _) dM_times_118 rfl (lv_at hl 1 rfl) ?_
              refine xm_vget (v := .int ((xpi st 0) (c0 - 1))) hx hb htx hown hK hP 0 (by decide) hg1 rfl ((hZ.1 (93, "kind", "I") (List.mem_of_getElem? (i := 0) rfl)).use rfl) rfl dM_times_119 ?_
              refine lv_iconst (v := 4) hx hb dM_times_122 (by decide) ?_
              refine lv_icmp_ne (tgt := 134) hx hb dM_times_123 (by decide) (fun hc => ?_) (fun hc => ?_)
              · rw [if_neg hc] at hf
                refine lv_aload_n hx hb dM_times_134 rfl (lv_at hl 0 rfl) ?_
                refine lv_iconst (v := 1) hx hb dM_times_135 (by decide) ?_
                obtain ⟨o3, hq4, hf⟩ := xbind hf
                have hl := lv_sub (l' := [(0, .ref aM)]) hl [0] rfl
                by_cases hk5 : o3.1 = 1
                · rw [if_pos hk5] at hf
                  obtain ⟨hm6, hf⟩ := xmoE hf
                  obtain rfl := Option.some.inj hf
                  exact absurd (show (1 : Nat) = 0 from hkd) (by decide)
                rw [if_neg hk5] at hf
                exact nomatch hf
              · rw [if_pos hc] at hf
                refine xm_aload_n hx hb (xvor _ _) dM_times_126 rfl (lv_at hl 2 rfl) ?_
                refine xm_vget (v := .int ((xpi st 0) (c1 - 1))) hx hb htx hown hK hP 0 (by decide) hg2 rfl ((hZ.1 (93, "kind", "I") (List.mem_of_getElem? (i := 0) rfl)).use rfl) rfl dM_times_127 ?_
                refine lv_iconst (v := 3) hx hb dM_times_130 (by decide) ?_
                refine lv_icmp_eq (tgt := 140) hx hb dM_times_131 (by decide) (fun hc => ?_) (fun hc => ?_)
                · rw [if_pos hc] at hf
                  refine xm_aload_n hx hb (xvor _ _) dM_times_140 rfl (lv_at hl 2 rfl) ?_
                  refine xm_vget (v := .long ((xpl st) (c1 - 1))) hx hb htx hown hK hP 1 (by decide) hg2 rfl ((hZ.1 (96, "n", "J") (List.mem_of_getElem? (i := 1) rfl)).use rfl) rfl dM_times_141 ?_
                  refine lv_lconst (v := 1) hx hb dM_times_144 (by decide) ?_
                  refine W.lcmp hx hb dM_times_145 ?_
                  refine lv_if_ge (tgt := 155) hx hb dM_times_146 (by decide) (fun hc => ?_) (fun hc => ?_)
                  · rw [if_pos hc] at hf
                    refine xm_aload_n hx hb (xvor _ _) dM_times_155 rfl (lv_at hl 2 rfl) ?_
                    refine xm_vget (v := .long ((xpl st) (c1 - 1))) hx hb htx hown hK hP 1 (by decide) hg2 rfl ((hZ.1 (96, "n", "J") (List.mem_of_getElem? (i := 1) rfl)).use rfl) rfl dM_times_156 ?_
                    refine xm_aload_n hx hb (xvor _ _) dM_times_159 rfl (lv_at hl 1 rfl) ?_
                    refine xm_vget (v := .int ((xpi st 3) (c0 - 1))) hx hb htx hown hK hP 3 (by decide) hg1 rfl ((hZ.1 (103, "count", "I") (List.mem_of_getElem? (i := 3) rfl)).use rfl) rfl dM_times_160 ?_
                    refine lv_i2l hx hb dM_times_163 rfl ?_
                    refine lv_lconst (v := 1) hx hb dM_times_164 (by decide) ?_
                    refine lv_ladd hx hb dM_times_165 ?_
                    refine lv_lmul hx hb dM_times_166 ?_
                    refine lv_ldc2 hx hb hown (htx _ kw_6_221) dM_times_167 ?_
                    refine W.lcmp hx hb dM_times_170 ?_
                    refine lv_if_le (tgt := 197) hx hb dM_times_171 (by decide) (fun hc => ?_) (fun hc => ?_)
                    · rw [if_pos hc] at hf
                      refine xm_aload_n hx hb (xvor _ _) dM_times_197 rfl (lv_at hl 1 rfl) ?_
                      refine xm_vget (v := .int ((xpi st 3) (c0 - 1))) hx hb htx hown hK hP 3 (by decide) hg1 rfl ((hZ.1 (103, "count", "I") (List.mem_of_getElem? (i := 3) rfl)).use rfl) rfl dM_times_198 ?_
                      refine lv_if_le (tgt := 225) hx hb dM_times_201 (by decide) (fun hc => ?_) (fun hc => ?_)
                      · rw [if_pos hc] at hf
                        refine lv_aload_n hx hb dM_times_225 rfl (lv_at hl 0 rfl) ?_
                        refine xm_get (v := .int (xsi st 4)) hx hb htx hown hK hP 4 (by decide) rfl (htx _ kw_5_91) rfl dM_times_226 ?_
                        refine lv_istore_n (lv' := [(3, .int (xsi st 4)), (0, .ref aM), (1, xv vad c0), (2, xv vad c1)]) hx hb dM_times_229 rfl hl (by decide) (by simp only [List.filter, xvcat, xrscat, xcI, xcL, xcR, xcN]; rfl) (fun ls hl => ?_)
                        refine lv_lconst (v := 0) hx hb dM_times_230 (by decide) ?_
                        refine lv_lstore (lv' := [(4, .long 0), (3, .int (xsi st 4)), (0, .ref aM), (1, xv vad c0), (2, xv vad c1)]) hx hb dM_times_231 hl (by decide) rfl (fun ls hl => ?_)
                        exact key n (1, (0 : Int64), (xsi st 4), c0, c1, st, 0, 0) _ _ ls (⟨ad, gd, vad, rfl, hf, hP, hD, hS, lv_sub hl [0, 1, 2, 3, 4] rfl, hE, hN⟩)
                      · rw [if_neg hc] at hf
                        refine xm_aload_n hx hb (xvor _ _) dM_times_204 rfl (lv_at hl 2 rfl) ?_
                        refine xm_vget (v := .long ((xpl st) (c1 - 1))) hx hb htx hown hK hP 1 (by decide) hg2 rfl ((hZ.1 (96, "n", "J") (List.mem_of_getElem? (i := 1) rfl)).use rfl) rfl dM_times_205 ?_
                        refine lv_ldc hx hb hown (htx _ kw_6_62) dM_times_208 ?_
                        refine xm_aload_n hx hb (xvor _ _) dM_times_210 rfl (lv_at hl 1 rfl) ?_
                        refine xm_vget (v := .int ((xpi st 3) (c0 - 1))) hx hb htx hown hK hP 3 (by decide) hg1 rfl ((hZ.1 (103, "count", "I") (List.mem_of_getElem? (i := 3) rfl)).use rfl) rfl dM_times_211 ?_
                        obtain ⟨hg3, hf⟩ := xifn hf
                        refine lv_idiv hx hb dM_times_214 hg3 ?_
                        refine lv_i2l hx hb dM_times_215 rfl ?_
                        refine W.lcmp hx hb dM_times_216 ?_
                        refine lv_if_le (tgt := 225) hx hb dM_times_217 (by decide) (fun hc => ?_) (fun hc => ?_)
                        · rw [if_pos hc] at hf
                          refine lv_aload_n hx hb dM_times_225 rfl (lv_at hl 0 rfl) ?_
                          refine xm_get (v := .int (xsi st 4)) hx hb htx hown hK hP 4 (by decide) rfl (htx _ kw_5_91) rfl dM_times_226 ?_
                          refine lv_istore_n (lv' := [(3, .int (xsi st 4)), (0, .ref aM), (1, xv vad c0), (2, xv vad c1)]) hx hb dM_times_229 rfl hl (by decide) (by simp only [List.filter, xvcat, xrscat, xcI, xcL, xcR, xcN]; rfl) (fun ls hl => ?_)
                          refine lv_lconst (v := 0) hx hb dM_times_230 (by decide) ?_
                          refine lv_lstore (lv' := [(4, .long 0), (3, .int (xsi st 4)), (0, .ref aM), (1, xv vad c0), (2, xv vad c1)]) hx hb dM_times_231 hl (by decide) rfl (fun ls hl => ?_)
                          exact key n (1, (0 : Int64), (xsi st 4), c0, c1, st, 0, 0) _ _ ls (⟨ad, gd, vad, rfl, hf, hP, hD, hS, lv_sub hl [0, 1, 2, 3, 4] rfl, hE, hN⟩)
                        · rw [if_neg hc] at hf
                          refine lv_aload_n hx hb dM_times_220 rfl (lv_at hl 0 rfl) ?_
                          obtain ⟨o4, hq5, hf⟩ := xbind hf
                          have hl := lv_sub (l' := [(0, .ref aM)]) hl [0] rfl
                          by_cases hk6 : o4.1 = 1
                          · rw [if_pos hk6] at hf
                            obtain ⟨hm7, hf⟩ := xmoE hf
                            obtain rfl := Option.some.inj hf
                            exact absurd (show (2 : Nat) = 0 from hkd) (by decide)
                          rw [if_neg hk6] at hf
                          exact nomatch hf
                    · rw [if_neg hc] at hf
                      refine xm_aload_n hx hb (xvor _ _) dM_times_174 rfl (lv_at hl 1 rfl) ?_
                      refine xm_vget (v := .int ((xpi st 3) (c0 - 1))) hx hb htx hown hK hP 3 (by decide) hg1 rfl ((hZ.1 (103, "count", "I") (List.mem_of_getElem? (i := 3) rfl)).use rfl) rfl dM_times_175 ?_
                      refine lv_if_le (tgt := 197) hx hb dM_times_178 (by decide) (fun hc => ?_) (fun hc => ?_)
                      · rw [if_pos hc] at hf
                        refine xm_aload_n hx hb (xvor _ _) dM_times_197 rfl (lv_at hl 1 rfl) ?_
                        refine xm_vget (v := .int ((xpi st 3) (c0 - 1))) hx hb htx hown hK hP 3 (by decide) hg1 rfl ((hZ.1 (103, "count", "I") (List.mem_of_getElem? (i := 3) rfl)).use rfl) rfl dM_times_198 ?_
                        refine lv_if_le (tgt := 225) hx hb dM_times_201 (by decide) (fun hc => ?_) (fun hc => ?_)
                        · rw [if_pos hc] at hf
                          refine lv_aload_n hx hb dM_times_225 rfl (lv_at hl 0 rfl) ?_
                          refine xm_get (v := .int (xsi st 4)) hx hb htx hown hK hP 4 (by decide) rfl (htx _ kw_5_91) rfl dM_times_226 ?_
                          refine lv_istore_n (lv' := [(3, .int (xsi st 4)), (0, .ref aM), (1, xv vad c0), (2, xv vad c1)]) hx hb dM_times_229 rfl hl (by decide) (by simp only [List.filter, xvcat, xrscat, xcI, xcL, xcR, xcN]; rfl) (fun ls hl => ?_)
                          refine lv_lconst (v := 0) hx hb dM_times_230 (by decide) ?_
                          refine lv_lstore (lv' := [(4, .long 0), (3, .int (xsi st 4)), (0, .ref aM), (1, xv vad c0), (2, xv vad c1)]) hx hb dM_times_231 hl (by decide) rfl (fun ls hl => ?_)
                          exact key n (1, (0 : Int64), (xsi st 4), c0, c1, st, 0, 0) _ _ ls (⟨ad, gd, vad, rfl, hf, hP, hD, hS, lv_sub hl [0, 1, 2, 3, 4] rfl, hE, hN⟩)
                        · rw [if_neg hc] at hf
                          refine xm_aload_n hx hb (xvor _ _) dM_times_204 rfl (lv_at hl 2 rfl) ?_
                          refine xm_vget (v := .long ((xpl st) (c1 - 1))) hx hb htx hown hK hP 1 (by decide) hg2 rfl ((hZ.1 (96, "n", "J") (List.mem_of_getElem? (i := 1) rfl)).use rfl) rfl dM_times_205 ?_
                          refine lv_ldc hx hb hown (htx _ kw_6_62) dM_times_208 ?_
                          refine xm_aload_n hx hb (xvor _ _) dM_times_210 rfl (lv_at hl 1 rfl) ?_
                          refine xm_vget (v := .int ((xpi st 3) (c0 - 1))) hx hb htx hown hK hP 3 (by decide) hg1 rfl ((hZ.1 (103, "count", "I") (List.mem_of_getElem? (i := 3) rfl)).use rfl) rfl dM_times_211 ?_
                          obtain ⟨hg3, hf⟩ := xifn hf
                          refine lv_idiv hx hb dM_times_214 hg3 ?_
                          refine lv_i2l hx hb dM_times_215 rfl ?_
                          refine W.lcmp hx hb dM_times_216 ?_
                          refine lv_if_le (tgt := 225) hx hb dM_times_217 (by decide) (fun hc => ?_) (fun hc => ?_)
                          · rw [if_pos hc] at hf
                            refine lv_aload_n hx hb dM_times_225 rfl (lv_at hl 0 rfl) ?_
                            refine xm_get (v := .int (xsi st 4)) hx hb htx hown hK hP 4 (by decide) rfl (htx _ kw_5_91) rfl dM_times_226 ?_
                            refine lv_istore_n (lv' := [(3, .int (xsi st 4)), (0, .ref aM), (1, xv vad c0), (2, xv vad c1)]) hx hb dM_times_229 rfl hl (by decide) (by simp only [List.filter, xvcat, xrscat, xcI, xcL, xcR, xcN]; rfl) (fun ls hl => ?_)
                            refine lv_lconst (v := 0) hx hb dM_times_230 (by decide) ?_
                            refine lv_lstore (lv' := [(4, .long 0), (3, .int (xsi st 4)), (0, .ref aM), (1, xv vad c0), (2, xv vad c1)]) hx hb dM_times_231 hl (by decide) rfl (fun ls hl => ?_)
                            exact key n (1, (0 : Int64), (xsi st 4), c0, c1, st, 0, 0) _ _ ls (⟨ad, gd, vad, rfl, hf, hP, hD, hS, lv_sub hl [0, 1, 2, 3, 4] rfl, hE, hN⟩)
                          · rw [if_neg hc] at hf
                            refine lv_aload_n hx hb dM_times_220 rfl (lv_at hl 0 rfl) ?_
                            obtain ⟨o4, hq5, hf⟩ := xbind hf
                            have hl := lv_sub (l' := [(0, .ref aM)]) hl [0] rfl
                            by_cases hk6 : o4.1 = 1
                            · rw [if_pos hk6] at hf
                              obtain ⟨hm7, hf⟩ := xmoE hf
                              obtain rfl := Option.some.inj hf
                              exact absurd (show (2 : Nat) = 0 from hkd) (by decide)
                            rw [if_neg hk6] at hf
                            exact nomatch hf
                      · rw [if_neg hc] at hf
                        refine xm_aload_n hx hb (xvor _ _) dM_times_181 rfl (lv_at hl 2 rfl) ?_
                        refine xm_vget (v := .long ((xpl st) (c1 - 1))) hx hb htx hown hK hP 1 (by decide) hg2 rfl ((hZ.1 (96, "n", "J") (List.mem_of_getElem? (i := 1) rfl)).use rfl) rfl dM_times_182 ?_
                        refine lv_ldc2 hx hb hown (htx _ kw_6_108) dM_times_185 ?_
                        refine W.lcmp hx hb dM_times_188 ?_
                        refine lv_if_le (tgt := 197) hx hb dM_times_189 (by decide) (fun hc => ?_) (fun hc => ?_)
                        · rw [if_pos hc] at hf
                          refine xm_aload_n hx hb (xvor _ _) dM_times_197 rfl (lv_at hl 1 rfl) ?_
                          refine xm_vget (v := .int ((xpi st 3) (c0 - 1))) hx hb htx hown hK hP 3 (by decide) hg1 rfl ((hZ.1 (103, "count", "I") (List.mem_of_getElem? (i := 3) rfl)).use rfl) rfl dM_times_198 ?_
                          refine lv_if_le (tgt := 225) hx hb dM_times_201 (by decide) (fun hc => ?_) (fun hc => ?_)
                          · rw [if_pos hc] at hf
                            refine lv_aload_n hx hb dM_times_225 rfl (lv_at hl 0 rfl) ?_
                            refine xm_get (v := .int (xsi st 4)) hx hb htx hown hK hP 4 (by decide) rfl (htx _ kw_5_91) rfl dM_times_226 ?_
                            refine lv_istore_n (lv' := [(3, .int (xsi st 4)), (0, .ref aM), (1, xv vad c0), (2, xv vad c1)]) hx hb dM_times_229 rfl hl (by decide) (by simp only [List.filter, xvcat, xrscat, xcI, xcL, xcR, xcN]; rfl) (fun ls hl => ?_)
                            refine lv_lconst (v := 0) hx hb dM_times_230 (by decide) ?_
                            refine lv_lstore (lv' := [(4, .long 0), (3, .int (xsi st 4)), (0, .ref aM), (1, xv vad c0), (2, xv vad c1)]) hx hb dM_times_231 hl (by decide) rfl (fun ls hl => ?_)
                            exact key n (1, (0 : Int64), (xsi st 4), c0, c1, st, 0, 0) _ _ ls (⟨ad, gd, vad, rfl, hf, hP, hD, hS, lv_sub hl [0, 1, 2, 3, 4] rfl, hE, hN⟩)
                          · rw [if_neg hc] at hf
                            refine xm_aload_n hx hb (xvor _ _) dM_times_204 rfl (lv_at hl 2 rfl) ?_
                            refine xm_vget (v := .long ((xpl st) (c1 - 1))) hx hb htx hown hK hP 1 (by decide) hg2 rfl ((hZ.1 (96, "n", "J") (List.mem_of_getElem? (i := 1) rfl)).use rfl) rfl dM_times_205 ?_
                            refine lv_ldc hx hb hown (htx _ kw_6_62) dM_times_208 ?_
                            refine xm_aload_n hx hb (xvor _ _) dM_times_210 rfl (lv_at hl 1 rfl) ?_
                            refine xm_vget (v := .int ((xpi st 3) (c0 - 1))) hx hb htx hown hK hP 3 (by decide) hg1 rfl ((hZ.1 (103, "count", "I") (List.mem_of_getElem? (i := 3) rfl)).use rfl) rfl dM_times_211 ?_
                            obtain ⟨hg3, hf⟩ := xifn hf
                            refine lv_idiv hx hb dM_times_214 hg3 ?_
                            refine lv_i2l hx hb dM_times_215 rfl ?_
                            refine W.lcmp hx hb dM_times_216 ?_
                            refine lv_if_le (tgt := 225) hx hb dM_times_217 (by decide) (fun hc => ?_) (fun hc => ?_)
                            · rw [if_pos hc] at hf
                              refine lv_aload_n hx hb dM_times_225 rfl (lv_at hl 0 rfl) ?_
                              refine xm_get (v := .int (xsi st 4)) hx hb htx hown hK hP 4 (by decide) rfl (htx _ kw_5_91) rfl dM_times_226 ?_
                              refine lv_istore_n (lv' := [(3, .int (xsi st 4)), (0, .ref aM), (1, xv vad c0), (2, xv vad c1)]) hx hb dM_times_229 rfl hl (by decide) (by simp only [List.filter, xvcat, xrscat, xcI, xcL, xcR, xcN]; rfl) (fun ls hl => ?_)
                              refine lv_lconst (v := 0) hx hb dM_times_230 (by decide) ?_
                              refine lv_lstore (lv' := [(4, .long 0), (3, .int (xsi st 4)), (0, .ref aM), (1, xv vad c0), (2, xv vad c1)]) hx hb dM_times_231 hl (by decide) rfl (fun ls hl => ?_)
                              exact key n (1, (0 : Int64), (xsi st 4), c0, c1, st, 0, 0) _ _ ls (⟨ad, gd, vad, rfl, hf, hP, hD, hS, lv_sub hl [0, 1, 2, 3, 4] rfl, hE, hN⟩)
                            · rw [if_neg hc] at hf
                              refine lv_aload_n hx hb dM_times_220 rfl (lv_at hl 0 rfl) ?_
                              obtain ⟨o4, hq5, hf⟩ := xbind hf
                              have hl := lv_sub (l' := [(0, .ref aM)]) hl [0] rfl
                              by_cases hk6 : o4.1 = 1
                              · rw [if_pos hk6] at hf
                                obtain ⟨hm7, hf⟩ := xmoE hf
                                obtain rfl := Option.some.inj hf
                                exact absurd (show (2 : Nat) = 0 from hkd) (by decide)
                              rw [if_neg hk6] at hf
                              exact nomatch hf
                        · rw [if_neg hc] at hf
                          refine lv_aload_n hx hb dM_times_192 rfl (lv_at hl 0 rfl) ?_
                          obtain ⟨o3, hq4, hf⟩ := xbind hf
                          have hl := lv_sub (l' := [(0, .ref aM)]) hl [0] rfl
                          by_cases hk5 : o3.1 = 1
                          · rw [if_pos hk5] at hf
                            obtain ⟨hm6, hf⟩ := xmoE hf
                            obtain rfl := Option.some.inj hf
                            exact absurd (show (2 : Nat) = 0 from hkd) (by decide)
                          rw [if_neg hk5] at hf
                          exact nomatch hf
                  · rw [if_neg hc] at hf
                    refine lv_aload_n hx hb dM_times_149 rfl (lv_at hl 0 rfl) ?_
                    refine lv_iconst (v := 0) hx hb dM_times_150 (by decide) ?_
                    obtain ⟨o3, hq4, hf⟩ := xbind hf
                    have hl := lv_sub (l' := [(0, .ref aM)]) hl [0] rfl
                    obtain ⟨hm5, hf⟩ := xmoE hf
                    have hFc := xm_free hD hS hA
                    refine va_callq (va_runV (C := "ValueBenchModel") (As := [.int 0]) (rest := []) ⟨hx, hb, hml, hown, htx⟩ (gM_fresh l hl9 D cT aK aV s.heap.size n aM ad rd gd vad st (0 : Int32) o3 hq4) ⟨callB_of 1 htx (xw_goodC kw_6_16) rfl rfl rfl (htx _ kw_1_5) (htx _ kw_6_13) ⟨by decide, by decide, by decide +kernel⟩ ⟨Nat.le_of_ble_eq_true rfl, Nat.le_of_ble_eq_true rfl⟩, (htx _ kw_6_15), (htx _ kp_M_fresh)⟩ ⟨xPre_blind, va_recv hK hP (ci := 5) rfl (q0 := 0) rfl, (fun U hU hW => ⟨rfl, xPre_of hZ hS hFc hP hD hK U hU hW⟩)⟩ rfl rfl hl.1 rfl (xm_room (Nat.le_of_ble_eq_true rfl)) dM_times_151 ⟨hm5.1, hm5.2⟩) hS (fun q _ h => hFc q h) hFc (fun r6 u9 t H1 locs ht hvm hr9 hB hz1 hk1 hS => ?_)
                    obtain ⟨hP1, hK1, hD1⟩ := hB
                    rw [ht] at hP1
                    obtain ⟨ad7, gd8, vad9⟩ := u9
                    obtain ⟨hr9, hv10, hn11⟩ := hr9
                    have hP : va_P D xcl (xMw cT aM ad7 rd gd8 vad9 o3.2.2.2 []) H1 := hP1
                    have hD : va_D A (xMw cT aM ad7 rd gd8 vad9 o3.2.2.2 []) := hD1.weaken (fun k q _ h => hFc q.1 h)
                    generalize H1 = H at hP hS ⊢
                    have hE9 : ∀ p, p < xct st → vad9 p = vad p := fun p h => (hv10 p (Nat.lt_of_lt_of_le h hN)).trans (hE p h)
                    have hE := hE9
                    have hN : xct st ≤ xct o3.2.2.2 := Nat.le_trans hN hn11
                    rw [hr9]
                    refine W.eq (g2 := F0 m 154 ls [xv vad9 o3.2.2.1]) (by first | rfl | (skip; rfl)) ?_
                    obtain rfl := Option.some.inj hf
                    exact W.aret (v := xv vad9 o3.2.2.1) hx hb hr (Or.inl ⟨_, rfl⟩) (xvor _ _) (fun t ht hW => ⟨⟨xca vad9 o3.2.2.1, (ad7, gd8, vad9), rfl, ⟨rfl, hE, hN⟩, by rw [ht]; exact hP, va_K.moved hW.alike hK, hD⟩, hS.F ht⟩) hS.2.2 dM_times_154
                · rw [if_neg hc] at hf
                  refine lv_aload_n hx hb dM_times_134 rfl (lv_at hl 0 rfl) ?_
                  refine lv_iconst (v := 1) hx hb dM_times_135 (by decide) ?_
                  obtain ⟨o3, hq4, hf⟩ := xbind hf
                  have hl := lv_sub (l' := [(0, .ref aM)]) hl [0] rfl
                  by_cases hk5 : o3.1 = 1
                  · rw [if_pos hk5] at hf
                    obtain ⟨hm6, hf⟩ := xmoE hf
                    obtain rfl := Option.some.inj hf
                    exact absurd (show (1 : Nat) = 0 from hkd) (by decide)
                  rw [if_neg hk5] at hf
                  exact nomatch hf
            · rw [if_pos hc] at hf
              refine lv_aload_n hx hb dM_times_111 rfl (lv_at hl 0 rfl) ?_
              refine xm_aload_n hx hb (xvor _ _) dM_times_112 rfl (lv_at hl 2 rfl) ?_
              refine xm_aload_n hx hb (xvor _ _) dM_times_113 rfl (lv_at hl 1 rfl) ?_
              obtain ⟨o3, hq4, hf⟩ := xbind hf
              have hl := lv_sub (l' := [(0, .ref aM)]) hl [0] rfl
              by_cases hk5 : o3.1 = 0
              · rw [if_pos hk5] at hf
                obtain ⟨hm6, hf⟩ := xmoE hf
                have hFc := xm_free hD hS hA
                refine va_callq (va_runV (C := "ValueBenchModel") (As := [xv vad c1, xv vad c0]) (rest := []) ⟨hx, hb, hml, hown, htx⟩ ((hrec s.heap.size aM ad rd gd vad st c1 c0 o3 hq4).1 hk5) ⟨callB_of 2 htx (xw_goodC kw_6_215) rfl rfl rfl (htx _ kw_1_5) (htx _ kw_6_212) ⟨by decide, by decide, by decide +kernel⟩ ⟨(by show (16 * d) + 1 ≤ 16 * (d + 1); omega), (by show 8 + (7 + 11) + (400 * d) ≤ 400 * (d + 1); omega)⟩, (htx _ kw_6_214), (htx _ kp_M_times)⟩ ⟨xPre_blind, va_recv hK hP (ci := 5) rfl (q0 := 0) rfl, (fun U hU hW => ⟨rfl, xPre_of hZ hS hFc hP hD hK U hU hW⟩)⟩ rfl rfl hl.1 rfl (xm_room (Nat.le_of_ble_eq_true rfl)) dM_times_114 ⟨hm6.1, hm6.2⟩) hS (fun q _ h => hFc q h) hFc (fun r7 u9 t H1 locs ht hvm hr9 hB hz1 hk1 hS => ?_)
                obtain ⟨hP1, hK1, hD1⟩ := hB
                rw [ht] at hP1
                obtain ⟨ad8, gd9, vad10⟩ := u9
                obtain ⟨hr9, hv11, hn12⟩ := hr9
                have hP : va_P D xcl (xMw cT aM ad8 rd gd9 vad10 o3.2.2.2.2 []) H1 := hP1
                have hD : va_D A (xMw cT aM ad8 rd gd9 vad10 o3.2.2.2.2 []) := hD1.weaken (fun k q _ h => hFc q.1 h)
                generalize H1 = H at hP hS ⊢
                have hE9 : ∀ p, p < xct st → vad10 p = vad p := fun p h => (hv11 p (Nat.lt_of_lt_of_le h hN)).trans (hE p h)
                have hE := hE9
                have hN : xct st ≤ xct o3.2.2.2.2 := Nat.le_trans hN hn12
                rw [hr9]
                refine W.eq (g2 := F0 m 117 ls [xv vad10 o3.2.2.2.1]) (by first | rfl | (skip; rfl)) ?_
                obtain rfl := Option.some.inj hf
                exact W.aret (v := xv vad10 o3.2.2.2.1) hx hb hr (Or.inl ⟨_, rfl⟩) (xvor _ _) (fun t ht hW => ⟨⟨xca vad10 o3.2.2.2.1, (ad8, gd9, vad10), rfl, ⟨rfl, hE, hN⟩, by rw [ht]; exact hP, va_K.moved hW.alike hK, hD⟩, hS.F ht⟩) hS.2.2 dM_times_117
              rw [if_neg hk5] at hf
              by_cases hk13 : o3.1 = 1
              · rw [if_pos hk13] at hf
                obtain ⟨hm14, hf⟩ := xmoE hf
                obtain rfl := Option.some.inj hf
                exact absurd (show (1 : Nat) = 0 from hkd) (by decide)
              rw [if_neg hk13] at hf
              by_cases hk21 : o3.1 = 2
              · rw [if_pos hk21] at hf
                obtain ⟨hm22, hf⟩ := xmoE hf
                obtain rfl := Option.some.inj hf
                exact absurd (show (2 : Nat) = 0 from hkd) (by decide)
              rw [if_neg hk21] at hf
              exact nomatch hf
        · rw [if_pos hc] at hf
          refine xm_aload_n hx hb (xvor _ _) dM_times_79 rfl (lv_at hl 2 rfl) ?_
          obtain ⟨hg2, hf⟩ := xifn hf
          refine xm_vget (v := .int ((xpi st 0) (c1 - 1))) hx hb htx hown hK hP 0 (by decide) hg2 rfl ((hZ.1 (93, "kind", "I") (List.mem_of_getElem? (i := 0) rfl)).use rfl) rfl dM_times_80 ?_
          refine lv_bipush (v := 6) hx hb dM_times_83 (by decide) ?_
          refine lv_icmp_ne (tgt := 95) hx hb dM_times_85 (by decide) (fun hc => ?_) (fun hc => ?_)
          · rw [if_neg hc] at hf
            refine xm_aload_n hx hb (xvor _ _) dM_times_95 rfl (lv_at hl 1 rfl) ?_
            refine xm_vget (v := .int ((xpi st 0) (c0 - 1))) hx hb htx hown hK hP 0 (by decide) hg1 rfl ((hZ.1 (93, "kind", "I") (List.mem_of_getElem? (i := 0) rfl)).use rfl) rfl dM_times_96 ?_
            refine lv_iconst (v := 3) hx hb dM_times_99 (by decide) ?_
            refine lv_icmp_ne (tgt := 118) hx hb dM_times_100 (by decide) (fun hc => ?_) (fun hc => ?_)
            · rw [if_neg hc] at hf
              refine xm_aload_n hx hb (xvor _ _) dM_times_118 rfl (lv_at hl 1 rfl) ?_
              refine xm_vget (v := .int ((xpi st 0) (c0 - 1))) hx hb htx hown hK hP 0 (by decide) hg1 rfl ((hZ.1 (93, "kind", "I") (List.mem_of_getElem? (i := 0) rfl)).use rfl) rfl dM_times_119 ?_
              refine lv_iconst (v := 4) hx hb dM_times_122 (by decide) ?_
              refine lv_icmp_ne (tgt := 134) hx hb dM_times_123 (by decide) (fun hc => ?_) (fun hc => ?_)
              · rw [if_neg hc] at hf
                refine lv_aload_n hx hb dM_times_134 rfl (lv_at hl 0 rfl) ?_
                refine lv_iconst (v := 1) hx hb dM_times_135 (by decide) ?_
                obtain ⟨o3, hq4, hf⟩ := xbind hf
                have hl := lv_sub (l' := [(0, .ref aM)]) hl [0] rfl
                by_cases hk5 : o3.1 = 1
                · rw [if_pos hk5] at hf
                  obtain ⟨hm6, hf⟩ := xmoE hf
                  obtain rfl := Option.some.inj hf
                  exact absurd (show (1 : Nat) = 0 from hkd) (by decide)
                rw [if_neg hk5] at hf
                exact nomatch hf
              · rw [if_pos hc] at hf
                refine xm_aload_n hx hb (xvor _ _) dM_times_126 rfl (lv_at hl 2 rfl) ?_
                refine xm_vget (v := .int ((xpi st 0) (c1 - 1))) hx hb htx hown hK hP 0 (by decide) hg2 rfl ((hZ.1 (93, "kind", "I") (List.mem_of_getElem? (i := 0) rfl)).use rfl) rfl dM_times_127 ?_
                refine lv_iconst (v := 3) hx hb dM_times_130 (by decide) ?_
                refine lv_icmp_eq (tgt := 140) hx hb dM_times_131 (by decide) (fun hc => ?_) (fun hc => ?_)
                · rw [if_pos hc] at hf
                  refine xm_aload_n hx hb (xvor _ _) dM_times_140 rfl (lv_at hl 2 rfl) ?_
                  refine xm_vget (v := .long ((xpl st) (c1 - 1))) hx hb htx hown hK hP 1 (by decide) hg2 rfl ((hZ.1 (96, "n", "J") (List.mem_of_getElem? (i := 1) rfl)).use rfl) rfl dM_times_141 ?_
                  refine lv_lconst (v := 1) hx hb dM_times_144 (by decide) ?_
                  refine W.lcmp hx hb dM_times_145 ?_
                  refine lv_if_ge (tgt := 155) hx hb dM_times_146 (by decide) (fun hc => ?_) (fun hc => ?_)
                  · rw [if_pos hc] at hf
                    refine xm_aload_n hx hb (xvor _ _) dM_times_155 rfl (lv_at hl 2 rfl) ?_
                    refine xm_vget (v := .long ((xpl st) (c1 - 1))) hx hb htx hown hK hP 1 (by decide) hg2 rfl ((hZ.1 (96, "n", "J") (List.mem_of_getElem? (i := 1) rfl)).use rfl) rfl dM_times_156 ?_
                    refine xm_aload_n hx hb (xvor _ _) dM_times_159 rfl (lv_at hl 1 rfl) ?_
                    refine xm_vget (v := .int ((xpi st 3) (c0 - 1))) hx hb htx hown hK hP 3 (by decide) hg1 rfl ((hZ.1 (103, "count", "I") (List.mem_of_getElem? (i := 3) rfl)).use rfl) rfl dM_times_160 ?_
                    refine lv_i2l hx hb dM_times_163 rfl ?_
                    refine lv_lconst (v := 1) hx hb dM_times_164 (by decide) ?_
                    refine lv_ladd hx hb dM_times_165 ?_
                    refine lv_lmul hx hb dM_times_166 ?_
                    refine lv_ldc2 hx hb hown (htx _ kw_6_221) dM_times_167 ?_
                    refine W.lcmp hx hb dM_times_170 ?_
                    refine lv_if_le (tgt := 197) hx hb dM_times_171 (by decide) (fun hc => ?_) (fun hc => ?_)
                    · rw [if_pos hc] at hf
                      refine xm_aload_n hx hb (xvor _ _) dM_times_197 rfl (lv_at hl 1 rfl) ?_
                      refine xm_vget (v := .int ((xpi st 3) (c0 - 1))) hx hb htx hown hK hP 3 (by decide) hg1 rfl ((hZ.1 (103, "count", "I") (List.mem_of_getElem? (i := 3) rfl)).use rfl) rfl dM_times_198 ?_
                      refine lv_if_le (tgt := 225) hx hb dM_times_201 (by decide) (fun hc => ?_) (fun hc => ?_)
                      · rw [if_pos hc] at hf
                        refine lv_aload_n hx hb dM_times_225 rfl (lv_at hl 0 rfl) ?_
                        refine xm_get (v := .int (xsi st 4)) hx hb htx hown hK hP 4 (by decide) rfl (htx _ kw_5_91) rfl dM_times_226 ?_
                        refine lv_istore_n (lv' := [(3, .int (xsi st 4)), (0, .ref aM), (1, xv vad c0), (2, xv vad c1)]) hx hb dM_times_229 rfl hl (by decide) (by simp only [List.filter, xvcat, xrscat, xcI, xcL, xcR, xcN]; rfl) (fun ls hl => ?_)
                        refine lv_lconst (v := 0) hx hb dM_times_230 (by decide) ?_
                        refine lv_lstore (lv' := [(4, .long 0), (3, .int (xsi st 4)), (0, .ref aM), (1, xv vad c0), (2, xv vad c1)]) hx hb dM_times_231 hl (by decide) rfl (fun ls hl => ?_)
                        exact key n (1, (0 : Int64), (xsi st 4), c0, c1, st, 0, 0) _ _ ls (⟨ad, gd, vad, rfl, hf, hP, hD, hS, lv_sub hl [0, 1, 2, 3, 4] rfl, hE, hN⟩)
                      · rw [if_neg hc] at hf
                        refine xm_aload_n hx hb (xvor _ _) dM_times_204 rfl (lv_at hl 2 rfl) ?_
                        refine xm_vget (v := .long ((xpl st) (c1 - 1))) hx hb htx hown hK hP 1 (by decide) hg2 rfl ((hZ.1 (96, "n", "J") (List.mem_of_getElem? (i := 1) rfl)).use rfl) rfl dM_times_205 ?_
                        refine lv_ldc hx hb hown (htx _ kw_6_62) dM_times_208 ?_
                        refine xm_aload_n hx hb (xvor _ _) dM_times_210 rfl (lv_at hl 1 rfl) ?_
                        refine xm_vget (v := .int ((xpi st 3) (c0 - 1))) hx hb htx hown hK hP 3 (by decide) hg1 rfl ((hZ.1 (103, "count", "I") (List.mem_of_getElem? (i := 3) rfl)).use rfl) rfl dM_times_211 ?_
                        obtain ⟨hg3, hf⟩ := xifn hf
                        refine lv_idiv hx hb dM_times_214 hg3 ?_
                        refine lv_i2l hx hb dM_times_215 rfl ?_
                        refine W.lcmp hx hb dM_times_216 ?_
                        refine lv_if_le (tgt := 225) hx hb dM_times_217 (by decide) (fun hc => ?_) (fun hc => ?_)
                        · rw [if_pos hc] at hf
                          refine lv_aload_n hx hb dM_times_225 rfl (lv_at hl 0 rfl) ?_
                          refine xm_get (v := .int (xsi st 4)) hx hb htx hown hK hP 4 (by decide) rfl (htx _ kw_5_91) rfl dM_times_226 ?_
                          refine lv_istore_n (lv' := [(3, .int (xsi st 4)), (0, .ref aM), (1, xv vad c0), (2, xv vad c1)]) hx hb dM_times_229 rfl hl (by decide) (by simp only [List.filter, xvcat, xrscat, xcI, xcL, xcR, xcN]; rfl) (fun ls hl => ?_)
                          refine lv_lconst (v := 0) hx hb dM_times_230 (by decide) ?_
                          refine lv_lstore (lv' := [(4, .long 0), (3, .int (xsi st 4)), (0, .ref aM), (1, xv vad c0), (2, xv vad c1)]) hx hb dM_times_231 hl (by decide) rfl (fun ls hl => ?_)
                          exact key n (1, (0 : Int64), (xsi st 4), c0, c1, st, 0, 0) _ _ ls (⟨ad, gd, vad, rfl, hf, hP, hD, hS, lv_sub hl [0, 1, 2, 3, 4] rfl, hE, hN⟩)
                        · rw [if_neg hc] at hf
                          refine lv_aload_n hx hb dM_times_220 rfl (lv_at hl 0 rfl) ?_
                          obtain ⟨o4, hq5, hf⟩ := xbind hf
                          have hl := lv_sub (l' := [(0, .ref aM)]) hl [0] rfl
                          by_cases hk6 : o4.1 = 1
                          · rw [if_pos hk6] at hf
                            obtain ⟨hm7, hf⟩ := xmoE hf
                            obtain rfl := Option.some.inj hf
                            exact absurd (show (2 : Nat) = 0 from hkd) (by decide)
                          rw [if_neg hk6] at hf
                          exact nomatch hf
                    · rw [if_neg hc] at hf
                      refine xm_aload_n hx hb (xvor _ _) dM_times_174 rfl (lv_at hl 1 rfl) ?_
                      refine xm_vget (v := .int ((xpi st 3) (c0 - 1))) hx hb htx hown hK hP 3 (by decide) hg1 rfl ((hZ.1 (103, "count", "I") (List.mem_of_getElem? (i := 3) rfl)).use rfl) rfl dM_times_175 ?_
                      refine lv_if_le (tgt := 197) hx hb dM_times_178 (by decide) (fun hc => ?_) (fun hc => ?_)
                      · rw [if_pos hc] at hf
                        refine xm_aload_n hx hb (xvor _ _) dM_times_197 rfl (lv_at hl 1 rfl) ?_
                        refine xm_vget (v := .int ((xpi st 3) (c0 - 1))) hx hb htx hown hK hP 3 (by decide) hg1 rfl ((hZ.1 (103, "count", "I") (List.mem_of_getElem? (i := 3) rfl)).use rfl) rfl dM_times_198 ?_
                        refine lv_if_le (tgt := 225) hx hb dM_times_201 (by decide) (fun hc => ?_) (fun hc => ?_)
                        · rw [if_pos hc] at hf
                          refine lv_aload_n hx hb dM_times_225 rfl (lv_at hl 0 rfl) ?_
                          refine xm_get (v := .int (xsi st 4)) hx hb htx hown hK hP 4 (by decide) rfl (htx _ kw_5_91) rfl dM_times_226 ?_
                          refine lv_istore_n (lv' := [(3, .int (xsi st 4)), (0, .ref aM), (1, xv vad c0), (2, xv vad c1)]) hx hb dM_times_229 rfl hl (by decide) (by simp only [List.filter, xvcat, xrscat, xcI, xcL, xcR, xcN]; rfl) (fun ls hl => ?_)
                          refine lv_lconst (v := 0) hx hb dM_times_230 (by decide) ?_
                          refine lv_lstore (lv' := [(4, .long 0), (3, .int (xsi st 4)), (0, .ref aM), (1, xv vad c0), (2, xv vad c1)]) hx hb dM_times_231 hl (by decide) rfl (fun ls hl => ?_)
                          exact key n (1, (0 : Int64), (xsi st 4), c0, c1, st, 0, 0) _ _ ls (⟨ad, gd, vad, rfl, hf, hP, hD, hS, lv_sub hl [0, 1, 2, 3, 4] rfl, hE, hN⟩)
                        · rw [if_neg hc] at hf
                          refine xm_aload_n hx hb (xvor _ _) dM_times_204 rfl (lv_at hl 2 rfl) ?_
                          refine xm_vget (v := .long ((xpl st) (c1 - 1))) hx hb htx hown hK hP 1 (by decide) hg2 rfl ((hZ.1 (96, "n", "J") (List.mem_of_getElem? (i := 1) rfl)).use rfl) rfl dM_times_205 ?_
                          refine lv_ldc hx hb hown (htx _ kw_6_62) dM_times_208 ?_
                          refine xm_aload_n hx hb (xvor _ _) dM_times_210 rfl (lv_at hl 1 rfl) ?_
                          refine xm_vget (v := .int ((xpi st 3) (c0 - 1))) hx hb htx hown hK hP 3 (by decide) hg1 rfl ((hZ.1 (103, "count", "I") (List.mem_of_getElem? (i := 3) rfl)).use rfl) rfl dM_times_211 ?_
                          obtain ⟨hg3, hf⟩ := xifn hf
                          refine lv_idiv hx hb dM_times_214 hg3 ?_
                          refine lv_i2l hx hb dM_times_215 rfl ?_
                          refine W.lcmp hx hb dM_times_216 ?_
                          refine lv_if_le (tgt := 225) hx hb dM_times_217 (by decide) (fun hc => ?_) (fun hc => ?_)
                          · rw [if_pos hc] at hf
                            refine lv_aload_n hx hb dM_times_225 rfl (lv_at hl 0 rfl) ?_
                            refine xm_get (v := .int (xsi st 4)) hx hb htx hown hK hP 4 (by decide) rfl (htx _ kw_5_91) rfl dM_times_226 ?_
                            refine lv_istore_n (lv' := [(3, .int (xsi st 4)), (0, .ref aM), (1, xv vad c0), (2, xv vad c1)]) hx hb dM_times_229 rfl hl (by decide) (by simp only [List.filter, xvcat, xrscat, xcI, xcL, xcR, xcN]; rfl) (fun ls hl => ?_)
                            refine lv_lconst (v := 0) hx hb dM_times_230 (by decide) ?_
                            refine lv_lstore (lv' := [(4, .long 0), (3, .int (xsi st 4)), (0, .ref aM), (1, xv vad c0), (2, xv vad c1)]) hx hb dM_times_231 hl (by decide) rfl (fun ls hl => ?_)
                            exact key n (1, (0 : Int64), (xsi st 4), c0, c1, st, 0, 0) _ _ ls (⟨ad, gd, vad, rfl, hf, hP, hD, hS, lv_sub hl [0, 1, 2, 3, 4] rfl, hE, hN⟩)
                          · rw [if_neg hc] at hf
                            refine lv_aload_n hx hb dM_times_220 rfl (lv_at hl 0 rfl) ?_
                            obtain ⟨o4, hq5, hf⟩ := xbind hf
                            have hl := lv_sub (l' := [(0, .ref aM)]) hl [0] rfl
                            by_cases hk6 : o4.1 = 1
                            · rw [if_pos hk6] at hf
                              obtain ⟨hm7, hf⟩ := xmoE hf
                              obtain rfl := Option.some.inj hf
                              exact absurd (show (2 : Nat) = 0 from hkd) (by decide)
                            rw [if_neg hk6] at hf
                            exact nomatch hf
                      · rw [if_neg hc] at hf
                        refine xm_aload_n hx hb (xvor _ _) dM_times_181 rfl (lv_at hl 2 rfl) ?_
                        refine xm_vget (v := .long ((xpl st) (c1 - 1))) hx hb htx hown hK hP 1 (by decide) hg2 rfl ((hZ.1 (96, "n", "J") (List.mem_of_getElem? (i := 1) rfl)).use rfl) rfl dM_times_182 ?_
                        refine lv_ldc2 hx hb hown (htx _ kw_6_108) dM_times_185 ?_
                        refine W.lcmp hx hb dM_times_188 ?_
                        refine lv_if_le (tgt := 197) hx hb dM_times_189 (by decide) (fun hc => ?_) (fun hc => ?_)
                        · rw [if_pos hc] at hf
                          refine xm_aload_n hx hb (xvor _ _) dM_times_197 rfl (lv_at hl 1 rfl) ?_
                          refine xm_vget (v := .int ((xpi st 3) (c0 - 1))) hx hb htx hown hK hP 3 (by decide) hg1 rfl ((hZ.1 (103, "count", "I") (List.mem_of_getElem? (i := 3) rfl)).use rfl) rfl dM_times_198 ?_
                          refine lv_if_le (tgt := 225) hx hb dM_times_201 (by decide) (fun hc => ?_) (fun hc => ?_)
                          · rw [if_pos hc] at hf
                            refine lv_aload_n hx hb dM_times_225 rfl (lv_at hl 0 rfl) ?_
                            refine xm_get (v := .int (xsi st 4)) hx hb htx hown hK hP 4 (by decide) rfl (htx _ kw_5_91) rfl dM_times_226 ?_
                            refine lv_istore_n (lv' := [(3, .int (xsi st 4)), (0, .ref aM), (1, xv vad c0), (2, xv vad c1)]) hx hb dM_times_229 rfl hl (by decide) (by simp only [List.filter, xvcat, xrscat, xcI, xcL, xcR, xcN]; rfl) (fun ls hl => ?_)
                            refine lv_lconst (v := 0) hx hb dM_times_230 (by decide) ?_
                            refine lv_lstore (lv' := [(4, .long 0), (3, .int (xsi st 4)), (0, .ref aM), (1, xv vad c0), (2, xv vad c1)]) hx hb dM_times_231 hl (by decide) rfl (fun ls hl => ?_)
                            exact key n (1, (0 : Int64), (xsi st 4), c0, c1, st, 0, 0) _ _ ls (⟨ad, gd, vad, rfl, hf, hP, hD, hS, lv_sub hl [0, 1, 2, 3, 4] rfl, hE, hN⟩)
                          · rw [if_neg hc] at hf
                            refine xm_aload_n hx hb (xvor _ _) dM_times_204 rfl (lv_at hl 2 rfl) ?_
                            refine xm_vget (v := .long ((xpl st) (c1 - 1))) hx hb htx hown hK hP 1 (by decide) hg2 rfl ((hZ.1 (96, "n", "J") (List.mem_of_getElem? (i := 1) rfl)).use rfl) rfl dM_times_205 ?_
                            refine lv_ldc hx hb hown (htx _ kw_6_62) dM_times_208 ?_
                            refine xm_aload_n hx hb (xvor _ _) dM_times_210 rfl (lv_at hl 1 rfl) ?_
                            refine xm_vget (v := .int ((xpi st 3) (c0 - 1))) hx hb htx hown hK hP 3 (by decide) hg1 rfl ((hZ.1 (103, "count", "I") (List.mem_of_getElem? (i := 3) rfl)).use rfl) rfl dM_times_211 ?_
                            obtain ⟨hg3, hf⟩ := xifn hf
                            refine lv_idiv hx hb dM_times_214 hg3 ?_
                            refine lv_i2l hx hb dM_times_215 rfl ?_
                            refine W.lcmp hx hb dM_times_216 ?_
                            refine lv_if_le (tgt := 225) hx hb dM_times_217 (by decide) (fun hc => ?_) (fun hc => ?_)
                            · rw [if_pos hc] at hf
                              refine lv_aload_n hx hb dM_times_225 rfl (lv_at hl 0 rfl) ?_
                              refine xm_get (v := .int (xsi st 4)) hx hb htx hown hK hP 4 (by decide) rfl (htx _ kw_5_91) rfl dM_times_226 ?_
                              refine lv_istore_n (lv' := [(3, .int (xsi st 4)), (0, .ref aM), (1, xv vad c0), (2, xv vad c1)]) hx hb dM_times_229 rfl hl (by decide) (by simp only [List.filter, xvcat, xrscat, xcI, xcL, xcR, xcN]; rfl) (fun ls hl => ?_)
                              refine lv_lconst (v := 0) hx hb dM_times_230 (by decide) ?_
                              refine lv_lstore (lv' := [(4, .long 0), (3, .int (xsi st 4)), (0, .ref aM), (1, xv vad c0), (2, xv vad c1)]) hx hb dM_times_231 hl (by decide) rfl (fun ls hl => ?_)
                              exact key n (1, (0 : Int64), (xsi st 4), c0, c1, st, 0, 0) _ _ ls (⟨ad, gd, vad, rfl, hf, hP, hD, hS, lv_sub hl [0, 1, 2, 3, 4] rfl, hE, hN⟩)
                            · rw [if_neg hc] at hf
                              refine lv_aload_n hx hb dM_times_220 rfl (lv_at hl 0 rfl) ?_
                              obtain ⟨o4, hq5, hf⟩ := xbind hf
                              have hl := lv_sub (l' := [(0, .ref aM)]) hl [0] rfl
                              by_cases hk6 : o4.1 = 1
                              · rw [if_pos hk6] at hf
                                obtain ⟨hm7, hf⟩ := xmoE hf
                                obtain rfl := Option.some.inj hf
                                exact absurd (show (2 : Nat) = 0 from hkd) (by decide)
                              rw [if_neg hk6] at hf
                              exact nomatch hf
                        · rw [if_neg hc] at hf
                          refine lv_aload_n hx hb dM_times_192 rfl (lv_at hl 0 rfl) ?_
                          obtain ⟨o3, hq4, hf⟩ := xbind hf
                          have hl := lv_sub (l' := [(0, .ref aM)]) hl [0] rfl
                          by_cases hk5 : o3.1 = 1
                          · rw [if_pos hk5] at hf
                            obtain ⟨hm6, hf⟩ := xmoE hf
                            obtain rfl := Option.some.inj hf
                            exact absurd (show (2 : Nat) = 0 from hkd) (by decide)
                          rw [if_neg hk5] at hf
                          exact nomatch hf
                  · rw [if_neg hc] at hf
                    refine lv_aload_n hx hb dM_times_149 rfl (lv_at hl 0 rfl) ?_
                    refine lv_iconst (v := 0) hx hb dM_times_150 (by decide) ?_
                    obtain ⟨o3, hq4, hf⟩ := xbind hf
                    have hl := lv_sub (l' := [(0, .ref aM)]) hl [0] rfl
                    obtain ⟨hm5, hf⟩ := xmoE hf
                    have hFc := xm_free hD hS hA
                    refine va_callq (va_runV (C := "ValueBenchModel") (As := [.int 0]) (rest := []) ⟨hx, hb, hml, hown, htx⟩ (gM_fresh l hl9 D cT aK aV s.heap.size n aM ad rd gd vad st (0 : Int32) o3 hq4) ⟨callB_of 1 htx (xw_goodC kw_6_16) rfl rfl rfl (htx _ kw_1_5) (htx _ kw_6_13) ⟨by decide, by decide, by decide +kernel⟩ ⟨Nat.le_of_ble_eq_true rfl, Nat.le_of_ble_eq_true rfl⟩, (htx _ kw_6_15), (htx _ kp_M_fresh)⟩ ⟨xPre_blind, va_recv hK hP (ci := 5) rfl (q0 := 0) rfl, (fun U hU hW => ⟨rfl, xPre_of hZ hS hFc hP hD hK U hU hW⟩)⟩ rfl rfl hl.1 rfl (xm_room (Nat.le_of_ble_eq_true rfl)) dM_times_151 ⟨hm5.1, hm5.2⟩) hS (fun q _ h => hFc q h) hFc (fun r6 u9 t H1 locs ht hvm hr9 hB hz1 hk1 hS => ?_)
                    obtain ⟨hP1, hK1, hD1⟩ := hB
                    rw [ht] at hP1
                    obtain ⟨ad7, gd8, vad9⟩ := u9
                    obtain ⟨hr9, hv10, hn11⟩ := hr9
                    have hP : va_P D xcl (xMw cT aM ad7 rd gd8 vad9 o3.2.2.2 []) H1 := hP1
                    have hD : va_D A (xMw cT aM ad7 rd gd8 vad9 o3.2.2.2 []) := hD1.weaken (fun k q _ h => hFc q.1 h)
                    generalize H1 = H at hP hS ⊢
                    have hE9 : ∀ p, p < xct st → vad9 p = vad p := fun p h => (hv10 p (Nat.lt_of_lt_of_le h hN)).trans (hE p h)
                    have hE := hE9
                    have hN : xct st ≤ xct o3.2.2.2 := Nat.le_trans hN hn11
                    rw [hr9]
                    refine W.eq (g2 := F0 m 154 ls [xv vad9 o3.2.2.1]) (by first | rfl | (skip; rfl)) ?_
                    obtain rfl := Option.some.inj hf
                    exact W.aret (v := xv vad9 o3.2.2.1) hx hb hr (Or.inl ⟨_, rfl⟩) (xvor _ _) (fun t ht hW => ⟨⟨xca vad9 o3.2.2.1, (ad7, gd8, vad9), rfl, ⟨rfl, hE, hN⟩, by rw [ht]; exact hP, va_K.moved hW.alike hK, hD⟩, hS.F ht⟩) hS.2.2 dM_times_154
                · rw [if_neg hc] at hf
                  refine lv_aload_n hx hb dM_times_134 rfl (lv_at hl 0 rfl) ?_
                  refine lv_iconst (v := 1) hx hb dM_times_135 (by decide) ?_
                  obtain ⟨o3, hq4, hf⟩ := xbind hf
                  have hl := lv_sub (l' := [(0, .ref aM)]) hl [0] rfl
                  by_cases hk5 : o3.1 = 1
                  · rw [if_pos hk5] at hf
                    obtain ⟨hm6, hf⟩ := xmoE hf
                    obtain rfl := Option.some.inj hf
                    exact absurd (show (1 : Nat) = 0 from hkd) (by decide)
                  rw [if_neg hk5] at hf
                  exact nomatch hf
            · rw [if_pos hc] at hf
              refine xm_aload_n hx hb (xvor _ _) dM_times_103 rfl (lv_at hl 2 rfl) ?_
              refine xm_vget (v := .int ((xpi st 0) (c1 - 1))) hx hb htx hown hK hP 0 (by decide) hg2 rfl ((hZ.1 (93, "kind", "I") (List.mem_of_getElem? (i := 0) rfl)).use rfl) rfl dM_times_104 ?_
              refine lv_iconst (v := 4) hx hb dM_times_107 (by decide) ?_
              refine lv_icmp_ne (tgt := 118) hx hb dM_times_108 (by decide) (fun hc => ?_) (fun hc => ?_)
              · rw [if_neg hc] at hf
                refine xm_aload_n hx hb (xvor _ _) dM_times_118 rfl (lv_at hl 1 rfl) ?_
                refine xm_vget (v := .int ((xpi st 0) (c0 - 1))) hx hb htx hown hK hP 0 (by decide) hg1 rfl ((hZ.1 (93, "kind", "I") (List.mem_of_getElem? (i := 0) rfl)).use rfl) rfl dM_times_119 ?_
                refine lv_iconst (v := 4) hx hb dM_times_122 (by decide) ?_
                refine lv_icmp_ne (tgt := 134) hx hb dM_times_123 (by decide) (fun hc => ?_) (fun hc => ?_)
                · rw [if_neg hc] at hf
                  refine lv_aload_n hx hb dM_times_134 rfl (lv_at hl 0 rfl) ?_
                  refine lv_iconst (v := 1) hx hb dM_times_135 (by decide) ?_
                  obtain ⟨o3, hq4, hf⟩ := xbind hf
                  have hl := lv_sub (l' := [(0, .ref aM)]) hl [0] rfl
                  by_cases hk5 : o3.1 = 1
                  · rw [if_pos hk5] at hf
                    obtain ⟨hm6, hf⟩ := xmoE hf
                    obtain rfl := Option.some.inj hf
                    exact absurd (show (1 : Nat) = 0 from hkd) (by decide)
                  rw [if_neg hk5] at hf
                  exact nomatch hf
                · rw [if_pos hc] at hf
                  refine xm_aload_n hx hb (xvor _ _) dM_times_126 rfl (lv_at hl 2 rfl) ?_
                  refine xm_vget (v := .int ((xpi st 0) (c1 - 1))) hx hb htx hown hK hP 0 (by decide) hg2 rfl ((hZ.1 (93, "kind", "I") (List.mem_of_getElem? (i := 0) rfl)).use rfl) rfl dM_times_127 ?_
                  refine lv_iconst (v := 3) hx hb dM_times_130 (by decide) ?_
                  refine lv_icmp_eq (tgt := 140) hx hb dM_times_131 (by decide) (fun hc => ?_) (fun hc => ?_)
                  · rw [if_pos hc] at hf
                    refine xm_aload_n hx hb (xvor _ _) dM_times_140 rfl (lv_at hl 2 rfl) ?_
                    refine xm_vget (v := .long ((xpl st) (c1 - 1))) hx hb htx hown hK hP 1 (by decide) hg2 rfl ((hZ.1 (96, "n", "J") (List.mem_of_getElem? (i := 1) rfl)).use rfl) rfl dM_times_141 ?_
                    refine lv_lconst (v := 1) hx hb dM_times_144 (by decide) ?_
                    refine W.lcmp hx hb dM_times_145 ?_
                    refine lv_if_ge (tgt := 155) hx hb dM_times_146 (by decide) (fun hc => ?_) (fun hc => ?_)
                    · rw [if_pos hc] at hf
                      refine xm_aload_n hx hb (xvor _ _) dM_times_155 rfl (lv_at hl 2 rfl) ?_
                      refine xm_vget (v := .long ((xpl st) (c1 - 1))) hx hb htx hown hK hP 1 (by decide) hg2 rfl ((hZ.1 (96, "n", "J") (List.mem_of_getElem? (i := 1) rfl)).use rfl) rfl dM_times_156 ?_
                      refine xm_aload_n hx hb (xvor _ _) dM_times_159 rfl (lv_at hl 1 rfl) ?_
                      refine xm_vget (v := .int ((xpi st 3) (c0 - 1))) hx hb htx hown hK hP 3 (by decide) hg1 rfl ((hZ.1 (103, "count", "I") (List.mem_of_getElem? (i := 3) rfl)).use rfl) rfl dM_times_160 ?_
                      refine lv_i2l hx hb dM_times_163 rfl ?_
                      refine lv_lconst (v := 1) hx hb dM_times_164 (by decide) ?_
                      refine lv_ladd hx hb dM_times_165 ?_
                      refine lv_lmul hx hb dM_times_166 ?_
                      refine lv_ldc2 hx hb hown (htx _ kw_6_221) dM_times_167 ?_
                      refine W.lcmp hx hb dM_times_170 ?_
                      refine lv_if_le (tgt := 197) hx hb dM_times_171 (by decide) (fun hc => ?_) (fun hc => ?_)
                      · rw [if_pos hc] at hf
                        refine xm_aload_n hx hb (xvor _ _) dM_times_197 rfl (lv_at hl 1 rfl) ?_
                        refine xm_vget (v := .int ((xpi st 3) (c0 - 1))) hx hb htx hown hK hP 3 (by decide) hg1 rfl ((hZ.1 (103, "count", "I") (List.mem_of_getElem? (i := 3) rfl)).use rfl) rfl dM_times_198 ?_
                        refine lv_if_le (tgt := 225) hx hb dM_times_201 (by decide) (fun hc => ?_) (fun hc => ?_)
                        · rw [if_pos hc] at hf
                          refine lv_aload_n hx hb dM_times_225 rfl (lv_at hl 0 rfl) ?_
                          refine xm_get (v := .int (xsi st 4)) hx hb htx hown hK hP 4 (by decide) rfl (htx _ kw_5_91) rfl dM_times_226 ?_
                          refine lv_istore_n (lv' := [(3, .int (xsi st 4)), (0, .ref aM), (1, xv vad c0), (2, xv vad c1)]) hx hb dM_times_229 rfl hl (by decide) (by simp only [List.filter, xvcat, xrscat, xcI, xcL, xcR, xcN]; rfl) (fun ls hl => ?_)
                          refine lv_lconst (v := 0) hx hb dM_times_230 (by decide) ?_
                          refine lv_lstore (lv' := [(4, .long 0), (3, .int (xsi st 4)), (0, .ref aM), (1, xv vad c0), (2, xv vad c1)]) hx hb dM_times_231 hl (by decide) rfl (fun ls hl => ?_)
                          exact key n (1, (0 : Int64), (xsi st 4), c0, c1, st, 0, 0) _ _ ls (⟨ad, gd, vad, rfl, hf, hP, hD, hS, lv_sub hl [0, 1, 2, 3, 4] rfl, hE, hN⟩)
                        · rw [if_neg hc] at hf
                          refine xm_aload_n hx hb (xvor _ _) dM_times_204 rfl (lv_at hl 2 rfl) ?_
                          refine xm_vget (v := .long ((xpl st) (c1 - 1))) hx hb htx hown hK hP 1 (by decide) hg2 rfl ((hZ.1 (96, "n", "J") (List.mem_of_getElem? (i := 1) rfl)).use rfl) rfl dM_times_205 ?_
                          refine lv_ldc hx hb hown (htx _ kw_6_62) dM_times_208 ?_
                          refine xm_aload_n hx hb (xvor _ _) dM_times_210 rfl (lv_at hl 1 rfl) ?_
                          refine xm_vget (v := .int ((xpi st 3) (c0 - 1))) hx hb htx hown hK hP 3 (by decide) hg1 rfl ((hZ.1 (103, "count", "I") (List.mem_of_getElem? (i := 3) rfl)).use rfl) rfl dM_times_211 ?_
                          obtain ⟨hg3, hf⟩ := xifn hf
                          refine lv_idiv hx hb dM_times_214 hg3 ?_
                          refine lv_i2l hx hb dM_times_215 rfl ?_
                          refine W.lcmp hx hb dM_times_216 ?_
                          refine lv_if_le (tgt := 225) hx hb dM_times_217 (by decide) (fun hc => ?_) (fun hc => ?_)
                          · rw [if_pos hc] at hf
                            refine lv_aload_n hx hb dM_times_225 rfl (lv_at hl 0 rfl) ?_
                            refine xm_get (v := .int (xsi st 4)) hx hb htx hown hK hP 4 (by decide) rfl (htx _ kw_5_91) rfl dM_times_226 ?_
                            refine lv_istore_n (lv' := [(3, .int (xsi st 4)), (0, .ref aM), (1, xv vad c0), (2, xv vad c1)]) hx hb dM_times_229 rfl hl (by decide) (by simp only [List.filter, xvcat, xrscat, xcI, xcL, xcR, xcN]; rfl) (fun ls hl => ?_)
                            refine lv_lconst (v := 0) hx hb dM_times_230 (by decide) ?_
                            refine lv_lstore (lv' := [(4, .long 0), (3, .int (xsi st 4)), (0, .ref aM), (1, xv vad c0), (2, xv vad c1)]) hx hb dM_times_231 hl (by decide) rfl (fun ls hl => ?_)
                            exact key n (1, (0 : Int64), (xsi st 4), c0, c1, st, 0, 0) _ _ ls (⟨ad, gd, vad, rfl, hf, hP, hD, hS, lv_sub hl [0, 1, 2, 3, 4] rfl, hE, hN⟩)
                          · rw [if_neg hc] at hf
                            refine lv_aload_n hx hb dM_times_220 rfl (lv_at hl 0 rfl) ?_
                            obtain ⟨o4, hq5, hf⟩ := xbind hf
                            have hl := lv_sub (l' := [(0, .ref aM)]) hl [0] rfl
                            by_cases hk6 : o4.1 = 1
                            · rw [if_pos hk6] at hf
                              obtain ⟨hm7, hf⟩ := xmoE hf
                              obtain rfl := Option.some.inj hf
                              exact absurd (show (2 : Nat) = 0 from hkd) (by decide)
                            rw [if_neg hk6] at hf
                            exact nomatch hf
                      · rw [if_neg hc] at hf
                        refine xm_aload_n hx hb (xvor _ _) dM_times_174 rfl (lv_at hl 1 rfl) ?_
                        refine xm_vget (v := .int ((xpi st 3) (c0 - 1))) hx hb htx hown hK hP 3 (by decide) hg1 rfl ((hZ.1 (103, "count", "I") (List.mem_of_getElem? (i := 3) rfl)).use rfl) rfl dM_times_175 ?_
                        refine lv_if_le (tgt := 197) hx hb dM_times_178 (by decide) (fun hc => ?_) (fun hc => ?_)
                        · rw [if_pos hc] at hf
                          refine xm_aload_n hx hb (xvor _ _) dM_times_197 rfl (lv_at hl 1 rfl) ?_
                          refine xm_vget (v := .int ((xpi st 3) (c0 - 1))) hx hb htx hown hK hP 3 (by decide) hg1 rfl ((hZ.1 (103, "count", "I") (List.mem_of_getElem? (i := 3) rfl)).use rfl) rfl dM_times_198 ?_
                          refine lv_if_le (tgt := 225) hx hb dM_times_201 (by decide) (fun hc => ?_) (fun hc => ?_)
                          · rw [if_pos hc] at hf
                            refine lv_aload_n hx hb dM_times_225 rfl (lv_at hl 0 rfl) ?_
                            refine xm_get (v := .int (xsi st 4)) hx hb htx hown hK hP 4 (by decide) rfl (htx _ kw_5_91) rfl dM_times_226 ?_
                            refine lv_istore_n (lv' := [(3, .int (xsi st 4)), (0, .ref aM), (1, xv vad c0), (2, xv vad c1)]) hx hb dM_times_229 rfl hl (by decide) (by simp only [List.filter, xvcat, xrscat, xcI, xcL, xcR, xcN]; rfl) (fun ls hl => ?_)
                            refine lv_lconst (v := 0) hx hb dM_times_230 (by decide) ?_
                            refine lv_lstore (lv' := [(4, .long 0), (3, .int (xsi st 4)), (0, .ref aM), (1, xv vad c0), (2, xv vad c1)]) hx hb dM_times_231 hl (by decide) rfl (fun ls hl => ?_)
                            exact key n (1, (0 : Int64), (xsi st 4), c0, c1, st, 0, 0) _ _ ls (⟨ad, gd, vad, rfl, hf, hP, hD, hS, lv_sub hl [0, 1, 2, 3, 4] rfl, hE, hN⟩)
                          · rw [if_neg hc] at hf
                            refine xm_aload_n hx hb (xvor _ _) dM_times_204 rfl (lv_at hl 2 rfl) ?_
                            refine xm_vget (v := .long ((xpl st) (c1 - 1))) hx hb htx hown hK hP 1 (by decide) hg2 rfl ((hZ.1 (96, "n", "J") (List.mem_of_getElem? (i := 1) rfl)).use rfl) rfl dM_times_205 ?_
                            refine lv_ldc hx hb hown (htx _ kw_6_62) dM_times_208 ?_
                            refine xm_aload_n hx hb (xvor _ _) dM_times_210 rfl (lv_at hl 1 rfl) ?_
                            refine xm_vget (v := .int ((xpi st 3) (c0 - 1))) hx hb htx hown hK hP 3 (by decide) hg1 rfl ((hZ.1 (103, "count", "I") (List.mem_of_getElem? (i := 3) rfl)).use rfl) rfl dM_times_211 ?_
                            obtain ⟨hg3, hf⟩ := xifn hf
                            refine lv_idiv hx hb dM_times_214 hg3 ?_
                            refine lv_i2l hx hb dM_times_215 rfl ?_
                            refine W.lcmp hx hb dM_times_216 ?_
                            refine lv_if_le (tgt := 225) hx hb dM_times_217 (by decide) (fun hc => ?_) (fun hc => ?_)
                            · rw [if_pos hc] at hf
                              refine lv_aload_n hx hb dM_times_225 rfl (lv_at hl 0 rfl) ?_
                              refine xm_get (v := .int (xsi st 4)) hx hb htx hown hK hP 4 (by decide) rfl (htx _ kw_5_91) rfl dM_times_226 ?_
                              refine lv_istore_n (lv' := [(3, .int (xsi st 4)), (0, .ref aM), (1, xv vad c0), (2, xv vad c1)]) hx hb dM_times_229 rfl hl (by decide) (by simp only [List.filter, xvcat, xrscat, xcI, xcL, xcR, xcN]; rfl) (fun ls hl => ?_)
                              refine lv_lconst (v := 0) hx hb dM_times_230 (by decide) ?_
                              refine lv_lstore (lv' := [(4, .long 0), (3, .int (xsi st 4)), (0, .ref aM), (1, xv vad c0), (2, xv vad c1)]) hx hb dM_times_231 hl (by decide) rfl (fun ls hl => ?_)
                              exact key n (1, (0 : Int64), (xsi st 4), c0, c1, st, 0, 0) _ _ ls (⟨ad, gd, vad, rfl, hf, hP, hD, hS, lv_sub hl [0, 1, 2, 3, 4] rfl, hE, hN⟩)
                            · rw [if_neg hc] at hf
                              refine lv_aload_n hx hb dM_times_220 rfl (lv_at hl 0 rfl) ?_
                              obtain ⟨o4, hq5, hf⟩ := xbind hf
                              have hl := lv_sub (l' := [(0, .ref aM)]) hl [0] rfl
                              by_cases hk6 : o4.1 = 1
                              · rw [if_pos hk6] at hf
                                obtain ⟨hm7, hf⟩ := xmoE hf
                                obtain rfl := Option.some.inj hf
                                exact absurd (show (2 : Nat) = 0 from hkd) (by decide)
                              rw [if_neg hk6] at hf
                              exact nomatch hf
                        · rw [if_neg hc] at hf
                          refine xm_aload_n hx hb (xvor _ _) dM_times_181 rfl (lv_at hl 2 rfl) ?_
                          refine xm_vget (v := .long ((xpl st) (c1 - 1))) hx hb htx hown hK hP 1 (by decide) hg2 rfl ((hZ.1 (96, "n", "J") (List.mem_of_getElem? (i := 1) rfl)).use rfl) rfl dM_times_182 ?_
                          refine lv_ldc2 hx hb hown (htx _ kw_6_108) dM_times_185 ?_
                          refine W.lcmp hx hb dM_times_188 ?_
                          refine lv_if_le (tgt := 197) hx hb dM_times_189 (by decide) (fun hc => ?_) (fun hc => ?_)
                          · rw [if_pos hc] at hf
                            refine xm_aload_n hx hb (xvor _ _) dM_times_197 rfl (lv_at hl 1 rfl) ?_
                            refine xm_vget (v := .int ((xpi st 3) (c0 - 1))) hx hb htx hown hK hP 3 (by decide) hg1 rfl ((hZ.1 (103, "count", "I") (List.mem_of_getElem? (i := 3) rfl)).use rfl) rfl dM_times_198 ?_
                            refine lv_if_le (tgt := 225) hx hb dM_times_201 (by decide) (fun hc => ?_) (fun hc => ?_)
                            · rw [if_pos hc] at hf
                              refine lv_aload_n hx hb dM_times_225 rfl (lv_at hl 0 rfl) ?_
                              refine xm_get (v := .int (xsi st 4)) hx hb htx hown hK hP 4 (by decide) rfl (htx _ kw_5_91) rfl dM_times_226 ?_
                              refine lv_istore_n (lv' := [(3, .int (xsi st 4)), (0, .ref aM), (1, xv vad c0), (2, xv vad c1)]) hx hb dM_times_229 rfl hl (by decide) (by simp only [List.filter, xvcat, xrscat, xcI, xcL, xcR, xcN]; rfl) (fun ls hl => ?_)
                              refine lv_lconst (v := 0) hx hb dM_times_230 (by decide) ?_
                              refine lv_lstore (lv' := [(4, .long 0), (3, .int (xsi st 4)), (0, .ref aM), (1, xv vad c0), (2, xv vad c1)]) hx hb dM_times_231 hl (by decide) rfl (fun ls hl => ?_)
                              exact key n (1, (0 : Int64), (xsi st 4), c0, c1, st, 0, 0) _ _ ls (⟨ad, gd, vad, rfl, hf, hP, hD, hS, lv_sub hl [0, 1, 2, 3, 4] rfl, hE, hN⟩)
                            · rw [if_neg hc] at hf
                              refine xm_aload_n hx hb (xvor _ _) dM_times_204 rfl (lv_at hl 2 rfl) ?_
                              refine xm_vget (v := .long ((xpl st) (c1 - 1))) hx hb htx hown hK hP 1 (by decide) hg2 rfl ((hZ.1 (96, "n", "J") (List.mem_of_getElem? (i := 1) rfl)).use rfl) rfl dM_times_205 ?_
                              refine lv_ldc hx hb hown (htx _ kw_6_62) dM_times_208 ?_
                              refine xm_aload_n hx hb (xvor _ _) dM_times_210 rfl (lv_at hl 1 rfl) ?_
                              refine xm_vget (v := .int ((xpi st 3) (c0 - 1))) hx hb htx hown hK hP 3 (by decide) hg1 rfl ((hZ.1 (103, "count", "I") (List.mem_of_getElem? (i := 3) rfl)).use rfl) rfl dM_times_211 ?_
                              obtain ⟨hg3, hf⟩ := xifn hf
                              refine lv_idiv hx hb dM_times_214 hg3 ?_
                              refine lv_i2l hx hb dM_times_215 rfl ?_
                              refine W.lcmp hx hb dM_times_216 ?_
                              refine lv_if_le (tgt := 225) hx hb dM_times_217 (by decide) (fun hc => ?_) (fun hc => ?_)
                              · rw [if_pos hc] at hf
                                refine lv_aload_n hx hb dM_times_225 rfl (lv_at hl 0 rfl) ?_
                                refine xm_get (v := .int (xsi st 4)) hx hb htx hown hK hP 4 (by decide) rfl (htx _ kw_5_91) rfl dM_times_226 ?_
                                refine lv_istore_n (lv' := [(3, .int (xsi st 4)), (0, .ref aM), (1, xv vad c0), (2, xv vad c1)]) hx hb dM_times_229 rfl hl (by decide) (by simp only [List.filter, xvcat, xrscat, xcI, xcL, xcR, xcN]; rfl) (fun ls hl => ?_)
                                refine lv_lconst (v := 0) hx hb dM_times_230 (by decide) ?_
                                refine lv_lstore (lv' := [(4, .long 0), (3, .int (xsi st 4)), (0, .ref aM), (1, xv vad c0), (2, xv vad c1)]) hx hb dM_times_231 hl (by decide) rfl (fun ls hl => ?_)
                                exact key n (1, (0 : Int64), (xsi st 4), c0, c1, st, 0, 0) _ _ ls (⟨ad, gd, vad, rfl, hf, hP, hD, hS, lv_sub hl [0, 1, 2, 3, 4] rfl, hE, hN⟩)
                              · rw [if_neg hc] at hf
                                refine lv_aload_n hx hb dM_times_220 rfl (lv_at hl 0 rfl) ?_
                                obtain ⟨o4, hq5, hf⟩ := xbind hf
                                have hl := lv_sub (l' := [(0, .ref aM)]) hl [0] rfl
                                by_cases hk6 : o4.1 = 1
                                · rw [if_pos hk6] at hf
                                  obtain ⟨hm7, hf⟩ := xmoE hf
                                  obtain rfl := Option.some.inj hf
                                  exact absurd (show (2 : Nat) = 0 from hkd) (by decide)
                                rw [if_neg hk6] at hf
                                exact nomatch hf
                          · rw [if_neg hc] at hf
                            refine lv_aload_n hx hb dM_times_192 rfl (lv_at hl 0 rfl) ?_
                            obtain ⟨o3, hq4, hf⟩ := xbind hf
                            have hl := lv_sub (l' := [(0, .ref aM)]) hl [0] rfl
                            by_cases hk5 : o3.1 = 1
                            · rw [if_pos hk5] at hf
                              obtain ⟨hm6, hf⟩ := xmoE hf
                              obtain rfl := Option.some.inj hf
                              exact absurd (show (2 : Nat) = 0 from hkd) (by decide)
                            rw [if_neg hk5] at hf
                            exact nomatch hf
                    · rw [if_neg hc] at hf
                      refine lv_aload_n hx hb dM_times_149 rfl (lv_at hl 0 rfl) ?_
                      refine lv_iconst (v := 0) hx hb dM_times_150 (by decide) ?_
                      obtain ⟨o3, hq4, hf⟩ := xbind hf
                      have hl := lv_sub (l' := [(0, .ref aM)]) hl [0] rfl
                      obtain ⟨hm5, hf⟩ := xmoE hf
                      have hFc := xm_free hD hS hA
                      refine va_callq (va_runV (C := "ValueBenchModel") (As := [.int 0]) (rest := []) ⟨hx, hb, hml, hown, htx⟩ (gM_fresh l hl9 D cT aK aV s.heap.size n aM ad rd gd vad st (0 : Int32) o3 hq4) ⟨callB_of 1 htx (xw_goodC kw_6_16) rfl rfl rfl (htx _ kw_1_5) (htx _ kw_6_13) ⟨by decide, by decide, by decide +kernel⟩ ⟨Nat.le_of_ble_eq_true rfl, Nat.le_of_ble_eq_true rfl⟩, (htx _ kw_6_15), (htx _ kp_M_fresh)⟩ ⟨xPre_blind, va_recv hK hP (ci := 5) rfl (q0 := 0) rfl, (fun U hU hW => ⟨rfl, xPre_of hZ hS hFc hP hD hK U hU hW⟩)⟩ rfl rfl hl.1 rfl (xm_room (Nat.le_of_ble_eq_true rfl)) dM_times_151 ⟨hm5.1, hm5.2⟩) hS (fun q _ h => hFc q h) hFc (fun r6 u9 t H1 locs ht hvm hr9 hB hz1 hk1 hS => ?_)
                      obtain ⟨hP1, hK1, hD1⟩ := hB
                      rw [ht] at hP1
                      obtain ⟨ad7, gd8, vad9⟩ := u9
                      obtain ⟨hr9, hv10, hn11⟩ := hr9
                      have hP : va_P D xcl (xMw cT aM ad7 rd gd8 vad9 o3.2.2.2 []) H1 := hP1
                      have hD : va_D A (xMw cT aM ad7 rd gd8 vad9 o3.2.2.2 []) := hD1.weaken (fun k q _ h => hFc q.1 h)
                      generalize H1 = H at hP hS ⊢
                      have hE9 : ∀ p, p < xct st → vad9 p = vad p := fun p h => (hv10 p (Nat.lt_of_lt_of_le h hN)).trans (hE p h)
                      have hE := hE9
                      have hN : xct st ≤ xct o3.2.2.2 := Nat.le_trans hN hn11
                      rw [hr9]
                      refine W.eq (g2 := F0 m 154 ls [xv vad9 o3.2.2.1]) (by first | rfl | (skip; rfl)) ?_
                      obtain rfl := Option.some.inj hf
                      exact W.aret (v := xv vad9 o3.2.2.1) hx hb hr (Or.inl ⟨_, rfl⟩) (xvor _ _) (fun t ht hW => ⟨⟨xca vad9 o3.2.2.1, (ad7, gd8, vad9), rfl, ⟨rfl, hE, hN⟩, by rw [ht]; exact hP, va_K.moved hW.alike hK, hD⟩, hS.F ht⟩) hS.2.2 dM_times_154
                  · rw [if_neg hc] at hf
                    refine lv_aload_n hx hb dM_times_134 rfl (lv_at hl 0 rfl) ?_
                    refine lv_iconst (v := 1) hx hb dM_times_135 (by decide) ?_
                    obtain ⟨o3, hq4, hf⟩ := xbind hf
                    have hl := lv_sub (l' := [(0, .ref aM)]) hl [0] rfl
                    by_cases hk5 : o3.1 = 1
                    · rw [if_pos hk5] at hf
                      obtain ⟨hm6, hf⟩ := xmoE hf
                      obtain rfl := Option.some.inj hf
                      exact absurd (show (1 : Nat) = 0 from hkd) (by decide)
                    rw [if_neg hk5] at hf
                    exact nomatch hf
              · rw [if_pos hc] at hf
                refine lv_aload_n hx hb dM_times_111 rfl (lv_at hl 0 rfl) ?_
                refine xm_aload_n hx hb (xvor _ _) dM_times_112 rfl (lv_at hl 2 rfl) ?_
                refine xm_aload_n hx hb (xvor _ _) dM_times_113 rfl (lv_at hl 1 rfl) ?_
                obtain ⟨o3, hq4, hf⟩ := xbind hf
                have hl := lv_sub (l' := [(0, .ref aM)]) hl [0] rfl
                by_cases hk5 : o3.1 = 0
                · rw [if_pos hk5] at hf
                  obtain ⟨hm6, hf⟩ := xmoE hf
                  have hFc := xm_free hD hS hA
                  refine va_callq (va_runV (C := "ValueBenchModel") (As := [xv vad c1, xv vad c0]) (rest := []) ⟨hx, hb, hml, hown, htx⟩ ((hrec s.heap.size aM ad rd gd vad st c1 c0 o3 hq4).1 hk5) ⟨callB_of 2 htx (xw_goodC kw_6_215) rfl rfl rfl (htx _ kw_1_5) (htx _ kw_6_212) ⟨by decide, by decide, by decide +kernel⟩ ⟨(by show (16 * d) + 1 ≤ 16 * (d + 1); omega), (by show 8 + (7 + 11) + (400 * d) ≤ 400 * (d + 1); omega)⟩, (htx _ kw_6_214), (htx _ kp_M_times)⟩ ⟨xPre_blind, va_recv hK hP (ci := 5) rfl (q0 := 0) rfl, (fun U hU hW => ⟨rfl, xPre_of hZ hS hFc hP hD hK U hU hW⟩)⟩ rfl rfl hl.1 rfl (xm_room (Nat.le_of_ble_eq_true rfl)) dM_times_114 ⟨hm6.1, hm6.2⟩) hS (fun q _ h => hFc q h) hFc (fun r7 u9 t H1 locs ht hvm hr9 hB hz1 hk1 hS => ?_)
                  obtain ⟨hP1, hK1, hD1⟩ := hB
                  rw [ht] at hP1
                  obtain ⟨ad8, gd9, vad10⟩ := u9
                  obtain ⟨hr9, hv11, hn12⟩ := hr9
                  have hP : va_P D xcl (xMw cT aM ad8 rd gd9 vad10 o3.2.2.2.2 []) H1 := hP1
                  have hD : va_D A (xMw cT aM ad8 rd gd9 vad10 o3.2.2.2.2 []) := hD1.weaken (fun k q _ h => hFc q.1 h)
                  generalize H1 = H at hP hS ⊢
                  have hE9 : ∀ p, p < xct st → vad10 p = vad p := fun p h => (hv11 p (Nat.lt_of_lt_of_le h hN)).trans (hE p h)
                  have hE := hE9
                  have hN : xct st ≤ xct o3.2.2.2.2 := Nat.le_trans hN hn12
                  rw [hr9]
                  refine W.eq (g2 := F0 m 117 ls [xv vad10 o3.2.2.2.1]) (by first | rfl | (skip; rfl)) ?_
                  obtain rfl := Option.some.inj hf
                  exact W.aret (v := xv vad10 o3.2.2.2.1) hx hb hr (Or.inl ⟨_, rfl⟩) (xvor _ _) (fun t ht hW => ⟨⟨xca vad10 o3.2.2.2.1, (ad8, gd9, vad10), rfl, ⟨rfl, hE, hN⟩, by rw [ht]; exact hP, va_K.moved hW.alike hK, hD⟩, hS.F ht⟩) hS.2.2 dM_times_117
                rw [if_neg hk5] at hf
                by_cases hk13 : o3.1 = 1
                · rw [if_pos hk13] at hf
                  obtain ⟨hm14, hf⟩ := xmoE hf
                  obtain rfl := Option.some.inj hf
                  exact absurd (show (1 : Nat) = 0 from hkd) (by decide)
                rw [if_neg hk13] at hf
                by_cases hk21 : o3.1 = 2
                · rw [if_pos hk21] at hf
                  obtain ⟨hm22, hf⟩ := xmoE hf
                  obtain rfl := Option.some.inj hf
                  exact absurd (show (2 : Nat) = 0 from hkd) (by decide)
                rw [if_neg hk21] at hf
                exact nomatch hf
          · rw [if_pos hc] at hf
            refine lv_aload_n hx hb dM_times_88 rfl (lv_at hl 0 rfl) ?_
            refine xm_aload_n hx hb (xvor _ _) dM_times_89 rfl (lv_at hl 1 rfl) ?_
            refine xm_aload_n hx hb (xvor _ _) dM_times_90 rfl (lv_at hl 2 rfl) ?_
            obtain ⟨o3, hq4, hf⟩ := xbind hf
            have hl := lv_sub (l' := [(0, .ref aM)]) hl [0] rfl
            by_cases hk5 : o3.1 = 0
            · rw [if_pos hk5] at hf
              obtain ⟨hm6, hf⟩ := xmoE hf
              have hFc := xm_free hD hS hA
              refine va_callq (va_runV (C := "ValueBenchModel") (As := [xv vad c0, xv vad c1]) (rest := []) ⟨hx, hb, hml, hown, htx⟩ ((gM_merged l hl9 D cT aK aV d s.heap.size n aM ad rd gd vad st c0 c1 o3 hq4).1 hk5) ⟨callB_of 2 htx (xw_goodC kw_6_220) rfl rfl rfl (htx _ kw_1_5) (htx _ kw_6_217) ⟨by decide, by decide, by decide +kernel⟩ ⟨(by show (16 * d) + 1 ≤ 16 * (d + 1); omega), (by show 8 + (8 + 11) + (400 * d) ≤ 400 * (d + 1); omega)⟩, (htx _ kw_6_219), (htx _ kp_M_merged)⟩ ⟨xPre_blind, va_recv hK hP (ci := 5) rfl (q0 := 0) rfl, (fun U hU hW => ⟨rfl, xPre_of hZ hS hFc hP hD hK U hU hW⟩)⟩ rfl rfl hl.1 rfl (xm_room (Nat.le_of_ble_eq_true rfl)) dM_times_91 ⟨hm6.1, hm6.2⟩) hS (fun q _ h => hFc q h) hFc (fun r7 u9 t H1 locs ht hvm hr9 hB hz1 hk1 hS => ?_)
              obtain ⟨hP1, hK1, hD1⟩ := hB
              rw [ht] at hP1
              obtain ⟨ad8, gd9, vad10⟩ := u9
              obtain ⟨hr9, hv11, hn12⟩ := hr9
              have hP : va_P D xcl (xMw cT aM ad8 rd gd9 vad10 o3.2.2.2.2 []) H1 := hP1
              have hD : va_D A (xMw cT aM ad8 rd gd9 vad10 o3.2.2.2.2 []) := hD1.weaken (fun k q _ h => hFc q.1 h)
              generalize H1 = H at hP hS ⊢
              have hE9 : ∀ p, p < xct st → vad10 p = vad p := fun p h => (hv11 p (Nat.lt_of_lt_of_le h hN)).trans (hE p h)
              have hE := hE9
              have hN : xct st ≤ xct o3.2.2.2.2 := Nat.le_trans hN hn12
              rw [hr9]
              refine W.eq (g2 := F0 m 94 ls [xv vad10 o3.2.2.2.1]) (by first | rfl | (skip; rfl)) ?_
              obtain rfl := Option.some.inj hf
              exact W.aret (v := xv vad10 o3.2.2.2.1) hx hb hr (Or.inl ⟨_, rfl⟩) (xvor _ _) (fun t ht hW => ⟨⟨xca vad10 o3.2.2.2.1, (ad8, gd9, vad10), rfl, ⟨rfl, hE, hN⟩, by rw [ht]; exact hP, va_K.moved hW.alike hK, hD⟩, hS.F ht⟩) hS.2.2 dM_times_94
            rw [if_neg hk5] at hf
            by_cases hk13 : o3.1 = 1
            · rw [if_pos hk13] at hf
              obtain ⟨hm14, hf⟩ := xmoE hf
              obtain rfl := Option.some.inj hf
              exact absurd (show (2 : Nat) = 0 from hkd) (by decide)
            rw [if_neg hk13] at hf
            exact nomatch hf
      · rw [if_pos hc] at hf
        refine xm_aload_n hx hb (xvor _ _) dM_times_8 rfl (lv_at hl 2 rfl) ?_
        obtain ⟨hg2, hf⟩ := xifn hf
        refine xm_vget (v := .int ((xpi st 0) (c1 - 1))) hx hb htx hown hK hP 0 (by decide) hg2 rfl ((hZ.1 (93, "kind", "I") (List.mem_of_getElem? (i := 0) rfl)).use rfl) rfl dM_times_9 ?_
        refine lv_iconst (v := 3) hx hb dM_times_12 (by decide) ?_
        refine lv_icmp_ne (tgt := 70) hx hb dM_times_13 (by decide) (fun hc => ?_) (fun hc => ?_)
        · rw [if_neg hc] at hf
          refine xm_aload_n hx hb (xvor _ _) dM_times_70 rfl (lv_at hl 1 rfl) ?_
          refine xm_vget (v := .int ((xpi st 0) (c0 - 1))) hx hb htx hown hK hP 0 (by decide) hg1 rfl ((hZ.1 (93, "kind", "I") (List.mem_of_getElem? (i := 0) rfl)).use rfl) rfl dM_times_71 ?_
          refine lv_bipush (v := 6) hx hb dM_times_74 (by decide) ?_
          refine lv_icmp_ne (tgt := 95) hx hb dM_times_76 (by decide) (fun hc => ?_) (fun hc => ?_)
          · rw [if_neg hc] at hf
            refine xm_aload_n hx hb (xvor _ _) dM_times_95 rfl (lv_at hl 1 rfl) ?_
            refine xm_vget (v := .int ((xpi st 0) (c0 - 1))) hx hb htx hown hK hP 0 (by decide) hg1 rfl ((hZ.1 (93, "kind", "I") (List.mem_of_getElem? (i := 0) rfl)).use rfl) rfl dM_times_96 ?_
            refine lv_iconst (v := 3) hx hb dM_times_99 (by decide) ?_
            refine lv_icmp_ne (tgt := 118) hx hb dM_times_100 (by decide) (fun hc => ?_) (fun hc => ?_)
            · rw [if_neg hc] at hf
              refine xm_aload_n hx hb (xvor _ _) dM_times_118 rfl (lv_at hl 1 rfl) ?_
              refine xm_vget (v := .int ((xpi st 0) (c0 - 1))) hx hb htx hown hK hP 0 (by decide) hg1 rfl ((hZ.1 (93, "kind", "I") (List.mem_of_getElem? (i := 0) rfl)).use rfl) rfl dM_times_119 ?_
              refine lv_iconst (v := 4) hx hb dM_times_122 (by decide) ?_
              refine lv_icmp_ne (tgt := 134) hx hb dM_times_123 (by decide) (fun hc => ?_) (fun hc => ?_)
              · rw [if_neg hc] at hf
                refine lv_aload_n hx hb dM_times_134 rfl (lv_at hl 0 rfl) ?_
                refine lv_iconst (v := 1) hx hb dM_times_135 (by decide) ?_
                obtain ⟨o3, hq4, hf⟩ := xbind hf
                have hl := lv_sub (l' := [(0, .ref aM)]) hl [0] rfl
                by_cases hk5 : o3.1 = 1
                · rw [if_pos hk5] at hf
                  obtain ⟨hm6, hf⟩ := xmoE hf
                  obtain rfl := Option.some.inj hf
                  exact absurd (show (1 : Nat) = 0 from hkd) (by decide)
                rw [if_neg hk5] at hf
                exact nomatch hf
              · rw [if_pos hc] at hf
                refine xm_aload_n hx hb (xvor _ _) dM_times_126 rfl (lv_at hl 2 rfl) ?_
                refine xm_vget (v := .int ((xpi st 0) (c1 - 1))) hx hb htx hown hK hP 0 (by decide) hg2 rfl ((hZ.1 (93, "kind", "I") (List.mem_of_getElem? (i := 0) rfl)).use rfl) rfl dM_times_127 ?_
                refine lv_iconst (v := 3) hx hb dM_times_130 (by decide) ?_
                refine lv_icmp_eq (tgt := 140) hx hb dM_times_131 (by decide) (fun hc => ?_) (fun hc => ?_)
                · rw [if_pos hc] at hf
                  refine xm_aload_n hx hb (xvor _ _) dM_times_140 rfl (lv_at hl 2 rfl) ?_
                  refine xm_vget (v := .long ((xpl st) (c1 - 1))) hx hb htx hown hK hP 1 (by decide) hg2 rfl ((hZ.1 (96, "n", "J") (List.mem_of_getElem? (i := 1) rfl)).use rfl) rfl dM_times_141 ?_
                  refine lv_lconst (v := 1) hx hb dM_times_144 (by decide) ?_
                  refine W.lcmp hx hb dM_times_145 ?_
                  refine lv_if_ge (tgt := 155) hx hb dM_times_146 (by decide) (fun hc => ?_) (fun hc => ?_)
                  · rw [if_pos hc] at hf
                    refine xm_aload_n hx hb (xvor _ _) dM_times_155 rfl (lv_at hl 2 rfl) ?_
                    refine xm_vget (v := .long ((xpl st) (c1 - 1))) hx hb htx hown hK hP 1 (by decide) hg2 rfl ((hZ.1 (96, "n", "J") (List.mem_of_getElem? (i := 1) rfl)).use rfl) rfl dM_times_156 ?_
                    refine xm_aload_n hx hb (xvor _ _) dM_times_159 rfl (lv_at hl 1 rfl) ?_
                    refine xm_vget (v := .int ((xpi st 3) (c0 - 1))) hx hb htx hown hK hP 3 (by decide) hg1 rfl ((hZ.1 (103, "count", "I") (List.mem_of_getElem? (i := 3) rfl)).use rfl) rfl dM_times_160 ?_
                    refine lv_i2l hx hb dM_times_163 rfl ?_
                    refine lv_lconst (v := 1) hx hb dM_times_164 (by decide) ?_
                    refine lv_ladd hx hb dM_times_165 ?_
                    refine lv_lmul hx hb dM_times_166 ?_
                    refine lv_ldc2 hx hb hown (htx _ kw_6_221) dM_times_167 ?_
                    refine W.lcmp hx hb dM_times_170 ?_
                    refine lv_if_le (tgt := 197) hx hb dM_times_171 (by decide) (fun hc => ?_) (fun hc => ?_)
                    · rw [if_pos hc] at hf
                      refine xm_aload_n hx hb (xvor _ _) dM_times_197 rfl (lv_at hl 1 rfl) ?_
                      refine xm_vget (v := .int ((xpi st 3) (c0 - 1))) hx hb htx hown hK hP 3 (by decide) hg1 rfl ((hZ.1 (103, "count", "I") (List.mem_of_getElem? (i := 3) rfl)).use rfl) rfl dM_times_198 ?_
                      refine lv_if_le (tgt := 225) hx hb dM_times_201 (by decide) (fun hc => ?_) (fun hc => ?_)
                      · rw [if_pos hc] at hf
                        refine lv_aload_n hx hb dM_times_225 rfl (lv_at hl 0 rfl) ?_
                        refine xm_get (v := .int (xsi st 4)) hx hb htx hown hK hP 4 (by decide) rfl (htx _ kw_5_91) rfl dM_times_226 ?_
                        refine lv_istore_n (lv' := [(3, .int (xsi st 4)), (0, .ref aM), (1, xv vad c0), (2, xv vad c1)]) hx hb dM_times_229 rfl hl (by decide) (by simp only [List.filter, xvcat, xrscat, xcI, xcL, xcR, xcN]; rfl) (fun ls hl => ?_)
                        refine lv_lconst (v := 0) hx hb dM_times_230 (by decide) ?_
                        refine lv_lstore (lv' := [(4, .long 0), (3, .int (xsi st 4)), (0, .ref aM), (1, xv vad c0), (2, xv vad c1)]) hx hb dM_times_231 hl (by decide) rfl (fun ls hl => ?_)
                        exact key n (1, (0 : Int64), (xsi st 4), c0, c1, st, 0, 0) _ _ ls (⟨ad, gd, vad, rfl, hf, hP, hD, hS, lv_sub hl [0, 1, 2, 3, 4] rfl, hE, hN⟩)
                      · rw [if_neg hc] at hf
                        refine xm_aload_n hx hb (xvor _ _) dM_times_204 rfl (lv_at hl 2 rfl) ?_
                        refine xm_vget (v := .long ((xpl st) (c1 - 1))) hx hb htx hown hK hP 1 (by decide) hg2 rfl ((hZ.1 (96, "n", "J") (List.mem_of_getElem? (i := 1) rfl)).use rfl) rfl dM_times_205 ?_
                        refine lv_ldc hx hb hown (htx _ kw_6_62) dM_times_208 ?_
                        refine xm_aload_n hx hb (xvor _ _) dM_times_210 rfl (lv_at hl 1 rfl) ?_
                        refine xm_vget (v := .int ((xpi st 3) (c0 - 1))) hx hb htx hown hK hP 3 (by decide) hg1 rfl ((hZ.1 (103, "count", "I") (List.mem_of_getElem? (i := 3) rfl)).use rfl) rfl dM_times_211 ?_
                        obtain ⟨hg3, hf⟩ := xifn hf
                        refine lv_idiv hx hb dM_times_214 hg3 ?_
                        refine lv_i2l hx hb dM_times_215 rfl ?_
                        refine W.lcmp hx hb dM_times_216 ?_
                        refine lv_if_le (tgt := 225) hx hb dM_times_217 (by decide) (fun hc => ?_) (fun hc => ?_)
                        · rw [if_pos hc] at hf
                          refine lv_aload_n hx hb dM_times_225 rfl (lv_at hl 0 rfl) ?_
                          refine xm_get (v := .int (xsi st 4)) hx hb htx hown hK hP 4 (by decide) rfl (htx _ kw_5_91) rfl dM_times_226 ?_
                          refine lv_istore_n (lv' := [(3, .int (xsi st 4)), (0, .ref aM), (1, xv vad c0), (2, xv vad c1)]) hx hb dM_times_229 rfl hl (by decide) (by simp only [List.filter, xvcat, xrscat, xcI, xcL, xcR, xcN]; rfl) (fun ls hl => ?_)
                          refine lv_lconst (v := 0) hx hb dM_times_230 (by decide) ?_
                          refine lv_lstore (lv' := [(4, .long 0), (3, .int (xsi st 4)), (0, .ref aM), (1, xv vad c0), (2, xv vad c1)]) hx hb dM_times_231 hl (by decide) rfl (fun ls hl => ?_)
                          exact key n (1, (0 : Int64), (xsi st 4), c0, c1, st, 0, 0) _ _ ls (⟨ad, gd, vad, rfl, hf, hP, hD, hS, lv_sub hl [0, 1, 2, 3, 4] rfl, hE, hN⟩)
                        · rw [if_neg hc] at hf
                          refine lv_aload_n hx hb dM_times_220 rfl (lv_at hl 0 rfl) ?_
                          obtain ⟨o4, hq5, hf⟩ := xbind hf
                          have hl := lv_sub (l' := [(0, .ref aM)]) hl [0] rfl
                          by_cases hk6 : o4.1 = 1
                          · rw [if_pos hk6] at hf
                            obtain ⟨hm7, hf⟩ := xmoE hf
                            obtain rfl := Option.some.inj hf
                            exact absurd (show (2 : Nat) = 0 from hkd) (by decide)
                          rw [if_neg hk6] at hf
                          exact nomatch hf
                    · rw [if_neg hc] at hf
                      refine xm_aload_n hx hb (xvor _ _) dM_times_174 rfl (lv_at hl 1 rfl) ?_
                      refine xm_vget (v := .int ((xpi st 3) (c0 - 1))) hx hb htx hown hK hP 3 (by decide) hg1 rfl ((hZ.1 (103, "count", "I") (List.mem_of_getElem? (i := 3) rfl)).use rfl) rfl dM_times_175 ?_
                      refine lv_if_le (tgt := 197) hx hb dM_times_178 (by decide) (fun hc => ?_) (fun hc => ?_)
                      · rw [if_pos hc] at hf
                        refine xm_aload_n hx hb (xvor _ _) dM_times_197 rfl (lv_at hl 1 rfl) ?_
                        refine xm_vget (v := .int ((xpi st 3) (c0 - 1))) hx hb htx hown hK hP 3 (by decide) hg1 rfl ((hZ.1 (103, "count", "I") (List.mem_of_getElem? (i := 3) rfl)).use rfl) rfl dM_times_198 ?_
                        refine lv_if_le (tgt := 225) hx hb dM_times_201 (by decide) (fun hc => ?_) (fun hc => ?_)
                        · rw [if_pos hc] at hf
                          refine lv_aload_n hx hb dM_times_225 rfl (lv_at hl 0 rfl) ?_
                          refine xm_get (v := .int (xsi st 4)) hx hb htx hown hK hP 4 (by decide) rfl (htx _ kw_5_91) rfl dM_times_226 ?_
                          refine lv_istore_n (lv' := [(3, .int (xsi st 4)), (0, .ref aM), (1, xv vad c0), (2, xv vad c1)]) hx hb dM_times_229 rfl hl (by decide) (by simp only [List.filter, xvcat, xrscat, xcI, xcL, xcR, xcN]; rfl) (fun ls hl => ?_)
                          refine lv_lconst (v := 0) hx hb dM_times_230 (by decide) ?_
                          refine lv_lstore (lv' := [(4, .long 0), (3, .int (xsi st 4)), (0, .ref aM), (1, xv vad c0), (2, xv vad c1)]) hx hb dM_times_231 hl (by decide) rfl (fun ls hl => ?_)
                          exact key n (1, (0 : Int64), (xsi st 4), c0, c1, st, 0, 0) _ _ ls (⟨ad, gd, vad, rfl, hf, hP, hD, hS, lv_sub hl [0, 1, 2, 3, 4] rfl, hE, hN⟩)
                        · rw [if_neg hc] at hf
                          refine xm_aload_n hx hb (xvor _ _) dM_times_204 rfl (lv_at hl 2 rfl) ?_
                          refine xm_vget (v := .long ((xpl st) (c1 - 1))) hx hb htx hown hK hP 1 (by decide) hg2 rfl ((hZ.1 (96, "n", "J") (List.mem_of_getElem? (i := 1) rfl)).use rfl) rfl dM_times_205 ?_
                          refine lv_ldc hx hb hown (htx _ kw_6_62) dM_times_208 ?_
                          refine xm_aload_n hx hb (xvor _ _) dM_times_210 rfl (lv_at hl 1 rfl) ?_
                          refine xm_vget (v := .int ((xpi st 3) (c0 - 1))) hx hb htx hown hK hP 3 (by decide) hg1 rfl ((hZ.1 (103, "count", "I") (List.mem_of_getElem? (i := 3) rfl)).use rfl) rfl dM_times_211 ?_
                          obtain ⟨hg3, hf⟩ := xifn hf
                          refine lv_idiv hx hb dM_times_214 hg3 ?_
                          refine lv_i2l hx hb dM_times_215 rfl ?_
                          refine W.lcmp hx hb dM_times_216 ?_
                          refine lv_if_le (tgt := 225) hx hb dM_times_217 (by decide) (fun hc => ?_) (fun hc => ?_)
                          · rw [if_pos hc] at hf
                            refine lv_aload_n hx hb dM_times_225 rfl (lv_at hl 0 rfl) ?_
                            refine xm_get (v := .int (xsi st 4)) hx hb htx hown hK hP 4 (by decide) rfl (htx _ kw_5_91) rfl dM_times_226 ?_
                            refine lv_istore_n (lv' := [(3, .int (xsi st 4)), (0, .ref aM), (1, xv vad c0), (2, xv vad c1)]) hx hb dM_times_229 rfl hl (by decide) (by simp only [List.filter, xvcat, xrscat, xcI, xcL, xcR, xcN]; rfl) (fun ls hl => ?_)
                            refine lv_lconst (v := 0) hx hb dM_times_230 (by decide) ?_
                            refine lv_lstore (lv' := [(4, .long 0), (3, .int (xsi st 4)), (0, .ref aM), (1, xv vad c0), (2, xv vad c1)]) hx hb dM_times_231 hl (by decide) rfl (fun ls hl => ?_)
                            exact key n (1, (0 : Int64), (xsi st 4), c0, c1, st, 0, 0) _ _ ls (⟨ad, gd, vad, rfl, hf, hP, hD, hS, lv_sub hl [0, 1, 2, 3, 4] rfl, hE, hN⟩)
                          · rw [if_neg hc] at hf
                            refine lv_aload_n hx hb dM_times_220 rfl (lv_at hl 0 rfl) ?_
                            obtain ⟨o4, hq5, hf⟩ := xbind hf
                            have hl := lv_sub (l' := [(0, .ref aM)]) hl [0] rfl
                            by_cases hk6 : o4.1 = 1
                            · rw [if_pos hk6] at hf
                              obtain ⟨hm7, hf⟩ := xmoE hf
                              obtain rfl := Option.some.inj hf
                              exact absurd (show (2 : Nat) = 0 from hkd) (by decide)
                            rw [if_neg hk6] at hf
                            exact nomatch hf
                      · rw [if_neg hc] at hf
                        refine xm_aload_n hx hb (xvor _ _) dM_times_181 rfl (lv_at hl 2 rfl) ?_
                        refine xm_vget (v := .long ((xpl st) (c1 - 1))) hx hb htx hown hK hP 1 (by decide) hg2 rfl ((hZ.1 (96, "n", "J") (List.mem_of_getElem? (i := 1) rfl)).use rfl) rfl dM_times_182 ?_
                        refine lv_ldc2 hx hb hown (htx _ kw_6_108) dM_times_185 ?_
                        refine W.lcmp hx hb dM_times_188 ?_
                        refine lv_if_le (tgt := 197) hx hb dM_times_189 (by decide) (fun hc => ?_) (fun hc => ?_)
                        · rw [if_pos hc] at hf
                          refine xm_aload_n hx hb (xvor _ _) dM_times_197 rfl (lv_at hl 1 rfl) ?_
                          refine xm_vget (v := .int ((xpi st 3) (c0 - 1))) hx hb htx hown hK hP 3 (by decide) hg1 rfl ((hZ.1 (103, "count", "I") (List.mem_of_getElem? (i := 3) rfl)).use rfl) rfl dM_times_198 ?_
                          refine lv_if_le (tgt := 225) hx hb dM_times_201 (by decide) (fun hc => ?_) (fun hc => ?_)
                          · rw [if_pos hc] at hf
                            refine lv_aload_n hx hb dM_times_225 rfl (lv_at hl 0 rfl) ?_
                            refine xm_get (v := .int (xsi st 4)) hx hb htx hown hK hP 4 (by decide) rfl (htx _ kw_5_91) rfl dM_times_226 ?_
                            refine lv_istore_n (lv' := [(3, .int (xsi st 4)), (0, .ref aM), (1, xv vad c0), (2, xv vad c1)]) hx hb dM_times_229 rfl hl (by decide) (by simp only [List.filter, xvcat, xrscat, xcI, xcL, xcR, xcN]; rfl) (fun ls hl => ?_)
                            refine lv_lconst (v := 0) hx hb dM_times_230 (by decide) ?_
                            refine lv_lstore (lv' := [(4, .long 0), (3, .int (xsi st 4)), (0, .ref aM), (1, xv vad c0), (2, xv vad c1)]) hx hb dM_times_231 hl (by decide) rfl (fun ls hl => ?_)
                            exact key n (1, (0 : Int64), (xsi st 4), c0, c1, st, 0, 0) _ _ ls (⟨ad, gd, vad, rfl, hf, hP, hD, hS, lv_sub hl [0, 1, 2, 3, 4] rfl, hE, hN⟩)
                          · rw [if_neg hc] at hf
                            refine xm_aload_n hx hb (xvor _ _) dM_times_204 rfl (lv_at hl 2 rfl) ?_
                            refine xm_vget (v := .long ((xpl st) (c1 - 1))) hx hb htx hown hK hP 1 (by decide) hg2 rfl ((hZ.1 (96, "n", "J") (List.mem_of_getElem? (i := 1) rfl)).use rfl) rfl dM_times_205 ?_
                            refine lv_ldc hx hb hown (htx _ kw_6_62) dM_times_208 ?_
                            refine xm_aload_n hx hb (xvor _ _) dM_times_210 rfl (lv_at hl 1 rfl) ?_
                            refine xm_vget (v := .int ((xpi st 3) (c0 - 1))) hx hb htx hown hK hP 3 (by decide) hg1 rfl ((hZ.1 (103, "count", "I") (List.mem_of_getElem? (i := 3) rfl)).use rfl) rfl dM_times_211 ?_
                            obtain ⟨hg3, hf⟩ := xifn hf
                            refine lv_idiv hx hb dM_times_214 hg3 ?_
                            refine lv_i2l hx hb dM_times_215 rfl ?_
                            refine W.lcmp hx hb dM_times_216 ?_
                            refine lv_if_le (tgt := 225) hx hb dM_times_217 (by decide) (fun hc => ?_) (fun hc => ?_)
                            · rw [if_pos hc] at hf
                              refine lv_aload_n hx hb dM_times_225 rfl (lv_at hl 0 rfl) ?_
                              refine xm_get (v := .int (xsi st 4)) hx hb htx hown hK hP 4 (by decide) rfl (htx _ kw_5_91) rfl dM_times_226 ?_
                              refine lv_istore_n (lv' := [(3, .int (xsi st 4)), (0, .ref aM), (1, xv vad c0), (2, xv vad c1)]) hx hb dM_times_229 rfl hl (by decide) (by simp only [List.filter, xvcat, xrscat, xcI, xcL, xcR, xcN]; rfl) (fun ls hl => ?_)
                              refine lv_lconst (v := 0) hx hb dM_times_230 (by decide) ?_
                              refine lv_lstore (lv' := [(4, .long 0), (3, .int (xsi st 4)), (0, .ref aM), (1, xv vad c0), (2, xv vad c1)]) hx hb dM_times_231 hl (by decide) rfl (fun ls hl => ?_)
                              exact key n (1, (0 : Int64), (xsi st 4), c0, c1, st, 0, 0) _ _ ls (⟨ad, gd, vad, rfl, hf, hP, hD, hS, lv_sub hl [0, 1, 2, 3, 4] rfl, hE, hN⟩)
                            · rw [if_neg hc] at hf
                              refine lv_aload_n hx hb dM_times_220 rfl (lv_at hl 0 rfl) ?_
                              obtain ⟨o4, hq5, hf⟩ := xbind hf
                              have hl := lv_sub (l' := [(0, .ref aM)]) hl [0] rfl
                              by_cases hk6 : o4.1 = 1
                              · rw [if_pos hk6] at hf
                                obtain ⟨hm7, hf⟩ := xmoE hf
                                obtain rfl := Option.some.inj hf
                                exact absurd (show (2 : Nat) = 0 from hkd) (by decide)
                              rw [if_neg hk6] at hf
                              exact nomatch hf
                        · rw [if_neg hc] at hf
                          refine lv_aload_n hx hb dM_times_192 rfl (lv_at hl 0 rfl) ?_
                          obtain ⟨o3, hq4, hf⟩ := xbind hf
                          have hl := lv_sub (l' := [(0, .ref aM)]) hl [0] rfl
                          by_cases hk5 : o3.1 = 1
                          · rw [if_pos hk5] at hf
                            obtain ⟨hm6, hf⟩ := xmoE hf
                            obtain rfl := Option.some.inj hf
                            exact absurd (show (2 : Nat) = 0 from hkd) (by decide)
                          rw [if_neg hk5] at hf
                          exact nomatch hf
                  · rw [if_neg hc] at hf
                    refine lv_aload_n hx hb dM_times_149 rfl (lv_at hl 0 rfl) ?_
                    refine lv_iconst (v := 0) hx hb dM_times_150 (by decide) ?_
                    obtain ⟨o3, hq4, hf⟩ := xbind hf
                    have hl := lv_sub (l' := [(0, .ref aM)]) hl [0] rfl
                    obtain ⟨hm5, hf⟩ := xmoE hf
                    have hFc := xm_free hD hS hA
                    refine va_callq (va_runV (C := "ValueBenchModel") (As := [.int 0]) (rest := []) ⟨hx, hb, hml, hown, htx⟩ (gM_fresh l hl9 D cT aK aV s.heap.size n aM ad rd gd vad st (0 : Int32) o3 hq4) ⟨callB_of 1 htx (xw_goodC kw_6_16) rfl rfl rfl (htx _ kw_1_5) (htx _ kw_6_13) ⟨by decide, by decide, by decide +kernel⟩ ⟨Nat.le_of_ble_eq_true rfl, Nat.le_of_ble_eq_true rfl⟩, (htx _ kw_6_15), (htx _ kp_M_fresh)⟩ ⟨xPre_blind, va_recv hK hP (ci := 5) rfl (q0 := 0) rfl, (fun U hU hW => ⟨rfl, xPre_of hZ hS hFc hP hD hK U hU hW⟩)⟩ rfl rfl hl.1 rfl (xm_room (Nat.le_of_ble_eq_true rfl)) dM_times_151 ⟨hm5.1, hm5.2⟩) hS (fun q _ h => hFc q h) hFc (fun r6 u9 t H1 locs ht hvm hr9 hB hz1 hk1 hS => ?_)
                    obtain ⟨hP1, hK1, hD1⟩ := hB
                    rw [ht] at hP1
                    obtain ⟨ad7, gd8, vad9⟩ := u9
                    obtain ⟨hr9, hv10, hn11⟩ := hr9
                    have hP : va_P D xcl (xMw cT aM ad7 rd gd8 vad9 o3.2.2.2 []) H1 := hP1
                    have hD : va_D A (xMw cT aM ad7 rd gd8 vad9 o3.2.2.2 []) := hD1.weaken (fun k q _ h => hFc q.1 h)
                    generalize H1 = H at hP hS ⊢
                    have hE9 : ∀ p, p < xct st → vad9 p = vad p := fun p h => (hv10 p (Nat.lt_of_lt_of_le h hN)).trans (hE p h)
                    have hE := hE9
                    have hN : xct st ≤ xct o3.2.2.2 := Nat.le_trans hN hn11
                    rw [hr9]
                    refine W.eq (g2 := F0 m 154 ls [xv vad9 o3.2.2.1]) (by first | rfl | (skip; rfl)) ?_
                    obtain rfl := Option.some.inj hf
                    exact W.aret (v := xv vad9 o3.2.2.1) hx hb hr (Or.inl ⟨_, rfl⟩) (xvor _ _) (fun t ht hW => ⟨⟨xca vad9 o3.2.2.1, (ad7, gd8, vad9), rfl, ⟨rfl, hE, hN⟩, by rw [ht]; exact hP, va_K.moved hW.alike hK, hD⟩, hS.F ht⟩) hS.2.2 dM_times_154
                · rw [if_neg hc] at hf
                  refine lv_aload_n hx hb dM_times_134 rfl (lv_at hl 0 rfl) ?_
                  refine lv_iconst (v := 1) hx hb dM_times_135 (by decide) ?_
                  obtain ⟨o3, hq4, hf⟩ := xbind hf
                  have hl := lv_sub (l' := [(0, .ref aM)]) hl [0] rfl
                  by_cases hk5 : o3.1 = 1
                  · rw [if_pos hk5] at hf
                    obtain ⟨hm6, hf⟩ := xmoE hf
                    obtain rfl := Option.some.inj hf
                    exact absurd (show (1 : Nat) = 0 from hkd) (by decide)
                  rw [if_neg hk5] at hf
                  exact nomatch hf
            · rw [if_pos hc] at hf
              refine xm_aload_n hx hb (xvor _ _) dM_times_103 rfl (lv_at hl 2 rfl) ?_
              refine xm_vget (v := .int ((xpi st 0) (c1 - 1))) hx hb htx hown hK hP 0 (by decide) hg2 rfl ((hZ.1 (93, "kind", "I") (List.mem_of_getElem? (i := 0) rfl)).use rfl) rfl dM_times_104 ?_
              refine lv_iconst (v := 4) hx hb dM_times_107 (by decide) ?_
              refine lv_icmp_ne (tgt := 118) hx hb dM_times_108 (by decide) (fun hc => ?_) (fun hc => ?_)
              · rw [if_neg hc] at hf
                refine xm_aload_n hx hb (xvor _ _) dM_times_118 rfl (lv_at hl 1 rfl) ?_
                refine xm_vget (v := .int ((xpi st 0) (c0 - 1))) hx hb htx hown hK hP 0 (by decide) hg1 rfl ((hZ.1 (93, "kind", "I") (List.mem_of_getElem? (i := 0) rfl)).use rfl) rfl dM_times_119 ?_
                refine lv_iconst (v := 4) hx hb dM_times_122 (by decide) ?_
                refine lv_icmp_ne (tgt := 134) hx hb dM_times_123 (by decide) (fun hc => ?_) (fun hc => ?_)
                · rw [if_neg hc] at hf
                  refine lv_aload_n hx hb dM_times_134 rfl (lv_at hl 0 rfl) ?_
                  refine lv_iconst (v := 1) hx hb dM_times_135 (by decide) ?_
                  obtain ⟨o3, hq4, hf⟩ := xbind hf
                  have hl := lv_sub (l' := [(0, .ref aM)]) hl [0] rfl
                  by_cases hk5 : o3.1 = 1
                  · rw [if_pos hk5] at hf
                    obtain ⟨hm6, hf⟩ := xmoE hf
                    obtain rfl := Option.some.inj hf
                    exact absurd (show (1 : Nat) = 0 from hkd) (by decide)
                  rw [if_neg hk5] at hf
                  exact nomatch hf
                · rw [if_pos hc] at hf
                  refine xm_aload_n hx hb (xvor _ _) dM_times_126 rfl (lv_at hl 2 rfl) ?_
                  refine xm_vget (v := .int ((xpi st 0) (c1 - 1))) hx hb htx hown hK hP 0 (by decide) hg2 rfl ((hZ.1 (93, "kind", "I") (List.mem_of_getElem? (i := 0) rfl)).use rfl) rfl dM_times_127 ?_
                  refine lv_iconst (v := 3) hx hb dM_times_130 (by decide) ?_
                  refine lv_icmp_eq (tgt := 140) hx hb dM_times_131 (by decide) (fun hc => ?_) (fun hc => ?_)
                  · rw [if_pos hc] at hf
                    refine xm_aload_n hx hb (xvor _ _) dM_times_140 rfl (lv_at hl 2 rfl) ?_
                    refine xm_vget (v := .long ((xpl st) (c1 - 1))) hx hb htx hown hK hP 1 (by decide) hg2 rfl ((hZ.1 (96, "n", "J") (List.mem_of_getElem? (i := 1) rfl)).use rfl) rfl dM_times_141 ?_
                    refine lv_lconst (v := 1) hx hb dM_times_144 (by decide) ?_
                    refine W.lcmp hx hb dM_times_145 ?_
                    refine lv_if_ge (tgt := 155) hx hb dM_times_146 (by decide) (fun hc => ?_) (fun hc => ?_)
                    · rw [if_pos hc] at hf
                      refine xm_aload_n hx hb (xvor _ _) dM_times_155 rfl (lv_at hl 2 rfl) ?_
                      refine xm_vget (v := .long ((xpl st) (c1 - 1))) hx hb htx hown hK hP 1 (by decide) hg2 rfl ((hZ.1 (96, "n", "J") (List.mem_of_getElem? (i := 1) rfl)).use rfl) rfl dM_times_156 ?_
                      refine xm_aload_n hx hb (xvor _ _) dM_times_159 rfl (lv_at hl 1 rfl) ?_
                      refine xm_vget (v := .int ((xpi st 3) (c0 - 1))) hx hb htx hown hK hP 3 (by decide) hg1 rfl ((hZ.1 (103, "count", "I") (List.mem_of_getElem? (i := 3) rfl)).use rfl) rfl dM_times_160 ?_
                      refine lv_i2l hx hb dM_times_163 rfl ?_
                      refine lv_lconst (v := 1) hx hb dM_times_164 (by decide) ?_
                      refine lv_ladd hx hb dM_times_165 ?_
                      refine lv_lmul hx hb dM_times_166 ?_
                      refine lv_ldc2 hx hb hown (htx _ kw_6_221) dM_times_167 ?_
                      refine W.lcmp hx hb dM_times_170 ?_
                      refine lv_if_le (tgt := 197) hx hb dM_times_171 (by decide) (fun hc => ?_) (fun hc => ?_)
                      · rw [if_pos hc] at hf
                        refine xm_aload_n hx hb (xvor _ _) dM_times_197 rfl (lv_at hl 1 rfl) ?_
                        refine xm_vget (v := .int ((xpi st 3) (c0 - 1))) hx hb htx hown hK hP 3 (by decide) hg1 rfl ((hZ.1 (103, "count", "I") (List.mem_of_getElem? (i := 3) rfl)).use rfl) rfl dM_times_198 ?_
                        refine lv_if_le (tgt := 225) hx hb dM_times_201 (by decide) (fun hc => ?_) (fun hc => ?_)
                        · rw [if_pos hc] at hf
                          refine lv_aload_n hx hb dM_times_225 rfl (lv_at hl 0 rfl) ?_
                          refine xm_get (v := .int (xsi st 4)) hx hb htx hown hK hP 4 (by decide) rfl (htx _ kw_5_91) rfl dM_times_226 ?_
                          refine lv_istore_n (lv' := [(3, .int (xsi st 4)), (0, .ref aM), (1, xv vad c0), (2, xv vad c1)]) hx hb dM_times_229 rfl hl (by decide) (by simp only [List.filter, xvcat, xrscat, xcI, xcL, xcR, xcN]; rfl) (fun ls hl => ?_)
                          refine lv_lconst (v := 0) hx hb dM_times_230 (by decide) ?_
                          refine lv_lstore (lv' := [(4, .long 0), (3, .int (xsi st 4)), (0, .ref aM), (1, xv vad c0), (2, xv vad c1)]) hx hb dM_times_231 hl (by decide) rfl (fun ls hl => ?_)
                          exact key n (1, (0 : Int64), (xsi st 4), c0, c1, st, 0, 0) _ _ ls (⟨ad, gd, vad, rfl, hf, hP, hD, hS, lv_sub hl [0, 1, 2, 3, 4] rfl, hE, hN⟩)
                        · rw [if_neg hc] at hf
                          refine xm_aload_n hx hb (xvor _ _) dM_times_204 rfl (lv_at hl 2 rfl) ?_
                          refine xm_vget (v := .long ((xpl st) (c1 - 1))) hx hb htx hown hK hP 1 (by decide) hg2 rfl ((hZ.1 (96, "n", "J") (List.mem_of_getElem? (i := 1) rfl)).use rfl) rfl dM_times_205 ?_
                          refine lv_ldc hx hb hown (htx _ kw_6_62) dM_times_208 ?_
                          refine xm_aload_n hx hb (xvor _ _) dM_times_210 rfl (lv_at hl 1 rfl) ?_
                          refine xm_vget (v := .int ((xpi st 3) (c0 - 1))) hx hb htx hown hK hP 3 (by decide) hg1 rfl ((hZ.1 (103, "count", "I") (List.mem_of_getElem? (i := 3) rfl)).use rfl) rfl dM_times_211 ?_
                          obtain ⟨hg3, hf⟩ := xifn hf
                          refine lv_idiv hx hb dM_times_214 hg3 ?_
                          refine lv_i2l hx hb dM_times_215 rfl ?_
                          refine W.lcmp hx hb dM_times_216 ?_
                          refine lv_if_le (tgt := 225) hx hb dM_times_217 (by decide) (fun hc => ?_) (fun hc => ?_)
                          · rw [if_pos hc] at hf
                            refine lv_aload_n hx hb dM_times_225 rfl (lv_at hl 0 rfl) ?_
                            refine xm_get (v := .int (xsi st 4)) hx hb htx hown hK hP 4 (by decide) rfl (htx _ kw_5_91) rfl dM_times_226 ?_
                            refine lv_istore_n (lv' := [(3, .int (xsi st 4)), (0, .ref aM), (1, xv vad c0), (2, xv vad c1)]) hx hb dM_times_229 rfl hl (by decide) (by simp only [List.filter, xvcat, xrscat, xcI, xcL, xcR, xcN]; rfl) (fun ls hl => ?_)
                            refine lv_lconst (v := 0) hx hb dM_times_230 (by decide) ?_
                            refine lv_lstore (lv' := [(4, .long 0), (3, .int (xsi st 4)), (0, .ref aM), (1, xv vad c0), (2, xv vad c1)]) hx hb dM_times_231 hl (by decide) rfl (fun ls hl => ?_)
                            exact key n (1, (0 : Int64), (xsi st 4), c0, c1, st, 0, 0) _ _ ls (⟨ad, gd, vad, rfl, hf, hP, hD, hS, lv_sub hl [0, 1, 2, 3, 4] rfl, hE, hN⟩)
                          · rw [if_neg hc] at hf
                            refine lv_aload_n hx hb dM_times_220 rfl (lv_at hl 0 rfl) ?_
                            obtain ⟨o4, hq5, hf⟩ := xbind hf
                            have hl := lv_sub (l' := [(0, .ref aM)]) hl [0] rfl
                            by_cases hk6 : o4.1 = 1
                            · rw [if_pos hk6] at hf
                              obtain ⟨hm7, hf⟩ := xmoE hf
                              obtain rfl := Option.some.inj hf
                              exact absurd (show (2 : Nat) = 0 from hkd) (by decide)
                            rw [if_neg hk6] at hf
                            exact nomatch hf
                      · rw [if_neg hc] at hf
                        refine xm_aload_n hx hb (xvor _ _) dM_times_174 rfl (lv_at hl 1 rfl) ?_
                        refine xm_vget (v := .int ((xpi st 3) (c0 - 1))) hx hb htx hown hK hP 3 (by decide) hg1 rfl ((hZ.1 (103, "count", "I") (List.mem_of_getElem? (i := 3) rfl)).use rfl) rfl dM_times_175 ?_
                        refine lv_if_le (tgt := 197) hx hb dM_times_178 (by decide) (fun hc => ?_) (fun hc => ?_)
                        · rw [if_pos hc] at hf
                          refine xm_aload_n hx hb (xvor _ _) dM_times_197 rfl (lv_at hl 1 rfl) ?_
                          refine xm_vget (v := .int ((xpi st 3) (c0 - 1))) hx hb htx hown hK hP 3 (by decide) hg1 rfl ((hZ.1 (103, "count", "I") (List.mem_of_getElem? (i := 3) rfl)).use rfl) rfl dM_times_198 ?_
                          refine lv_if_le (tgt := 225) hx hb dM_times_201 (by decide) (fun hc => ?_) (fun hc => ?_)
                          · rw [if_pos hc] at hf
                            refine lv_aload_n hx hb dM_times_225 rfl (lv_at hl 0 rfl) ?_
                            refine xm_get (v := .int (xsi st 4)) hx hb htx hown hK hP 4 (by decide) rfl (htx _ kw_5_91) rfl dM_times_226 ?_
                            refine lv_istore_n (lv' := [(3, .int (xsi st 4)), (0, .ref aM), (1, xv vad c0), (2, xv vad c1)]) hx hb dM_times_229 rfl hl (by decide) (by simp only [List.filter, xvcat, xrscat, xcI, xcL, xcR, xcN]; rfl) (fun ls hl => ?_)
                            refine lv_lconst (v := 0) hx hb dM_times_230 (by decide) ?_
                            refine lv_lstore (lv' := [(4, .long 0), (3, .int (xsi st 4)), (0, .ref aM), (1, xv vad c0), (2, xv vad c1)]) hx hb dM_times_231 hl (by decide) rfl (fun ls hl => ?_)
                            exact key n (1, (0 : Int64), (xsi st 4), c0, c1, st, 0, 0) _ _ ls (⟨ad, gd, vad, rfl, hf, hP, hD, hS, lv_sub hl [0, 1, 2, 3, 4] rfl, hE, hN⟩)
                          · rw [if_neg hc] at hf
                            refine xm_aload_n hx hb (xvor _ _) dM_times_204 rfl (lv_at hl 2 rfl) ?_
                            refine xm_vget (v := .long ((xpl st) (c1 - 1))) hx hb htx hown hK hP 1 (by decide) hg2 rfl ((hZ.1 (96, "n", "J") (List.mem_of_getElem? (i := 1) rfl)).use rfl) rfl dM_times_205 ?_
                            refine lv_ldc hx hb hown (htx _ kw_6_62) dM_times_208 ?_
                            refine xm_aload_n hx hb (xvor _ _) dM_times_210 rfl (lv_at hl 1 rfl) ?_
                            refine xm_vget (v := .int ((xpi st 3) (c0 - 1))) hx hb htx hown hK hP 3 (by decide) hg1 rfl ((hZ.1 (103, "count", "I") (List.mem_of_getElem? (i := 3) rfl)).use rfl) rfl dM_times_211 ?_
                            obtain ⟨hg3, hf⟩ := xifn hf
                            refine lv_idiv hx hb dM_times_214 hg3 ?_
                            refine lv_i2l hx hb dM_times_215 rfl ?_
                            refine W.lcmp hx hb dM_times_216 ?_
                            refine lv_if_le (tgt := 225) hx hb dM_times_217 (by decide) (fun hc => ?_) (fun hc => ?_)
                            · rw [if_pos hc] at hf
                              refine lv_aload_n hx hb dM_times_225 rfl (lv_at hl 0 rfl) ?_
                              refine xm_get (v := .int (xsi st 4)) hx hb htx hown hK hP 4 (by decide) rfl (htx _ kw_5_91) rfl dM_times_226 ?_
                              refine lv_istore_n (lv' := [(3, .int (xsi st 4)), (0, .ref aM), (1, xv vad c0), (2, xv vad c1)]) hx hb dM_times_229 rfl hl (by decide) (by simp only [List.filter, xvcat, xrscat, xcI, xcL, xcR, xcN]; rfl) (fun ls hl => ?_)
                              refine lv_lconst (v := 0) hx hb dM_times_230 (by decide) ?_
                              refine lv_lstore (lv' := [(4, .long 0), (3, .int (xsi st 4)), (0, .ref aM), (1, xv vad c0), (2, xv vad c1)]) hx hb dM_times_231 hl (by decide) rfl (fun ls hl => ?_)
                              exact key n (1, (0 : Int64), (xsi st 4), c0, c1, st, 0, 0) _ _ ls (⟨ad, gd, vad, rfl, hf, hP, hD, hS, lv_sub hl [0, 1, 2, 3, 4] rfl, hE, hN⟩)
                            · rw [if_neg hc] at hf
                              refine lv_aload_n hx hb dM_times_220 rfl (lv_at hl 0 rfl) ?_
                              obtain ⟨o4, hq5, hf⟩ := xbind hf
                              have hl := lv_sub (l' := [(0, .ref aM)]) hl [0] rfl
                              by_cases hk6 : o4.1 = 1
                              · rw [if_pos hk6] at hf
                                obtain ⟨hm7, hf⟩ := xmoE hf
                                obtain rfl := Option.some.inj hf
                                exact absurd (show (2 : Nat) = 0 from hkd) (by decide)
                              rw [if_neg hk6] at hf
                              exact nomatch hf
                        · rw [if_neg hc] at hf
                          refine xm_aload_n hx hb (xvor _ _) dM_times_181 rfl (lv_at hl 2 rfl) ?_
                          refine xm_vget (v := .long ((xpl st) (c1 - 1))) hx hb htx hown hK hP 1 (by decide) hg2 rfl ((hZ.1 (96, "n", "J") (List.mem_of_getElem? (i := 1) rfl)).use rfl) rfl dM_times_182 ?_
                          refine lv_ldc2 hx hb hown (htx _ kw_6_108) dM_times_185 ?_
                          refine W.lcmp hx hb dM_times_188 ?_
                          refine lv_if_le (tgt := 197) hx hb dM_times_189 (by decide) (fun hc => ?_) (fun hc => ?_)
                          · rw [if_pos hc] at hf
                            refine xm_aload_n hx hb (xvor _ _) dM_times_197 rfl (lv_at hl 1 rfl) ?_
                            refine xm_vget (v := .int ((xpi st 3) (c0 - 1))) hx hb htx hown hK hP 3 (by decide) hg1 rfl ((hZ.1 (103, "count", "I") (List.mem_of_getElem? (i := 3) rfl)).use rfl) rfl dM_times_198 ?_
                            refine lv_if_le (tgt := 225) hx hb dM_times_201 (by decide) (fun hc => ?_) (fun hc => ?_)
                            · rw [if_pos hc] at hf
                              refine lv_aload_n hx hb dM_times_225 rfl (lv_at hl 0 rfl) ?_
                              refine xm_get (v := .int (xsi st 4)) hx hb htx hown hK hP 4 (by decide) rfl (htx _ kw_5_91) rfl dM_times_226 ?_
                              refine lv_istore_n (lv' := [(3, .int (xsi st 4)), (0, .ref aM), (1, xv vad c0), (2, xv vad c1)]) hx hb dM_times_229 rfl hl (by decide) (by simp only [List.filter, xvcat, xrscat, xcI, xcL, xcR, xcN]; rfl) (fun ls hl => ?_)
                              refine lv_lconst (v := 0) hx hb dM_times_230 (by decide) ?_
                              refine lv_lstore (lv' := [(4, .long 0), (3, .int (xsi st 4)), (0, .ref aM), (1, xv vad c0), (2, xv vad c1)]) hx hb dM_times_231 hl (by decide) rfl (fun ls hl => ?_)
                              exact key n (1, (0 : Int64), (xsi st 4), c0, c1, st, 0, 0) _ _ ls (⟨ad, gd, vad, rfl, hf, hP, hD, hS, lv_sub hl [0, 1, 2, 3, 4] rfl, hE, hN⟩)
                            · rw [if_neg hc] at hf
                              refine xm_aload_n hx hb (xvor _ _) dM_times_204 rfl (lv_at hl 2 rfl) ?_
                              refine xm_vget (v := .long ((xpl st) (c1 - 1))) hx hb htx hown hK hP 1 (by decide) hg2 rfl ((hZ.1 (96, "n", "J") (List.mem_of_getElem? (i := 1) rfl)).use rfl) rfl dM_times_205 ?_
                              refine lv_ldc hx hb hown (htx _ kw_6_62) dM_times_208 ?_
                              refine xm_aload_n hx hb (xvor _ _) dM_times_210 rfl (lv_at hl 1 rfl) ?_
                              refine xm_vget (v := .int ((xpi st 3) (c0 - 1))) hx hb htx hown hK hP 3 (by decide) hg1 rfl ((hZ.1 (103, "count", "I") (List.mem_of_getElem? (i := 3) rfl)).use rfl) rfl dM_times_211 ?_
                              obtain ⟨hg3, hf⟩ := xifn hf
                              refine lv_idiv hx hb dM_times_214 hg3 ?_
                              refine lv_i2l hx hb dM_times_215 rfl ?_
                              refine W.lcmp hx hb dM_times_216 ?_
                              refine lv_if_le (tgt := 225) hx hb dM_times_217 (by decide) (fun hc => ?_) (fun hc => ?_)
                              · rw [if_pos hc] at hf
                                refine lv_aload_n hx hb dM_times_225 rfl (lv_at hl 0 rfl) ?_
                                refine xm_get (v := .int (xsi st 4)) hx hb htx hown hK hP 4 (by decide) rfl (htx _ kw_5_91) rfl dM_times_226 ?_
                                refine lv_istore_n (lv' := [(3, .int (xsi st 4)), (0, .ref aM), (1, xv vad c0), (2, xv vad c1)]) hx hb dM_times_229 rfl hl (by decide) (by simp only [List.filter, xvcat, xrscat, xcI, xcL, xcR, xcN]; rfl) (fun ls hl => ?_)
                                refine lv_lconst (v := 0) hx hb dM_times_230 (by decide) ?_
                                refine lv_lstore (lv' := [(4, .long 0), (3, .int (xsi st 4)), (0, .ref aM), (1, xv vad c0), (2, xv vad c1)]) hx hb dM_times_231 hl (by decide) rfl (fun ls hl => ?_)
                                exact key n (1, (0 : Int64), (xsi st 4), c0, c1, st, 0, 0) _ _ ls (⟨ad, gd, vad, rfl, hf, hP, hD, hS, lv_sub hl [0, 1, 2, 3, 4] rfl, hE, hN⟩)
                              · rw [if_neg hc] at hf
                                refine lv_aload_n hx hb dM_times_220 rfl (lv_at hl 0 rfl) ?_
                                obtain ⟨o4, hq5, hf⟩ := xbind hf
                                have hl := lv_sub (l' := [(0, .ref aM)]) hl [0] rfl
                                by_cases hk6 : o4.1 = 1
                                · rw [if_pos hk6] at hf
                                  obtain ⟨hm7, hf⟩ := xmoE hf
                                  obtain rfl := Option.some.inj hf
                                  exact absurd (show (2 : Nat) = 0 from hkd) (by decide)
                                rw [if_neg hk6] at hf
                                exact nomatch hf
                          · rw [if_neg hc] at hf
                            refine lv_aload_n hx hb dM_times_192 rfl (lv_at hl 0 rfl) ?_
                            obtain ⟨o3, hq4, hf⟩ := xbind hf
                            have hl := lv_sub (l' := [(0, .ref aM)]) hl [0] rfl
                            by_cases hk5 : o3.1 = 1
                            · rw [if_pos hk5] at hf
                              obtain ⟨hm6, hf⟩ := xmoE hf
                              obtain rfl := Option.some.inj hf
                              exact absurd (show (2 : Nat) = 0 from hkd) (by decide)
                            rw [if_neg hk5] at hf
                            exact nomatch hf
                    · rw [if_neg hc] at hf
                      refine lv_aload_n hx hb dM_times_149 rfl (lv_at hl 0 rfl) ?_
                      refine lv_iconst (v := 0) hx hb dM_times_150 (by decide) ?_
                      obtain ⟨o3, hq4, hf⟩ := xbind hf
                      have hl := lv_sub (l' := [(0, .ref aM)]) hl [0] rfl
                      obtain ⟨hm5, hf⟩ := xmoE hf
                      have hFc := xm_free hD hS hA
                      refine va_callq (va_runV (C := "ValueBenchModel") (As := [.int 0]) (rest := []) ⟨hx, hb, hml, hown, htx⟩ (gM_fresh l hl9 D cT aK aV s.heap.size n aM ad rd gd vad st (0 : Int32) o3 hq4) ⟨callB_of 1 htx (xw_goodC kw_6_16) rfl rfl rfl (htx _ kw_1_5) (htx _ kw_6_13) ⟨by decide, by decide, by decide +kernel⟩ ⟨Nat.le_of_ble_eq_true rfl, Nat.le_of_ble_eq_true rfl⟩, (htx _ kw_6_15), (htx _ kp_M_fresh)⟩ ⟨xPre_blind, va_recv hK hP (ci := 5) rfl (q0 := 0) rfl, (fun U hU hW => ⟨rfl, xPre_of hZ hS hFc hP hD hK U hU hW⟩)⟩ rfl rfl hl.1 rfl (xm_room (Nat.le_of_ble_eq_true rfl)) dM_times_151 ⟨hm5.1, hm5.2⟩) hS (fun q _ h => hFc q h) hFc (fun r6 u9 t H1 locs ht hvm hr9 hB hz1 hk1 hS => ?_)
                      obtain ⟨hP1, hK1, hD1⟩ := hB
                      rw [ht] at hP1
                      obtain ⟨ad7, gd8, vad9⟩ := u9
                      obtain ⟨hr9, hv10, hn11⟩ := hr9
                      have hP : va_P D xcl (xMw cT aM ad7 rd gd8 vad9 o3.2.2.2 []) H1 := hP1
                      have hD : va_D A (xMw cT aM ad7 rd gd8 vad9 o3.2.2.2 []) := hD1.weaken (fun k q _ h => hFc q.1 h)
                      generalize H1 = H at hP hS ⊢
                      have hE9 : ∀ p, p < xct st → vad9 p = vad p := fun p h => (hv10 p (Nat.lt_of_lt_of_le h hN)).trans (hE p h)
                      have hE := hE9
                      have hN : xct st ≤ xct o3.2.2.2 := Nat.le_trans hN hn11
                      rw [hr9]
                      refine W.eq (g2 := F0 m 154 ls [xv vad9 o3.2.2.1]) (by first | rfl | (skip; rfl)) ?_
                      obtain rfl := Option.some.inj hf
                      exact W.aret (v := xv vad9 o3.2.2.1) hx hb hr (Or.inl ⟨_, rfl⟩) (xvor _ _) (fun t ht hW => ⟨⟨xca vad9 o3.2.2.1, (ad7, gd8, vad9), rfl, ⟨rfl, hE, hN⟩, by rw [ht]; exact hP, va_K.moved hW.alike hK, hD⟩, hS.F ht⟩) hS.2.2 dM_times_154
                  · rw [if_neg hc] at hf
                    refine lv_aload_n hx hb dM_times_134 rfl (lv_at hl 0 rfl) ?_
                    refine lv_iconst (v := 1) hx hb dM_times_135 (by decide) ?_
                    obtain ⟨o3, hq4, hf⟩ := xbind hf
                    have hl := lv_sub (l' := [(0, .ref aM)]) hl [0] rfl
                    by_cases hk5 : o3.1 = 1
                    · rw [if_pos hk5] at hf
                      obtain ⟨hm6, hf⟩ := xmoE hf
                      obtain rfl := Option.some.inj hf
                      exact absurd (show (1 : Nat) = 0 from hkd) (by decide)
                    rw [if_neg hk5] at hf
                    exact nomatch hf
              · rw [if_pos hc] at hf
                refine lv_aload_n hx hb dM_times_111 rfl (lv_at hl 0 rfl) ?_
                refine xm_aload_n hx hb (xvor _ _) dM_times_112 rfl (lv_at hl 2 rfl) ?_
                refine xm_aload_n hx hb (xvor _ _) dM_times_113 rfl (lv_at hl 1 rfl) ?_
                obtain ⟨o3, hq4, hf⟩ := xbind hf
                have hl := lv_sub (l' := [(0, .ref aM)]) hl [0] rfl
                by_cases hk5 : o3.1 = 0
                · rw [if_pos hk5] at hf
                  obtain ⟨hm6, hf⟩ := xmoE hf
                  have hFc := xm_free hD hS hA
                  refine va_callq (va_runV (C := "ValueBenchModel") (As := [xv vad c1, xv vad c0]) (rest := []) ⟨hx, hb, hml, hown, htx⟩ ((hrec s.heap.size aM ad rd gd vad st c1 c0 o3 hq4).1 hk5) ⟨callB_of 2 htx (xw_goodC kw_6_215) rfl rfl rfl (htx _ kw_1_5) (htx _ kw_6_212) ⟨by decide, by decide, by decide +kernel⟩ ⟨(by show (16 * d) + 1 ≤ 16 * (d + 1); omega), (by show 8 + (7 + 11) + (400 * d) ≤ 400 * (d + 1); omega)⟩, (htx _ kw_6_214), (htx _ kp_M_times)⟩ ⟨xPre_blind, va_recv hK hP (ci := 5) rfl (q0 := 0) rfl, (fun U hU hW => ⟨rfl, xPre_of hZ hS hFc hP hD hK U hU hW⟩)⟩ rfl rfl hl.1 rfl (xm_room (Nat.le_of_ble_eq_true rfl)) dM_times_114 ⟨hm6.1, hm6.2⟩) hS (fun q _ h => hFc q h) hFc (fun r7 u9 t H1 locs ht hvm hr9 hB hz1 hk1 hS => ?_)
                  obtain ⟨hP1, hK1, hD1⟩ := hB
                  rw [ht] at hP1
                  obtain ⟨ad8, gd9, vad10⟩ := u9
                  obtain ⟨hr9, hv11, hn12⟩ := hr9
                  have hP : va_P D xcl (xMw cT aM ad8 rd gd9 vad10 o3.2.2.2.2 []) H1 := hP1
                  have hD : va_D A (xMw cT aM ad8 rd gd9 vad10 o3.2.2.2.2 []) := hD1.weaken (fun k q _ h => hFc q.1 h)
                  generalize H1 = H at hP hS ⊢
                  have hE9 : ∀ p, p < xct st → vad10 p = vad p := fun p h => (hv11 p (Nat.lt_of_lt_of_le h hN)).trans (hE p h)
                  have hE := hE9
                  have hN : xct st ≤ xct o3.2.2.2.2 := Nat.le_trans hN hn12
                  rw [hr9]
                  refine W.eq (g2 := F0 m 117 ls [xv vad10 o3.2.2.2.1]) (by first | rfl | (skip; rfl)) ?_
                  obtain rfl := Option.some.inj hf
                  exact W.aret (v := xv vad10 o3.2.2.2.1) hx hb hr (Or.inl ⟨_, rfl⟩) (xvor _ _) (fun t ht hW => ⟨⟨xca vad10 o3.2.2.2.1, (ad8, gd9, vad10), rfl, ⟨rfl, hE, hN⟩, by rw [ht]; exact hP, va_K.moved hW.alike hK, hD⟩, hS.F ht⟩) hS.2.2 dM_times_117
                rw [if_neg hk5] at hf
                by_cases hk13 : o3.1 = 1
                · rw [if_pos hk13] at hf
                  obtain ⟨hm14, hf⟩ := xmoE hf
                  obtain rfl := Option.some.inj hf
                  exact absurd (show (1 : Nat) = 0 from hkd) (by decide)
                rw [if_neg hk13] at hf
                by_cases hk21 : o3.1 = 2
                · rw [if_pos hk21] at hf
                  obtain ⟨hm22, hf⟩ := xmoE hf
                  obtain rfl := Option.some.inj hf
                  exact absurd (show (2 : Nat) = 0 from hkd) (by decide)
                rw [if_neg hk21] at hf
                exact nomatch hf
          · rw [if_pos hc] at hf
            refine xm_aload_n hx hb (xvor _ _) dM_times_79 rfl (lv_at hl 2 rfl) ?_
            refine xm_vget (v := .int ((xpi st 0) (c1 - 1))) hx hb htx hown hK hP 0 (by decide) hg2 rfl ((hZ.1 (93, "kind", "I") (List.mem_of_getElem? (i := 0) rfl)).use rfl) rfl dM_times_80 ?_
            refine lv_bipush (v := 6) hx hb dM_times_83 (by decide) ?_
            refine lv_icmp_ne (tgt := 95) hx hb dM_times_85 (by decide) (fun hc => ?_) (fun hc => ?_)
            · rw [if_neg hc] at hf
              refine xm_aload_n hx hb (xvor _ _) dM_times_95 rfl (lv_at hl 1 rfl) ?_
              refine xm_vget (v := .int ((xpi st 0) (c0 - 1))) hx hb htx hown hK hP 0 (by decide) hg1 rfl ((hZ.1 (93, "kind", "I") (List.mem_of_getElem? (i := 0) rfl)).use rfl) rfl dM_times_96 ?_
              refine lv_iconst (v := 3) hx hb dM_times_99 (by decide) ?_
              refine lv_icmp_ne (tgt := 118) hx hb dM_times_100 (by decide) (fun hc => ?_) (fun hc => ?_)
              · rw [if_neg hc] at hf
                refine xm_aload_n hx hb (xvor _ _) dM_times_118 rfl (lv_at hl 1 rfl) ?_
                refine xm_vget (v := .int ((xpi st 0) (c0 - 1))) hx hb htx hown hK hP 0 (by decide) hg1 rfl ((hZ.1 (93, "kind", "I") (List.mem_of_getElem? (i := 0) rfl)).use rfl) rfl dM_times_119 ?_
                refine lv_iconst (v := 4) hx hb dM_times_122 (by decide) ?_
                refine lv_icmp_ne (tgt := 134) hx hb dM_times_123 (by decide) (fun hc => ?_) (fun hc => ?_)
                · rw [if_neg hc] at hf
                  refine lv_aload_n hx hb dM_times_134 rfl (lv_at hl 0 rfl) ?_
                  refine lv_iconst (v := 1) hx hb dM_times_135 (by decide) ?_
                  obtain ⟨o3, hq4, hf⟩ := xbind hf
                  have hl := lv_sub (l' := [(0, .ref aM)]) hl [0] rfl
                  by_cases hk5 : o3.1 = 1
                  · rw [if_pos hk5] at hf
                    obtain ⟨hm6, hf⟩ := xmoE hf
                    obtain rfl := Option.some.inj hf
                    exact absurd (show (1 : Nat) = 0 from hkd) (by decide)
                  rw [if_neg hk5] at hf
                  exact nomatch hf
                · rw [if_pos hc] at hf
                  refine xm_aload_n hx hb (xvor _ _) dM_times_126 rfl (lv_at hl 2 rfl) ?_
                  refine xm_vget (v := .int ((xpi st 0) (c1 - 1))) hx hb htx hown hK hP 0 (by decide) hg2 rfl ((hZ.1 (93, "kind", "I") (List.mem_of_getElem? (i := 0) rfl)).use rfl) rfl dM_times_127 ?_
                  refine lv_iconst (v := 3) hx hb dM_times_130 (by decide) ?_
                  refine lv_icmp_eq (tgt := 140) hx hb dM_times_131 (by decide) (fun hc => ?_) (fun hc => ?_)
                  · rw [if_pos hc] at hf
                    refine xm_aload_n hx hb (xvor _ _) dM_times_140 rfl (lv_at hl 2 rfl) ?_
                    refine xm_vget (v := .long ((xpl st) (c1 - 1))) hx hb htx hown hK hP 1 (by decide) hg2 rfl ((hZ.1 (96, "n", "J") (List.mem_of_getElem? (i := 1) rfl)).use rfl) rfl dM_times_141 ?_
                    refine lv_lconst (v := 1) hx hb dM_times_144 (by decide) ?_
                    refine W.lcmp hx hb dM_times_145 ?_
                    refine lv_if_ge (tgt := 155) hx hb dM_times_146 (by decide) (fun hc => ?_) (fun hc => ?_)
                    · rw [if_pos hc] at hf
                      refine xm_aload_n hx hb (xvor _ _) dM_times_155 rfl (lv_at hl 2 rfl) ?_
                      refine xm_vget (v := .long ((xpl st) (c1 - 1))) hx hb htx hown hK hP 1 (by decide) hg2 rfl ((hZ.1 (96, "n", "J") (List.mem_of_getElem? (i := 1) rfl)).use rfl) rfl dM_times_156 ?_
                      refine xm_aload_n hx hb (xvor _ _) dM_times_159 rfl (lv_at hl 1 rfl) ?_
                      refine xm_vget (v := .int ((xpi st 3) (c0 - 1))) hx hb htx hown hK hP 3 (by decide) hg1 rfl ((hZ.1 (103, "count", "I") (List.mem_of_getElem? (i := 3) rfl)).use rfl) rfl dM_times_160 ?_
                      refine lv_i2l hx hb dM_times_163 rfl ?_
                      refine lv_lconst (v := 1) hx hb dM_times_164 (by decide) ?_
                      refine lv_ladd hx hb dM_times_165 ?_
                      refine lv_lmul hx hb dM_times_166 ?_
                      refine lv_ldc2 hx hb hown (htx _ kw_6_221) dM_times_167 ?_
                      refine W.lcmp hx hb dM_times_170 ?_
                      refine lv_if_le (tgt := 197) hx hb dM_times_171 (by decide) (fun hc => ?_) (fun hc => ?_)
                      · rw [if_pos hc] at hf
                        refine xm_aload_n hx hb (xvor _ _) dM_times_197 rfl (lv_at hl 1 rfl) ?_
                        refine xm_vget (v := .int ((xpi st 3) (c0 - 1))) hx hb htx hown hK hP 3 (by decide) hg1 rfl ((hZ.1 (103, "count", "I") (List.mem_of_getElem? (i := 3) rfl)).use rfl) rfl dM_times_198 ?_
                        refine lv_if_le (tgt := 225) hx hb dM_times_201 (by decide) (fun hc => ?_) (fun hc => ?_)
                        · rw [if_pos hc] at hf
                          refine lv_aload_n hx hb dM_times_225 rfl (lv_at hl 0 rfl) ?_
                          refine xm_get (v := .int (xsi st 4)) hx hb htx hown hK hP 4 (by decide) rfl (htx _ kw_5_91) rfl dM_times_226 ?_
                          refine lv_istore_n (lv' := [(3, .int (xsi st 4)), (0, .ref aM), (1, xv vad c0), (2, xv vad c1)]) hx hb dM_times_229 rfl hl (by decide) (by simp only [List.filter, xvcat, xrscat, xcI, xcL, xcR, xcN]; rfl) (fun ls hl => ?_)
                          refine lv_lconst (v := 0) hx hb dM_times_230 (by decide) ?_
                          refine lv_lstore (lv' := [(4, .long 0), (3, .int (xsi st 4)), (0, .ref aM), (1, xv vad c0), (2, xv vad c1)]) hx hb dM_times_231 hl (by decide) rfl (fun ls hl => ?_)
                          exact key n (1, (0 : Int64), (xsi st 4), c0, c1, st, 0, 0) _ _ ls (⟨ad, gd, vad, rfl, hf, hP, hD, hS, lv_sub hl [0, 1, 2, 3, 4] rfl, hE, hN⟩)
                        · rw [if_neg hc] at hf
                          refine xm_aload_n hx hb (xvor _ _) dM_times_204 rfl (lv_at hl 2 rfl) ?_
                          refine xm_vget (v := .long ((xpl st) (c1 - 1))) hx hb htx hown hK hP 1 (by decide) hg2 rfl ((hZ.1 (96, "n", "J") (List.mem_of_getElem? (i := 1) rfl)).use rfl) rfl dM_times_205 ?_
                          refine lv_ldc hx hb hown (htx _ kw_6_62) dM_times_208 ?_
                          refine xm_aload_n hx hb (xvor _ _) dM_times_210 rfl (lv_at hl 1 rfl) ?_
                          refine xm_vget (v := .int ((xpi st 3) (c0 - 1))) hx hb htx hown hK hP 3 (by decide) hg1 rfl ((hZ.1 (103, "count", "I") (List.mem_of_getElem? (i := 3) rfl)).use rfl) rfl dM_times_211 ?_
                          obtain ⟨hg3, hf⟩ := xifn hf
                          refine lv_idiv hx hb dM_times_214 hg3 ?_
                          refine lv_i2l hx hb dM_times_215 rfl ?_
                          refine W.lcmp hx hb dM_times_216 ?_
                          refine lv_if_le (tgt := 225) hx hb dM_times_217 (by decide) (fun hc => ?_) (fun hc => ?_)
                          · rw [if_pos hc] at hf
                            refine lv_aload_n hx hb dM_times_225 rfl (lv_at hl 0 rfl) ?_
                            refine xm_get (v := .int (xsi st 4)) hx hb htx hown hK hP 4 (by decide) rfl (htx _ kw_5_91) rfl dM_times_226 ?_
                            refine lv_istore_n (lv' := [(3, .int (xsi st 4)), (0, .ref aM), (1, xv vad c0), (2, xv vad c1)]) hx hb dM_times_229 rfl hl (by decide) (by simp only [List.filter, xvcat, xrscat, xcI, xcL, xcR, xcN]; rfl) (fun ls hl => ?_)
                            refine lv_lconst (v := 0) hx hb dM_times_230 (by decide) ?_
                            refine lv_lstore (lv' := [(4, .long 0), (3, .int (xsi st 4)), (0, .ref aM), (1, xv vad c0), (2, xv vad c1)]) hx hb dM_times_231 hl (by decide) rfl (fun ls hl => ?_)
                            exact key n (1, (0 : Int64), (xsi st 4), c0, c1, st, 0, 0) _ _ ls (⟨ad, gd, vad, rfl, hf, hP, hD, hS, lv_sub hl [0, 1, 2, 3, 4] rfl, hE, hN⟩)
                          · rw [if_neg hc] at hf
                            refine lv_aload_n hx hb dM_times_220 rfl (lv_at hl 0 rfl) ?_
                            obtain ⟨o4, hq5, hf⟩ := xbind hf
                            have hl := lv_sub (l' := [(0, .ref aM)]) hl [0] rfl
                            by_cases hk6 : o4.1 = 1
                            · rw [if_pos hk6] at hf
                              obtain ⟨hm7, hf⟩ := xmoE hf
                              obtain rfl := Option.some.inj hf
                              exact absurd (show (2 : Nat) = 0 from hkd) (by decide)
                            rw [if_neg hk6] at hf
                            exact nomatch hf
                      · rw [if_neg hc] at hf
                        refine xm_aload_n hx hb (xvor _ _) dM_times_174 rfl (lv_at hl 1 rfl) ?_
                        refine xm_vget (v := .int ((xpi st 3) (c0 - 1))) hx hb htx hown hK hP 3 (by decide) hg1 rfl ((hZ.1 (103, "count", "I") (List.mem_of_getElem? (i := 3) rfl)).use rfl) rfl dM_times_175 ?_
                        refine lv_if_le (tgt := 197) hx hb dM_times_178 (by decide) (fun hc => ?_) (fun hc => ?_)
                        · rw [if_pos hc] at hf
                          refine xm_aload_n hx hb (xvor _ _) dM_times_197 rfl (lv_at hl 1 rfl) ?_
                          refine xm_vget (v := .int ((xpi st 3) (c0 - 1))) hx hb htx hown hK hP 3 (by decide) hg1 rfl ((hZ.1 (103, "count", "I") (List.mem_of_getElem? (i := 3) rfl)).use rfl) rfl dM_times_198 ?_
                          refine lv_if_le (tgt := 225) hx hb dM_times_201 (by decide) (fun hc => ?_) (fun hc => ?_)
                          · rw [if_pos hc] at hf
                            refine lv_aload_n hx hb dM_times_225 rfl (lv_at hl 0 rfl) ?_
                            refine xm_get (v := .int (xsi st 4)) hx hb htx hown hK hP 4 (by decide) rfl (htx _ kw_5_91) rfl dM_times_226 ?_
                            refine lv_istore_n (lv' := [(3, .int (xsi st 4)), (0, .ref aM), (1, xv vad c0), (2, xv vad c1)]) hx hb dM_times_229 rfl hl (by decide) (by simp only [List.filter, xvcat, xrscat, xcI, xcL, xcR, xcN]; rfl) (fun ls hl => ?_)
                            refine lv_lconst (v := 0) hx hb dM_times_230 (by decide) ?_
                            refine lv_lstore (lv' := [(4, .long 0), (3, .int (xsi st 4)), (0, .ref aM), (1, xv vad c0), (2, xv vad c1)]) hx hb dM_times_231 hl (by decide) rfl (fun ls hl => ?_)
                            exact key n (1, (0 : Int64), (xsi st 4), c0, c1, st, 0, 0) _ _ ls (⟨ad, gd, vad, rfl, hf, hP, hD, hS, lv_sub hl [0, 1, 2, 3, 4] rfl, hE, hN⟩)
                          · rw [if_neg hc] at hf
                            refine xm_aload_n hx hb (xvor _ _) dM_times_204 rfl (lv_at hl 2 rfl) ?_
                            refine xm_vget (v := .long ((xpl st) (c1 - 1))) hx hb htx hown hK hP 1 (by decide) hg2 rfl ((hZ.1 (96, "n", "J") (List.mem_of_getElem? (i := 1) rfl)).use rfl) rfl dM_times_205 ?_
                            refine lv_ldc hx hb hown (htx _ kw_6_62) dM_times_208 ?_
                            refine xm_aload_n hx hb (xvor _ _) dM_times_210 rfl (lv_at hl 1 rfl) ?_
                            refine xm_vget (v := .int ((xpi st 3) (c0 - 1))) hx hb htx hown hK hP 3 (by decide) hg1 rfl ((hZ.1 (103, "count", "I") (List.mem_of_getElem? (i := 3) rfl)).use rfl) rfl dM_times_211 ?_
                            obtain ⟨hg3, hf⟩ := xifn hf
                            refine lv_idiv hx hb dM_times_214 hg3 ?_
                            refine lv_i2l hx hb dM_times_215 rfl ?_
                            refine W.lcmp hx hb dM_times_216 ?_
                            refine lv_if_le (tgt := 225) hx hb dM_times_217 (by decide) (fun hc => ?_) (fun hc => ?_)
                            · rw [if_pos hc] at hf
                              refine lv_aload_n hx hb dM_times_225 rfl (lv_at hl 0 rfl) ?_
                              refine xm_get (v := .int (xsi st 4)) hx hb htx hown hK hP 4 (by decide) rfl (htx _ kw_5_91) rfl dM_times_226 ?_
                              refine lv_istore_n (lv' := [(3, .int (xsi st 4)), (0, .ref aM), (1, xv vad c0), (2, xv vad c1)]) hx hb dM_times_229 rfl hl (by decide) (by simp only [List.filter, xvcat, xrscat, xcI, xcL, xcR, xcN]; rfl) (fun ls hl => ?_)
                              refine lv_lconst (v := 0) hx hb dM_times_230 (by decide) ?_
                              refine lv_lstore (lv' := [(4, .long 0), (3, .int (xsi st 4)), (0, .ref aM), (1, xv vad c0), (2, xv vad c1)]) hx hb dM_times_231 hl (by decide) rfl (fun ls hl => ?_)
                              exact key n (1, (0 : Int64), (xsi st 4), c0, c1, st, 0, 0) _ _ ls (⟨ad, gd, vad, rfl, hf, hP, hD, hS, lv_sub hl [0, 1, 2, 3, 4] rfl, hE, hN⟩)
                            · rw [if_neg hc] at hf
                              refine lv_aload_n hx hb dM_times_220 rfl (lv_at hl 0 rfl) ?_
                              obtain ⟨o4, hq5, hf⟩ := xbind hf
                              have hl := lv_sub (l' := [(0, .ref aM)]) hl [0] rfl
                              by_cases hk6 : o4.1 = 1
                              · rw [if_pos hk6] at hf
                                obtain ⟨hm7, hf⟩ := xmoE hf
                                obtain rfl := Option.some.inj hf
                                exact absurd (show (2 : Nat) = 0 from hkd) (by decide)
                              rw [if_neg hk6] at hf
                              exact nomatch hf
                        · rw [if_neg hc] at hf
                          refine xm_aload_n hx hb (xvor _ _) dM_times_181 rfl (lv_at hl 2 rfl) ?_
                          refine xm_vget (v := .long ((xpl st) (c1 - 1))) hx hb htx hown hK hP 1 (by decide) hg2 rfl ((hZ.1 (96, "n", "J") (List.mem_of_getElem? (i := 1) rfl)).use rfl) rfl dM_times_182 ?_
                          refine lv_ldc2 hx hb hown (htx _ kw_6_108) dM_times_185 ?_
                          refine W.lcmp hx hb dM_times_188 ?_
                          refine lv_if_le (tgt := 197) hx hb dM_times_189 (by decide) (fun hc => ?_) (fun hc => ?_)
                          · rw [if_pos hc] at hf
                            refine xm_aload_n hx hb (xvor _ _) dM_times_197 rfl (lv_at hl 1 rfl) ?_
                            refine xm_vget (v := .int ((xpi st 3) (c0 - 1))) hx hb htx hown hK hP 3 (by decide) hg1 rfl ((hZ.1 (103, "count", "I") (List.mem_of_getElem? (i := 3) rfl)).use rfl) rfl dM_times_198 ?_
                            refine lv_if_le (tgt := 225) hx hb dM_times_201 (by decide) (fun hc => ?_) (fun hc => ?_)
                            · rw [if_pos hc] at hf
                              refine lv_aload_n hx hb dM_times_225 rfl (lv_at hl 0 rfl) ?_
                              refine xm_get (v := .int (xsi st 4)) hx hb htx hown hK hP 4 (by decide) rfl (htx _ kw_5_91) rfl dM_times_226 ?_
                              refine lv_istore_n (lv' := [(3, .int (xsi st 4)), (0, .ref aM), (1, xv vad c0), (2, xv vad c1)]) hx hb dM_times_229 rfl hl (by decide) (by simp only [List.filter, xvcat, xrscat, xcI, xcL, xcR, xcN]; rfl) (fun ls hl => ?_)
                              refine lv_lconst (v := 0) hx hb dM_times_230 (by decide) ?_
                              refine lv_lstore (lv' := [(4, .long 0), (3, .int (xsi st 4)), (0, .ref aM), (1, xv vad c0), (2, xv vad c1)]) hx hb dM_times_231 hl (by decide) rfl (fun ls hl => ?_)
                              exact key n (1, (0 : Int64), (xsi st 4), c0, c1, st, 0, 0) _ _ ls (⟨ad, gd, vad, rfl, hf, hP, hD, hS, lv_sub hl [0, 1, 2, 3, 4] rfl, hE, hN⟩)
                            · rw [if_neg hc] at hf
                              refine xm_aload_n hx hb (xvor _ _) dM_times_204 rfl (lv_at hl 2 rfl) ?_
                              refine xm_vget (v := .long ((xpl st) (c1 - 1))) hx hb htx hown hK hP 1 (by decide) hg2 rfl ((hZ.1 (96, "n", "J") (List.mem_of_getElem? (i := 1) rfl)).use rfl) rfl dM_times_205 ?_
                              refine lv_ldc hx hb hown (htx _ kw_6_62) dM_times_208 ?_
                              refine xm_aload_n hx hb (xvor _ _) dM_times_210 rfl (lv_at hl 1 rfl) ?_
                              refine xm_vget (v := .int ((xpi st 3) (c0 - 1))) hx hb htx hown hK hP 3 (by decide) hg1 rfl ((hZ.1 (103, "count", "I") (List.mem_of_getElem? (i := 3) rfl)).use rfl) rfl dM_times_211 ?_
                              obtain ⟨hg3, hf⟩ := xifn hf
                              refine lv_idiv hx hb dM_times_214 hg3 ?_
                              refine lv_i2l hx hb dM_times_215 rfl ?_
                              refine W.lcmp hx hb dM_times_216 ?_
                              refine lv_if_le (tgt := 225) hx hb dM_times_217 (by decide) (fun hc => ?_) (fun hc => ?_)
                              · rw [if_pos hc] at hf
                                refine lv_aload_n hx hb dM_times_225 rfl (lv_at hl 0 rfl) ?_
                                refine xm_get (v := .int (xsi st 4)) hx hb htx hown hK hP 4 (by decide) rfl (htx _ kw_5_91) rfl dM_times_226 ?_
                                refine lv_istore_n (lv' := [(3, .int (xsi st 4)), (0, .ref aM), (1, xv vad c0), (2, xv vad c1)]) hx hb dM_times_229 rfl hl (by decide) (by simp only [List.filter, xvcat, xrscat, xcI, xcL, xcR, xcN]; rfl) (fun ls hl => ?_)
                                refine lv_lconst (v := 0) hx hb dM_times_230 (by decide) ?_
                                refine lv_lstore (lv' := [(4, .long 0), (3, .int (xsi st 4)), (0, .ref aM), (1, xv vad c0), (2, xv vad c1)]) hx hb dM_times_231 hl (by decide) rfl (fun ls hl => ?_)
                                exact key n (1, (0 : Int64), (xsi st 4), c0, c1, st, 0, 0) _ _ ls (⟨ad, gd, vad, rfl, hf, hP, hD, hS, lv_sub hl [0, 1, 2, 3, 4] rfl, hE, hN⟩)
                              · rw [if_neg hc] at hf
                                refine lv_aload_n hx hb dM_times_220 rfl (lv_at hl 0 rfl) ?_
                                obtain ⟨o4, hq5, hf⟩ := xbind hf
                                have hl := lv_sub (l' := [(0, .ref aM)]) hl [0] rfl
                                by_cases hk6 : o4.1 = 1
                                · rw [if_pos hk6] at hf
                                  obtain ⟨hm7, hf⟩ := xmoE hf
                                  obtain rfl := Option.some.inj hf
                                  exact absurd (show (2 : Nat) = 0 from hkd) (by decide)
                                rw [if_neg hk6] at hf
                                exact nomatch hf
                          · rw [if_neg hc] at hf
                            refine lv_aload_n hx hb dM_times_192 rfl (lv_at hl 0 rfl) ?_
                            obtain ⟨o3, hq4, hf⟩ := xbind hf
                            have hl := lv_sub (l' := [(0, .ref aM)]) hl [0] rfl
                            by_cases hk5 : o3.1 = 1
                            · rw [if_pos hk5] at hf
                              obtain ⟨hm6, hf⟩ := xmoE hf
                              obtain rfl := Option.some.inj hf
                              exact absurd (show (2 : Nat) = 0 from hkd) (by decide)
                            rw [if_neg hk5] at hf
                            exact nomatch hf
                    · rw [if_neg hc] at hf
                      refine lv_aload_n hx hb dM_times_149 rfl (lv_at hl 0 rfl) ?_
                      refine lv_iconst (v := 0) hx hb dM_times_150 (by decide) ?_
                      obtain ⟨o3, hq4, hf⟩ := xbind hf
                      have hl := lv_sub (l' := [(0, .ref aM)]) hl [0] rfl
                      obtain ⟨hm5, hf⟩ := xmoE hf
                      have hFc := xm_free hD hS hA
                      refine va_callq (va_runV (C := "ValueBenchModel") (As := [.int 0]) (rest := []) ⟨hx, hb, hml, hown, htx⟩ (gM_fresh l hl9 D cT aK aV s.heap.size n aM ad rd gd vad st (0 : Int32) o3 hq4) ⟨callB_of 1 htx (xw_goodC kw_6_16) rfl rfl rfl (htx _ kw_1_5) (htx _ kw_6_13) ⟨by decide, by decide, by decide +kernel⟩ ⟨Nat.le_of_ble_eq_true rfl, Nat.le_of_ble_eq_true rfl⟩, (htx _ kw_6_15), (htx _ kp_M_fresh)⟩ ⟨xPre_blind, va_recv hK hP (ci := 5) rfl (q0 := 0) rfl, (fun U hU hW => ⟨rfl, xPre_of hZ hS hFc hP hD hK U hU hW⟩)⟩ rfl rfl hl.1 rfl (xm_room (Nat.le_of_ble_eq_true rfl)) dM_times_151 ⟨hm5.1, hm5.2⟩) hS (fun q _ h => hFc q h) hFc (fun r6 u9 t H1 locs ht hvm hr9 hB hz1 hk1 hS => ?_)
                      obtain ⟨hP1, hK1, hD1⟩ := hB
                      rw [ht] at hP1
                      obtain ⟨ad7, gd8, vad9⟩ := u9
                      obtain ⟨hr9, hv10, hn11⟩ := hr9
                      have hP : va_P D xcl (xMw cT aM ad7 rd gd8 vad9 o3.2.2.2 []) H1 := hP1
                      have hD : va_D A (xMw cT aM ad7 rd gd8 vad9 o3.2.2.2 []) := hD1.weaken (fun k q _ h => hFc q.1 h)
                      generalize H1 = H at hP hS ⊢
                      have hE9 : ∀ p, p < xct st → vad9 p = vad p := fun p h => (hv10 p (Nat.lt_of_lt_of_le h hN)).trans (hE p h)
                      have hE := hE9
                      have hN : xct st ≤ xct o3.2.2.2 := Nat.le_trans hN hn11
                      rw [hr9]
                      refine W.eq (g2 := F0 m 154 ls [xv vad9 o3.2.2.1]) (by first | rfl | (skip; rfl)) ?_
                      obtain rfl := Option.some.inj hf
                      exact W.aret (v := xv vad9 o3.2.2.1) hx hb hr (Or.inl ⟨_, rfl⟩) (xvor _ _) (fun t ht hW => ⟨⟨xca vad9 o3.2.2.1, (ad7, gd8, vad9), rfl, ⟨rfl, hE, hN⟩, by rw [ht]; exact hP, va_K.moved hW.alike hK, hD⟩, hS.F ht⟩) hS.2.2 dM_times_154
                  · rw [if_neg hc] at hf
                    refine lv_aload_n hx hb dM_times_134 rfl (lv_at hl 0 rfl) ?_
                    refine lv_iconst (v := 1) hx hb dM_times_135 (by decide) ?_
                    obtain ⟨o3, hq4, hf⟩ := xbind hf
                    have hl := lv_sub (l' := [(0, .ref aM)]) hl [0] rfl
                    by_cases hk5 : o3.1 = 1
                    · rw [if_pos hk5] at hf
                      obtain ⟨hm6, hf⟩ := xmoE hf
                      obtain rfl := Option.some.inj hf
                      exact absurd (show (1 : Nat) = 0 from hkd) (by decide)
                    rw [if_neg hk5] at hf
                    exact nomatch hf
              · rw [if_pos hc] at hf
                refine xm_aload_n hx hb (xvor _ _) dM_times_103 rfl (lv_at hl 2 rfl) ?_
                refine xm_vget (v := .int ((xpi st 0) (c1 - 1))) hx hb htx hown hK hP 0 (by decide) hg2 rfl ((hZ.1 (93, "kind", "I") (List.mem_of_getElem? (i := 0) rfl)).use rfl) rfl dM_times_104 ?_
                refine lv_iconst (v := 4) hx hb dM_times_107 (by decide) ?_
                refine lv_icmp_ne (tgt := 118) hx hb dM_times_108 (by decide) (fun hc => ?_) (fun hc => ?_)
                · rw [if_neg hc] at hf
                  refine xm_aload_n hx hb (xvor _ _) dM_times_118 rfl (lv_at hl 1 rfl) ?_
                  refine xm_vget (v := .int ((xpi st 0) (c0 - 1))) hx hb htx hown hK hP 0 (by decide) hg1 rfl ((hZ.1 (93, "kind", "I") (List.mem_of_getElem? (i := 0) rfl)).use rfl) rfl dM_times_119 ?_
                  refine lv_iconst (v := 4) hx hb dM_times_122 (by decide) ?_
                  refine lv_icmp_ne (tgt := 134) hx hb dM_times_123 (by decide) (fun hc => ?_) (fun hc => ?_)
                  · rw [if_neg hc] at hf
                    refine lv_aload_n hx hb dM_times_134 rfl (lv_at hl 0 rfl) ?_
                    refine lv_iconst (v := 1) hx hb dM_times_135 (by decide) ?_
                    obtain ⟨o3, hq4, hf⟩ := xbind hf
                    have hl := lv_sub (l' := [(0, .ref aM)]) hl [0] rfl
                    by_cases hk5 : o3.1 = 1
                    · rw [if_pos hk5] at hf
                      obtain ⟨hm6, hf⟩ := xmoE hf
                      obtain rfl := Option.some.inj hf
                      exact absurd (show (1 : Nat) = 0 from hkd) (by decide)
                    rw [if_neg hk5] at hf
                    exact nomatch hf
                  · rw [if_pos hc] at hf
                    refine xm_aload_n hx hb (xvor _ _) dM_times_126 rfl (lv_at hl 2 rfl) ?_
                    refine xm_vget (v := .int ((xpi st 0) (c1 - 1))) hx hb htx hown hK hP 0 (by decide) hg2 rfl ((hZ.1 (93, "kind", "I") (List.mem_of_getElem? (i := 0) rfl)).use rfl) rfl dM_times_127 ?_
                    refine lv_iconst (v := 3) hx hb dM_times_130 (by decide) ?_
                    refine lv_icmp_eq (tgt := 140) hx hb dM_times_131 (by decide) (fun hc => ?_) (fun hc => ?_)
                    · rw [if_pos hc] at hf
                      refine xm_aload_n hx hb (xvor _ _) dM_times_140 rfl (lv_at hl 2 rfl) ?_
                      refine xm_vget (v := .long ((xpl st) (c1 - 1))) hx hb htx hown hK hP 1 (by decide) hg2 rfl ((hZ.1 (96, "n", "J") (List.mem_of_getElem? (i := 1) rfl)).use rfl) rfl dM_times_141 ?_
                      refine lv_lconst (v := 1) hx hb dM_times_144 (by decide) ?_
                      refine W.lcmp hx hb dM_times_145 ?_
                      refine lv_if_ge (tgt := 155) hx hb dM_times_146 (by decide) (fun hc => ?_) (fun hc => ?_)
                      · rw [if_pos hc] at hf
                        refine xm_aload_n hx hb (xvor _ _) dM_times_155 rfl (lv_at hl 2 rfl) ?_
                        refine xm_vget (v := .long ((xpl st) (c1 - 1))) hx hb htx hown hK hP 1 (by decide) hg2 rfl ((hZ.1 (96, "n", "J") (List.mem_of_getElem? (i := 1) rfl)).use rfl) rfl dM_times_156 ?_
                        refine xm_aload_n hx hb (xvor _ _) dM_times_159 rfl (lv_at hl 1 rfl) ?_
                        refine xm_vget (v := .int ((xpi st 3) (c0 - 1))) hx hb htx hown hK hP 3 (by decide) hg1 rfl ((hZ.1 (103, "count", "I") (List.mem_of_getElem? (i := 3) rfl)).use rfl) rfl dM_times_160 ?_
                        refine lv_i2l hx hb dM_times_163 rfl ?_
                        refine lv_lconst (v := 1) hx hb dM_times_164 (by decide) ?_
                        refine lv_ladd hx hb dM_times_165 ?_
                        refine lv_lmul hx hb dM_times_166 ?_
                        refine lv_ldc2 hx hb hown (htx _ kw_6_221) dM_times_167 ?_
                        refine W.lcmp hx hb dM_times_170 ?_
                        refine lv_if_le (tgt := 197) hx hb dM_times_171 (by decide) (fun hc => ?_) (fun hc => ?_)
                        · rw [if_pos hc] at hf
                          refine xm_aload_n hx hb (xvor _ _) dM_times_197 rfl (lv_at hl 1 rfl) ?_
                          refine xm_vget (v := .int ((xpi st 3) (c0 - 1))) hx hb htx hown hK hP 3 (by decide) hg1 rfl ((hZ.1 (103, "count", "I") (List.mem_of_getElem? (i := 3) rfl)).use rfl) rfl dM_times_198 ?_
                          refine lv_if_le (tgt := 225) hx hb dM_times_201 (by decide) (fun hc => ?_) (fun hc => ?_)
                          · rw [if_pos hc] at hf
                            refine lv_aload_n hx hb dM_times_225 rfl (lv_at hl 0 rfl) ?_
                            refine xm_get (v := .int (xsi st 4)) hx hb htx hown hK hP 4 (by decide) rfl (htx _ kw_5_91) rfl dM_times_226 ?_
                            refine lv_istore_n (lv' := [(3, .int (xsi st 4)), (0, .ref aM), (1, xv vad c0), (2, xv vad c1)]) hx hb dM_times_229 rfl hl (by decide) (by simp only [List.filter, xvcat, xrscat, xcI, xcL, xcR, xcN]; rfl) (fun ls hl => ?_)
                            refine lv_lconst (v := 0) hx hb dM_times_230 (by decide) ?_
                            refine lv_lstore (lv' := [(4, .long 0), (3, .int (xsi st 4)), (0, .ref aM), (1, xv vad c0), (2, xv vad c1)]) hx hb dM_times_231 hl (by decide) rfl (fun ls hl => ?_)
                            exact key n (1, (0 : Int64), (xsi st 4), c0, c1, st, 0, 0) _ _ ls (⟨ad, gd, vad, rfl, hf, hP, hD, hS, lv_sub hl [0, 1, 2, 3, 4] rfl, hE, hN⟩)
                          · rw [if_neg hc] at hf
                            refine xm_aload_n hx hb (xvor _ _) dM_times_204 rfl (lv_at hl 2 rfl) ?_
                            refine xm_vget (v := .long ((xpl st) (c1 - 1))) hx hb htx hown hK hP 1 (by decide) hg2 rfl ((hZ.1 (96, "n", "J") (List.mem_of_getElem? (i := 1) rfl)).use rfl) rfl dM_times_205 ?_
                            refine lv_ldc hx hb hown (htx _ kw_6_62) dM_times_208 ?_
                            refine xm_aload_n hx hb (xvor _ _) dM_times_210 rfl (lv_at hl 1 rfl) ?_
                            refine xm_vget (v := .int ((xpi st 3) (c0 - 1))) hx hb htx hown hK hP 3 (by decide) hg1 rfl ((hZ.1 (103, "count", "I") (List.mem_of_getElem? (i := 3) rfl)).use rfl) rfl dM_times_211 ?_
                            obtain ⟨hg3, hf⟩ := xifn hf
                            refine lv_idiv hx hb dM_times_214 hg3 ?_
                            refine lv_i2l hx hb dM_times_215 rfl ?_
                            refine W.lcmp hx hb dM_times_216 ?_
                            refine lv_if_le (tgt := 225) hx hb dM_times_217 (by decide) (fun hc => ?_) (fun hc => ?_)
                            · rw [if_pos hc] at hf
                              refine lv_aload_n hx hb dM_times_225 rfl (lv_at hl 0 rfl) ?_
                              refine xm_get (v := .int (xsi st 4)) hx hb htx hown hK hP 4 (by decide) rfl (htx _ kw_5_91) rfl dM_times_226 ?_
                              refine lv_istore_n (lv' := [(3, .int (xsi st 4)), (0, .ref aM), (1, xv vad c0), (2, xv vad c1)]) hx hb dM_times_229 rfl hl (by decide) (by simp only [List.filter, xvcat, xrscat, xcI, xcL, xcR, xcN]; rfl) (fun ls hl => ?_)
                              refine lv_lconst (v := 0) hx hb dM_times_230 (by decide) ?_
                              refine lv_lstore (lv' := [(4, .long 0), (3, .int (xsi st 4)), (0, .ref aM), (1, xv vad c0), (2, xv vad c1)]) hx hb dM_times_231 hl (by decide) rfl (fun ls hl => ?_)
                              exact key n (1, (0 : Int64), (xsi st 4), c0, c1, st, 0, 0) _ _ ls (⟨ad, gd, vad, rfl, hf, hP, hD, hS, lv_sub hl [0, 1, 2, 3, 4] rfl, hE, hN⟩)
                            · rw [if_neg hc] at hf
                              refine lv_aload_n hx hb dM_times_220 rfl (lv_at hl 0 rfl) ?_
                              obtain ⟨o4, hq5, hf⟩ := xbind hf
                              have hl := lv_sub (l' := [(0, .ref aM)]) hl [0] rfl
                              by_cases hk6 : o4.1 = 1
                              · rw [if_pos hk6] at hf
                                obtain ⟨hm7, hf⟩ := xmoE hf
                                obtain rfl := Option.some.inj hf
                                exact absurd (show (2 : Nat) = 0 from hkd) (by decide)
                              rw [if_neg hk6] at hf
                              exact nomatch hf
                        · rw [if_neg hc] at hf
                          refine xm_aload_n hx hb (xvor _ _) dM_times_174 rfl (lv_at hl 1 rfl) ?_
                          refine xm_vget (v := .int ((xpi st 3) (c0 - 1))) hx hb htx hown hK hP 3 (by decide) hg1 rfl ((hZ.1 (103, "count", "I") (List.mem_of_getElem? (i := 3) rfl)).use rfl) rfl dM_times_175 ?_
                          refine lv_if_le (tgt := 197) hx hb dM_times_178 (by decide) (fun hc => ?_) (fun hc => ?_)
                          · rw [if_pos hc] at hf
                            refine xm_aload_n hx hb (xvor _ _) dM_times_197 rfl (lv_at hl 1 rfl) ?_
                            refine xm_vget (v := .int ((xpi st 3) (c0 - 1))) hx hb htx hown hK hP 3 (by decide) hg1 rfl ((hZ.1 (103, "count", "I") (List.mem_of_getElem? (i := 3) rfl)).use rfl) rfl dM_times_198 ?_
                            refine lv_if_le (tgt := 225) hx hb dM_times_201 (by decide) (fun hc => ?_) (fun hc => ?_)
                            · rw [if_pos hc] at hf
                              refine lv_aload_n hx hb dM_times_225 rfl (lv_at hl 0 rfl) ?_
                              refine xm_get (v := .int (xsi st 4)) hx hb htx hown hK hP 4 (by decide) rfl (htx _ kw_5_91) rfl dM_times_226 ?_
                              refine lv_istore_n (lv' := [(3, .int (xsi st 4)), (0, .ref aM), (1, xv vad c0), (2, xv vad c1)]) hx hb dM_times_229 rfl hl (by decide) (by simp only [List.filter, xvcat, xrscat, xcI, xcL, xcR, xcN]; rfl) (fun ls hl => ?_)
                              refine lv_lconst (v := 0) hx hb dM_times_230 (by decide) ?_
                              refine lv_lstore (lv' := [(4, .long 0), (3, .int (xsi st 4)), (0, .ref aM), (1, xv vad c0), (2, xv vad c1)]) hx hb dM_times_231 hl (by decide) rfl (fun ls hl => ?_)
                              exact key n (1, (0 : Int64), (xsi st 4), c0, c1, st, 0, 0) _ _ ls (⟨ad, gd, vad, rfl, hf, hP, hD, hS, lv_sub hl [0, 1, 2, 3, 4] rfl, hE, hN⟩)
                            · rw [if_neg hc] at hf
                              refine xm_aload_n hx hb (xvor _ _) dM_times_204 rfl (lv_at hl 2 rfl) ?_
                              refine xm_vget (v := .long ((xpl st) (c1 - 1))) hx hb htx hown hK hP 1 (by decide) hg2 rfl ((hZ.1 (96, "n", "J") (List.mem_of_getElem? (i := 1) rfl)).use rfl) rfl dM_times_205 ?_
                              refine lv_ldc hx hb hown (htx _ kw_6_62) dM_times_208 ?_
                              refine xm_aload_n hx hb (xvor _ _) dM_times_210 rfl (lv_at hl 1 rfl) ?_
                              refine xm_vget (v := .int ((xpi st 3) (c0 - 1))) hx hb htx hown hK hP 3 (by decide) hg1 rfl ((hZ.1 (103, "count", "I") (List.mem_of_getElem? (i := 3) rfl)).use rfl) rfl dM_times_211 ?_
                              obtain ⟨hg3, hf⟩ := xifn hf
                              refine lv_idiv hx hb dM_times_214 hg3 ?_
                              refine lv_i2l hx hb dM_times_215 rfl ?_
                              refine W.lcmp hx hb dM_times_216 ?_
                              refine lv_if_le (tgt := 225) hx hb dM_times_217 (by decide) (fun hc => ?_) (fun hc => ?_)
                              · rw [if_pos hc] at hf
                                refine lv_aload_n hx hb dM_times_225 rfl (lv_at hl 0 rfl) ?_
                                refine xm_get (v := .int (xsi st 4)) hx hb htx hown hK hP 4 (by decide) rfl (htx _ kw_5_91) rfl dM_times_226 ?_
                                refine lv_istore_n (lv' := [(3, .int (xsi st 4)), (0, .ref aM), (1, xv vad c0), (2, xv vad c1)]) hx hb dM_times_229 rfl hl (by decide) (by simp only [List.filter, xvcat, xrscat, xcI, xcL, xcR, xcN]; rfl) (fun ls hl => ?_)
                                refine lv_lconst (v := 0) hx hb dM_times_230 (by decide) ?_
                                refine lv_lstore (lv' := [(4, .long 0), (3, .int (xsi st 4)), (0, .ref aM), (1, xv vad c0), (2, xv vad c1)]) hx hb dM_times_231 hl (by decide) rfl (fun ls hl => ?_)
                                exact key n (1, (0 : Int64), (xsi st 4), c0, c1, st, 0, 0) _ _ ls (⟨ad, gd, vad, rfl, hf, hP, hD, hS, lv_sub hl [0, 1, 2, 3, 4] rfl, hE, hN⟩)
                              · rw [if_neg hc] at hf
                                refine lv_aload_n hx hb dM_times_220 rfl (lv_at hl 0 rfl) ?_
                                obtain ⟨o4, hq5, hf⟩ := xbind hf
                                have hl := lv_sub (l' := [(0, .ref aM)]) hl [0] rfl
                                by_cases hk6 : o4.1 = 1
                                · rw [if_pos hk6] at hf
                                  obtain ⟨hm7, hf⟩ := xmoE hf
                                  obtain rfl := Option.some.inj hf
                                  exact absurd (show (2 : Nat) = 0 from hkd) (by decide)
                                rw [if_neg hk6] at hf
                                exact nomatch hf
                          · rw [if_neg hc] at hf
                            refine xm_aload_n hx hb (xvor _ _) dM_times_181 rfl (lv_at hl 2 rfl) ?_
                            refine xm_vget (v := .long ((xpl st) (c1 - 1))) hx hb htx hown hK hP 1 (by decide) hg2 rfl ((hZ.1 (96, "n", "J") (List.mem_of_getElem? (i := 1) rfl)).use rfl) rfl dM_times_182 ?_
                            refine lv_ldc2 hx hb hown (htx _ kw_6_108) dM_times_185 ?_
                            refine W.lcmp hx hb dM_times_188 ?_
                            refine lv_if_le (tgt := 197) hx hb dM_times_189 (by decide) (fun hc => ?_) (fun hc => ?_)
                            · rw [if_pos hc] at hf
                              refine xm_aload_n hx hb (xvor _ _) dM_times_197 rfl (lv_at hl 1 rfl) ?_
                              refine xm_vget (v := .int ((xpi st 3) (c0 - 1))) hx hb htx hown hK hP 3 (by decide) hg1 rfl ((hZ.1 (103, "count", "I") (List.mem_of_getElem? (i := 3) rfl)).use rfl) rfl dM_times_198 ?_
                              refine lv_if_le (tgt := 225) hx hb dM_times_201 (by decide) (fun hc => ?_) (fun hc => ?_)
                              · rw [if_pos hc] at hf
                                refine lv_aload_n hx hb dM_times_225 rfl (lv_at hl 0 rfl) ?_
                                refine xm_get (v := .int (xsi st 4)) hx hb htx hown hK hP 4 (by decide) rfl (htx _ kw_5_91) rfl dM_times_226 ?_
                                refine lv_istore_n (lv' := [(3, .int (xsi st 4)), (0, .ref aM), (1, xv vad c0), (2, xv vad c1)]) hx hb dM_times_229 rfl hl (by decide) (by simp only [List.filter, xvcat, xrscat, xcI, xcL, xcR, xcN]; rfl) (fun ls hl => ?_)
                                refine lv_lconst (v := 0) hx hb dM_times_230 (by decide) ?_
                                refine lv_lstore (lv' := [(4, .long 0), (3, .int (xsi st 4)), (0, .ref aM), (1, xv vad c0), (2, xv vad c1)]) hx hb dM_times_231 hl (by decide) rfl (fun ls hl => ?_)
                                exact key n (1, (0 : Int64), (xsi st 4), c0, c1, st, 0, 0) _ _ ls (⟨ad, gd, vad, rfl, hf, hP, hD, hS, lv_sub hl [0, 1, 2, 3, 4] rfl, hE, hN⟩)
                              · rw [if_neg hc] at hf
                                refine xm_aload_n hx hb (xvor _ _) dM_times_204 rfl (lv_at hl 2 rfl) ?_
                                refine xm_vget (v := .long ((xpl st) (c1 - 1))) hx hb htx hown hK hP 1 (by decide) hg2 rfl ((hZ.1 (96, "n", "J") (List.mem_of_getElem? (i := 1) rfl)).use rfl) rfl dM_times_205 ?_
                                refine lv_ldc hx hb hown (htx _ kw_6_62) dM_times_208 ?_
                                refine xm_aload_n hx hb (xvor _ _) dM_times_210 rfl (lv_at hl 1 rfl) ?_
                                refine xm_vget (v := .int ((xpi st 3) (c0 - 1))) hx hb htx hown hK hP 3 (by decide) hg1 rfl ((hZ.1 (103, "count", "I") (List.mem_of_getElem? (i := 3) rfl)).use rfl) rfl dM_times_211 ?_
                                obtain ⟨hg3, hf⟩ := xifn hf
                                refine lv_idiv hx hb dM_times_214 hg3 ?_
                                refine lv_i2l hx hb dM_times_215 rfl ?_
                                refine W.lcmp hx hb dM_times_216 ?_
                                refine lv_if_le (tgt := 225) hx hb dM_times_217 (by decide) (fun hc => ?_) (fun hc => ?_)
                                · rw [if_pos hc] at hf
                                  refine lv_aload_n hx hb dM_times_225 rfl (lv_at hl 0 rfl) ?_
                                  refine xm_get (v := .int (xsi st 4)) hx hb htx hown hK hP 4 (by decide) rfl (htx _ kw_5_91) rfl dM_times_226 ?_
                                  refine lv_istore_n (lv' := [(3, .int (xsi st 4)), (0, .ref aM), (1, xv vad c0), (2, xv vad c1)]) hx hb dM_times_229 rfl hl (by decide) (by simp only [List.filter, xvcat, xrscat, xcI, xcL, xcR, xcN]; rfl) (fun ls hl => ?_)
                                  refine lv_lconst (v := 0) hx hb dM_times_230 (by decide) ?_
                                  refine lv_lstore (lv' := [(4, .long 0), (3, .int (xsi st 4)), (0, .ref aM), (1, xv vad c0), (2, xv vad c1)]) hx hb dM_times_231 hl (by decide) rfl (fun ls hl => ?_)
                                  exact key n (1, (0 : Int64), (xsi st 4), c0, c1, st, 0, 0) _ _ ls (⟨ad, gd, vad, rfl, hf, hP, hD, hS, lv_sub hl [0, 1, 2, 3, 4] rfl, hE, hN⟩)
                                · rw [if_neg hc] at hf
                                  refine lv_aload_n hx hb dM_times_220 rfl (lv_at hl 0 rfl) ?_
                                  obtain ⟨o4, hq5, hf⟩ := xbind hf
                                  have hl := lv_sub (l' := [(0, .ref aM)]) hl [0] rfl
                                  by_cases hk6 : o4.1 = 1
                                  · rw [if_pos hk6] at hf
                                    obtain ⟨hm7, hf⟩ := xmoE hf
                                    obtain rfl := Option.some.inj hf
                                    exact absurd (show (2 : Nat) = 0 from hkd) (by decide)
                                  rw [if_neg hk6] at hf
                                  exact nomatch hf
                            · rw [if_neg hc] at hf
                              refine lv_aload_n hx hb dM_times_192 rfl (lv_at hl 0 rfl) ?_
                              obtain ⟨o3, hq4, hf⟩ := xbind hf
                              have hl := lv_sub (l' := [(0, .ref aM)]) hl [0] rfl
                              by_cases hk5 : o3.1 = 1
                              · rw [if_pos hk5] at hf
                                obtain ⟨hm6, hf⟩ := xmoE hf
                                obtain rfl := Option.some.inj hf
                                exact absurd (show (2 : Nat) = 0 from hkd) (by decide)
                              rw [if_neg hk5] at hf
                              exact nomatch hf
                      · rw [if_neg hc] at hf
                        refine lv_aload_n hx hb dM_times_149 rfl (lv_at hl 0 rfl) ?_
                        refine lv_iconst (v := 0) hx hb dM_times_150 (by decide) ?_
                        obtain ⟨o3, hq4, hf⟩ := xbind hf
                        have hl := lv_sub (l' := [(0, .ref aM)]) hl [0] rfl
                        obtain ⟨hm5, hf⟩ := xmoE hf
                        have hFc := xm_free hD hS hA
                        refine va_callq (va_runV (C := "ValueBenchModel") (As := [.int 0]) (rest := []) ⟨hx, hb, hml, hown, htx⟩ (gM_fresh l hl9 D cT aK aV s.heap.size n aM ad rd gd vad st (0 : Int32) o3 hq4) ⟨callB_of 1 htx (xw_goodC kw_6_16) rfl rfl rfl (htx _ kw_1_5) (htx _ kw_6_13) ⟨by decide, by decide, by decide +kernel⟩ ⟨Nat.le_of_ble_eq_true rfl, Nat.le_of_ble_eq_true rfl⟩, (htx _ kw_6_15), (htx _ kp_M_fresh)⟩ ⟨xPre_blind, va_recv hK hP (ci := 5) rfl (q0 := 0) rfl, (fun U hU hW => ⟨rfl, xPre_of hZ hS hFc hP hD hK U hU hW⟩)⟩ rfl rfl hl.1 rfl (xm_room (Nat.le_of_ble_eq_true rfl)) dM_times_151 ⟨hm5.1, hm5.2⟩) hS (fun q _ h => hFc q h) hFc (fun r6 u9 t H1 locs ht hvm hr9 hB hz1 hk1 hS => ?_)
                        obtain ⟨hP1, hK1, hD1⟩ := hB
                        rw [ht] at hP1
                        obtain ⟨ad7, gd8, vad9⟩ := u9
                        obtain ⟨hr9, hv10, hn11⟩ := hr9
                        have hP : va_P D xcl (xMw cT aM ad7 rd gd8 vad9 o3.2.2.2 []) H1 := hP1
                        have hD : va_D A (xMw cT aM ad7 rd gd8 vad9 o3.2.2.2 []) := hD1.weaken (fun k q _ h => hFc q.1 h)
                        generalize H1 = H at hP hS ⊢
                        have hE9 : ∀ p, p < xct st → vad9 p = vad p := fun p h => (hv10 p (Nat.lt_of_lt_of_le h hN)).trans (hE p h)
                        have hE := hE9
                        have hN : xct st ≤ xct o3.2.2.2 := Nat.le_trans hN hn11
                        rw [hr9]
                        refine W.eq (g2 := F0 m 154 ls [xv vad9 o3.2.2.1]) (by first | rfl | (skip; rfl)) ?_
                        obtain rfl := Option.some.inj hf
                        exact W.aret (v := xv vad9 o3.2.2.1) hx hb hr (Or.inl ⟨_, rfl⟩) (xvor _ _) (fun t ht hW => ⟨⟨xca vad9 o3.2.2.1, (ad7, gd8, vad9), rfl, ⟨rfl, hE, hN⟩, by rw [ht]; exact hP, va_K.moved hW.alike hK, hD⟩, hS.F ht⟩) hS.2.2 dM_times_154
                    · rw [if_neg hc] at hf
                      refine lv_aload_n hx hb dM_times_134 rfl (lv_at hl 0 rfl) ?_
                      refine lv_iconst (v := 1) hx hb dM_times_135 (by decide) ?_
                      obtain ⟨o3, hq4, hf⟩ := xbind hf
                      have hl := lv_sub (l' := [(0, .ref aM)]) hl [0] rfl
                      by_cases hk5 : o3.1 = 1
                      · rw [if_pos hk5] at hf
                        obtain ⟨hm6, hf⟩ := xmoE hf
                        obtain rfl := Option.some.inj hf
                        exact absurd (show (1 : Nat) = 0 from hkd) (by decide)
                      rw [if_neg hk5] at hf
                      exact nomatch hf
                · rw [if_pos hc] at hf
                  refine lv_aload_n hx hb dM_times_111 rfl (lv_at hl 0 rfl) ?_
                  refine xm_aload_n hx hb (xvor _ _) dM_times_112 rfl (lv_at hl 2 rfl) ?_
                  refine xm_aload_n hx hb (xvor _ _) dM_times_113 rfl (lv_at hl 1 rfl) ?_
                  obtain ⟨o3, hq4, hf⟩ := xbind hf
                  have hl := lv_sub (l' := [(0, .ref aM)]) hl [0] rfl
                  by_cases hk5 : o3.1 = 0
                  · rw [if_pos hk5] at hf
                    obtain ⟨hm6, hf⟩ := xmoE hf
                    have hFc := xm_free hD hS hA
                    refine va_callq (va_runV (C := "ValueBenchModel") (As := [xv vad c1, xv vad c0]) (rest := []) ⟨hx, hb, hml, hown, htx⟩ ((hrec s.heap.size aM ad rd gd vad st c1 c0 o3 hq4).1 hk5) ⟨callB_of 2 htx (xw_goodC kw_6_215) rfl rfl rfl (htx _ kw_1_5) (htx _ kw_6_212) ⟨by decide, by decide, by decide +kernel⟩ ⟨(by show (16 * d) + 1 ≤ 16 * (d + 1); omega), (by show 8 + (7 + 11) + (400 * d) ≤ 400 * (d + 1); omega)⟩, (htx _ kw_6_214), (htx _ kp_M_times)⟩ ⟨xPre_blind, va_recv hK hP (ci := 5) rfl (q0 := 0) rfl, (fun U hU hW => ⟨rfl, xPre_of hZ hS hFc hP hD hK U hU hW⟩)⟩ rfl rfl hl.1 rfl (xm_room (Nat.le_of_ble_eq_true rfl)) dM_times_114 ⟨hm6.1, hm6.2⟩) hS (fun q _ h => hFc q h) hFc (fun r7 u9 t H1 locs ht hvm hr9 hB hz1 hk1 hS => ?_)
                    obtain ⟨hP1, hK1, hD1⟩ := hB
                    rw [ht] at hP1
                    obtain ⟨ad8, gd9, vad10⟩ := u9
                    obtain ⟨hr9, hv11, hn12⟩ := hr9
                    have hP : va_P D xcl (xMw cT aM ad8 rd gd9 vad10 o3.2.2.2.2 []) H1 := hP1
                    have hD : va_D A (xMw cT aM ad8 rd gd9 vad10 o3.2.2.2.2 []) := hD1.weaken (fun k q _ h => hFc q.1 h)
                    generalize H1 = H at hP hS ⊢
                    have hE9 : ∀ p, p < xct st → vad10 p = vad p := fun p h => (hv11 p (Nat.lt_of_lt_of_le h hN)).trans (hE p h)
                    have hE := hE9
                    have hN : xct st ≤ xct o3.2.2.2.2 := Nat.le_trans hN hn12
                    rw [hr9]
                    refine W.eq (g2 := F0 m 117 ls [xv vad10 o3.2.2.2.1]) (by first | rfl | (skip; rfl)) ?_
                    obtain rfl := Option.some.inj hf
                    exact W.aret (v := xv vad10 o3.2.2.2.1) hx hb hr (Or.inl ⟨_, rfl⟩) (xvor _ _) (fun t ht hW => ⟨⟨xca vad10 o3.2.2.2.1, (ad8, gd9, vad10), rfl, ⟨rfl, hE, hN⟩, by rw [ht]; exact hP, va_K.moved hW.alike hK, hD⟩, hS.F ht⟩) hS.2.2 dM_times_117
                  rw [if_neg hk5] at hf
                  by_cases hk13 : o3.1 = 1
                  · rw [if_pos hk13] at hf
                    obtain ⟨hm14, hf⟩ := xmoE hf
                    obtain rfl := Option.some.inj hf
                    exact absurd (show (1 : Nat) = 0 from hkd) (by decide)
                  rw [if_neg hk13] at hf
                  by_cases hk21 : o3.1 = 2
                  · rw [if_pos hk21] at hf
                    obtain ⟨hm22, hf⟩ := xmoE hf
                    obtain rfl := Option.some.inj hf
                    exact absurd (show (2 : Nat) = 0 from hkd) (by decide)
                  rw [if_neg hk21] at hf
                  exact nomatch hf
            · rw [if_pos hc] at hf
              refine lv_aload_n hx hb dM_times_88 rfl (lv_at hl 0 rfl) ?_
              refine xm_aload_n hx hb (xvor _ _) dM_times_89 rfl (lv_at hl 1 rfl) ?_
              refine xm_aload_n hx hb (xvor _ _) dM_times_90 rfl (lv_at hl 2 rfl) ?_
              obtain ⟨o3, hq4, hf⟩ := xbind hf
              have hl := lv_sub (l' := [(0, .ref aM)]) hl [0] rfl
              by_cases hk5 : o3.1 = 0
              · rw [if_pos hk5] at hf
                obtain ⟨hm6, hf⟩ := xmoE hf
                have hFc := xm_free hD hS hA
                refine va_callq (va_runV (C := "ValueBenchModel") (As := [xv vad c0, xv vad c1]) (rest := []) ⟨hx, hb, hml, hown, htx⟩ ((gM_merged l hl9 D cT aK aV d s.heap.size n aM ad rd gd vad st c0 c1 o3 hq4).1 hk5) ⟨callB_of 2 htx (xw_goodC kw_6_220) rfl rfl rfl (htx _ kw_1_5) (htx _ kw_6_217) ⟨by decide, by decide, by decide +kernel⟩ ⟨(by show (16 * d) + 1 ≤ 16 * (d + 1); omega), (by show 8 + (8 + 11) + (400 * d) ≤ 400 * (d + 1); omega)⟩, (htx _ kw_6_219), (htx _ kp_M_merged)⟩ ⟨xPre_blind, va_recv hK hP (ci := 5) rfl (q0 := 0) rfl, (fun U hU hW => ⟨rfl, xPre_of hZ hS hFc hP hD hK U hU hW⟩)⟩ rfl rfl hl.1 rfl (xm_room (Nat.le_of_ble_eq_true rfl)) dM_times_91 ⟨hm6.1, hm6.2⟩) hS (fun q _ h => hFc q h) hFc (fun r7 u9 t H1 locs ht hvm hr9 hB hz1 hk1 hS => ?_)
                obtain ⟨hP1, hK1, hD1⟩ := hB
                rw [ht] at hP1
                obtain ⟨ad8, gd9, vad10⟩ := u9
                obtain ⟨hr9, hv11, hn12⟩ := hr9
                have hP : va_P D xcl (xMw cT aM ad8 rd gd9 vad10 o3.2.2.2.2 []) H1 := hP1
                have hD : va_D A (xMw cT aM ad8 rd gd9 vad10 o3.2.2.2.2 []) := hD1.weaken (fun k q _ h => hFc q.1 h)
                generalize H1 = H at hP hS ⊢
                have hE9 : ∀ p, p < xct st → vad10 p = vad p := fun p h => (hv11 p (Nat.lt_of_lt_of_le h hN)).trans (hE p h)
                have hE := hE9
                have hN : xct st ≤ xct o3.2.2.2.2 := Nat.le_trans hN hn12
                rw [hr9]
                refine W.eq (g2 := F0 m 94 ls [xv vad10 o3.2.2.2.1]) (by first | rfl | (skip; rfl)) ?_
                obtain rfl := Option.some.inj hf
                exact W.aret (v := xv vad10 o3.2.2.2.1) hx hb hr (Or.inl ⟨_, rfl⟩) (xvor _ _) (fun t ht hW => ⟨⟨xca vad10 o3.2.2.2.1, (ad8, gd9, vad10), rfl, ⟨rfl, hE, hN⟩, by rw [ht]; exact hP, va_K.moved hW.alike hK, hD⟩, hS.F ht⟩) hS.2.2 dM_times_94
              rw [if_neg hk5] at hf
              by_cases hk13 : o3.1 = 1
              · rw [if_pos hk13] at hf
                obtain ⟨hm14, hf⟩ := xmoE hf
                obtain rfl := Option.some.inj hf
                exact absurd (show (2 : Nat) = 0 from hkd) (by decide)
              rw [if_neg hk13] at hf
              exact nomatch hf
        · rw [if_pos hc] at hf
          refine xm_aload_n hx hb (xvor _ _) dM_times_16 rfl (lv_at hl 1 rfl) ?_
          refine xm_vget (v := .long ((xpl st) (c0 - 1))) hx hb htx hown hK hP 1 (by decide) hg1 rfl ((hZ.1 (96, "n", "J") (List.mem_of_getElem? (i := 1) rfl)).use rfl) rfl dM_times_17 ?_
          refine va_mabs_long hx hb (hml.trans hl.1.symm) hown (htx _ kw_6_216) (htx _ kw_3_43) (htx _ kw_1_15) (htx _ kw_3_44) (Nat.le_of_ble_eq_true rfl) (Nat.le_of_ble_eq_true rfl) (Nat.zero_le _) (Nat.zero_le _) dM_times_20 ?_
          refine W.eq (g2 := F0 m 23 ls [.long (if 0 < ((xpl st) (c0 - 1)) then ((xpl st) (c0 - 1)) else -((xpl st) (c0 - 1)))]) rfl ?_
          refine lv_lstore_n (lv' := [(3, .long (if 0 < ((xpl st) (c0 - 1)) then ((xpl st) (c0 - 1)) else -((xpl st) (c0 - 1)))), (0, .ref aM), (1, xv vad c0), (2, xv vad c1)]) hx hb dM_times_23 rfl hl (by decide) (by simp only [List.filter, xvcat, xrscat, xcI, xcL, xcR, xcN]; rfl) (fun ls hl => ?_)
          refine xm_aload_n hx hb (xvor _ _) dM_times_24 rfl (lv_at hl 3 rfl) ?_
          refine xm_vget (v := .long ((xpl st) (c1 - 1))) hx hb htx hown hK hP 1 (by decide) hg2 rfl ((hZ.1 (96, "n", "J") (List.mem_of_getElem? (i := 1) rfl)).use rfl) rfl dM_times_25 ?_
          refine va_mabs_long hx hb (hml.trans hl.1.symm) hown (htx _ kw_6_216) (htx _ kw_3_43) (htx _ kw_1_15) (htx _ kw_3_44) (Nat.le_of_ble_eq_true rfl) (Nat.le_of_ble_eq_true rfl) (Nat.zero_le _) (Nat.zero_le _) dM_times_28 ?_
          refine W.eq (g2 := F0 m 31 ls [.long (if 0 < ((xpl st) (c1 - 1)) then ((xpl st) (c1 - 1)) else -((xpl st) (c1 - 1)))]) rfl ?_
          refine lv_lstore (lv' := [(5, .long (if 0 < ((xpl st) (c1 - 1)) then ((xpl st) (c1 - 1)) else -((xpl st) (c1 - 1)))), (3, .long (if 0 < ((xpl st) (c0 - 1)) then ((xpl st) (c0 - 1)) else -((xpl st) (c0 - 1)))), (0, .ref aM), (1, xv vad c0), (2, xv vad c1)]) hx hb dM_times_31 hl (by decide) rfl (fun ls hl => ?_)
          refine lv_lload_n hx hb dM_times_33 rfl (lv_at hl 1 rfl) ?_
          refine lv_lconst (v := 0) hx hb dM_times_34 (by decide) ?_
          refine W.lcmp hx hb dM_times_35 ?_
          refine lv_if_eq (tgt := 56) hx hb dM_times_36 (by decide) (fun hc => ?_) (fun hc => ?_)
          · rw [if_pos hc] at hf
            refine lv_aload_n hx hb dM_times_56 rfl (lv_at hl 2 rfl) ?_
            refine xm_aload_n hx hb (xvor _ _) dM_times_57 rfl (lv_at hl 3 rfl) ?_
            refine xm_vget (v := .long ((xpl st) (c0 - 1))) hx hb htx hown hK hP 1 (by decide) hg1 rfl ((hZ.1 (96, "n", "J") (List.mem_of_getElem? (i := 1) rfl)).use rfl) rfl dM_times_58 ?_
            refine xm_aload_n hx hb (xvor _ _) dM_times_61 rfl (lv_at hl 4 rfl) ?_
            refine xm_vget (v := .long ((xpl st) (c1 - 1))) hx hb htx hown hK hP 1 (by decide) hg2 rfl ((hZ.1 (96, "n", "J") (List.mem_of_getElem? (i := 1) rfl)).use rfl) rfl dM_times_62 ?_
            refine lv_lmul hx hb dM_times_65 ?_
            obtain ⟨o3, hq4, hf⟩ := xbind hf
            have hl := lv_sub (l' := [(5, .long (if 0 < ((xpl st) (c1 - 1)) then ((xpl st) (c1 - 1)) else -((xpl st) (c1 - 1)))), (3, .long (if 0 < ((xpl st) (c0 - 1)) then ((xpl st) (c0 - 1)) else -((xpl st) (c0 - 1)))), (0, .ref aM)]) hl [0, 1, 2] rfl
            by_cases hk5 : o3.1 = 0
            · rw [if_pos hk5] at hf
              obtain ⟨hm6, hf⟩ := xmoE hf
              have hFc := xm_free hD hS hA
              refine va_callq (va_runV (C := "ValueBenchModel") (As := [.long (((xpl st) (c0 - 1)) * ((xpl st) (c1 - 1)))]) (rest := []) ⟨hx, hb, hml, hown, htx⟩ (gM_number l hl9 D cT aK aV s.heap.size n aM ad rd gd vad st (((xpl st) (c0 - 1)) * ((xpl st) (c1 - 1))) o3 hq4 hk5) ⟨callB_of 1 htx (xw_goodC kw_6_88) rfl rfl rfl (htx _ kw_1_5) (htx _ kw_6_85) ⟨by decide, by decide, by decide +kernel⟩ ⟨Nat.le_of_ble_eq_true rfl, Nat.le_of_ble_eq_true rfl⟩, (htx _ kw_6_87), (htx _ kp_M_number)⟩ ⟨xPre_blind, va_recv hK hP (ci := 5) rfl (q0 := 0) rfl, (fun U hU hW => ⟨rfl, xPre_of hZ hS hFc hP hD hK U hU hW⟩)⟩ rfl rfl hl.1 rfl (xm_room (Nat.le_of_ble_eq_true rfl)) dM_times_66 ⟨hm6.1, hm6.2⟩) hS (fun q _ h => hFc q h) hFc (fun r7 u9 t H1 locs ht hvm hr9 hB hz1 hk1 hS => ?_)
              obtain ⟨hP1, hK1, hD1⟩ := hB
              rw [ht] at hP1
              obtain ⟨ad8, gd9, vad10⟩ := u9
              obtain ⟨hr9, hv11, hn12⟩ := hr9
              have hP : va_P D xcl (xMw cT aM ad8 rd gd9 vad10 o3.2.2.2.2 []) H1 := hP1
              have hD : va_D A (xMw cT aM ad8 rd gd9 vad10 o3.2.2.2.2 []) := hD1.weaken (fun k q _ h => hFc q.1 h)
              generalize H1 = H at hP hS ⊢
              have hE9 : ∀ p, p < xct st → vad10 p = vad p := fun p h => (hv11 p (Nat.lt_of_lt_of_le h hN)).trans (hE p h)
              have hE := hE9
              have hN : xct st ≤ xct o3.2.2.2.2 := Nat.le_trans hN hn12
              rw [hr9]
              refine W.eq (g2 := F0 m 69 ls [xv vad10 o3.2.2.2.1]) (by first | rfl | (skip; rfl)) ?_
              obtain rfl := Option.some.inj hf
              exact W.aret (v := xv vad10 o3.2.2.2.1) hx hb hr (Or.inl ⟨_, rfl⟩) (xvor _ _) (fun t ht hW => ⟨⟨xca vad10 o3.2.2.2.1, (ad8, gd9, vad10), rfl, ⟨rfl, hE, hN⟩, by rw [ht]; exact hP, va_K.moved hW.alike hK, hD⟩, hS.F ht⟩) hS.2.2 dM_times_69
            rw [if_neg hk5] at hf
            by_cases hk13 : o3.1 = 1
            · rw [if_pos hk13] at hf
              obtain ⟨hm14, hf⟩ := xmoE hf
              obtain rfl := Option.some.inj hf
              exact absurd (show (1 : Nat) = 0 from hkd) (by decide)
            rw [if_neg hk13] at hf
            exact nomatch hf
          · rw [if_neg hc] at hf
            refine lv_lload hx hb dM_times_39 (lv_at hl 0 rfl) ?_
            refine lv_ldc2 hx hb hown (htx _ kw_6_84) dM_times_41 ?_
            refine lv_lload_n hx hb dM_times_44 rfl (lv_at hl 1 rfl) ?_
            obtain ⟨hg3, hf⟩ := xifn hf
            refine lv_ldiv hx hb dM_times_45 hg3 ?_
            refine W.lcmp hx hb dM_times_46 ?_
            refine lv_if_le (tgt := 56) hx hb dM_times_47 (by decide) (fun hc => ?_) (fun hc => ?_)
            · rw [if_pos hc] at hf
              refine lv_aload_n hx hb dM_times_56 rfl (lv_at hl 2 rfl) ?_
              refine xm_aload_n hx hb (xvor _ _) dM_times_57 rfl (lv_at hl 3 rfl) ?_
              refine xm_vget (v := .long ((xpl st) (c0 - 1))) hx hb htx hown hK hP 1 (by decide) hg1 rfl ((hZ.1 (96, "n", "J") (List.mem_of_getElem? (i := 1) rfl)).use rfl) rfl dM_times_58 ?_
              refine xm_aload_n hx hb (xvor _ _) dM_times_61 rfl (lv_at hl 4 rfl) ?_
              refine xm_vget (v := .long ((xpl st) (c1 - 1))) hx hb htx hown hK hP 1 (by decide) hg2 rfl ((hZ.1 (96, "n", "J") (List.mem_of_getElem? (i := 1) rfl)).use rfl) rfl dM_times_62 ?_
              refine lv_lmul hx hb dM_times_65 ?_
              obtain ⟨o4, hq5, hf⟩ := xbind hf
              have hl := lv_sub (l' := [(5, .long (if 0 < ((xpl st) (c1 - 1)) then ((xpl st) (c1 - 1)) else -((xpl st) (c1 - 1)))), (3, .long (if 0 < ((xpl st) (c0 - 1)) then ((xpl st) (c0 - 1)) else -((xpl st) (c0 - 1)))), (0, .ref aM)]) hl [0, 1, 2] rfl
              by_cases hk6 : o4.1 = 0
              · rw [if_pos hk6] at hf
                obtain ⟨hm7, hf⟩ := xmoE hf
                have hFc := xm_free hD hS hA
                refine va_callq (va_runV (C := "ValueBenchModel") (As := [.long (((xpl st) (c0 - 1)) * ((xpl st) (c1 - 1)))]) (rest := []) ⟨hx, hb, hml, hown, htx⟩ (gM_number l hl9 D cT aK aV s.heap.size n aM ad rd gd vad st (((xpl st) (c0 - 1)) * ((xpl st) (c1 - 1))) o4 hq5 hk6) ⟨callB_of 1 htx (xw_goodC kw_6_88) rfl rfl rfl (htx _ kw_1_5) (htx _ kw_6_85) ⟨by decide, by decide, by decide +kernel⟩ ⟨Nat.le_of_ble_eq_true rfl, Nat.le_of_ble_eq_true rfl⟩, (htx _ kw_6_87), (htx _ kp_M_number)⟩ ⟨xPre_blind, va_recv hK hP (ci := 5) rfl (q0 := 0) rfl, (fun U hU hW => ⟨rfl, xPre_of hZ hS hFc hP hD hK U hU hW⟩)⟩ rfl rfl hl.1 rfl (xm_room (Nat.le_of_ble_eq_true rfl)) dM_times_66 ⟨hm7.1, hm7.2⟩) hS (fun q _ h => hFc q h) hFc (fun r8 u9 t H1 locs ht hvm hr9 hB hz1 hk1 hS => ?_)
                obtain ⟨hP1, hK1, hD1⟩ := hB
                rw [ht] at hP1
                obtain ⟨ad9, gd10, vad11⟩ := u9
                obtain ⟨hr9, hv12, hn13⟩ := hr9
                have hP : va_P D xcl (xMw cT aM ad9 rd gd10 vad11 o4.2.2.2.2 []) H1 := hP1
                have hD : va_D A (xMw cT aM ad9 rd gd10 vad11 o4.2.2.2.2 []) := hD1.weaken (fun k q _ h => hFc q.1 h)
                generalize H1 = H at hP hS ⊢
                have hE9 : ∀ p, p < xct st → vad11 p = vad p := fun p h => (hv12 p (Nat.lt_of_lt_of_le h hN)).trans (hE p h)
                have hE := hE9
                have hN : xct st ≤ xct o4.2.2.2.2 := Nat.le_trans hN hn13
                rw [hr9]
                refine W.eq (g2 := F0 m 69 ls [xv vad11 o4.2.2.2.1]) (by first | rfl | (skip; rfl)) ?_
                obtain rfl := Option.some.inj hf
                exact W.aret (v := xv vad11 o4.2.2.2.1) hx hb hr (Or.inl ⟨_, rfl⟩) (xvor _ _) (fun t ht hW => ⟨⟨xca vad11 o4.2.2.2.1, (ad9, gd10, vad11), rfl, ⟨rfl, hE, hN⟩, by rw [ht]; exact hP, va_K.moved hW.alike hK, hD⟩, hS.F ht⟩) hS.2.2 dM_times_69
              rw [if_neg hk6] at hf
              by_cases hk14 : o4.1 = 1
              · rw [if_pos hk14] at hf
                obtain ⟨hm15, hf⟩ := xmoE hf
                obtain rfl := Option.some.inj hf
                exact absurd (show (1 : Nat) = 0 from hkd) (by decide)
              rw [if_neg hk14] at hf
              exact nomatch hf
            · rw [if_neg hc] at hf
              refine lv_aload_n hx hb dM_times_50 rfl (lv_at hl 2 rfl) ?_
              refine lv_iconst (v := 2) hx hb dM_times_51 (by decide) ?_
              obtain ⟨o4, hq5, hf⟩ := xbind hf
              have hl := lv_sub (l' := [(5, .long (if 0 < ((xpl st) (c1 - 1)) then ((xpl st) (c1 - 1)) else -((xpl st) (c1 - 1)))), (3, .long (if 0 < ((xpl st) (c0 - 1)) then ((xpl st) (c0 - 1)) else -((xpl st) (c0 - 1)))), (0, .ref aM)]) hl [0, 1, 2] rfl
              by_cases hk6 : o4.1 = 1
              · rw [if_pos hk6] at hf
                obtain ⟨hm7, hf⟩ := xmoE hf
                obtain rfl := Option.some.inj hf
                exact absurd (show (1 : Nat) = 0 from hkd) (by decide)
              rw [if_neg hk6] at hf
              exact nomatch hf
    · refine vx_ofW (cc := prog_13_method_51_code) (maxL := 7) (ret := (some (.object "ValueBenchModel$V"))) (by decide) rfl ?_
      intro p e s m args below meth c s₁ B hml hne hv
      obtain ⟨rfl, hsz, hZ, hP, hK, hD0⟩ := hv
      have hx := B.exec
      have hb := B.bytes
      have hr := B.returns
      have hts := atoms_spec (ws := wyM_times) B.pre
      have htx := fun w h => hts w (List.mem_cons_of_mem _ h)
      have hown : s.vm.findClass "ValueBenchModel" = some m.cls := findClass_of_methodNamed B.named
      have hlocks := B.notSynchronized
      subst hsz
      have hD := hD0.self (sz := s.heap.size)
      generalize hAe : va_A (xMw cT aM ad rd gd vad st []) s.heap.size = A at hD hZ ⊢
      have hA : ∀ q : Nat, s.heap.size ≤ q → A q := fun q h => by rw [← hAe]; exact Or.inr h
      have hS : va_S A s.heap s.heap [] := va_S.rf
      have hl := lv_entry ([.ref aM, xv vad c0, xv vad c1]) (n := 7) (by simp [lg_sl, xvcat, xrscat, xcI, xcL, xcR, xcN])
      rw [show lv_args 0 [.ref aM, xv vad c0, xv vad c1] = [(0, .ref aM), (1, xv vad c0), (2, xv vad c1)] from by simp [lv_args, xvcat, xrscat, xcI, xcL, xcR, xcN]] at hl
      rw [lg_entry_eq]
      generalize (lg_sl ([.ref aM, xv vad c0, xv vad c1]) ++ List.replicate (7 - (lg_sl ([.ref aM, xv vad c0, xv vad c1])).length) Slot.unset).toArray = ls at hl ⊢
      have hl : lv_has ls 7 [(0, .ref aM), (1, xv vad c0), (2, xv vad c1)] := hl
      have hE : ∀ p, p < xct st → vad p = vad p := fun _ _ => rfl
      have hN : xct st ≤ xct st := Nat.le_refl _
      refine xloopM (σ := Nat × Int64 × Int32 × Nat × Nat × xS × Nat × Nat) (fun n x H locs ls => (∃ (adL gdL vadL : Nat → Nat), x.1 = 1 ∧ fM_times_b rec d n x.1 x.2.1 x.2.2.1 x.2.2.2.1 x.2.2.2.2.1 x.2.2.2.2.2.1 x.2.2.2.2.2.2.1 x.2.2.2.2.2.2.2 = some out ∧ va_P D xcl (xMw cT aM adL rd gdL vadL x.2.2.2.2.2.1 []) H ∧ va_D A (xMw cT aM adL rd gdL vadL x.2.2.2.2.2.1 []) ∧ va_S A s.heap H locs ∧ lv_has ls 7 [(4, .long x.2.1), (3, .int x.2.2.1), (0, .ref aM), (1, xv vadL x.2.2.2.1), (2, xv vadL x.2.2.2.2.1)] ∧ (∀ p, p < xct st → vadL p = vad p) ∧ xct st ≤ xct x.2.2.2.2.2.1)) (fun x => 233) (fun x => x.2.2.2.2.2.2.1) (fun x => x.2.2.2.2.2.2.2) (fun x H locs ls h => by (obtain ⟨_, _, _, h⟩ := h; exact absurd h.2.1 (by rw [fM_times_b]; exact fun h => nomatch h))) (fun n ih x H locs ls hv => ?_) (fun key => ?_)
      · obtain ⟨lb, y4, y3, y1, y2, ws9, wc, wn⟩ := x
        rcases hv with ⟨adL, gdL, vadL, hj, hf, hP, hD, hS, hl, hE, hN⟩
        subst hj
        have hf : fM_times_b rec d (n + 1) 1 y4 y3 y1 y2 ws9 wc wn = some out := hf
        rw [fM_times_b] at hf
        obtain ⟨hP, hD⟩ : xPD D xcl A (xMw cT aM adL rd gdL vadL ws9 []) H := ⟨hP, hD⟩
        have hl : lv_has ls 7 [(4, .long y4), (3, .int y3), (0, .ref aM), (1, xv vadL y1), (2, xv vadL y2)] := hl
        refine W.eq (g2 := F0 m 233 ls []) rfl ?_
        show W p l e _ s m _ below meth c H locs wc wn _ _
        obtain ⟨hm0, hf⟩ := xmoE hf
        refine lv_lload hx hb dM_times_233 (lv_at hl 0 rfl) ?_
        refine xm_aload_n hx hb (xvor _ _) dM_times_235 rfl (lv_at hl 4 rfl) ?_
        obtain ⟨hg1, hf⟩ := xifn hf
        refine xm_vget (v := .long ((xpl ws9) (y2 - 1))) hx hb htx hown hK hP 1 (by decide) hg1 rfl ((hZ.1 (96, "n", "J") (List.mem_of_getElem? (i := 1) rfl)).use rfl) rfl dM_times_236 ?_
        refine W.lcmp hx hb dM_times_239 ?_
        refine lv_if_ge (tgt := 264) hx hb dM_times_240 (by decide) (fun hc => ?_) (fun hc => ?_)
        · rw [if_pos hc] at hf
          refine lv_aload_n hx hb dM_times_264 rfl (lv_at hl 2 rfl) ?_
          refine lv_iload_n hx hb dM_times_265 rfl (lv_at hl 1 rfl) ?_
          obtain ⟨o2, hq3, hf⟩ := xbind hf
          have hl := lv_sub (l' := [(4, .long y4), (3, .int y3), (0, .ref aM)]) hl [0, 1, 2] rfl
          by_cases hk4 : o2.1 = 0
          · rw [if_pos hk4] at hf
            obtain ⟨hm5, hf⟩ := xmoE hf
            have hFc := xm_free hD hS hA
            refine va_callq (va_runV (C := "ValueBenchModel") (As := [.int y3]) (rest := []) ⟨hx, hb, hml, hown, htx⟩ (gM_string l hl9 D cT aK aV H.size n aM adL rd gdL vadL ws9 y3 o2 hq3 hk4) ⟨callB_of 1 htx (xw_goodC kw_6_61) rfl rfl rfl (htx _ kw_1_5) (htx _ kw_6_58) ⟨by decide, by decide, by decide +kernel⟩ ⟨Nat.le_of_ble_eq_true rfl, Nat.le_of_ble_eq_true rfl⟩, (htx _ kw_6_60), (htx _ kp_M_string)⟩ ⟨xPre_blind, va_recv hK hP (ci := 5) rfl (q0 := 0) rfl, (fun U hU hW => ⟨rfl, xPre_of hZ hS hFc hP hD hK U hU hW⟩)⟩ rfl rfl hl.1 rfl (xm_room (Nat.le_of_ble_eq_true rfl)) dM_times_266 ⟨hm5.1, hm5.2⟩) hS (fun q _ h => hFc q h) hFc (fun r6 u9 t H1 locs ht hvm hr9 hB hz1 hk1 hS => ?_)
            obtain ⟨hP1, hK1, hD1⟩ := hB
            rw [ht] at hP1
            obtain ⟨ad7, gd8, vad9⟩ := u9
            obtain ⟨hr9, hv10, hn11⟩ := hr9
            have hP : va_P D xcl (xMw cT aM ad7 rd gd8 vad9 o2.2.2.2.2 []) H1 := hP1
            have hD : va_D A (xMw cT aM ad7 rd gd8 vad9 o2.2.2.2.2 []) := hD1.weaken (fun k q _ h => hFc q.1 h)
            generalize H1 = H at hP hS ⊢
            have hE9 : ∀ p, p < xct st → vad9 p = vad p := fun p h => (hv10 p (Nat.lt_of_lt_of_le h hN)).trans (hE p h)
            have hE := hE9
            have hN : xct st ≤ xct o2.2.2.2.2 := Nat.le_trans hN hn11
            rw [hr9]
            refine W.eq (g2 := F0 m 269 ls [xv vad9 o2.2.2.2.1]) (by first | rfl | (skip; rfl)) ?_
            obtain rfl := Option.some.inj hf
            exact absurd (show (0 : Nat) = 1 from hkd) (by decide)
          rw [if_neg hk4] at hf
          by_cases hk12 : o2.1 = 1
          · rw [if_pos hk12] at hf
            obtain ⟨hm13, hf⟩ := xmoE hf
            obtain rfl := Option.some.inj hf
            exact absurd (show (2 : Nat) = 1 from hkd) (by decide)
          rw [if_neg hk12] at hf
          exact nomatch hf
        · rw [if_neg hc] at hf
          refine xm_aload_n hx hb (xvor _ _) dM_times_243 rfl (lv_at hl 3 rfl) ?_
          obtain ⟨hg2, hf⟩ := xifn hf
          refine xm_vget (v := .int ((xpi ws9 3) (y1 - 1))) hx hb htx hown hK hP 3 (by decide) hg2 rfl ((hZ.1 (103, "count", "I") (List.mem_of_getElem? (i := 3) rfl)).use rfl) rfl dM_times_244 ?_
          refine lv_if_le (tgt := 264) hx hb dM_times_247 (by decide) (fun hc => ?_) (fun hc => ?_)
          · rw [if_pos hc] at hf
            refine lv_aload_n hx hb dM_times_264 rfl (lv_at hl 2 rfl) ?_
            refine lv_iload_n hx hb dM_times_265 rfl (lv_at hl 1 rfl) ?_
            obtain ⟨o3, hq4, hf⟩ := xbind hf
            have hl := lv_sub (l' := [(4, .long y4), (3, .int y3), (0, .ref aM)]) hl [0, 1, 2] rfl
            by_cases hk5 : o3.1 = 0
            · rw [if_pos hk5] at hf
              obtain ⟨hm6, hf⟩ := xmoE hf
              have hFc := xm_free hD hS hA
              refine va_callq (va_runV (C := "ValueBenchModel") (As := [.int y3]) (rest := []) ⟨hx, hb, hml, hown, htx⟩ (gM_string l hl9 D cT aK aV H.size n aM adL rd gdL vadL ws9 y3 o3 hq4 hk5) ⟨callB_of 1 htx (xw_goodC kw_6_61) rfl rfl rfl (htx _ kw_1_5) (htx _ kw_6_58) ⟨by decide, by decide, by decide +kernel⟩ ⟨Nat.le_of_ble_eq_true rfl, Nat.le_of_ble_eq_true rfl⟩, (htx _ kw_6_60), (htx _ kp_M_string)⟩ ⟨xPre_blind, va_recv hK hP (ci := 5) rfl (q0 := 0) rfl, (fun U hU hW => ⟨rfl, xPre_of hZ hS hFc hP hD hK U hU hW⟩)⟩ rfl rfl hl.1 rfl (xm_room (Nat.le_of_ble_eq_true rfl)) dM_times_266 ⟨hm6.1, hm6.2⟩) hS (fun q _ h => hFc q h) hFc (fun r7 u9 t H1 locs ht hvm hr9 hB hz1 hk1 hS => ?_)
              obtain ⟨hP1, hK1, hD1⟩ := hB
              rw [ht] at hP1
              obtain ⟨ad8, gd9, vad10⟩ := u9
              obtain ⟨hr9, hv11, hn12⟩ := hr9
              have hP : va_P D xcl (xMw cT aM ad8 rd gd9 vad10 o3.2.2.2.2 []) H1 := hP1
              have hD : va_D A (xMw cT aM ad8 rd gd9 vad10 o3.2.2.2.2 []) := hD1.weaken (fun k q _ h => hFc q.1 h)
              generalize H1 = H at hP hS ⊢
              have hE9 : ∀ p, p < xct st → vad10 p = vad p := fun p h => (hv11 p (Nat.lt_of_lt_of_le h hN)).trans (hE p h)
              have hE := hE9
              have hN : xct st ≤ xct o3.2.2.2.2 := Nat.le_trans hN hn12
              rw [hr9]
              refine W.eq (g2 := F0 m 269 ls [xv vad10 o3.2.2.2.1]) (by first | rfl | (skip; rfl)) ?_
              obtain rfl := Option.some.inj hf
              exact absurd (show (0 : Nat) = 1 from hkd) (by decide)
            rw [if_neg hk5] at hf
            by_cases hk13 : o3.1 = 1
            · rw [if_pos hk13] at hf
              obtain ⟨hm14, hf⟩ := xmoE hf
              obtain rfl := Option.some.inj hf
              exact absurd (show (2 : Nat) = 1 from hkd) (by decide)
            rw [if_neg hk13] at hf
            exact nomatch hf
          · rw [if_neg hc] at hf
            refine lv_aload_n hx hb dM_times_250 rfl (lv_at hl 2 rfl) ?_
            refine xm_aload_n hx hb (xvor _ _) dM_times_251 rfl (lv_at hl 3 rfl) ?_
            obtain ⟨o3, hq4, hf⟩ := xbind hf
            obtain ⟨hm5, hf⟩ := xmoE hf
            have hFc := xm_free hD hS hA
            refine va_callv (va_runV (C := "ValueBenchModel") (As := [xv vadL y1]) (rest := []) ⟨hx, hb, hml, hown, htx⟩ (gM_letters l hl9 D cT aK aV H.size n aM adL rd gdL vadL ws9 y1 o3 hq4) ⟨callB_of 1 htx (xw_goodC kw_6_207) rfl rfl rfl (htx _ kw_1_5) (htx _ kw_6_204) ⟨by decide, by decide, by decide +kernel⟩ ⟨Nat.le_of_ble_eq_true rfl, Nat.le_of_ble_eq_true rfl⟩, (htx _ kw_6_206), (htx _ kp_M_letters)⟩ ⟨xPre_blind, va_recv hK hP (ci := 5) rfl (q0 := 0) rfl, (fun U hU hW => ⟨rfl, xPre_of hZ hS hFc hP hD hK U hU hW⟩)⟩ rfl rfl hl.1 rfl (xm_room (Nat.le_of_ble_eq_true rfl)) dM_times_252 ⟨hm5.1, hm5.2⟩) hS (fun q _ h => hFc q h) hFc (fun u9 t H1 locs ht hvm hr9 hB hz1 hk1 hS => ?_)
            obtain ⟨hP1, hK1, hD1⟩ := hB
            rw [ht] at hP1
            obtain ⟨ad7, gd8, vad9⟩ := u9
            obtain ⟨hv10, hn11⟩ := hr9
            have hP : va_P D xcl (xMw cT aM ad7 rd gd8 vad9 o3.2.2 []) H1 := hP1
            have hD : va_D A (xMw cT aM ad7 rd gd8 vad9 o3.2.2 []) := hD1.weaken (fun k q _ h => hFc q.1 h)
            generalize H1 = H at hP hS ⊢
            have hE9 : ∀ p, p < xct st → vad9 p = vad p := fun p h => (hv10 p (Nat.lt_of_lt_of_le h hN)).trans (hE p h)
            have hE := hE9
            have hN : xct st ≤ xct o3.2.2 := Nat.le_trans hN hn11
            have ev12 : xv vadL y1 = xv vad9 y1 := xvE hv10 (fun h => hg2 (Or.inr h))
            have ev13 : xv vadL y2 = xv vad9 y2 := xvE hv10 (fun h => hg1 (Or.inr h))
            have hl : lv_has ls 7 [(4, .long y4), (3, .int y3), (0, .ref aM), (1, xv vad9 y1), (2, xv vad9 y2)] := by first | exact hl | ((try (rw [← ev12])); (try (rw [← ev13])); exact hl)
            refine W.eq (g2 := F0 m 255 ls []) (by first | rfl | ((try (rw [ev12])); (try (rw [ev13])); rfl)) ?_
            refine lv_lload hx hb dM_times_255 (lv_at hl 0 rfl) ?_
            refine lv_lconst (v := 1) hx hb dM_times_257 (by decide) ?_
            refine lv_ladd hx hb dM_times_258 ?_
            refine lv_lstore (lv' := [(4, .long (y4 + (1 : Int64))), (3, .int y3), (0, .ref aM), (1, xv vad9 y1), (2, xv vad9 y2)]) hx hb dM_times_259 hl (by decide) rfl (fun ls hl => ?_)
            refine lv_goto (tgt := 233) hx hb dM_times_261 (by decide) ?_
            exact ih (1, (y4 + (1 : Int64)), y3, y1, y2, o3.2.2, (wc + o3.1), (wn + o3.2.1)) _ _ ls (⟨ad7, gd8, vad9, rfl, hf, hP, hD, hS, lv_sub hl [0, 1, 2, 3, 4] rfl, hE, hN⟩)
      refine xm_aload_n hx hb (xvor _ _) dM_times_0 rfl (lv_at hl 1 rfl) ?_
      obtain ⟨hg1, hf⟩ := xifn hf
      refine xm_vget (v := .int ((xpi st 0) (c0 - 1))) hx hb htx hown hK hP 0 (by decide) hg1 rfl ((hZ.1 (93, "kind", "I") (List.mem_of_getElem? (i := 0) rfl)).use rfl) rfl dM_times_1 ?_
      refine lv_iconst (v := 3) hx hb dM_times_4 (by decide) ?_
      refine lv_icmp_ne (tgt := 70) hx hb dM_times_5 (by decide) (fun hc => ?_) (fun hc => ?_)
      · rw [if_neg hc] at hf
        refine xm_aload_n hx hb (xvor _ _) dM_times_70 rfl (lv_at hl 1 rfl) ?_
        refine xm_vget (v := .int ((xpi st 0) (c0 - 1))) hx hb htx hown hK hP 0 (by decide) hg1 rfl ((hZ.1 (93, "kind", "I") (List.mem_of_getElem? (i := 0) rfl)).use rfl) rfl dM_times_71 ?_
        refine lv_bipush (v := 6) hx hb dM_times_74 (by decide) ?_
        refine lv_icmp_ne (tgt := 95) hx hb dM_times_76 (by decide) (fun hc => ?_) (fun hc => ?_)
        · rw [if_neg hc] at hf
          refine xm_aload_n hx hb (xvor _ _) dM_times_95 rfl (lv_at hl 1 rfl) ?_
          refine xm_vget (v := .int ((xpi st 0) (c0 - 1))) hx hb htx hown hK hP 0 (by decide) hg1 rfl ((hZ.1 (93, "kind", "I") (List.mem_of_getElem? (i := 0) rfl)).use rfl) rfl dM_times_96 ?_
          refine lv_iconst (v := 3) hx hb dM_times_99 (by decide) ?_
          refine lv_icmp_ne (tgt := 118) hx hb dM_times_100 (by decide) (fun hc => ?_) (fun hc => ?_)
          · rw [if_neg hc] at hf
            refine xm_aload_n hx hb (xvor _ _) dM_times_118 rfl (lv_at hl 1 rfl) ?_
            refine xm_vget (v := .int ((xpi st 0) (c0 - 1))) hx hb htx hown hK hP 0 (by decide) hg1 rfl ((hZ.1 (93, "kind", "I") (List.mem_of_getElem? (i := 0) rfl)).use rfl) rfl dM_times_119 ?_
            refine lv_iconst (v := 4) hx hb dM_times_122 (by decide) ?_
            refine lv_icmp_ne (tgt := 134) hx hb dM_times_123 (by decide) (fun hc => ?_) (fun hc => ?_)
            · rw [if_neg hc] at hf
              refine lv_aload_n hx hb dM_times_134 rfl (lv_at hl 0 rfl) ?_
              refine lv_iconst (v := 1) hx hb dM_times_135 (by decide) ?_
              obtain ⟨o2, hq3, hf⟩ := xbind hf
              have hl := lv_sub (l' := [(0, .ref aM)]) hl [0] rfl
              by_cases hk4 : o2.1 = 1
              · rw [if_pos hk4] at hf
                obtain ⟨hm5, hf⟩ := xmoE hf
                have hFc := xm_free hD hS hA
                refine xx_thr (vx_runV (C := "ValueBenchModel") (As := [.int 1]) (rest := []) ⟨hx, hb, hml, hown, htx⟩ (gM_refuse_1 l hl9 D cT aK aV s.heap.size n aM ad rd gd vad st (1 : Int32) o2 hq3 hk4) ⟨callB_of 1 htx (xw_goodC kw_6_93) rfl rfl rfl (htx _ kw_1_5) (htx _ kw_6_90) ⟨by decide, by decide, by decide +kernel⟩ ⟨Nat.le_of_ble_eq_true rfl, Nat.le_of_ble_eq_true rfl⟩, (htx _ kw_6_92), (htx _ kp_M_refuse)⟩ ⟨xPre_blind, va_recv hK hP (ci := 5) rfl (q0 := 0) rfl, (fun U hU hW => ⟨rfl, xPre_of hZ hS hFc hP hD hK U hU hW⟩)⟩ rfl rfl hl.1 rfl (xm_room (Nat.le_of_ble_eq_true rfl)) dM_times_136 ⟨hm5.1, hm5.2⟩) hS hFc (fun q _ h => hFc q h) (fun E ce q9 u9 t H1 locs ht hvm hr9 hB hz1 hk1 hS hce hcv hcl => ?_)
                obtain ⟨rfl, hP1, hK1, hD1⟩ := hB
                rw [ht] at hP1
                obtain ⟨ad7, gd8, vad9⟩ := u9
                obtain ⟨hv10, hn11⟩ := hr9
                have hP : va_P D xcl (xMw cT aM ad7 rd gd8 vad9 o2.2.2.2.2 []) H1 := hP1
                have hD : va_D A (xMw cT aM ad7 rd gd8 vad9 o2.2.2.2.2 []) := hD1.weaken (fun k q _ h => hFc q.1 h)
                generalize H1 = H at hP hS hce ⊢
                have hE9 : ∀ p, p < xct st → vad9 p = vad p := fun p h => (hv10 p (Nat.lt_of_lt_of_le h hN)).trans (hE p h)
                have hE := hE9
                have hN : xct st ≤ xct o2.2.2.2.2 := Nat.le_trans hN hn11
                obtain rfl := Option.some.inj hf
                exact vx_out (E := "java/lang/ArithmeticException") (fun x h => (hne x h).elim) hlocks hce hcv hcl (fun t ht ha => ⟨(ad7, gd8, vad9), ⟨hE, hN⟩, ⟨rfl, by rw [ht]; exact hP, va_K.moved ha hK, hD⟩, hS.F ht⟩) hS.2.2 (Nat.le_refl _) (Nat.le_refl _)
              rw [if_neg hk4] at hf
              exact nomatch hf
            · rw [if_pos hc] at hf
              refine xm_aload_n hx hb (xvor _ _) dM_times_126 rfl (lv_at hl 2 rfl) ?_
              obtain ⟨hg2, hf⟩ := xifn hf
              refine xm_vget (v := .int ((xpi st 0) (c1 - 1))) hx hb htx hown hK hP 0 (by decide) hg2 rfl ((hZ.1 (93, "kind", "I") (List.mem_of_getElem? (i := 0) rfl)).use rfl) rfl dM_times_127 ?_
              refine lv_iconst (v := 3) hx hb dM_times_130 (by decide) ?_
              refine lv_icmp_eq (tgt := 140) hx hb dM_times_131 (by decide) (fun hc => ?_) (fun hc => ?_)
              · rw [if_pos hc] at hf
                refine xm_aload_n hx hb (xvor _ _) dM_times_140 rfl (lv_at hl 2 rfl) ?_
                refine xm_vget (v := .long ((xpl st) (c1 - 1))) hx hb htx hown hK hP 1 (by decide) hg2 rfl ((hZ.1 (96, "n", "J") (List.mem_of_getElem? (i := 1) rfl)).use rfl) rfl dM_times_141 ?_
                refine lv_lconst (v := 1) hx hb dM_times_144 (by decide) ?_
                refine W.lcmp hx hb dM_times_145 ?_
                refine lv_if_ge (tgt := 155) hx hb dM_times_146 (by decide) (fun hc => ?_) (fun hc => ?_)
                · rw [if_pos hc] at hf
                  refine xm_aload_n hx hb (xvor _ _) dM_times_155 rfl (lv_at hl 2 rfl) ?_
                  refine xm_vget (v := .long ((xpl st) (c1 - 1))) hx hb htx hown hK hP 1 (by decide) hg2 rfl ((hZ.1 (96, "n", "J") (List.mem_of_getElem? (i := 1) rfl)).use rfl) rfl dM_times_156 ?_
                  refine xm_aload_n hx hb (xvor _ _) dM_times_159 rfl (lv_at hl 1 rfl) ?_
                  refine xm_vget (v := .int ((xpi st 3) (c0 - 1))) hx hb htx hown hK hP 3 (by decide) hg1 rfl ((hZ.1 (103, "count", "I") (List.mem_of_getElem? (i := 3) rfl)).use rfl) rfl dM_times_160 ?_
                  refine lv_i2l hx hb dM_times_163 rfl ?_
                  refine lv_lconst (v := 1) hx hb dM_times_164 (by decide) ?_
                  refine lv_ladd hx hb dM_times_165 ?_
                  refine lv_lmul hx hb dM_times_166 ?_
                  refine lv_ldc2 hx hb hown (htx _ kw_6_221) dM_times_167 ?_
                  refine W.lcmp hx hb dM_times_170 ?_
                  refine lv_if_le (tgt := 197) hx hb dM_times_171 (by decide) (fun hc => ?_) (fun hc => ?_)
                  · rw [if_pos hc] at hf
                    refine xm_aload_n hx hb (xvor _ _) dM_times_197 rfl (lv_at hl 1 rfl) ?_
                    refine xm_vget (v := .int ((xpi st 3) (c0 - 1))) hx hb htx hown hK hP 3 (by decide) hg1 rfl ((hZ.1 (103, "count", "I") (List.mem_of_getElem? (i := 3) rfl)).use rfl) rfl dM_times_198 ?_
                    refine lv_if_le (tgt := 225) hx hb dM_times_201 (by decide) (fun hc => ?_) (fun hc => ?_)
                    · rw [if_pos hc] at hf
                      refine lv_aload_n hx hb dM_times_225 rfl (lv_at hl 0 rfl) ?_
                      refine xm_get (v := .int (xsi st 4)) hx hb htx hown hK hP 4 (by decide) rfl (htx _ kw_5_91) rfl dM_times_226 ?_
                      refine lv_istore_n (lv' := [(3, .int (xsi st 4)), (0, .ref aM), (1, xv vad c0), (2, xv vad c1)]) hx hb dM_times_229 rfl hl (by decide) (by simp only [List.filter, xvcat, xrscat, xcI, xcL, xcR, xcN]; rfl) (fun ls hl => ?_)
                      refine lv_lconst (v := 0) hx hb dM_times_230 (by decide) ?_
                      refine lv_lstore (lv' := [(4, .long 0), (3, .int (xsi st 4)), (0, .ref aM), (1, xv vad c0), (2, xv vad c1)]) hx hb dM_times_231 hl (by decide) rfl (fun ls hl => ?_)
                      exact key n (1, (0 : Int64), (xsi st 4), c0, c1, st, 0, 0) _ _ ls (⟨ad, gd, vad, rfl, hf, hP, hD, hS, lv_sub hl [0, 1, 2, 3, 4] rfl, hE, hN⟩)
                    · rw [if_neg hc] at hf
                      refine xm_aload_n hx hb (xvor _ _) dM_times_204 rfl (lv_at hl 2 rfl) ?_
                      refine xm_vget (v := .long ((xpl st) (c1 - 1))) hx hb htx hown hK hP 1 (by decide) hg2 rfl ((hZ.1 (96, "n", "J") (List.mem_of_getElem? (i := 1) rfl)).use rfl) rfl dM_times_205 ?_
                      refine lv_ldc hx hb hown (htx _ kw_6_62) dM_times_208 ?_
                      refine xm_aload_n hx hb (xvor _ _) dM_times_210 rfl (lv_at hl 1 rfl) ?_
                      refine xm_vget (v := .int ((xpi st 3) (c0 - 1))) hx hb htx hown hK hP 3 (by decide) hg1 rfl ((hZ.1 (103, "count", "I") (List.mem_of_getElem? (i := 3) rfl)).use rfl) rfl dM_times_211 ?_
                      obtain ⟨hg3, hf⟩ := xifn hf
                      refine lv_idiv hx hb dM_times_214 hg3 ?_
                      refine lv_i2l hx hb dM_times_215 rfl ?_
                      refine W.lcmp hx hb dM_times_216 ?_
                      refine lv_if_le (tgt := 225) hx hb dM_times_217 (by decide) (fun hc => ?_) (fun hc => ?_)
                      · rw [if_pos hc] at hf
                        refine lv_aload_n hx hb dM_times_225 rfl (lv_at hl 0 rfl) ?_
                        refine xm_get (v := .int (xsi st 4)) hx hb htx hown hK hP 4 (by decide) rfl (htx _ kw_5_91) rfl dM_times_226 ?_
                        refine lv_istore_n (lv' := [(3, .int (xsi st 4)), (0, .ref aM), (1, xv vad c0), (2, xv vad c1)]) hx hb dM_times_229 rfl hl (by decide) (by simp only [List.filter, xvcat, xrscat, xcI, xcL, xcR, xcN]; rfl) (fun ls hl => ?_)
                        refine lv_lconst (v := 0) hx hb dM_times_230 (by decide) ?_
                        refine lv_lstore (lv' := [(4, .long 0), (3, .int (xsi st 4)), (0, .ref aM), (1, xv vad c0), (2, xv vad c1)]) hx hb dM_times_231 hl (by decide) rfl (fun ls hl => ?_)
                        exact key n (1, (0 : Int64), (xsi st 4), c0, c1, st, 0, 0) _ _ ls (⟨ad, gd, vad, rfl, hf, hP, hD, hS, lv_sub hl [0, 1, 2, 3, 4] rfl, hE, hN⟩)
                      · rw [if_neg hc] at hf
                        refine lv_aload_n hx hb dM_times_220 rfl (lv_at hl 0 rfl) ?_
                        obtain ⟨o4, hq5, hf⟩ := xbind hf
                        have hl := lv_sub (l' := [(0, .ref aM)]) hl [0] rfl
                        by_cases hk6 : o4.1 = 1
                        · rw [if_pos hk6] at hf
                          obtain ⟨hm7, hf⟩ := xmoE hf
                          obtain rfl := Option.some.inj hf
                          exact absurd (show (2 : Nat) = 1 from hkd) (by decide)
                        rw [if_neg hk6] at hf
                        exact nomatch hf
                  · rw [if_neg hc] at hf
                    refine xm_aload_n hx hb (xvor _ _) dM_times_174 rfl (lv_at hl 1 rfl) ?_
                    refine xm_vget (v := .int ((xpi st 3) (c0 - 1))) hx hb htx hown hK hP 3 (by decide) hg1 rfl ((hZ.1 (103, "count", "I") (List.mem_of_getElem? (i := 3) rfl)).use rfl) rfl dM_times_175 ?_
                    refine lv_if_le (tgt := 197) hx hb dM_times_178 (by decide) (fun hc => ?_) (fun hc => ?_)
                    · rw [if_pos hc] at hf
                      refine xm_aload_n hx hb (xvor _ _) dM_times_197 rfl (lv_at hl 1 rfl) ?_
                      refine xm_vget (v := .int ((xpi st 3) (c0 - 1))) hx hb htx hown hK hP 3 (by decide) hg1 rfl ((hZ.1 (103, "count", "I") (List.mem_of_getElem? (i := 3) rfl)).use rfl) rfl dM_times_198 ?_
                      refine lv_if_le (tgt := 225) hx hb dM_times_201 (by decide) (fun hc => ?_) (fun hc => ?_)
                      · rw [if_pos hc] at hf
                        refine lv_aload_n hx hb dM_times_225 rfl (lv_at hl 0 rfl) ?_
                        refine xm_get (v := .int (xsi st 4)) hx hb htx hown hK hP 4 (by decide) rfl (htx _ kw_5_91) rfl dM_times_226 ?_
                        refine lv_istore_n (lv' := [(3, .int (xsi st 4)), (0, .ref aM), (1, xv vad c0), (2, xv vad c1)]) hx hb dM_times_229 rfl hl (by decide) (by simp only [List.filter, xvcat, xrscat, xcI, xcL, xcR, xcN]; rfl) (fun ls hl => ?_)
                        refine lv_lconst (v := 0) hx hb dM_times_230 (by decide) ?_
                        refine lv_lstore (lv' := [(4, .long 0), (3, .int (xsi st 4)), (0, .ref aM), (1, xv vad c0), (2, xv vad c1)]) hx hb dM_times_231 hl (by decide) rfl (fun ls hl => ?_)
                        exact key n (1, (0 : Int64), (xsi st 4), c0, c1, st, 0, 0) _ _ ls (⟨ad, gd, vad, rfl, hf, hP, hD, hS, lv_sub hl [0, 1, 2, 3, 4] rfl, hE, hN⟩)
                      · rw [if_neg hc] at hf
                        refine xm_aload_n hx hb (xvor _ _) dM_times_204 rfl (lv_at hl 2 rfl) ?_
                        refine xm_vget (v := .long ((xpl st) (c1 - 1))) hx hb htx hown hK hP 1 (by decide) hg2 rfl ((hZ.1 (96, "n", "J") (List.mem_of_getElem? (i := 1) rfl)).use rfl) rfl dM_times_205 ?_
                        refine lv_ldc hx hb hown (htx _ kw_6_62) dM_times_208 ?_
                        refine xm_aload_n hx hb (xvor _ _) dM_times_210 rfl (lv_at hl 1 rfl) ?_
                        refine xm_vget (v := .int ((xpi st 3) (c0 - 1))) hx hb htx hown hK hP 3 (by decide) hg1 rfl ((hZ.1 (103, "count", "I") (List.mem_of_getElem? (i := 3) rfl)).use rfl) rfl dM_times_211 ?_
                        obtain ⟨hg3, hf⟩ := xifn hf
                        refine lv_idiv hx hb dM_times_214 hg3 ?_
                        refine lv_i2l hx hb dM_times_215 rfl ?_
                        refine W.lcmp hx hb dM_times_216 ?_
                        refine lv_if_le (tgt := 225) hx hb dM_times_217 (by decide) (fun hc => ?_) (fun hc => ?_)
                        · rw [if_pos hc] at hf
                          refine lv_aload_n hx hb dM_times_225 rfl (lv_at hl 0 rfl) ?_
                          refine xm_get (v := .int (xsi st 4)) hx hb htx hown hK hP 4 (by decide) rfl (htx _ kw_5_91) rfl dM_times_226 ?_
                          refine lv_istore_n (lv' := [(3, .int (xsi st 4)), (0, .ref aM), (1, xv vad c0), (2, xv vad c1)]) hx hb dM_times_229 rfl hl (by decide) (by simp only [List.filter, xvcat, xrscat, xcI, xcL, xcR, xcN]; rfl) (fun ls hl => ?_)
                          refine lv_lconst (v := 0) hx hb dM_times_230 (by decide) ?_
                          refine lv_lstore (lv' := [(4, .long 0), (3, .int (xsi st 4)), (0, .ref aM), (1, xv vad c0), (2, xv vad c1)]) hx hb dM_times_231 hl (by decide) rfl (fun ls hl => ?_)
                          exact key n (1, (0 : Int64), (xsi st 4), c0, c1, st, 0, 0) _ _ ls (⟨ad, gd, vad, rfl, hf, hP, hD, hS, lv_sub hl [0, 1, 2, 3, 4] rfl, hE, hN⟩)
                        · rw [if_neg hc] at hf
                          refine lv_aload_n hx hb dM_times_220 rfl (lv_at hl 0 rfl) ?_
                          obtain ⟨o4, hq5, hf⟩ := xbind hf
                          have hl := lv_sub (l' := [(0, .ref aM)]) hl [0] rfl
                          by_cases hk6 : o4.1 = 1
                          · rw [if_pos hk6] at hf
                            obtain ⟨hm7, hf⟩ := xmoE hf
                            obtain rfl := Option.some.inj hf
                            exact absurd (show (2 : Nat) = 1 from hkd) (by decide)
                          rw [if_neg hk6] at hf
                          exact nomatch hf
                    · rw [if_neg hc] at hf
                      refine xm_aload_n hx hb (xvor _ _) dM_times_181 rfl (lv_at hl 2 rfl) ?_
                      refine xm_vget (v := .long ((xpl st) (c1 - 1))) hx hb htx hown hK hP 1 (by decide) hg2 rfl ((hZ.1 (96, "n", "J") (List.mem_of_getElem? (i := 1) rfl)).use rfl) rfl dM_times_182 ?_
                      refine lv_ldc2 hx hb hown (htx _ kw_6_108) dM_times_185 ?_
                      refine W.lcmp hx hb dM_times_188 ?_
                      refine lv_if_le (tgt := 197) hx hb dM_times_189 (by decide) (fun hc => ?_) (fun hc => ?_)
                      · rw [if_pos hc] at hf
                        refine xm_aload_n hx hb (xvor _ _) dM_times_197 rfl (lv_at hl 1 rfl) ?_
                        refine xm_vget (v := .int ((xpi st 3) (c0 - 1))) hx hb htx hown hK hP 3 (by decide) hg1 rfl ((hZ.1 (103, "count", "I") (List.mem_of_getElem? (i := 3) rfl)).use rfl) rfl dM_times_198 ?_
                        refine lv_if_le (tgt := 225) hx hb dM_times_201 (by decide) (fun hc => ?_) (fun hc => ?_)
                        · rw [if_pos hc] at hf
                          refine lv_aload_n hx hb dM_times_225 rfl (lv_at hl 0 rfl) ?_
                          refine xm_get (v := .int (xsi st 4)) hx hb htx hown hK hP 4 (by decide) rfl (htx _ kw_5_91) rfl dM_times_226 ?_
                          refine lv_istore_n (lv' := [(3, .int (xsi st 4)), (0, .ref aM), (1, xv vad c0), (2, xv vad c1)]) hx hb dM_times_229 rfl hl (by decide) (by simp only [List.filter, xvcat, xrscat, xcI, xcL, xcR, xcN]; rfl) (fun ls hl => ?_)
                          refine lv_lconst (v := 0) hx hb dM_times_230 (by decide) ?_
                          refine lv_lstore (lv' := [(4, .long 0), (3, .int (xsi st 4)), (0, .ref aM), (1, xv vad c0), (2, xv vad c1)]) hx hb dM_times_231 hl (by decide) rfl (fun ls hl => ?_)
                          exact key n (1, (0 : Int64), (xsi st 4), c0, c1, st, 0, 0) _ _ ls (⟨ad, gd, vad, rfl, hf, hP, hD, hS, lv_sub hl [0, 1, 2, 3, 4] rfl, hE, hN⟩)
                        · rw [if_neg hc] at hf
                          refine xm_aload_n hx hb (xvor _ _) dM_times_204 rfl (lv_at hl 2 rfl) ?_
                          refine xm_vget (v := .long ((xpl st) (c1 - 1))) hx hb htx hown hK hP 1 (by decide) hg2 rfl ((hZ.1 (96, "n", "J") (List.mem_of_getElem? (i := 1) rfl)).use rfl) rfl dM_times_205 ?_
                          refine lv_ldc hx hb hown (htx _ kw_6_62) dM_times_208 ?_
                          refine xm_aload_n hx hb (xvor _ _) dM_times_210 rfl (lv_at hl 1 rfl) ?_
                          refine xm_vget (v := .int ((xpi st 3) (c0 - 1))) hx hb htx hown hK hP 3 (by decide) hg1 rfl ((hZ.1 (103, "count", "I") (List.mem_of_getElem? (i := 3) rfl)).use rfl) rfl dM_times_211 ?_
                          obtain ⟨hg3, hf⟩ := xifn hf
                          refine lv_idiv hx hb dM_times_214 hg3 ?_
                          refine lv_i2l hx hb dM_times_215 rfl ?_
                          refine W.lcmp hx hb dM_times_216 ?_
                          refine lv_if_le (tgt := 225) hx hb dM_times_217 (by decide) (fun hc => ?_) (fun hc => ?_)
                          · rw [if_pos hc] at hf
                            refine lv_aload_n hx hb dM_times_225 rfl (lv_at hl 0 rfl) ?_
                            refine xm_get (v := .int (xsi st 4)) hx hb htx hown hK hP 4 (by decide) rfl (htx _ kw_5_91) rfl dM_times_226 ?_
                            refine lv_istore_n (lv' := [(3, .int (xsi st 4)), (0, .ref aM), (1, xv vad c0), (2, xv vad c1)]) hx hb dM_times_229 rfl hl (by decide) (by simp only [List.filter, xvcat, xrscat, xcI, xcL, xcR, xcN]; rfl) (fun ls hl => ?_)
                            refine lv_lconst (v := 0) hx hb dM_times_230 (by decide) ?_
                            refine lv_lstore (lv' := [(4, .long 0), (3, .int (xsi st 4)), (0, .ref aM), (1, xv vad c0), (2, xv vad c1)]) hx hb dM_times_231 hl (by decide) rfl (fun ls hl => ?_)
                            exact key n (1, (0 : Int64), (xsi st 4), c0, c1, st, 0, 0) _ _ ls (⟨ad, gd, vad, rfl, hf, hP, hD, hS, lv_sub hl [0, 1, 2, 3, 4] rfl, hE, hN⟩)
                          · rw [if_neg hc] at hf
                            refine lv_aload_n hx hb dM_times_220 rfl (lv_at hl 0 rfl) ?_
                            obtain ⟨o4, hq5, hf⟩ := xbind hf
                            have hl := lv_sub (l' := [(0, .ref aM)]) hl [0] rfl
                            by_cases hk6 : o4.1 = 1
                            · rw [if_pos hk6] at hf
                              obtain ⟨hm7, hf⟩ := xmoE hf
                              obtain rfl := Option.some.inj hf
                              exact absurd (show (2 : Nat) = 1 from hkd) (by decide)
                            rw [if_neg hk6] at hf
                            exact nomatch hf
                      · rw [if_neg hc] at hf
                        refine lv_aload_n hx hb dM_times_192 rfl (lv_at hl 0 rfl) ?_
                        obtain ⟨o3, hq4, hf⟩ := xbind hf
                        have hl := lv_sub (l' := [(0, .ref aM)]) hl [0] rfl
                        by_cases hk5 : o3.1 = 1
                        · rw [if_pos hk5] at hf
                          obtain ⟨hm6, hf⟩ := xmoE hf
                          obtain rfl := Option.some.inj hf
                          exact absurd (show (2 : Nat) = 1 from hkd) (by decide)
                        rw [if_neg hk5] at hf
                        exact nomatch hf
                · rw [if_neg hc] at hf
                  refine lv_aload_n hx hb dM_times_149 rfl (lv_at hl 0 rfl) ?_
                  refine lv_iconst (v := 0) hx hb dM_times_150 (by decide) ?_
                  obtain ⟨o3, hq4, hf⟩ := xbind hf
                  have hl := lv_sub (l' := [(0, .ref aM)]) hl [0] rfl
                  obtain ⟨hm5, hf⟩ := xmoE hf
                  have hFc := xm_free hD hS hA
                  refine va_callq (va_runV (C := "ValueBenchModel") (As := [.int 0]) (rest := []) ⟨hx, hb, hml, hown, htx⟩ (gM_fresh l hl9 D cT aK aV s.heap.size n aM ad rd gd vad st (0 : Int32) o3 hq4) ⟨callB_of 1 htx (xw_goodC kw_6_16) rfl rfl rfl (htx _ kw_1_5) (htx _ kw_6_13) ⟨by decide, by decide, by decide +kernel⟩ ⟨Nat.le_of_ble_eq_true rfl, Nat.le_of_ble_eq_true rfl⟩, (htx _ kw_6_15), (htx _ kp_M_fresh)⟩ ⟨xPre_blind, va_recv hK hP (ci := 5) rfl (q0 := 0) rfl, (fun U hU hW => ⟨rfl, xPre_of hZ hS hFc hP hD hK U hU hW⟩)⟩ rfl rfl hl.1 rfl (xm_room (Nat.le_of_ble_eq_true rfl)) dM_times_151 ⟨hm5.1, hm5.2⟩) hS (fun q _ h => hFc q h) hFc (fun r6 u9 t H1 locs ht hvm hr9 hB hz1 hk1 hS => ?_)
                  obtain ⟨hP1, hK1, hD1⟩ := hB
                  rw [ht] at hP1
                  obtain ⟨ad7, gd8, vad9⟩ := u9
                  obtain ⟨hr9, hv10, hn11⟩ := hr9
                  have hP : va_P D xcl (xMw cT aM ad7 rd gd8 vad9 o3.2.2.2 []) H1 := hP1
                  have hD : va_D A (xMw cT aM ad7 rd gd8 vad9 o3.2.2.2 []) := hD1.weaken (fun k q _ h => hFc q.1 h)
                  generalize H1 = H at hP hS ⊢
                  have hE9 : ∀ p, p < xct st → vad9 p = vad p := fun p h => (hv10 p (Nat.lt_of_lt_of_le h hN)).trans (hE p h)
                  have hE := hE9
                  have hN : xct st ≤ xct o3.2.2.2 := Nat.le_trans hN hn11
                  rw [hr9]
                  refine W.eq (g2 := F0 m 154 ls [xv vad9 o3.2.2.1]) (by first | rfl | (skip; rfl)) ?_
                  obtain rfl := Option.some.inj hf
                  exact absurd (show (0 : Nat) = 1 from hkd) (by decide)
              · rw [if_neg hc] at hf
                refine lv_aload_n hx hb dM_times_134 rfl (lv_at hl 0 rfl) ?_
                refine lv_iconst (v := 1) hx hb dM_times_135 (by decide) ?_
                obtain ⟨o3, hq4, hf⟩ := xbind hf
                have hl := lv_sub (l' := [(0, .ref aM)]) hl [0] rfl
                by_cases hk5 : o3.1 = 1
                · rw [if_pos hk5] at hf
                  obtain ⟨hm6, hf⟩ := xmoE hf
                  have hFc := xm_free hD hS hA
                  refine xx_thr (vx_runV (C := "ValueBenchModel") (As := [.int 1]) (rest := []) ⟨hx, hb, hml, hown, htx⟩ (gM_refuse_1 l hl9 D cT aK aV s.heap.size n aM ad rd gd vad st (1 : Int32) o3 hq4 hk5) ⟨callB_of 1 htx (xw_goodC kw_6_93) rfl rfl rfl (htx _ kw_1_5) (htx _ kw_6_90) ⟨by decide, by decide, by decide +kernel⟩ ⟨Nat.le_of_ble_eq_true rfl, Nat.le_of_ble_eq_true rfl⟩, (htx _ kw_6_92), (htx _ kp_M_refuse)⟩ ⟨xPre_blind, va_recv hK hP (ci := 5) rfl (q0 := 0) rfl, (fun U hU hW => ⟨rfl, xPre_of hZ hS hFc hP hD hK U hU hW⟩)⟩ rfl rfl hl.1 rfl (xm_room (Nat.le_of_ble_eq_true rfl)) dM_times_136 ⟨hm6.1, hm6.2⟩) hS hFc (fun q _ h => hFc q h) (fun E ce q9 u9 t H1 locs ht hvm hr9 hB hz1 hk1 hS hce hcv hcl => ?_)
                  obtain ⟨rfl, hP1, hK1, hD1⟩ := hB
                  rw [ht] at hP1
                  obtain ⟨ad8, gd9, vad10⟩ := u9
                  obtain ⟨hv11, hn12⟩ := hr9
                  have hP : va_P D xcl (xMw cT aM ad8 rd gd9 vad10 o3.2.2.2.2 []) H1 := hP1
                  have hD : va_D A (xMw cT aM ad8 rd gd9 vad10 o3.2.2.2.2 []) := hD1.weaken (fun k q _ h => hFc q.1 h)
                  generalize H1 = H at hP hS hce ⊢
                  have hE9 : ∀ p, p < xct st → vad10 p = vad p := fun p h => (hv11 p (Nat.lt_of_lt_of_le h hN)).trans (hE p h)
                  have hE := hE9
                  have hN : xct st ≤ xct o3.2.2.2.2 := Nat.le_trans hN hn12
                  obtain rfl := Option.some.inj hf
                  exact vx_out (E := "java/lang/ArithmeticException") (fun x h => (hne x h).elim) hlocks hce hcv hcl (fun t ht ha => ⟨(ad8, gd9, vad10), ⟨hE, hN⟩, ⟨rfl, by rw [ht]; exact hP, va_K.moved ha hK, hD⟩, hS.F ht⟩) hS.2.2 (Nat.le_refl _) (Nat.le_refl _)
                rw [if_neg hk5] at hf
                exact nomatch hf
          · rw [if_pos hc] at hf
            refine xm_aload_n hx hb (xvor _ _) dM_times_103 rfl (lv_at hl 2 rfl) ?_
            obtain ⟨hg2, hf⟩ := xifn hf
            refine xm_vget (v := .int ((xpi st 0) (c1 - 1))) hx hb htx hown hK hP 0 (by decide) hg2 rfl ((hZ.1 (93, "kind", "I") (List.mem_of_getElem? (i := 0) rfl)).use rfl) rfl dM_times_104 ?_
            refine lv_iconst (v := 4) hx hb dM_times_107 (by decide) ?_
            refine lv_icmp_ne (tgt := 118) hx hb dM_times_108 (by decide) (fun hc => ?_) (fun hc => ?_)
            · rw [if_neg hc] at hf
              refine xm_aload_n hx hb (xvor _ _) dM_times_118 rfl (lv_at hl 1 rfl) ?_
              refine xm_vget (v := .int ((xpi st 0) (c0 - 1))) hx hb htx hown hK hP 0 (by decide) hg1 rfl ((hZ.1 (93, "kind", "I") (List.mem_of_getElem? (i := 0) rfl)).use rfl) rfl dM_times_119 ?_
              refine lv_iconst (v := 4) hx hb dM_times_122 (by decide) ?_
              refine lv_icmp_ne (tgt := 134) hx hb dM_times_123 (by decide) (fun hc => ?_) (fun hc => ?_)
              · rw [if_neg hc] at hf
                refine lv_aload_n hx hb dM_times_134 rfl (lv_at hl 0 rfl) ?_
                refine lv_iconst (v := 1) hx hb dM_times_135 (by decide) ?_
                obtain ⟨o3, hq4, hf⟩ := xbind hf
                have hl := lv_sub (l' := [(0, .ref aM)]) hl [0] rfl
                by_cases hk5 : o3.1 = 1
                · rw [if_pos hk5] at hf
                  obtain ⟨hm6, hf⟩ := xmoE hf
                  have hFc := xm_free hD hS hA
                  refine xx_thr (vx_runV (C := "ValueBenchModel") (As := [.int 1]) (rest := []) ⟨hx, hb, hml, hown, htx⟩ (gM_refuse_1 l hl9 D cT aK aV s.heap.size n aM ad rd gd vad st (1 : Int32) o3 hq4 hk5) ⟨callB_of 1 htx (xw_goodC kw_6_93) rfl rfl rfl (htx _ kw_1_5) (htx _ kw_6_90) ⟨by decide, by decide, by decide +kernel⟩ ⟨Nat.le_of_ble_eq_true rfl, Nat.le_of_ble_eq_true rfl⟩, (htx _ kw_6_92), (htx _ kp_M_refuse)⟩ ⟨xPre_blind, va_recv hK hP (ci := 5) rfl (q0 := 0) rfl, (fun U hU hW => ⟨rfl, xPre_of hZ hS hFc hP hD hK U hU hW⟩)⟩ rfl rfl hl.1 rfl (xm_room (Nat.le_of_ble_eq_true rfl)) dM_times_136 ⟨hm6.1, hm6.2⟩) hS hFc (fun q _ h => hFc q h) (fun E ce q9 u9 t H1 locs ht hvm hr9 hB hz1 hk1 hS hce hcv hcl => ?_)
                  obtain ⟨rfl, hP1, hK1, hD1⟩ := hB
                  rw [ht] at hP1
                  obtain ⟨ad8, gd9, vad10⟩ := u9
                  obtain ⟨hv11, hn12⟩ := hr9
                  have hP : va_P D xcl (xMw cT aM ad8 rd gd9 vad10 o3.2.2.2.2 []) H1 := hP1
                  have hD : va_D A (xMw cT aM ad8 rd gd9 vad10 o3.2.2.2.2 []) := hD1.weaken (fun k q _ h => hFc q.1 h)
                  generalize H1 = H at hP hS hce ⊢
                  have hE9 : ∀ p, p < xct st → vad10 p = vad p := fun p h => (hv11 p (Nat.lt_of_lt_of_le h hN)).trans (hE p h)
                  have hE := hE9
                  have hN : xct st ≤ xct o3.2.2.2.2 := Nat.le_trans hN hn12
                  obtain rfl := Option.some.inj hf
                  exact vx_out (E := "java/lang/ArithmeticException") (fun x h => (hne x h).elim) hlocks hce hcv hcl (fun t ht ha => ⟨(ad8, gd9, vad10), ⟨hE, hN⟩, ⟨rfl, by rw [ht]; exact hP, va_K.moved ha hK, hD⟩, hS.F ht⟩) hS.2.2 (Nat.le_refl _) (Nat.le_refl _)
                rw [if_neg hk5] at hf
                exact nomatch hf
              · rw [if_pos hc] at hf
                refine xm_aload_n hx hb (xvor _ _) dM_times_126 rfl (lv_at hl 2 rfl) ?_
                refine xm_vget (v := .int ((xpi st 0) (c1 - 1))) hx hb htx hown hK hP 0 (by decide) hg2 rfl ((hZ.1 (93, "kind", "I") (List.mem_of_getElem? (i := 0) rfl)).use rfl) rfl dM_times_127 ?_
                refine lv_iconst (v := 3) hx hb dM_times_130 (by decide) ?_
                refine lv_icmp_eq (tgt := 140) hx hb dM_times_131 (by decide) (fun hc => ?_) (fun hc => ?_)
                · rw [if_pos hc] at hf
                  refine xm_aload_n hx hb (xvor _ _) dM_times_140 rfl (lv_at hl 2 rfl) ?_
                  refine xm_vget (v := .long ((xpl st) (c1 - 1))) hx hb htx hown hK hP 1 (by decide) hg2 rfl ((hZ.1 (96, "n", "J") (List.mem_of_getElem? (i := 1) rfl)).use rfl) rfl dM_times_141 ?_
                  refine lv_lconst (v := 1) hx hb dM_times_144 (by decide) ?_
                  refine W.lcmp hx hb dM_times_145 ?_
                  refine lv_if_ge (tgt := 155) hx hb dM_times_146 (by decide) (fun hc => ?_) (fun hc => ?_)
                  · rw [if_pos hc] at hf
                    refine xm_aload_n hx hb (xvor _ _) dM_times_155 rfl (lv_at hl 2 rfl) ?_
                    refine xm_vget (v := .long ((xpl st) (c1 - 1))) hx hb htx hown hK hP 1 (by decide) hg2 rfl ((hZ.1 (96, "n", "J") (List.mem_of_getElem? (i := 1) rfl)).use rfl) rfl dM_times_156 ?_
                    refine xm_aload_n hx hb (xvor _ _) dM_times_159 rfl (lv_at hl 1 rfl) ?_
                    refine xm_vget (v := .int ((xpi st 3) (c0 - 1))) hx hb htx hown hK hP 3 (by decide) hg1 rfl ((hZ.1 (103, "count", "I") (List.mem_of_getElem? (i := 3) rfl)).use rfl) rfl dM_times_160 ?_
                    refine lv_i2l hx hb dM_times_163 rfl ?_
                    refine lv_lconst (v := 1) hx hb dM_times_164 (by decide) ?_
                    refine lv_ladd hx hb dM_times_165 ?_
                    refine lv_lmul hx hb dM_times_166 ?_
                    refine lv_ldc2 hx hb hown (htx _ kw_6_221) dM_times_167 ?_
                    refine W.lcmp hx hb dM_times_170 ?_
                    refine lv_if_le (tgt := 197) hx hb dM_times_171 (by decide) (fun hc => ?_) (fun hc => ?_)
                    · rw [if_pos hc] at hf
                      refine xm_aload_n hx hb (xvor _ _) dM_times_197 rfl (lv_at hl 1 rfl) ?_
                      refine xm_vget (v := .int ((xpi st 3) (c0 - 1))) hx hb htx hown hK hP 3 (by decide) hg1 rfl ((hZ.1 (103, "count", "I") (List.mem_of_getElem? (i := 3) rfl)).use rfl) rfl dM_times_198 ?_
                      refine lv_if_le (tgt := 225) hx hb dM_times_201 (by decide) (fun hc => ?_) (fun hc => ?_)
                      · rw [if_pos hc] at hf
                        refine lv_aload_n hx hb dM_times_225 rfl (lv_at hl 0 rfl) ?_
                        refine xm_get (v := .int (xsi st 4)) hx hb htx hown hK hP 4 (by decide) rfl (htx _ kw_5_91) rfl dM_times_226 ?_
                        refine lv_istore_n (lv' := [(3, .int (xsi st 4)), (0, .ref aM), (1, xv vad c0), (2, xv vad c1)]) hx hb dM_times_229 rfl hl (by decide) (by simp only [List.filter, xvcat, xrscat, xcI, xcL, xcR, xcN]; rfl) (fun ls hl => ?_)
                        refine lv_lconst (v := 0) hx hb dM_times_230 (by decide) ?_
                        refine lv_lstore (lv' := [(4, .long 0), (3, .int (xsi st 4)), (0, .ref aM), (1, xv vad c0), (2, xv vad c1)]) hx hb dM_times_231 hl (by decide) rfl (fun ls hl => ?_)
                        exact key n (1, (0 : Int64), (xsi st 4), c0, c1, st, 0, 0) _ _ ls (⟨ad, gd, vad, rfl, hf, hP, hD, hS, lv_sub hl [0, 1, 2, 3, 4] rfl, hE, hN⟩)
                      · rw [if_neg hc] at hf
                        refine xm_aload_n hx hb (xvor _ _) dM_times_204 rfl (lv_at hl 2 rfl) ?_
                        refine xm_vget (v := .long ((xpl st) (c1 - 1))) hx hb htx hown hK hP 1 (by decide) hg2 rfl ((hZ.1 (96, "n", "J") (List.mem_of_getElem? (i := 1) rfl)).use rfl) rfl dM_times_205 ?_
                        refine lv_ldc hx hb hown (htx _ kw_6_62) dM_times_208 ?_
                        refine xm_aload_n hx hb (xvor _ _) dM_times_210 rfl (lv_at hl 1 rfl) ?_
                        refine xm_vget (v := .int ((xpi st 3) (c0 - 1))) hx hb htx hown hK hP 3 (by decide) hg1 rfl ((hZ.1 (103, "count", "I") (List.mem_of_getElem? (i := 3) rfl)).use rfl) rfl dM_times_211 ?_
                        obtain ⟨hg3, hf⟩ := xifn hf
                        refine lv_idiv hx hb dM_times_214 hg3 ?_
                        refine lv_i2l hx hb dM_times_215 rfl ?_
                        refine W.lcmp hx hb dM_times_216 ?_
                        refine lv_if_le (tgt := 225) hx hb dM_times_217 (by decide) (fun hc => ?_) (fun hc => ?_)
                        · rw [if_pos hc] at hf
                          refine lv_aload_n hx hb dM_times_225 rfl (lv_at hl 0 rfl) ?_
                          refine xm_get (v := .int (xsi st 4)) hx hb htx hown hK hP 4 (by decide) rfl (htx _ kw_5_91) rfl dM_times_226 ?_
                          refine lv_istore_n (lv' := [(3, .int (xsi st 4)), (0, .ref aM), (1, xv vad c0), (2, xv vad c1)]) hx hb dM_times_229 rfl hl (by decide) (by simp only [List.filter, xvcat, xrscat, xcI, xcL, xcR, xcN]; rfl) (fun ls hl => ?_)
                          refine lv_lconst (v := 0) hx hb dM_times_230 (by decide) ?_
                          refine lv_lstore (lv' := [(4, .long 0), (3, .int (xsi st 4)), (0, .ref aM), (1, xv vad c0), (2, xv vad c1)]) hx hb dM_times_231 hl (by decide) rfl (fun ls hl => ?_)
                          exact key n (1, (0 : Int64), (xsi st 4), c0, c1, st, 0, 0) _ _ ls (⟨ad, gd, vad, rfl, hf, hP, hD, hS, lv_sub hl [0, 1, 2, 3, 4] rfl, hE, hN⟩)
                        · rw [if_neg hc] at hf
                          refine lv_aload_n hx hb dM_times_220 rfl (lv_at hl 0 rfl) ?_
                          obtain ⟨o4, hq5, hf⟩ := xbind hf
                          have hl := lv_sub (l' := [(0, .ref aM)]) hl [0] rfl
                          by_cases hk6 : o4.1 = 1
                          · rw [if_pos hk6] at hf
                            obtain ⟨hm7, hf⟩ := xmoE hf
                            obtain rfl := Option.some.inj hf
                            exact absurd (show (2 : Nat) = 1 from hkd) (by decide)
                          rw [if_neg hk6] at hf
                          exact nomatch hf
                    · rw [if_neg hc] at hf
                      refine xm_aload_n hx hb (xvor _ _) dM_times_174 rfl (lv_at hl 1 rfl) ?_
                      refine xm_vget (v := .int ((xpi st 3) (c0 - 1))) hx hb htx hown hK hP 3 (by decide) hg1 rfl ((hZ.1 (103, "count", "I") (List.mem_of_getElem? (i := 3) rfl)).use rfl) rfl dM_times_175 ?_
                      refine lv_if_le (tgt := 197) hx hb dM_times_178 (by decide) (fun hc => ?_) (fun hc => ?_)
                      · rw [if_pos hc] at hf
                        refine xm_aload_n hx hb (xvor _ _) dM_times_197 rfl (lv_at hl 1 rfl) ?_
                        refine xm_vget (v := .int ((xpi st 3) (c0 - 1))) hx hb htx hown hK hP 3 (by decide) hg1 rfl ((hZ.1 (103, "count", "I") (List.mem_of_getElem? (i := 3) rfl)).use rfl) rfl dM_times_198 ?_
                        refine lv_if_le (tgt := 225) hx hb dM_times_201 (by decide) (fun hc => ?_) (fun hc => ?_)
                        · rw [if_pos hc] at hf
                          refine lv_aload_n hx hb dM_times_225 rfl (lv_at hl 0 rfl) ?_
                          refine xm_get (v := .int (xsi st 4)) hx hb htx hown hK hP 4 (by decide) rfl (htx _ kw_5_91) rfl dM_times_226 ?_
                          refine lv_istore_n (lv' := [(3, .int (xsi st 4)), (0, .ref aM), (1, xv vad c0), (2, xv vad c1)]) hx hb dM_times_229 rfl hl (by decide) (by simp only [List.filter, xvcat, xrscat, xcI, xcL, xcR, xcN]; rfl) (fun ls hl => ?_)
                          refine lv_lconst (v := 0) hx hb dM_times_230 (by decide) ?_
                          refine lv_lstore (lv' := [(4, .long 0), (3, .int (xsi st 4)), (0, .ref aM), (1, xv vad c0), (2, xv vad c1)]) hx hb dM_times_231 hl (by decide) rfl (fun ls hl => ?_)
                          exact key n (1, (0 : Int64), (xsi st 4), c0, c1, st, 0, 0) _ _ ls (⟨ad, gd, vad, rfl, hf, hP, hD, hS, lv_sub hl [0, 1, 2, 3, 4] rfl, hE, hN⟩)
                        · rw [if_neg hc] at hf
                          refine xm_aload_n hx hb (xvor _ _) dM_times_204 rfl (lv_at hl 2 rfl) ?_
                          refine xm_vget (v := .long ((xpl st) (c1 - 1))) hx hb htx hown hK hP 1 (by decide) hg2 rfl ((hZ.1 (96, "n", "J") (List.mem_of_getElem? (i := 1) rfl)).use rfl) rfl dM_times_205 ?_
                          refine lv_ldc hx hb hown (htx _ kw_6_62) dM_times_208 ?_
                          refine xm_aload_n hx hb (xvor _ _) dM_times_210 rfl (lv_at hl 1 rfl) ?_
                          refine xm_vget (v := .int ((xpi st 3) (c0 - 1))) hx hb htx hown hK hP 3 (by decide) hg1 rfl ((hZ.1 (103, "count", "I") (List.mem_of_getElem? (i := 3) rfl)).use rfl) rfl dM_times_211 ?_
                          obtain ⟨hg3, hf⟩ := xifn hf
                          refine lv_idiv hx hb dM_times_214 hg3 ?_
                          refine lv_i2l hx hb dM_times_215 rfl ?_
                          refine W.lcmp hx hb dM_times_216 ?_
                          refine lv_if_le (tgt := 225) hx hb dM_times_217 (by decide) (fun hc => ?_) (fun hc => ?_)
                          · rw [if_pos hc] at hf
                            refine lv_aload_n hx hb dM_times_225 rfl (lv_at hl 0 rfl) ?_
                            refine xm_get (v := .int (xsi st 4)) hx hb htx hown hK hP 4 (by decide) rfl (htx _ kw_5_91) rfl dM_times_226 ?_
                            refine lv_istore_n (lv' := [(3, .int (xsi st 4)), (0, .ref aM), (1, xv vad c0), (2, xv vad c1)]) hx hb dM_times_229 rfl hl (by decide) (by simp only [List.filter, xvcat, xrscat, xcI, xcL, xcR, xcN]; rfl) (fun ls hl => ?_)
                            refine lv_lconst (v := 0) hx hb dM_times_230 (by decide) ?_
                            refine lv_lstore (lv' := [(4, .long 0), (3, .int (xsi st 4)), (0, .ref aM), (1, xv vad c0), (2, xv vad c1)]) hx hb dM_times_231 hl (by decide) rfl (fun ls hl => ?_)
                            exact key n (1, (0 : Int64), (xsi st 4), c0, c1, st, 0, 0) _ _ ls (⟨ad, gd, vad, rfl, hf, hP, hD, hS, lv_sub hl [0, 1, 2, 3, 4] rfl, hE, hN⟩)
                          · rw [if_neg hc] at hf
                            refine lv_aload_n hx hb dM_times_220 rfl (lv_at hl 0 rfl) ?_
                            obtain ⟨o4, hq5, hf⟩ := xbind hf
                            have hl := lv_sub (l' := [(0, .ref aM)]) hl [0] rfl
                            by_cases hk6 : o4.1 = 1
                            · rw [if_pos hk6] at hf
                              obtain ⟨hm7, hf⟩ := xmoE hf
                              obtain rfl := Option.some.inj hf
                              exact absurd (show (2 : Nat) = 1 from hkd) (by decide)
                            rw [if_neg hk6] at hf
                            exact nomatch hf
                      · rw [if_neg hc] at hf
                        refine xm_aload_n hx hb (xvor _ _) dM_times_181 rfl (lv_at hl 2 rfl) ?_
                        refine xm_vget (v := .long ((xpl st) (c1 - 1))) hx hb htx hown hK hP 1 (by decide) hg2 rfl ((hZ.1 (96, "n", "J") (List.mem_of_getElem? (i := 1) rfl)).use rfl) rfl dM_times_182 ?_
                        refine lv_ldc2 hx hb hown (htx _ kw_6_108) dM_times_185 ?_
                        refine W.lcmp hx hb dM_times_188 ?_
                        refine lv_if_le (tgt := 197) hx hb dM_times_189 (by decide) (fun hc => ?_) (fun hc => ?_)
                        · rw [if_pos hc] at hf
                          refine xm_aload_n hx hb (xvor _ _) dM_times_197 rfl (lv_at hl 1 rfl) ?_
                          refine xm_vget (v := .int ((xpi st 3) (c0 - 1))) hx hb htx hown hK hP 3 (by decide) hg1 rfl ((hZ.1 (103, "count", "I") (List.mem_of_getElem? (i := 3) rfl)).use rfl) rfl dM_times_198 ?_
                          refine lv_if_le (tgt := 225) hx hb dM_times_201 (by decide) (fun hc => ?_) (fun hc => ?_)
                          · rw [if_pos hc] at hf
                            refine lv_aload_n hx hb dM_times_225 rfl (lv_at hl 0 rfl) ?_
                            refine xm_get (v := .int (xsi st 4)) hx hb htx hown hK hP 4 (by decide) rfl (htx _ kw_5_91) rfl dM_times_226 ?_
                            refine lv_istore_n (lv' := [(3, .int (xsi st 4)), (0, .ref aM), (1, xv vad c0), (2, xv vad c1)]) hx hb dM_times_229 rfl hl (by decide) (by simp only [List.filter, xvcat, xrscat, xcI, xcL, xcR, xcN]; rfl) (fun ls hl => ?_)
                            refine lv_lconst (v := 0) hx hb dM_times_230 (by decide) ?_
                            refine lv_lstore (lv' := [(4, .long 0), (3, .int (xsi st 4)), (0, .ref aM), (1, xv vad c0), (2, xv vad c1)]) hx hb dM_times_231 hl (by decide) rfl (fun ls hl => ?_)
                            exact key n (1, (0 : Int64), (xsi st 4), c0, c1, st, 0, 0) _ _ ls (⟨ad, gd, vad, rfl, hf, hP, hD, hS, lv_sub hl [0, 1, 2, 3, 4] rfl, hE, hN⟩)
                          · rw [if_neg hc] at hf
                            refine xm_aload_n hx hb (xvor _ _) dM_times_204 rfl (lv_at hl 2 rfl) ?_
                            refine xm_vget (v := .long ((xpl st) (c1 - 1))) hx hb htx hown hK hP 1 (by decide) hg2 rfl ((hZ.1 (96, "n", "J") (List.mem_of_getElem? (i := 1) rfl)).use rfl) rfl dM_times_205 ?_
                            refine lv_ldc hx hb hown (htx _ kw_6_62) dM_times_208 ?_
                            refine xm_aload_n hx hb (xvor _ _) dM_times_210 rfl (lv_at hl 1 rfl) ?_
                            refine xm_vget (v := .int ((xpi st 3) (c0 - 1))) hx hb htx hown hK hP 3 (by decide) hg1 rfl ((hZ.1 (103, "count", "I") (List.mem_of_getElem? (i := 3) rfl)).use rfl) rfl dM_times_211 ?_
                            obtain ⟨hg3, hf⟩ := xifn hf
                            refine lv_idiv hx hb dM_times_214 hg3 ?_
                            refine lv_i2l hx hb dM_times_215 rfl ?_
                            refine W.lcmp hx hb dM_times_216 ?_
                            refine lv_if_le (tgt := 225) hx hb dM_times_217 (by decide) (fun hc => ?_) (fun hc => ?_)
                            · rw [if_pos hc] at hf
                              refine lv_aload_n hx hb dM_times_225 rfl (lv_at hl 0 rfl) ?_
                              refine xm_get (v := .int (xsi st 4)) hx hb htx hown hK hP 4 (by decide) rfl (htx _ kw_5_91) rfl dM_times_226 ?_
                              refine lv_istore_n (lv' := [(3, .int (xsi st 4)), (0, .ref aM), (1, xv vad c0), (2, xv vad c1)]) hx hb dM_times_229 rfl hl (by decide) (by simp only [List.filter, xvcat, xrscat, xcI, xcL, xcR, xcN]; rfl) (fun ls hl => ?_)
                              refine lv_lconst (v := 0) hx hb dM_times_230 (by decide) ?_
                              refine lv_lstore (lv' := [(4, .long 0), (3, .int (xsi st 4)), (0, .ref aM), (1, xv vad c0), (2, xv vad c1)]) hx hb dM_times_231 hl (by decide) rfl (fun ls hl => ?_)
                              exact key n (1, (0 : Int64), (xsi st 4), c0, c1, st, 0, 0) _ _ ls (⟨ad, gd, vad, rfl, hf, hP, hD, hS, lv_sub hl [0, 1, 2, 3, 4] rfl, hE, hN⟩)
                            · rw [if_neg hc] at hf
                              refine lv_aload_n hx hb dM_times_220 rfl (lv_at hl 0 rfl) ?_
                              obtain ⟨o4, hq5, hf⟩ := xbind hf
                              have hl := lv_sub (l' := [(0, .ref aM)]) hl [0] rfl
                              by_cases hk6 : o4.1 = 1
                              · rw [if_pos hk6] at hf
                                obtain ⟨hm7, hf⟩ := xmoE hf
                                obtain rfl := Option.some.inj hf
                                exact absurd (show (2 : Nat) = 1 from hkd) (by decide)
                              rw [if_neg hk6] at hf
                              exact nomatch hf
                        · rw [if_neg hc] at hf
                          refine lv_aload_n hx hb dM_times_192 rfl (lv_at hl 0 rfl) ?_
                          obtain ⟨o3, hq4, hf⟩ := xbind hf
                          have hl := lv_sub (l' := [(0, .ref aM)]) hl [0] rfl
                          by_cases hk5 : o3.1 = 1
                          · rw [if_pos hk5] at hf
                            obtain ⟨hm6, hf⟩ := xmoE hf
                            obtain rfl := Option.some.inj hf
                            exact absurd (show (2 : Nat) = 1 from hkd) (by decide)
                          rw [if_neg hk5] at hf
                          exact nomatch hf
                  · rw [if_neg hc] at hf
                    refine lv_aload_n hx hb dM_times_149 rfl (lv_at hl 0 rfl) ?_
                    refine lv_iconst (v := 0) hx hb dM_times_150 (by decide) ?_
                    obtain ⟨o3, hq4, hf⟩ := xbind hf
                    have hl := lv_sub (l' := [(0, .ref aM)]) hl [0] rfl
                    obtain ⟨hm5, hf⟩ := xmoE hf
                    have hFc := xm_free hD hS hA
                    refine va_callq (va_runV (C := "ValueBenchModel") (As := [.int 0]) (rest := []) ⟨hx, hb, hml, hown, htx⟩ (gM_fresh l hl9 D cT aK aV s.heap.size n aM ad rd gd vad st (0 : Int32) o3 hq4) ⟨callB_of 1 htx (xw_goodC kw_6_16) rfl rfl rfl (htx _ kw_1_5) (htx _ kw_6_13) ⟨by decide, by decide, by decide +kernel⟩ ⟨Nat.le_of_ble_eq_true rfl, Nat.le_of_ble_eq_true rfl⟩, (htx _ kw_6_15), (htx _ kp_M_fresh)⟩ ⟨xPre_blind, va_recv hK hP (ci := 5) rfl (q0 := 0) rfl, (fun U hU hW => ⟨rfl, xPre_of hZ hS hFc hP hD hK U hU hW⟩)⟩ rfl rfl hl.1 rfl (xm_room (Nat.le_of_ble_eq_true rfl)) dM_times_151 ⟨hm5.1, hm5.2⟩) hS (fun q _ h => hFc q h) hFc (fun r6 u9 t H1 locs ht hvm hr9 hB hz1 hk1 hS => ?_)
                    obtain ⟨hP1, hK1, hD1⟩ := hB
                    rw [ht] at hP1
                    obtain ⟨ad7, gd8, vad9⟩ := u9
                    obtain ⟨hr9, hv10, hn11⟩ := hr9
                    have hP : va_P D xcl (xMw cT aM ad7 rd gd8 vad9 o3.2.2.2 []) H1 := hP1
                    have hD : va_D A (xMw cT aM ad7 rd gd8 vad9 o3.2.2.2 []) := hD1.weaken (fun k q _ h => hFc q.1 h)
                    generalize H1 = H at hP hS ⊢
                    have hE9 : ∀ p, p < xct st → vad9 p = vad p := fun p h => (hv10 p (Nat.lt_of_lt_of_le h hN)).trans (hE p h)
                    have hE := hE9
                    have hN : xct st ≤ xct o3.2.2.2 := Nat.le_trans hN hn11
                    rw [hr9]
                    refine W.eq (g2 := F0 m 154 ls [xv vad9 o3.2.2.1]) (by first | rfl | (skip; rfl)) ?_
                    obtain rfl := Option.some.inj hf
                    exact absurd (show (0 : Nat) = 1 from hkd) (by decide)
                · rw [if_neg hc] at hf
                  refine lv_aload_n hx hb dM_times_134 rfl (lv_at hl 0 rfl) ?_
                  refine lv_iconst (v := 1) hx hb dM_times_135 (by decide) ?_
                  obtain ⟨o3, hq4, hf⟩ := xbind hf
                  have hl := lv_sub (l' := [(0, .ref aM)]) hl [0] rfl
                  by_cases hk5 : o3.1 = 1
                  · rw [if_pos hk5] at hf
                    obtain ⟨hm6, hf⟩ := xmoE hf
                    have hFc := xm_free hD hS hA
                    refine xx_thr (vx_runV (C := "ValueBenchModel") (As := [.int 1]) (rest := []) ⟨hx, hb, hml, hown, htx⟩ (gM_refuse_1 l hl9 D cT aK aV s.heap.size n aM ad rd gd vad st (1 : Int32) o3 hq4 hk5) ⟨callB_of 1 htx (xw_goodC kw_6_93) rfl rfl rfl (htx _ kw_1_5) (htx _ kw_6_90) ⟨by decide, by decide, by decide +kernel⟩ ⟨Nat.le_of_ble_eq_true rfl, Nat.le_of_ble_eq_true rfl⟩, (htx _ kw_6_92), (htx _ kp_M_refuse)⟩ ⟨xPre_blind, va_recv hK hP (ci := 5) rfl (q0 := 0) rfl, (fun U hU hW => ⟨rfl, xPre_of hZ hS hFc hP hD hK U hU hW⟩)⟩ rfl rfl hl.1 rfl (xm_room (Nat.le_of_ble_eq_true rfl)) dM_times_136 ⟨hm6.1, hm6.2⟩) hS hFc (fun q _ h => hFc q h) (fun E ce q9 u9 t H1 locs ht hvm hr9 hB hz1 hk1 hS hce hcv hcl => ?_)
                    obtain ⟨rfl, hP1, hK1, hD1⟩ := hB
                    rw [ht] at hP1
                    obtain ⟨ad8, gd9, vad10⟩ := u9
                    obtain ⟨hv11, hn12⟩ := hr9
                    have hP : va_P D xcl (xMw cT aM ad8 rd gd9 vad10 o3.2.2.2.2 []) H1 := hP1
                    have hD : va_D A (xMw cT aM ad8 rd gd9 vad10 o3.2.2.2.2 []) := hD1.weaken (fun k q _ h => hFc q.1 h)
                    generalize H1 = H at hP hS hce ⊢
                    have hE9 : ∀ p, p < xct st → vad10 p = vad p := fun p h => (hv11 p (Nat.lt_of_lt_of_le h hN)).trans (hE p h)
                    have hE := hE9
                    have hN : xct st ≤ xct o3.2.2.2.2 := Nat.le_trans hN hn12
                    obtain rfl := Option.some.inj hf
                    exact vx_out (E := "java/lang/ArithmeticException") (fun x h => (hne x h).elim) hlocks hce hcv hcl (fun t ht ha => ⟨(ad8, gd9, vad10), ⟨hE, hN⟩, ⟨rfl, by rw [ht]; exact hP, va_K.moved ha hK, hD⟩, hS.F ht⟩) hS.2.2 (Nat.le_refl _) (Nat.le_refl _)
                  rw [if_neg hk5] at hf
                  exact nomatch hf
            · rw [if_pos hc] at hf
              refine lv_aload_n hx hb dM_times_111 rfl (lv_at hl 0 rfl) ?_
              refine xm_aload_n hx hb (xvor _ _) dM_times_112 rfl (lv_at hl 2 rfl) ?_
              refine xm_aload_n hx hb (xvor _ _) dM_times_113 rfl (lv_at hl 1 rfl) ?_
              obtain ⟨o3, hq4, hf⟩ := xbind hf
              have hl := lv_sub (l' := [(0, .ref aM)]) hl [0] rfl
              by_cases hk5 : o3.1 = 0
              · rw [if_pos hk5] at hf
                obtain ⟨hm6, hf⟩ := xmoE hf
                have hFc := xm_free hD hS hA
                refine va_callq (va_runV (C := "ValueBenchModel") (As := [xv vad c1, xv vad c0]) (rest := []) ⟨hx, hb, hml, hown, htx⟩ ((hrec s.heap.size aM ad rd gd vad st c1 c0 o3 hq4).1 hk5) ⟨callB_of 2 htx (xw_goodC kw_6_215) rfl rfl rfl (htx _ kw_1_5) (htx _ kw_6_212) ⟨by decide, by decide, by decide +kernel⟩ ⟨(by show (16 * d) + 1 ≤ 16 * (d + 1); omega), (by show 8 + (7 + 11) + (400 * d) ≤ 400 * (d + 1); omega)⟩, (htx _ kw_6_214), (htx _ kp_M_times)⟩ ⟨xPre_blind, va_recv hK hP (ci := 5) rfl (q0 := 0) rfl, (fun U hU hW => ⟨rfl, xPre_of hZ hS hFc hP hD hK U hU hW⟩)⟩ rfl rfl hl.1 rfl (xm_room (Nat.le_of_ble_eq_true rfl)) dM_times_114 ⟨hm6.1, hm6.2⟩) hS (fun q _ h => hFc q h) hFc (fun r7 u9 t H1 locs ht hvm hr9 hB hz1 hk1 hS => ?_)
                obtain ⟨hP1, hK1, hD1⟩ := hB
                rw [ht] at hP1
                obtain ⟨ad8, gd9, vad10⟩ := u9
                obtain ⟨hr9, hv11, hn12⟩ := hr9
                have hP : va_P D xcl (xMw cT aM ad8 rd gd9 vad10 o3.2.2.2.2 []) H1 := hP1
                have hD : va_D A (xMw cT aM ad8 rd gd9 vad10 o3.2.2.2.2 []) := hD1.weaken (fun k q _ h => hFc q.1 h)
                generalize H1 = H at hP hS ⊢
                have hE9 : ∀ p, p < xct st → vad10 p = vad p := fun p h => (hv11 p (Nat.lt_of_lt_of_le h hN)).trans (hE p h)
                have hE := hE9
                have hN : xct st ≤ xct o3.2.2.2.2 := Nat.le_trans hN hn12
                rw [hr9]
                refine W.eq (g2 := F0 m 117 ls [xv vad10 o3.2.2.2.1]) (by first | rfl | (skip; rfl)) ?_
                obtain rfl := Option.some.inj hf
                exact absurd (show (0 : Nat) = 1 from hkd) (by decide)
              rw [if_neg hk5] at hf
              by_cases hk13 : o3.1 = 1
              · rw [if_pos hk13] at hf
                obtain ⟨hm14, hf⟩ := xmoE hf
                have hFc := xm_free hD hS hA
                refine xx_thr (vx_runV (C := "ValueBenchModel") (As := [xv vad c1, xv vad c0]) (rest := []) ⟨hx, hb, hml, hown, htx⟩ ((hrec s.heap.size aM ad rd gd vad st c1 c0 o3 hq4).2.1 hk13) ⟨callB_of 2 htx (xw_goodC kw_6_215) rfl rfl rfl (htx _ kw_1_5) (htx _ kw_6_212) ⟨by decide, by decide, by decide +kernel⟩ ⟨(by show (16 * d) + 1 ≤ 16 * (d + 1); omega), (by show 8 + (7 + 11) + (400 * d) ≤ 400 * (d + 1); omega)⟩, (htx _ kw_6_214), (htx _ kp_M_times)⟩ ⟨xPre_blind, va_recv hK hP (ci := 5) rfl (q0 := 0) rfl, (fun U hU hW => ⟨rfl, xPre_of hZ hS hFc hP hD hK U hU hW⟩)⟩ rfl rfl hl.1 rfl (xm_room (Nat.le_of_ble_eq_true rfl)) dM_times_114 ⟨hm14.1, hm14.2⟩) hS hFc (fun q _ h => hFc q h) (fun E ce q9 u9 t H1 locs ht hvm hr9 hB hz1 hk1 hS hce hcv hcl => ?_)
                obtain ⟨rfl, hP1, hK1, hD1⟩ := hB
                rw [ht] at hP1
                obtain ⟨ad16, gd17, vad18⟩ := u9
                obtain ⟨hv19, hn20⟩ := hr9
                have hP : va_P D xcl (xMw cT aM ad16 rd gd17 vad18 o3.2.2.2.2 []) H1 := hP1
                have hD : va_D A (xMw cT aM ad16 rd gd17 vad18 o3.2.2.2.2 []) := hD1.weaken (fun k q _ h => hFc q.1 h)
                generalize H1 = H at hP hS hce ⊢
                have hE9 : ∀ p, p < xct st → vad18 p = vad p := fun p h => (hv19 p (Nat.lt_of_lt_of_le h hN)).trans (hE p h)
                have hE := hE9
                have hN : xct st ≤ xct o3.2.2.2.2 := Nat.le_trans hN hn20
                obtain rfl := Option.some.inj hf
                exact vx_out (E := "java/lang/ArithmeticException") (fun x h => (hne x h).elim) hlocks hce hcv hcl (fun t ht ha => ⟨(ad16, gd17, vad18), ⟨hE, hN⟩, ⟨rfl, by rw [ht]; exact hP, va_K.moved ha hK, hD⟩, hS.F ht⟩) hS.2.2 (Nat.le_refl _) (Nat.le_refl _)
              rw [if_neg hk13] at hf
              by_cases hk21 : o3.1 = 2
              · rw [if_pos hk21] at hf
                obtain ⟨hm22, hf⟩ := xmoE hf
                obtain rfl := Option.some.inj hf
                exact absurd (show (2 : Nat) = 1 from hkd) (by decide)
              rw [if_neg hk21] at hf
              exact nomatch hf
        · rw [if_pos hc] at hf
          refine xm_aload_n hx hb (xvor _ _) dM_times_79 rfl (lv_at hl 2 rfl) ?_
          obtain ⟨hg2, hf⟩ := xifn hf
          refine xm_vget (v := .int ((xpi st 0) (c1 - 1))) hx hb htx hown hK hP 0 (by decide) hg2 rfl ((hZ.1 (93, "kind", "I") (List.mem_of_getElem? (i := 0) rfl)).use rfl) rfl dM_times_80 ?_
          refine lv_bipush (v := 6) hx hb dM_times_83 (by decide) ?_
          refine lv_icmp_ne (tgt := 95) hx hb dM_times_85 (by decide) (fun hc => ?_) (fun hc => ?_)
          · rw [if_neg hc] at hf
            refine xm_aload_n hx hb (xvor _ _) dM_times_95 rfl (lv_at hl 1 rfl) ?_
            refine xm_vget (v := .int ((xpi st 0) (c0 - 1))) hx hb htx hown hK hP 0 (by decide) hg1 rfl ((hZ.1 (93, "kind", "I") (List.mem_of_getElem? (i := 0) rfl)).use rfl) rfl dM_times_96 ?_
            refine lv_iconst (v := 3) hx hb dM_times_99 (by decide) ?_
            refine lv_icmp_ne (tgt := 118) hx hb dM_times_100 (by decide) (fun hc => ?_) (fun hc => ?_)
            · rw [if_neg hc] at hf
              refine xm_aload_n hx hb (xvor _ _) dM_times_118 rfl (lv_at hl 1 rfl) ?_
              refine xm_vget (v := .int ((xpi st 0) (c0 - 1))) hx hb htx hown hK hP 0 (by decide) hg1 rfl ((hZ.1 (93, "kind", "I") (List.mem_of_getElem? (i := 0) rfl)).use rfl) rfl dM_times_119 ?_
              refine lv_iconst (v := 4) hx hb dM_times_122 (by decide) ?_
              refine lv_icmp_ne (tgt := 134) hx hb dM_times_123 (by decide) (fun hc => ?_) (fun hc => ?_)
              · rw [if_neg hc] at hf
                refine lv_aload_n hx hb dM_times_134 rfl (lv_at hl 0 rfl) ?_
                refine lv_iconst (v := 1) hx hb dM_times_135 (by decide) ?_
                obtain ⟨o3, hq4, hf⟩ := xbind hf
                have hl := lv_sub (l' := [(0, .ref aM)]) hl [0] rfl
                by_cases hk5 : o3.1 = 1
                · rw [if_pos hk5] at hf
                  obtain ⟨hm6, hf⟩ := xmoE hf
                  have hFc := xm_free hD hS hA
                  refine xx_thr (vx_runV (C := "ValueBenchModel") (As := [.int 1]) (rest := []) ⟨hx, hb, hml, hown, htx⟩ (gM_refuse_1 l hl9 D cT aK aV s.heap.size n aM ad rd gd vad st (1 : Int32) o3 hq4 hk5) ⟨callB_of 1 htx (xw_goodC kw_6_93) rfl rfl rfl (htx _ kw_1_5) (htx _ kw_6_90) ⟨by decide, by decide, by decide +kernel⟩ ⟨Nat.le_of_ble_eq_true rfl, Nat.le_of_ble_eq_true rfl⟩, (htx _ kw_6_92), (htx _ kp_M_refuse)⟩ ⟨xPre_blind, va_recv hK hP (ci := 5) rfl (q0 := 0) rfl, (fun U hU hW => ⟨rfl, xPre_of hZ hS hFc hP hD hK U hU hW⟩)⟩ rfl rfl hl.1 rfl (xm_room (Nat.le_of_ble_eq_true rfl)) dM_times_136 ⟨hm6.1, hm6.2⟩) hS hFc (fun q _ h => hFc q h) (fun E ce q9 u9 t H1 locs ht hvm hr9 hB hz1 hk1 hS hce hcv hcl => ?_)
                  obtain ⟨rfl, hP1, hK1, hD1⟩ := hB
                  rw [ht] at hP1
                  obtain ⟨ad8, gd9, vad10⟩ := u9
                  obtain ⟨hv11, hn12⟩ := hr9
                  have hP : va_P D xcl (xMw cT aM ad8 rd gd9 vad10 o3.2.2.2.2 []) H1 := hP1
                  have hD : va_D A (xMw cT aM ad8 rd gd9 vad10 o3.2.2.2.2 []) := hD1.weaken (fun k q _ h => hFc q.1 h)
                  generalize H1 = H at hP hS hce ⊢
                  have hE9 : ∀ p, p < xct st → vad10 p = vad p := fun p h => (hv11 p (Nat.lt_of_lt_of_le h hN)).trans (hE p h)
                  have hE := hE9
                  have hN : xct st ≤ xct o3.2.2.2.2 := Nat.le_trans hN hn12
                  obtain rfl := Option.some.inj hf
                  exact vx_out (E := "java/lang/ArithmeticException") (fun x h => (hne x h).elim) hlocks hce hcv hcl (fun t ht ha => ⟨(ad8, gd9, vad10), ⟨hE, hN⟩, ⟨rfl, by rw [ht]; exact hP, va_K.moved ha hK, hD⟩, hS.F ht⟩) hS.2.2 (Nat.le_refl _) (Nat.le_refl _)
                rw [if_neg hk5] at hf
                exact nomatch hf
              · rw [if_pos hc] at hf
                refine xm_aload_n hx hb (xvor _ _) dM_times_126 rfl (lv_at hl 2 rfl) ?_
                refine xm_vget (v := .int ((xpi st 0) (c1 - 1))) hx hb htx hown hK hP 0 (by decide) hg2 rfl ((hZ.1 (93, "kind", "I") (List.mem_of_getElem? (i := 0) rfl)).use rfl) rfl dM_times_127 ?_
                refine lv_iconst (v := 3) hx hb dM_times_130 (by decide) ?_
                refine lv_icmp_eq (tgt := 140) hx hb dM_times_131 (by decide) (fun hc => ?_) (fun hc => ?_)
                · rw [if_pos hc] at hf
                  refine xm_aload_n hx hb (xvor _ _) dM_times_140 rfl (lv_at hl 2 rfl) ?_
                  refine xm_vget (v := .long ((xpl st) (c1 - 1))) hx hb htx hown hK hP 1 (by decide) hg2 rfl ((hZ.1 (96, "n", "J") (List.mem_of_getElem? (i := 1) rfl)).use rfl) rfl dM_times_141 ?_
                  refine lv_lconst (v := 1) hx hb dM_times_144 (by decide) ?_
                  refine W.lcmp hx hb dM_times_145 ?_
                  refine lv_if_ge (tgt := 155) hx hb dM_times_146 (by decide) (fun hc => ?_) (fun hc => ?_)
                  · rw [if_pos hc] at hf
                    refine xm_aload_n hx hb (xvor _ _) dM_times_155 rfl (lv_at hl 2 rfl) ?_
                    refine xm_vget (v := .long ((xpl st) (c1 - 1))) hx hb htx hown hK hP 1 (by decide) hg2 rfl ((hZ.1 (96, "n", "J") (List.mem_of_getElem? (i := 1) rfl)).use rfl) rfl dM_times_156 ?_
                    refine xm_aload_n hx hb (xvor _ _) dM_times_159 rfl (lv_at hl 1 rfl) ?_
                    refine xm_vget (v := .int ((xpi st 3) (c0 - 1))) hx hb htx hown hK hP 3 (by decide) hg1 rfl ((hZ.1 (103, "count", "I") (List.mem_of_getElem? (i := 3) rfl)).use rfl) rfl dM_times_160 ?_
                    refine lv_i2l hx hb dM_times_163 rfl ?_
                    refine lv_lconst (v := 1) hx hb dM_times_164 (by decide) ?_
                    refine lv_ladd hx hb dM_times_165 ?_
                    refine lv_lmul hx hb dM_times_166 ?_
                    refine lv_ldc2 hx hb hown (htx _ kw_6_221) dM_times_167 ?_
                    refine W.lcmp hx hb dM_times_170 ?_
                    refine lv_if_le (tgt := 197) hx hb dM_times_171 (by decide) (fun hc => ?_) (fun hc => ?_)
                    · rw [if_pos hc] at hf
                      refine xm_aload_n hx hb (xvor _ _) dM_times_197 rfl (lv_at hl 1 rfl) ?_
                      refine xm_vget (v := .int ((xpi st 3) (c0 - 1))) hx hb htx hown hK hP 3 (by decide) hg1 rfl ((hZ.1 (103, "count", "I") (List.mem_of_getElem? (i := 3) rfl)).use rfl) rfl dM_times_198 ?_
                      refine lv_if_le (tgt := 225) hx hb dM_times_201 (by decide) (fun hc => ?_) (fun hc => ?_)
                      · rw [if_pos hc] at hf
                        refine lv_aload_n hx hb dM_times_225 rfl (lv_at hl 0 rfl) ?_
                        refine xm_get (v := .int (xsi st 4)) hx hb htx hown hK hP 4 (by decide) rfl (htx _ kw_5_91) rfl dM_times_226 ?_
                        refine lv_istore_n (lv' := [(3, .int (xsi st 4)), (0, .ref aM), (1, xv vad c0), (2, xv vad c1)]) hx hb dM_times_229 rfl hl (by decide) (by simp only [List.filter, xvcat, xrscat, xcI, xcL, xcR, xcN]; rfl) (fun ls hl => ?_)
                        refine lv_lconst (v := 0) hx hb dM_times_230 (by decide) ?_
                        refine lv_lstore (lv' := [(4, .long 0), (3, .int (xsi st 4)), (0, .ref aM), (1, xv vad c0), (2, xv vad c1)]) hx hb dM_times_231 hl (by decide) rfl (fun ls hl => ?_)
                        exact key n (1, (0 : Int64), (xsi st 4), c0, c1, st, 0, 0) _ _ ls (⟨ad, gd, vad, rfl, hf, hP, hD, hS, lv_sub hl [0, 1, 2, 3, 4] rfl, hE, hN⟩)
                      · rw [if_neg hc] at hf
                        refine xm_aload_n hx hb (xvor _ _) dM_times_204 rfl (lv_at hl 2 rfl) ?_
                        refine xm_vget (v := .long ((xpl st) (c1 - 1))) hx hb htx hown hK hP 1 (by decide) hg2 rfl ((hZ.1 (96, "n", "J") (List.mem_of_getElem? (i := 1) rfl)).use rfl) rfl dM_times_205 ?_
                        refine lv_ldc hx hb hown (htx _ kw_6_62) dM_times_208 ?_
                        refine xm_aload_n hx hb (xvor _ _) dM_times_210 rfl (lv_at hl 1 rfl) ?_
                        refine xm_vget (v := .int ((xpi st 3) (c0 - 1))) hx hb htx hown hK hP 3 (by decide) hg1 rfl ((hZ.1 (103, "count", "I") (List.mem_of_getElem? (i := 3) rfl)).use rfl) rfl dM_times_211 ?_
                        obtain ⟨hg3, hf⟩ := xifn hf
                        refine lv_idiv hx hb dM_times_214 hg3 ?_
                        refine lv_i2l hx hb dM_times_215 rfl ?_
                        refine W.lcmp hx hb dM_times_216 ?_
                        refine lv_if_le (tgt := 225) hx hb dM_times_217 (by decide) (fun hc => ?_) (fun hc => ?_)
                        · rw [if_pos hc] at hf
                          refine lv_aload_n hx hb dM_times_225 rfl (lv_at hl 0 rfl) ?_
                          refine xm_get (v := .int (xsi st 4)) hx hb htx hown hK hP 4 (by decide) rfl (htx _ kw_5_91) rfl dM_times_226 ?_
                          refine lv_istore_n (lv' := [(3, .int (xsi st 4)), (0, .ref aM), (1, xv vad c0), (2, xv vad c1)]) hx hb dM_times_229 rfl hl (by decide) (by simp only [List.filter, xvcat, xrscat, xcI, xcL, xcR, xcN]; rfl) (fun ls hl => ?_)
                          refine lv_lconst (v := 0) hx hb dM_times_230 (by decide) ?_
                          refine lv_lstore (lv' := [(4, .long 0), (3, .int (xsi st 4)), (0, .ref aM), (1, xv vad c0), (2, xv vad c1)]) hx hb dM_times_231 hl (by decide) rfl (fun ls hl => ?_)
                          exact key n (1, (0 : Int64), (xsi st 4), c0, c1, st, 0, 0) _ _ ls (⟨ad, gd, vad, rfl, hf, hP, hD, hS, lv_sub hl [0, 1, 2, 3, 4] rfl, hE, hN⟩)
                        · rw [if_neg hc] at hf
                          refine lv_aload_n hx hb dM_times_220 rfl (lv_at hl 0 rfl) ?_
                          obtain ⟨o4, hq5, hf⟩ := xbind hf
                          have hl := lv_sub (l' := [(0, .ref aM)]) hl [0] rfl
                          by_cases hk6 : o4.1 = 1
                          · rw [if_pos hk6] at hf
                            obtain ⟨hm7, hf⟩ := xmoE hf
                            obtain rfl := Option.some.inj hf
                            exact absurd (show (2 : Nat) = 1 from hkd) (by decide)
                          rw [if_neg hk6] at hf
                          exact nomatch hf
                    · rw [if_neg hc] at hf
                      refine xm_aload_n hx hb (xvor _ _) dM_times_174 rfl (lv_at hl 1 rfl) ?_
                      refine xm_vget (v := .int ((xpi st 3) (c0 - 1))) hx hb htx hown hK hP 3 (by decide) hg1 rfl ((hZ.1 (103, "count", "I") (List.mem_of_getElem? (i := 3) rfl)).use rfl) rfl dM_times_175 ?_
                      refine lv_if_le (tgt := 197) hx hb dM_times_178 (by decide) (fun hc => ?_) (fun hc => ?_)
                      · rw [if_pos hc] at hf
                        refine xm_aload_n hx hb (xvor _ _) dM_times_197 rfl (lv_at hl 1 rfl) ?_
                        refine xm_vget (v := .int ((xpi st 3) (c0 - 1))) hx hb htx hown hK hP 3 (by decide) hg1 rfl ((hZ.1 (103, "count", "I") (List.mem_of_getElem? (i := 3) rfl)).use rfl) rfl dM_times_198 ?_
                        refine lv_if_le (tgt := 225) hx hb dM_times_201 (by decide) (fun hc => ?_) (fun hc => ?_)
                        · rw [if_pos hc] at hf
                          refine lv_aload_n hx hb dM_times_225 rfl (lv_at hl 0 rfl) ?_
                          refine xm_get (v := .int (xsi st 4)) hx hb htx hown hK hP 4 (by decide) rfl (htx _ kw_5_91) rfl dM_times_226 ?_
                          refine lv_istore_n (lv' := [(3, .int (xsi st 4)), (0, .ref aM), (1, xv vad c0), (2, xv vad c1)]) hx hb dM_times_229 rfl hl (by decide) (by simp only [List.filter, xvcat, xrscat, xcI, xcL, xcR, xcN]; rfl) (fun ls hl => ?_)
                          refine lv_lconst (v := 0) hx hb dM_times_230 (by decide) ?_
                          refine lv_lstore (lv' := [(4, .long 0), (3, .int (xsi st 4)), (0, .ref aM), (1, xv vad c0), (2, xv vad c1)]) hx hb dM_times_231 hl (by decide) rfl (fun ls hl => ?_)
                          exact key n (1, (0 : Int64), (xsi st 4), c0, c1, st, 0, 0) _ _ ls (⟨ad, gd, vad, rfl, hf, hP, hD, hS, lv_sub hl [0, 1, 2, 3, 4] rfl, hE, hN⟩)
                        · rw [if_neg hc] at hf
                          refine xm_aload_n hx hb (xvor _ _) dM_times_204 rfl (lv_at hl 2 rfl) ?_
                          refine xm_vget (v := .long ((xpl st) (c1 - 1))) hx hb htx hown hK hP 1 (by decide) hg2 rfl ((hZ.1 (96, "n", "J") (List.mem_of_getElem? (i := 1) rfl)).use rfl) rfl dM_times_205 ?_
                          refine lv_ldc hx hb hown (htx _ kw_6_62) dM_times_208 ?_
                          refine xm_aload_n hx hb (xvor _ _) dM_times_210 rfl (lv_at hl 1 rfl) ?_
                          refine xm_vget (v := .int ((xpi st 3) (c0 - 1))) hx hb htx hown hK hP 3 (by decide) hg1 rfl ((hZ.1 (103, "count", "I") (List.mem_of_getElem? (i := 3) rfl)).use rfl) rfl dM_times_211 ?_
                          obtain ⟨hg3, hf⟩ := xifn hf
                          refine lv_idiv hx hb dM_times_214 hg3 ?_
                          refine lv_i2l hx hb dM_times_215 rfl ?_
                          refine W.lcmp hx hb dM_times_216 ?_
                          refine lv_if_le (tgt := 225) hx hb dM_times_217 (by decide) (fun hc => ?_) (fun hc => ?_)
                          · rw [if_pos hc] at hf
                            refine lv_aload_n hx hb dM_times_225 rfl (lv_at hl 0 rfl) ?_
                            refine xm_get (v := .int (xsi st 4)) hx hb htx hown hK hP 4 (by decide) rfl (htx _ kw_5_91) rfl dM_times_226 ?_
                            refine lv_istore_n (lv' := [(3, .int (xsi st 4)), (0, .ref aM), (1, xv vad c0), (2, xv vad c1)]) hx hb dM_times_229 rfl hl (by decide) (by simp only [List.filter, xvcat, xrscat, xcI, xcL, xcR, xcN]; rfl) (fun ls hl => ?_)
                            refine lv_lconst (v := 0) hx hb dM_times_230 (by decide) ?_
                            refine lv_lstore (lv' := [(4, .long 0), (3, .int (xsi st 4)), (0, .ref aM), (1, xv vad c0), (2, xv vad c1)]) hx hb dM_times_231 hl (by decide) rfl (fun ls hl => ?_)
                            exact key n (1, (0 : Int64), (xsi st 4), c0, c1, st, 0, 0) _ _ ls (⟨ad, gd, vad, rfl, hf, hP, hD, hS, lv_sub hl [0, 1, 2, 3, 4] rfl, hE, hN⟩)
                          · rw [if_neg hc] at hf
                            refine lv_aload_n hx hb dM_times_220 rfl (lv_at hl 0 rfl) ?_
                            obtain ⟨o4, hq5, hf⟩ := xbind hf
                            have hl := lv_sub (l' := [(0, .ref aM)]) hl [0] rfl
                            by_cases hk6 : o4.1 = 1
                            · rw [if_pos hk6] at hf
                              obtain ⟨hm7, hf⟩ := xmoE hf
                              obtain rfl := Option.some.inj hf
                              exact absurd (show (2 : Nat) = 1 from hkd) (by decide)
                            rw [if_neg hk6] at hf
                            exact nomatch hf
                      · rw [if_neg hc] at hf
                        refine xm_aload_n hx hb (xvor _ _) dM_times_181 rfl (lv_at hl 2 rfl) ?_
                        refine xm_vget (v := .long ((xpl st) (c1 - 1))) hx hb htx hown hK hP 1 (by decide) hg2 rfl ((hZ.1 (96, "n", "J") (List.mem_of_getElem? (i := 1) rfl)).use rfl) rfl dM_times_182 ?_
                        refine lv_ldc2 hx hb hown (htx _ kw_6_108) dM_times_185 ?_
                        refine W.lcmp hx hb dM_times_188 ?_
                        refine lv_if_le (tgt := 197) hx hb dM_times_189 (by decide) (fun hc => ?_) (fun hc => ?_)
                        · rw [if_pos hc] at hf
                          refine xm_aload_n hx hb (xvor _ _) dM_times_197 rfl (lv_at hl 1 rfl) ?_
                          refine xm_vget (v := .int ((xpi st 3) (c0 - 1))) hx hb htx hown hK hP 3 (by decide) hg1 rfl ((hZ.1 (103, "count", "I") (List.mem_of_getElem? (i := 3) rfl)).use rfl) rfl dM_times_198 ?_
                          refine lv_if_le (tgt := 225) hx hb dM_times_201 (by decide) (fun hc => ?_) (fun hc => ?_)
                          · rw [if_pos hc] at hf
                            refine lv_aload_n hx hb dM_times_225 rfl (lv_at hl 0 rfl) ?_
                            refine xm_get (v := .int (xsi st 4)) hx hb htx hown hK hP 4 (by decide) rfl (htx _ kw_5_91) rfl dM_times_226 ?_
                            refine lv_istore_n (lv' := [(3, .int (xsi st 4)), (0, .ref aM), (1, xv vad c0), (2, xv vad c1)]) hx hb dM_times_229 rfl hl (by decide) (by simp only [List.filter, xvcat, xrscat, xcI, xcL, xcR, xcN]; rfl) (fun ls hl => ?_)
                            refine lv_lconst (v := 0) hx hb dM_times_230 (by decide) ?_
                            refine lv_lstore (lv' := [(4, .long 0), (3, .int (xsi st 4)), (0, .ref aM), (1, xv vad c0), (2, xv vad c1)]) hx hb dM_times_231 hl (by decide) rfl (fun ls hl => ?_)
                            exact key n (1, (0 : Int64), (xsi st 4), c0, c1, st, 0, 0) _ _ ls (⟨ad, gd, vad, rfl, hf, hP, hD, hS, lv_sub hl [0, 1, 2, 3, 4] rfl, hE, hN⟩)
                          · rw [if_neg hc] at hf
                            refine xm_aload_n hx hb (xvor _ _) dM_times_204 rfl (lv_at hl 2 rfl) ?_
                            refine xm_vget (v := .long ((xpl st) (c1 - 1))) hx hb htx hown hK hP 1 (by decide) hg2 rfl ((hZ.1 (96, "n", "J") (List.mem_of_getElem? (i := 1) rfl)).use rfl) rfl dM_times_205 ?_
                            refine lv_ldc hx hb hown (htx _ kw_6_62) dM_times_208 ?_
                            refine xm_aload_n hx hb (xvor _ _) dM_times_210 rfl (lv_at hl 1 rfl) ?_
                            refine xm_vget (v := .int ((xpi st 3) (c0 - 1))) hx hb htx hown hK hP 3 (by decide) hg1 rfl ((hZ.1 (103, "count", "I") (List.mem_of_getElem? (i := 3) rfl)).use rfl) rfl dM_times_211 ?_
                            obtain ⟨hg3, hf⟩ := xifn hf
                            refine lv_idiv hx hb dM_times_214 hg3 ?_
                            refine lv_i2l hx hb dM_times_215 rfl ?_
                            refine W.lcmp hx hb dM_times_216 ?_
                            refine lv_if_le (tgt := 225) hx hb dM_times_217 (by decide) (fun hc => ?_) (fun hc => ?_)
                            · rw [if_pos hc] at hf
                              refine lv_aload_n hx hb dM_times_225 rfl (lv_at hl 0 rfl) ?_
                              refine xm_get (v := .int (xsi st 4)) hx hb htx hown hK hP 4 (by decide) rfl (htx _ kw_5_91) rfl dM_times_226 ?_
                              refine lv_istore_n (lv' := [(3, .int (xsi st 4)), (0, .ref aM), (1, xv vad c0), (2, xv vad c1)]) hx hb dM_times_229 rfl hl (by decide) (by simp only [List.filter, xvcat, xrscat, xcI, xcL, xcR, xcN]; rfl) (fun ls hl => ?_)
                              refine lv_lconst (v := 0) hx hb dM_times_230 (by decide) ?_
                              refine lv_lstore (lv' := [(4, .long 0), (3, .int (xsi st 4)), (0, .ref aM), (1, xv vad c0), (2, xv vad c1)]) hx hb dM_times_231 hl (by decide) rfl (fun ls hl => ?_)
                              exact key n (1, (0 : Int64), (xsi st 4), c0, c1, st, 0, 0) _ _ ls (⟨ad, gd, vad, rfl, hf, hP, hD, hS, lv_sub hl [0, 1, 2, 3, 4] rfl, hE, hN⟩)
                            · rw [if_neg hc] at hf
                              refine lv_aload_n hx hb dM_times_220 rfl (lv_at hl 0 rfl) ?_
                              obtain ⟨o4, hq5, hf⟩ := xbind hf
                              have hl := lv_sub (l' := [(0, .ref aM)]) hl [0] rfl
                              by_cases hk6 : o4.1 = 1
                              · rw [if_pos hk6] at hf
                                obtain ⟨hm7, hf⟩ := xmoE hf
                                obtain rfl := Option.some.inj hf
                                exact absurd (show (2 : Nat) = 1 from hkd) (by decide)
                              rw [if_neg hk6] at hf
                              exact nomatch hf
                        · rw [if_neg hc] at hf
                          refine lv_aload_n hx hb dM_times_192 rfl (lv_at hl 0 rfl) ?_
                          obtain ⟨o3, hq4, hf⟩ := xbind hf
                          have hl := lv_sub (l' := [(0, .ref aM)]) hl [0] rfl
                          by_cases hk5 : o3.1 = 1
                          · rw [if_pos hk5] at hf
                            obtain ⟨hm6, hf⟩ := xmoE hf
                            obtain rfl := Option.some.inj hf
                            exact absurd (show (2 : Nat) = 1 from hkd) (by decide)
                          rw [if_neg hk5] at hf
                          exact nomatch hf
                  · rw [if_neg hc] at hf
                    refine lv_aload_n hx hb dM_times_149 rfl (lv_at hl 0 rfl) ?_
                    refine lv_iconst (v := 0) hx hb dM_times_150 (by decide) ?_
                    obtain ⟨o3, hq4, hf⟩ := xbind hf
                    have hl := lv_sub (l' := [(0, .ref aM)]) hl [0] rfl
                    obtain ⟨hm5, hf⟩ := xmoE hf
                    have hFc := xm_free hD hS hA
                    refine va_callq (va_runV (C := "ValueBenchModel") (As := [.int 0]) (rest := []) ⟨hx, hb, hml, hown, htx⟩ (gM_fresh l hl9 D cT aK aV s.heap.size n aM ad rd gd vad st (0 : Int32) o3 hq4) ⟨callB_of 1 htx (xw_goodC kw_6_16) rfl rfl rfl (htx _ kw_1_5) (htx _ kw_6_13) ⟨by decide, by decide, by decide +kernel⟩ ⟨Nat.le_of_ble_eq_true rfl, Nat.le_of_ble_eq_true rfl⟩, (htx _ kw_6_15), (htx _ kp_M_fresh)⟩ ⟨xPre_blind, va_recv hK hP (ci := 5) rfl (q0 := 0) rfl, (fun U hU hW => ⟨rfl, xPre_of hZ hS hFc hP hD hK U hU hW⟩)⟩ rfl rfl hl.1 rfl (xm_room (Nat.le_of_ble_eq_true rfl)) dM_times_151 ⟨hm5.1, hm5.2⟩) hS (fun q _ h => hFc q h) hFc (fun r6 u9 t H1 locs ht hvm hr9 hB hz1 hk1 hS => ?_)
                    obtain ⟨hP1, hK1, hD1⟩ := hB
                    rw [ht] at hP1
                    obtain ⟨ad7, gd8, vad9⟩ := u9
                    obtain ⟨hr9, hv10, hn11⟩ := hr9
                    have hP : va_P D xcl (xMw cT aM ad7 rd gd8 vad9 o3.2.2.2 []) H1 := hP1
                    have hD : va_D A (xMw cT aM ad7 rd gd8 vad9 o3.2.2.2 []) := hD1.weaken (fun k q _ h => hFc q.1 h)
                    generalize H1 = H at hP hS ⊢
                    have hE9 : ∀ p, p < xct st → vad9 p = vad p := fun p h => (hv10 p (Nat.lt_of_lt_of_le h hN)).trans (hE p h)
                    have hE := hE9
                    have hN : xct st ≤ xct o3.2.2.2 := Nat.le_trans hN hn11
                    rw [hr9]
                    refine W.eq (g2 := F0 m 154 ls [xv vad9 o3.2.2.1]) (by first | rfl | (skip; rfl)) ?_
                    obtain rfl := Option.some.inj hf
                    exact absurd (show (0 : Nat) = 1 from hkd) (by decide)
                · rw [if_neg hc] at hf
                  refine lv_aload_n hx hb dM_times_134 rfl (lv_at hl 0 rfl) ?_
                  refine lv_iconst (v := 1) hx hb dM_times_135 (by decide) ?_
                  obtain ⟨o3, hq4, hf⟩ := xbind hf
                  have hl := lv_sub (l' := [(0, .ref aM)]) hl [0] rfl
                  by_cases hk5 : o3.1 = 1
                  · rw [if_pos hk5] at hf
                    obtain ⟨hm6, hf⟩ := xmoE hf
                    have hFc := xm_free hD hS hA
                    refine xx_thr (vx_runV (C := "ValueBenchModel") (As := [.int 1]) (rest := []) ⟨hx, hb, hml, hown, htx⟩ (gM_refuse_1 l hl9 D cT aK aV s.heap.size n aM ad rd gd vad st (1 : Int32) o3 hq4 hk5) ⟨callB_of 1 htx (xw_goodC kw_6_93) rfl rfl rfl (htx _ kw_1_5) (htx _ kw_6_90) ⟨by decide, by decide, by decide +kernel⟩ ⟨Nat.le_of_ble_eq_true rfl, Nat.le_of_ble_eq_true rfl⟩, (htx _ kw_6_92), (htx _ kp_M_refuse)⟩ ⟨xPre_blind, va_recv hK hP (ci := 5) rfl (q0 := 0) rfl, (fun U hU hW => ⟨rfl, xPre_of hZ hS hFc hP hD hK U hU hW⟩)⟩ rfl rfl hl.1 rfl (xm_room (Nat.le_of_ble_eq_true rfl)) dM_times_136 ⟨hm6.1, hm6.2⟩) hS hFc (fun q _ h => hFc q h) (fun E ce q9 u9 t H1 locs ht hvm hr9 hB hz1 hk1 hS hce hcv hcl => ?_)
                    obtain ⟨rfl, hP1, hK1, hD1⟩ := hB
                    rw [ht] at hP1
                    obtain ⟨ad8, gd9, vad10⟩ := u9
                    obtain ⟨hv11, hn12⟩ := hr9
                    have hP : va_P D xcl (xMw cT aM ad8 rd gd9 vad10 o3.2.2.2.2 []) H1 := hP1
                    have hD : va_D A (xMw cT aM ad8 rd gd9 vad10 o3.2.2.2.2 []) := hD1.weaken (fun k q _ h => hFc q.1 h)
                    generalize H1 = H at hP hS hce ⊢
                    have hE9 : ∀ p, p < xct st → vad10 p = vad p := fun p h => (hv11 p (Nat.lt_of_lt_of_le h hN)).trans (hE p h)
                    have hE := hE9
                    have hN : xct st ≤ xct o3.2.2.2.2 := Nat.le_trans hN hn12
                    obtain rfl := Option.some.inj hf
                    exact vx_out (E := "java/lang/ArithmeticException") (fun x h => (hne x h).elim) hlocks hce hcv hcl (fun t ht ha => ⟨(ad8, gd9, vad10), ⟨hE, hN⟩, ⟨rfl, by rw [ht]; exact hP, va_K.moved ha hK, hD⟩, hS.F ht⟩) hS.2.2 (Nat.le_refl _) (Nat.le_refl _)
                  rw [if_neg hk5] at hf
                  exact nomatch hf
            · rw [if_pos hc] at hf
              refine xm_aload_n hx hb (xvor _ _) dM_times_103 rfl (lv_at hl 2 rfl) ?_
              refine xm_vget (v := .int ((xpi st 0) (c1 - 1))) hx hb htx hown hK hP 0 (by decide) hg2 rfl ((hZ.1 (93, "kind", "I") (List.mem_of_getElem? (i := 0) rfl)).use rfl) rfl dM_times_104 ?_
              refine lv_iconst (v := 4) hx hb dM_times_107 (by decide) ?_
              refine lv_icmp_ne (tgt := 118) hx hb dM_times_108 (by decide) (fun hc => ?_) (fun hc => ?_)
              · rw [if_neg hc] at hf
                refine xm_aload_n hx hb (xvor _ _) dM_times_118 rfl (lv_at hl 1 rfl) ?_
                refine xm_vget (v := .int ((xpi st 0) (c0 - 1))) hx hb htx hown hK hP 0 (by decide) hg1 rfl ((hZ.1 (93, "kind", "I") (List.mem_of_getElem? (i := 0) rfl)).use rfl) rfl dM_times_119 ?_
                refine lv_iconst (v := 4) hx hb dM_times_122 (by decide) ?_
                refine lv_icmp_ne (tgt := 134) hx hb dM_times_123 (by decide) (fun hc => ?_) (fun hc => ?_)
                · rw [if_neg hc] at hf
                  refine lv_aload_n hx hb dM_times_134 rfl (lv_at hl 0 rfl) ?_
                  refine lv_iconst (v := 1) hx hb dM_times_135 (by decide) ?_
                  obtain ⟨o3, hq4, hf⟩ := xbind hf
                  have hl := lv_sub (l' := [(0, .ref aM)]) hl [0] rfl
                  by_cases hk5 : o3.1 = 1
                  · rw [if_pos hk5] at hf
                    obtain ⟨hm6, hf⟩ := xmoE hf
                    have hFc := xm_free hD hS hA
                    refine xx_thr (vx_runV (C := "ValueBenchModel") (As := [.int 1]) (rest := []) ⟨hx, hb, hml, hown, htx⟩ (gM_refuse_1 l hl9 D cT aK aV s.heap.size n aM ad rd gd vad st (1 : Int32) o3 hq4 hk5) ⟨callB_of 1 htx (xw_goodC kw_6_93) rfl rfl rfl (htx _ kw_1_5) (htx _ kw_6_90) ⟨by decide, by decide, by decide +kernel⟩ ⟨Nat.le_of_ble_eq_true rfl, Nat.le_of_ble_eq_true rfl⟩, (htx _ kw_6_92), (htx _ kp_M_refuse)⟩ ⟨xPre_blind, va_recv hK hP (ci := 5) rfl (q0 := 0) rfl, (fun U hU hW => ⟨rfl, xPre_of hZ hS hFc hP hD hK U hU hW⟩)⟩ rfl rfl hl.1 rfl (xm_room (Nat.le_of_ble_eq_true rfl)) dM_times_136 ⟨hm6.1, hm6.2⟩) hS hFc (fun q _ h => hFc q h) (fun E ce q9 u9 t H1 locs ht hvm hr9 hB hz1 hk1 hS hce hcv hcl => ?_)
                    obtain ⟨rfl, hP1, hK1, hD1⟩ := hB
                    rw [ht] at hP1
                    obtain ⟨ad8, gd9, vad10⟩ := u9
                    obtain ⟨hv11, hn12⟩ := hr9
                    have hP : va_P D xcl (xMw cT aM ad8 rd gd9 vad10 o3.2.2.2.2 []) H1 := hP1
                    have hD : va_D A (xMw cT aM ad8 rd gd9 vad10 o3.2.2.2.2 []) := hD1.weaken (fun k q _ h => hFc q.1 h)
                    generalize H1 = H at hP hS hce ⊢
                    have hE9 : ∀ p, p < xct st → vad10 p = vad p := fun p h => (hv11 p (Nat.lt_of_lt_of_le h hN)).trans (hE p h)
                    have hE := hE9
                    have hN : xct st ≤ xct o3.2.2.2.2 := Nat.le_trans hN hn12
                    obtain rfl := Option.some.inj hf
                    exact vx_out (E := "java/lang/ArithmeticException") (fun x h => (hne x h).elim) hlocks hce hcv hcl (fun t ht ha => ⟨(ad8, gd9, vad10), ⟨hE, hN⟩, ⟨rfl, by rw [ht]; exact hP, va_K.moved ha hK, hD⟩, hS.F ht⟩) hS.2.2 (Nat.le_refl _) (Nat.le_refl _)
                  rw [if_neg hk5] at hf
                  exact nomatch hf
                · rw [if_pos hc] at hf
                  refine xm_aload_n hx hb (xvor _ _) dM_times_126 rfl (lv_at hl 2 rfl) ?_
                  refine xm_vget (v := .int ((xpi st 0) (c1 - 1))) hx hb htx hown hK hP 0 (by decide) hg2 rfl ((hZ.1 (93, "kind", "I") (List.mem_of_getElem? (i := 0) rfl)).use rfl) rfl dM_times_127 ?_
                  refine lv_iconst (v := 3) hx hb dM_times_130 (by decide) ?_
                  refine lv_icmp_eq (tgt := 140) hx hb dM_times_131 (by decide) (fun hc => ?_) (fun hc => ?_)
                  · rw [if_pos hc] at hf
                    refine xm_aload_n hx hb (xvor _ _) dM_times_140 rfl (lv_at hl 2 rfl) ?_
                    refine xm_vget (v := .long ((xpl st) (c1 - 1))) hx hb htx hown hK hP 1 (by decide) hg2 rfl ((hZ.1 (96, "n", "J") (List.mem_of_getElem? (i := 1) rfl)).use rfl) rfl dM_times_141 ?_
                    refine lv_lconst (v := 1) hx hb dM_times_144 (by decide) ?_
                    refine W.lcmp hx hb dM_times_145 ?_
                    refine lv_if_ge (tgt := 155) hx hb dM_times_146 (by decide) (fun hc => ?_) (fun hc => ?_)
                    · rw [if_pos hc] at hf
                      refine xm_aload_n hx hb (xvor _ _) dM_times_155 rfl (lv_at hl 2 rfl) ?_
                      refine xm_vget (v := .long ((xpl st) (c1 - 1))) hx hb htx hown hK hP 1 (by decide) hg2 rfl ((hZ.1 (96, "n", "J") (List.mem_of_getElem? (i := 1) rfl)).use rfl) rfl dM_times_156 ?_
                      refine xm_aload_n hx hb (xvor _ _) dM_times_159 rfl (lv_at hl 1 rfl) ?_
                      refine xm_vget (v := .int ((xpi st 3) (c0 - 1))) hx hb htx hown hK hP 3 (by decide) hg1 rfl ((hZ.1 (103, "count", "I") (List.mem_of_getElem? (i := 3) rfl)).use rfl) rfl dM_times_160 ?_
                      refine lv_i2l hx hb dM_times_163 rfl ?_
                      refine lv_lconst (v := 1) hx hb dM_times_164 (by decide) ?_
                      refine lv_ladd hx hb dM_times_165 ?_
                      refine lv_lmul hx hb dM_times_166 ?_
                      refine lv_ldc2 hx hb hown (htx _ kw_6_221) dM_times_167 ?_
                      refine W.lcmp hx hb dM_times_170 ?_
                      refine lv_if_le (tgt := 197) hx hb dM_times_171 (by decide) (fun hc => ?_) (fun hc => ?_)
                      · rw [if_pos hc] at hf
                        refine xm_aload_n hx hb (xvor _ _) dM_times_197 rfl (lv_at hl 1 rfl) ?_
                        refine xm_vget (v := .int ((xpi st 3) (c0 - 1))) hx hb htx hown hK hP 3 (by decide) hg1 rfl ((hZ.1 (103, "count", "I") (List.mem_of_getElem? (i := 3) rfl)).use rfl) rfl dM_times_198 ?_
                        refine lv_if_le (tgt := 225) hx hb dM_times_201 (by decide) (fun hc => ?_) (fun hc => ?_)
                        · rw [if_pos hc] at hf
                          refine lv_aload_n hx hb dM_times_225 rfl (lv_at hl 0 rfl) ?_
                          refine xm_get (v := .int (xsi st 4)) hx hb htx hown hK hP 4 (by decide) rfl (htx _ kw_5_91) rfl dM_times_226 ?_
                          refine lv_istore_n (lv' := [(3, .int (xsi st 4)), (0, .ref aM), (1, xv vad c0), (2, xv vad c1)]) hx hb dM_times_229 rfl hl (by decide) (by simp only [List.filter, xvcat, xrscat, xcI, xcL, xcR, xcN]; rfl) (fun ls hl => ?_)
                          refine lv_lconst (v := 0) hx hb dM_times_230 (by decide) ?_
                          refine lv_lstore (lv' := [(4, .long 0), (3, .int (xsi st 4)), (0, .ref aM), (1, xv vad c0), (2, xv vad c1)]) hx hb dM_times_231 hl (by decide) rfl (fun ls hl => ?_)
                          exact key n (1, (0 : Int64), (xsi st 4), c0, c1, st, 0, 0) _ _ ls (⟨ad, gd, vad, rfl, hf, hP, hD, hS, lv_sub hl [0, 1, 2, 3, 4] rfl, hE, hN⟩)
                        · rw [if_neg hc] at hf
                          refine xm_aload_n hx hb (xvor _ _) dM_times_204 rfl (lv_at hl 2 rfl) ?_
                          refine xm_vget (v := .long ((xpl st) (c1 - 1))) hx hb htx hown hK hP 1 (by decide) hg2 rfl ((hZ.1 (96, "n", "J") (List.mem_of_getElem? (i := 1) rfl)).use rfl) rfl dM_times_205 ?_
                          refine lv_ldc hx hb hown (htx _ kw_6_62) dM_times_208 ?_
                          refine xm_aload_n hx hb (xvor _ _) dM_times_210 rfl (lv_at hl 1 rfl) ?_
                          refine xm_vget (v := .int ((xpi st 3) (c0 - 1))) hx hb htx hown hK hP 3 (by decide) hg1 rfl ((hZ.1 (103, "count", "I") (List.mem_of_getElem? (i := 3) rfl)).use rfl) rfl dM_times_211 ?_
                          obtain ⟨hg3, hf⟩ := xifn hf
                          refine lv_idiv hx hb dM_times_214 hg3 ?_
                          refine lv_i2l hx hb dM_times_215 rfl ?_
                          refine W.lcmp hx hb dM_times_216 ?_
                          refine lv_if_le (tgt := 225) hx hb dM_times_217 (by decide) (fun hc => ?_) (fun hc => ?_)
                          · rw [if_pos hc] at hf
                            refine lv_aload_n hx hb dM_times_225 rfl (lv_at hl 0 rfl) ?_
                            refine xm_get (v := .int (xsi st 4)) hx hb htx hown hK hP 4 (by decide) rfl (htx _ kw_5_91) rfl dM_times_226 ?_
                            refine lv_istore_n (lv' := [(3, .int (xsi st 4)), (0, .ref aM), (1, xv vad c0), (2, xv vad c1)]) hx hb dM_times_229 rfl hl (by decide) (by simp only [List.filter, xvcat, xrscat, xcI, xcL, xcR, xcN]; rfl) (fun ls hl => ?_)
                            refine lv_lconst (v := 0) hx hb dM_times_230 (by decide) ?_
                            refine lv_lstore (lv' := [(4, .long 0), (3, .int (xsi st 4)), (0, .ref aM), (1, xv vad c0), (2, xv vad c1)]) hx hb dM_times_231 hl (by decide) rfl (fun ls hl => ?_)
                            exact key n (1, (0 : Int64), (xsi st 4), c0, c1, st, 0, 0) _ _ ls (⟨ad, gd, vad, rfl, hf, hP, hD, hS, lv_sub hl [0, 1, 2, 3, 4] rfl, hE, hN⟩)
                          · rw [if_neg hc] at hf
                            refine lv_aload_n hx hb dM_times_220 rfl (lv_at hl 0 rfl) ?_
                            obtain ⟨o4, hq5, hf⟩ := xbind hf
                            have hl := lv_sub (l' := [(0, .ref aM)]) hl [0] rfl
                            by_cases hk6 : o4.1 = 1
                            · rw [if_pos hk6] at hf
                              obtain ⟨hm7, hf⟩ := xmoE hf
                              obtain rfl := Option.some.inj hf
                              exact absurd (show (2 : Nat) = 1 from hkd) (by decide)
                            rw [if_neg hk6] at hf
                            exact nomatch hf
                      · rw [if_neg hc] at hf
                        refine xm_aload_n hx hb (xvor _ _) dM_times_174 rfl (lv_at hl 1 rfl) ?_
                        refine xm_vget (v := .int ((xpi st 3) (c0 - 1))) hx hb htx hown hK hP 3 (by decide) hg1 rfl ((hZ.1 (103, "count", "I") (List.mem_of_getElem? (i := 3) rfl)).use rfl) rfl dM_times_175 ?_
                        refine lv_if_le (tgt := 197) hx hb dM_times_178 (by decide) (fun hc => ?_) (fun hc => ?_)
                        · rw [if_pos hc] at hf
                          refine xm_aload_n hx hb (xvor _ _) dM_times_197 rfl (lv_at hl 1 rfl) ?_
                          refine xm_vget (v := .int ((xpi st 3) (c0 - 1))) hx hb htx hown hK hP 3 (by decide) hg1 rfl ((hZ.1 (103, "count", "I") (List.mem_of_getElem? (i := 3) rfl)).use rfl) rfl dM_times_198 ?_
                          refine lv_if_le (tgt := 225) hx hb dM_times_201 (by decide) (fun hc => ?_) (fun hc => ?_)
                          · rw [if_pos hc] at hf
                            refine lv_aload_n hx hb dM_times_225 rfl (lv_at hl 0 rfl) ?_
                            refine xm_get (v := .int (xsi st 4)) hx hb htx hown hK hP 4 (by decide) rfl (htx _ kw_5_91) rfl dM_times_226 ?_
                            refine lv_istore_n (lv' := [(3, .int (xsi st 4)), (0, .ref aM), (1, xv vad c0), (2, xv vad c1)]) hx hb dM_times_229 rfl hl (by decide) (by simp only [List.filter, xvcat, xrscat, xcI, xcL, xcR, xcN]; rfl) (fun ls hl => ?_)
                            refine lv_lconst (v := 0) hx hb dM_times_230 (by decide) ?_
                            refine lv_lstore (lv' := [(4, .long 0), (3, .int (xsi st 4)), (0, .ref aM), (1, xv vad c0), (2, xv vad c1)]) hx hb dM_times_231 hl (by decide) rfl (fun ls hl => ?_)
                            exact key n (1, (0 : Int64), (xsi st 4), c0, c1, st, 0, 0) _ _ ls (⟨ad, gd, vad, rfl, hf, hP, hD, hS, lv_sub hl [0, 1, 2, 3, 4] rfl, hE, hN⟩)
                          · rw [if_neg hc] at hf
                            refine xm_aload_n hx hb (xvor _ _) dM_times_204 rfl (lv_at hl 2 rfl) ?_
                            refine xm_vget (v := .long ((xpl st) (c1 - 1))) hx hb htx hown hK hP 1 (by decide) hg2 rfl ((hZ.1 (96, "n", "J") (List.mem_of_getElem? (i := 1) rfl)).use rfl) rfl dM_times_205 ?_
                            refine lv_ldc hx hb hown (htx _ kw_6_62) dM_times_208 ?_
                            refine xm_aload_n hx hb (xvor _ _) dM_times_210 rfl (lv_at hl 1 rfl) ?_
                            refine xm_vget (v := .int ((xpi st 3) (c0 - 1))) hx hb htx hown hK hP 3 (by decide) hg1 rfl ((hZ.1 (103, "count", "I") (List.mem_of_getElem? (i := 3) rfl)).use rfl) rfl dM_times_211 ?_
                            obtain ⟨hg3, hf⟩ := xifn hf
                            refine lv_idiv hx hb dM_times_214 hg3 ?_
                            refine lv_i2l hx hb dM_times_215 rfl ?_
                            refine W.lcmp hx hb dM_times_216 ?_
                            refine lv_if_le (tgt := 225) hx hb dM_times_217 (by decide) (fun hc => ?_) (fun hc => ?_)
                            · rw [if_pos hc] at hf
                              refine lv_aload_n hx hb dM_times_225 rfl (lv_at hl 0 rfl) ?_
                              refine xm_get (v := .int (xsi st 4)) hx hb htx hown hK hP 4 (by decide) rfl (htx _ kw_5_91) rfl dM_times_226 ?_
                              refine lv_istore_n (lv' := [(3, .int (xsi st 4)), (0, .ref aM), (1, xv vad c0), (2, xv vad c1)]) hx hb dM_times_229 rfl hl (by decide) (by simp only [List.filter, xvcat, xrscat, xcI, xcL, xcR, xcN]; rfl) (fun ls hl => ?_)
                              refine lv_lconst (v := 0) hx hb dM_times_230 (by decide) ?_
                              refine lv_lstore (lv' := [(4, .long 0), (3, .int (xsi st 4)), (0, .ref aM), (1, xv vad c0), (2, xv vad c1)]) hx hb dM_times_231 hl (by decide) rfl (fun ls hl => ?_)
                              exact key n (1, (0 : Int64), (xsi st 4), c0, c1, st, 0, 0) _ _ ls (⟨ad, gd, vad, rfl, hf, hP, hD, hS, lv_sub hl [0, 1, 2, 3, 4] rfl, hE, hN⟩)
                            · rw [if_neg hc] at hf
                              refine lv_aload_n hx hb dM_times_220 rfl (lv_at hl 0 rfl) ?_
                              obtain ⟨o4, hq5, hf⟩ := xbind hf
                              have hl := lv_sub (l' := [(0, .ref aM)]) hl [0] rfl
                              by_cases hk6 : o4.1 = 1
                              · rw [if_pos hk6] at hf
                                obtain ⟨hm7, hf⟩ := xmoE hf
                                obtain rfl := Option.some.inj hf
                                exact absurd (show (2 : Nat) = 1 from hkd) (by decide)
                              rw [if_neg hk6] at hf
                              exact nomatch hf
                        · rw [if_neg hc] at hf
                          refine xm_aload_n hx hb (xvor _ _) dM_times_181 rfl (lv_at hl 2 rfl) ?_
                          refine xm_vget (v := .long ((xpl st) (c1 - 1))) hx hb htx hown hK hP 1 (by decide) hg2 rfl ((hZ.1 (96, "n", "J") (List.mem_of_getElem? (i := 1) rfl)).use rfl) rfl dM_times_182 ?_
                          refine lv_ldc2 hx hb hown (htx _ kw_6_108) dM_times_185 ?_
                          refine W.lcmp hx hb dM_times_188 ?_
                          refine lv_if_le (tgt := 197) hx hb dM_times_189 (by decide) (fun hc => ?_) (fun hc => ?_)
                          · rw [if_pos hc] at hf
                            refine xm_aload_n hx hb (xvor _ _) dM_times_197 rfl (lv_at hl 1 rfl) ?_
                            refine xm_vget (v := .int ((xpi st 3) (c0 - 1))) hx hb htx hown hK hP 3 (by decide) hg1 rfl ((hZ.1 (103, "count", "I") (List.mem_of_getElem? (i := 3) rfl)).use rfl) rfl dM_times_198 ?_
                            refine lv_if_le (tgt := 225) hx hb dM_times_201 (by decide) (fun hc => ?_) (fun hc => ?_)
                            · rw [if_pos hc] at hf
                              refine lv_aload_n hx hb dM_times_225 rfl (lv_at hl 0 rfl) ?_
                              refine xm_get (v := .int (xsi st 4)) hx hb htx hown hK hP 4 (by decide) rfl (htx _ kw_5_91) rfl dM_times_226 ?_
                              refine lv_istore_n (lv' := [(3, .int (xsi st 4)), (0, .ref aM), (1, xv vad c0), (2, xv vad c1)]) hx hb dM_times_229 rfl hl (by decide) (by simp only [List.filter, xvcat, xrscat, xcI, xcL, xcR, xcN]; rfl) (fun ls hl => ?_)
                              refine lv_lconst (v := 0) hx hb dM_times_230 (by decide) ?_
                              refine lv_lstore (lv' := [(4, .long 0), (3, .int (xsi st 4)), (0, .ref aM), (1, xv vad c0), (2, xv vad c1)]) hx hb dM_times_231 hl (by decide) rfl (fun ls hl => ?_)
                              exact key n (1, (0 : Int64), (xsi st 4), c0, c1, st, 0, 0) _ _ ls (⟨ad, gd, vad, rfl, hf, hP, hD, hS, lv_sub hl [0, 1, 2, 3, 4] rfl, hE, hN⟩)
                            · rw [if_neg hc] at hf
                              refine xm_aload_n hx hb (xvor _ _) dM_times_204 rfl (lv_at hl 2 rfl) ?_
                              refine xm_vget (v := .long ((xpl st) (c1 - 1))) hx hb htx hown hK hP 1 (by decide) hg2 rfl ((hZ.1 (96, "n", "J") (List.mem_of_getElem? (i := 1) rfl)).use rfl) rfl dM_times_205 ?_
                              refine lv_ldc hx hb hown (htx _ kw_6_62) dM_times_208 ?_
                              refine xm_aload_n hx hb (xvor _ _) dM_times_210 rfl (lv_at hl 1 rfl) ?_
                              refine xm_vget (v := .int ((xpi st 3) (c0 - 1))) hx hb htx hown hK hP 3 (by decide) hg1 rfl ((hZ.1 (103, "count", "I") (List.mem_of_getElem? (i := 3) rfl)).use rfl) rfl dM_times_211 ?_
                              obtain ⟨hg3, hf⟩ := xifn hf
                              refine lv_idiv hx hb dM_times_214 hg3 ?_
                              refine lv_i2l hx hb dM_times_215 rfl ?_
                              refine W.lcmp hx hb dM_times_216 ?_
                              refine lv_if_le (tgt := 225) hx hb dM_times_217 (by decide) (fun hc => ?_) (fun hc => ?_)
                              · rw [if_pos hc] at hf
                                refine lv_aload_n hx hb dM_times_225 rfl (lv_at hl 0 rfl) ?_
                                refine xm_get (v := .int (xsi st 4)) hx hb htx hown hK hP 4 (by decide) rfl (htx _ kw_5_91) rfl dM_times_226 ?_
                                refine lv_istore_n (lv' := [(3, .int (xsi st 4)), (0, .ref aM), (1, xv vad c0), (2, xv vad c1)]) hx hb dM_times_229 rfl hl (by decide) (by simp only [List.filter, xvcat, xrscat, xcI, xcL, xcR, xcN]; rfl) (fun ls hl => ?_)
                                refine lv_lconst (v := 0) hx hb dM_times_230 (by decide) ?_
                                refine lv_lstore (lv' := [(4, .long 0), (3, .int (xsi st 4)), (0, .ref aM), (1, xv vad c0), (2, xv vad c1)]) hx hb dM_times_231 hl (by decide) rfl (fun ls hl => ?_)
                                exact key n (1, (0 : Int64), (xsi st 4), c0, c1, st, 0, 0) _ _ ls (⟨ad, gd, vad, rfl, hf, hP, hD, hS, lv_sub hl [0, 1, 2, 3, 4] rfl, hE, hN⟩)
                              · rw [if_neg hc] at hf
                                refine lv_aload_n hx hb dM_times_220 rfl (lv_at hl 0 rfl) ?_
                                obtain ⟨o4, hq5, hf⟩ := xbind hf
                                have hl := lv_sub (l' := [(0, .ref aM)]) hl [0] rfl
                                by_cases hk6 : o4.1 = 1
                                · rw [if_pos hk6] at hf
                                  obtain ⟨hm7, hf⟩ := xmoE hf
                                  obtain rfl := Option.some.inj hf
                                  exact absurd (show (2 : Nat) = 1 from hkd) (by decide)
                                rw [if_neg hk6] at hf
                                exact nomatch hf
                          · rw [if_neg hc] at hf
                            refine lv_aload_n hx hb dM_times_192 rfl (lv_at hl 0 rfl) ?_
                            obtain ⟨o3, hq4, hf⟩ := xbind hf
                            have hl := lv_sub (l' := [(0, .ref aM)]) hl [0] rfl
                            by_cases hk5 : o3.1 = 1
                            · rw [if_pos hk5] at hf
                              obtain ⟨hm6, hf⟩ := xmoE hf
                              obtain rfl := Option.some.inj hf
                              exact absurd (show (2 : Nat) = 1 from hkd) (by decide)
                            rw [if_neg hk5] at hf
                            exact nomatch hf
                    · rw [if_neg hc] at hf
                      refine lv_aload_n hx hb dM_times_149 rfl (lv_at hl 0 rfl) ?_
                      refine lv_iconst (v := 0) hx hb dM_times_150 (by decide) ?_
                      obtain ⟨o3, hq4, hf⟩ := xbind hf
                      have hl := lv_sub (l' := [(0, .ref aM)]) hl [0] rfl
                      obtain ⟨hm5, hf⟩ := xmoE hf
                      have hFc := xm_free hD hS hA
                      refine va_callq (va_runV (C := "ValueBenchModel") (As := [.int 0]) (rest := []) ⟨hx, hb, hml, hown, htx⟩ (gM_fresh l hl9 D cT aK aV s.heap.size n aM ad rd gd vad st (0 : Int32) o3 hq4) ⟨callB_of 1 htx (xw_goodC kw_6_16) rfl rfl rfl (htx _ kw_1_5) (htx _ kw_6_13) ⟨by decide, by decide, by decide +kernel⟩ ⟨Nat.le_of_ble_eq_true rfl, Nat.le_of_ble_eq_true rfl⟩, (htx _ kw_6_15), (htx _ kp_M_fresh)⟩ ⟨xPre_blind, va_recv hK hP (ci := 5) rfl (q0 := 0) rfl, (fun U hU hW => ⟨rfl, xPre_of hZ hS hFc hP hD hK U hU hW⟩)⟩ rfl rfl hl.1 rfl (xm_room (Nat.le_of_ble_eq_true rfl)) dM_times_151 ⟨hm5.1, hm5.2⟩) hS (fun q _ h => hFc q h) hFc (fun r6 u9 t H1 locs ht hvm hr9 hB hz1 hk1 hS => ?_)
                      obtain ⟨hP1, hK1, hD1⟩ := hB
                      rw [ht] at hP1
                      obtain ⟨ad7, gd8, vad9⟩ := u9
                      obtain ⟨hr9, hv10, hn11⟩ := hr9
                      have hP : va_P D xcl (xMw cT aM ad7 rd gd8 vad9 o3.2.2.2 []) H1 := hP1
                      have hD : va_D A (xMw cT aM ad7 rd gd8 vad9 o3.2.2.2 []) := hD1.weaken (fun k q _ h => hFc q.1 h)
                      generalize H1 = H at hP hS ⊢
                      have hE9 : ∀ p, p < xct st → vad9 p = vad p := fun p h => (hv10 p (Nat.lt_of_lt_of_le h hN)).trans (hE p h)
                      have hE := hE9
                      have hN : xct st ≤ xct o3.2.2.2 := Nat.le_trans hN hn11
                      rw [hr9]
                      refine W.eq (g2 := F0 m 154 ls [xv vad9 o3.2.2.1]) (by first | rfl | (skip; rfl)) ?_
                      obtain rfl := Option.some.inj hf
                      exact absurd (show (0 : Nat) = 1 from hkd) (by decide)
                  · rw [if_neg hc] at hf
                    refine lv_aload_n hx hb dM_times_134 rfl (lv_at hl 0 rfl) ?_
                    refine lv_iconst (v := 1) hx hb dM_times_135 (by decide) ?_
                    obtain ⟨o3, hq4, hf⟩ := xbind hf
                    have hl := lv_sub (l' := [(0, .ref aM)]) hl [0] rfl
                    by_cases hk5 : o3.1 = 1
                    · rw [if_pos hk5] at hf
                      obtain ⟨hm6, hf⟩ := xmoE hf
                      have hFc := xm_free hD hS hA
                      refine xx_thr (vx_runV (C := "ValueBenchModel") (As := [.int 1]) (rest := []) ⟨hx, hb, hml, hown, htx⟩ (gM_refuse_1 l hl9 D cT aK aV s.heap.size n aM ad rd gd vad st (1 : Int32) o3 hq4 hk5) ⟨callB_of 1 htx (xw_goodC kw_6_93) rfl rfl rfl (htx _ kw_1_5) (htx _ kw_6_90) ⟨by decide, by decide, by decide +kernel⟩ ⟨Nat.le_of_ble_eq_true rfl, Nat.le_of_ble_eq_true rfl⟩, (htx _ kw_6_92), (htx _ kp_M_refuse)⟩ ⟨xPre_blind, va_recv hK hP (ci := 5) rfl (q0 := 0) rfl, (fun U hU hW => ⟨rfl, xPre_of hZ hS hFc hP hD hK U hU hW⟩)⟩ rfl rfl hl.1 rfl (xm_room (Nat.le_of_ble_eq_true rfl)) dM_times_136 ⟨hm6.1, hm6.2⟩) hS hFc (fun q _ h => hFc q h) (fun E ce q9 u9 t H1 locs ht hvm hr9 hB hz1 hk1 hS hce hcv hcl => ?_)
                      obtain ⟨rfl, hP1, hK1, hD1⟩ := hB
                      rw [ht] at hP1
                      obtain ⟨ad8, gd9, vad10⟩ := u9
                      obtain ⟨hv11, hn12⟩ := hr9
                      have hP : va_P D xcl (xMw cT aM ad8 rd gd9 vad10 o3.2.2.2.2 []) H1 := hP1
                      have hD : va_D A (xMw cT aM ad8 rd gd9 vad10 o3.2.2.2.2 []) := hD1.weaken (fun k q _ h => hFc q.1 h)
                      generalize H1 = H at hP hS hce ⊢
                      have hE9 : ∀ p, p < xct st → vad10 p = vad p := fun p h => (hv11 p (Nat.lt_of_lt_of_le h hN)).trans (hE p h)
                      have hE := hE9
                      have hN : xct st ≤ xct o3.2.2.2.2 := Nat.le_trans hN hn12
                      obtain rfl := Option.some.inj hf
                      exact vx_out (E := "java/lang/ArithmeticException") (fun x h => (hne x h).elim) hlocks hce hcv hcl (fun t ht ha => ⟨(ad8, gd9, vad10), ⟨hE, hN⟩, ⟨rfl, by rw [ht]; exact hP, va_K.moved ha hK, hD⟩, hS.F ht⟩) hS.2.2 (Nat.le_refl _) (Nat.le_refl _)
                    rw [if_neg hk5] at hf
                    exact nomatch hf
              · rw [if_pos hc] at hf
                refine lv_aload_n hx hb dM_times_111 rfl (lv_at hl 0 rfl) ?_
                refine xm_aload_n hx hb (xvor _ _) dM_times_112 rfl (lv_at hl 2 rfl) ?_
                refine xm_aload_n hx hb (xvor _ _) dM_times_113 rfl (lv_at hl 1 rfl) ?_
                obtain ⟨o3, hq4, hf⟩ := xbind hf
                have hl := lv_sub (l' := [(0, .ref aM)]) hl [0] rfl
                by_cases hk5 : o3.1 = 0
                · rw [if_pos hk5] at hf
                  obtain ⟨hm6, hf⟩ := xmoE hf
                  have hFc := xm_free hD hS hA
                  refine va_callq (va_runV (C := "ValueBenchModel") (As := [xv vad c1, xv vad c0]) (rest := []) ⟨hx, hb, hml, hown, htx⟩ ((hrec s.heap.size aM ad rd gd vad st c1 c0 o3 hq4).1 hk5) ⟨callB_of 2 htx (xw_goodC kw_6_215) rfl rfl rfl (htx _ kw_1_5) (htx _ kw_6_212) ⟨by decide, by decide, by decide +kernel⟩ ⟨(by show (16 * d) + 1 ≤ 16 * (d + 1); omega), (by show 8 + (7 + 11) + (400 * d) ≤ 400 * (d + 1); omega)⟩, (htx _ kw_6_214), (htx _ kp_M_times)⟩ ⟨xPre_blind, va_recv hK hP (ci := 5) rfl (q0 := 0) rfl, (fun U hU hW => ⟨rfl, xPre_of hZ hS hFc hP hD hK U hU hW⟩)⟩ rfl rfl hl.1 rfl (xm_room (Nat.le_of_ble_eq_true rfl)) dM_times_114 ⟨hm6.1, hm6.2⟩) hS (fun q _ h => hFc q h) hFc (fun r7 u9 t H1 locs ht hvm hr9 hB hz1 hk1 hS => ?_)
                  obtain ⟨hP1, hK1, hD1⟩ := hB
                  rw [ht] at hP1
                  obtain ⟨ad8, gd9, vad10⟩ := u9
                  obtain ⟨hr9, hv11, hn12⟩ := hr9
                  have hP : va_P D xcl (xMw cT aM ad8 rd gd9 vad10 o3.2.2.2.2 []) H1 := hP1
                  have hD : va_D A (xMw cT aM ad8 rd gd9 vad10 o3.2.2.2.2 []) := hD1.weaken (fun k q _ h => hFc q.1 h)
                  generalize H1 = H at hP hS ⊢
                  have hE9 : ∀ p, p < xct st → vad10 p = vad p := fun p h => (hv11 p (Nat.lt_of_lt_of_le h hN)).trans (hE p h)
                  have hE := hE9
                  have hN : xct st ≤ xct o3.2.2.2.2 := Nat.le_trans hN hn12
                  rw [hr9]
                  refine W.eq (g2 := F0 m 117 ls [xv vad10 o3.2.2.2.1]) (by first | rfl | (skip; rfl)) ?_
                  obtain rfl := Option.some.inj hf
                  exact absurd (show (0 : Nat) = 1 from hkd) (by decide)
                rw [if_neg hk5] at hf
                by_cases hk13 : o3.1 = 1
                · rw [if_pos hk13] at hf
                  obtain ⟨hm14, hf⟩ := xmoE hf
                  have hFc := xm_free hD hS hA
                  refine xx_thr (vx_runV (C := "ValueBenchModel") (As := [xv vad c1, xv vad c0]) (rest := []) ⟨hx, hb, hml, hown, htx⟩ ((hrec s.heap.size aM ad rd gd vad st c1 c0 o3 hq4).2.1 hk13) ⟨callB_of 2 htx (xw_goodC kw_6_215) rfl rfl rfl (htx _ kw_1_5) (htx _ kw_6_212) ⟨by decide, by decide, by decide +kernel⟩ ⟨(by show (16 * d) + 1 ≤ 16 * (d + 1); omega), (by show 8 + (7 + 11) + (400 * d) ≤ 400 * (d + 1); omega)⟩, (htx _ kw_6_214), (htx _ kp_M_times)⟩ ⟨xPre_blind, va_recv hK hP (ci := 5) rfl (q0 := 0) rfl, (fun U hU hW => ⟨rfl, xPre_of hZ hS hFc hP hD hK U hU hW⟩)⟩ rfl rfl hl.1 rfl (xm_room (Nat.le_of_ble_eq_true rfl)) dM_times_114 ⟨hm14.1, hm14.2⟩) hS hFc (fun q _ h => hFc q h) (fun E ce q9 u9 t H1 locs ht hvm hr9 hB hz1 hk1 hS hce hcv hcl => ?_)
                  obtain ⟨rfl, hP1, hK1, hD1⟩ := hB
                  rw [ht] at hP1
                  obtain ⟨ad16, gd17, vad18⟩ := u9
                  obtain ⟨hv19, hn20⟩ := hr9
                  have hP : va_P D xcl (xMw cT aM ad16 rd gd17 vad18 o3.2.2.2.2 []) H1 := hP1
                  have hD : va_D A (xMw cT aM ad16 rd gd17 vad18 o3.2.2.2.2 []) := hD1.weaken (fun k q _ h => hFc q.1 h)
                  generalize H1 = H at hP hS hce ⊢
                  have hE9 : ∀ p, p < xct st → vad18 p = vad p := fun p h => (hv19 p (Nat.lt_of_lt_of_le h hN)).trans (hE p h)
                  have hE := hE9
                  have hN : xct st ≤ xct o3.2.2.2.2 := Nat.le_trans hN hn20
                  obtain rfl := Option.some.inj hf
                  exact vx_out (E := "java/lang/ArithmeticException") (fun x h => (hne x h).elim) hlocks hce hcv hcl (fun t ht ha => ⟨(ad16, gd17, vad18), ⟨hE, hN⟩, ⟨rfl, by rw [ht]; exact hP, va_K.moved ha hK, hD⟩, hS.F ht⟩) hS.2.2 (Nat.le_refl _) (Nat.le_refl _)
                rw [if_neg hk13] at hf
                by_cases hk21 : o3.1 = 2
                · rw [if_pos hk21] at hf
                  obtain ⟨hm22, hf⟩ := xmoE hf
                  obtain rfl := Option.some.inj hf
                  exact absurd (show (2 : Nat) = 1 from hkd) (by decide)
                rw [if_neg hk21] at hf
                exact nomatch hf
          · rw [if_pos hc] at hf
            refine lv_aload_n hx hb dM_times_88 rfl (lv_at hl 0 rfl) ?_
            refine xm_aload_n hx hb (xvor _ _) dM_times_89 rfl (lv_at hl 1 rfl) ?_
            refine xm_aload_n hx hb (xvor _ _) dM_times_90 rfl (lv_at hl 2 rfl) ?_
            obtain ⟨o3, hq4, hf⟩ := xbind hf
            have hl := lv_sub (l' := [(0, .ref aM)]) hl [0] rfl
            by_cases hk5 : o3.1 = 0
            · rw [if_pos hk5] at hf
              obtain ⟨hm6, hf⟩ := xmoE hf
              have hFc := xm_free hD hS hA
              refine va_callq (va_runV (C := "ValueBenchModel") (As := [xv vad c0, xv vad c1]) (rest := []) ⟨hx, hb, hml, hown, htx⟩ ((gM_merged l hl9 D cT aK aV d s.heap.size n aM ad rd gd vad st c0 c1 o3 hq4).1 hk5) ⟨callB_of 2 htx (xw_goodC kw_6_220) rfl rfl rfl (htx _ kw_1_5) (htx _ kw_6_217) ⟨by decide, by decide, by decide +kernel⟩ ⟨(by show (16 * d) + 1 ≤ 16 * (d + 1); omega), (by show 8 + (8 + 11) + (400 * d) ≤ 400 * (d + 1); omega)⟩, (htx _ kw_6_219), (htx _ kp_M_merged)⟩ ⟨xPre_blind, va_recv hK hP (ci := 5) rfl (q0 := 0) rfl, (fun U hU hW => ⟨rfl, xPre_of hZ hS hFc hP hD hK U hU hW⟩)⟩ rfl rfl hl.1 rfl (xm_room (Nat.le_of_ble_eq_true rfl)) dM_times_91 ⟨hm6.1, hm6.2⟩) hS (fun q _ h => hFc q h) hFc (fun r7 u9 t H1 locs ht hvm hr9 hB hz1 hk1 hS => ?_)
              obtain ⟨hP1, hK1, hD1⟩ := hB
              rw [ht] at hP1
              obtain ⟨ad8, gd9, vad10⟩ := u9
              obtain ⟨hr9, hv11, hn12⟩ := hr9
              have hP : va_P D xcl (xMw cT aM ad8 rd gd9 vad10 o3.2.2.2.2 []) H1 := hP1
              have hD : va_D A (xMw cT aM ad8 rd gd9 vad10 o3.2.2.2.2 []) := hD1.weaken (fun k q _ h => hFc q.1 h)
              generalize H1 = H at hP hS ⊢
              have hE9 : ∀ p, p < xct st → vad10 p = vad p := fun p h => (hv11 p (Nat.lt_of_lt_of_le h hN)).trans (hE p h)
              have hE := hE9
              have hN : xct st ≤ xct o3.2.2.2.2 := Nat.le_trans hN hn12
              rw [hr9]
              refine W.eq (g2 := F0 m 94 ls [xv vad10 o3.2.2.2.1]) (by first | rfl | (skip; rfl)) ?_
              obtain rfl := Option.some.inj hf
              exact absurd (show (0 : Nat) = 1 from hkd) (by decide)
            rw [if_neg hk5] at hf
            by_cases hk13 : o3.1 = 1
            · rw [if_pos hk13] at hf
              obtain ⟨hm14, hf⟩ := xmoE hf
              obtain rfl := Option.some.inj hf
              exact absurd (show (2 : Nat) = 1 from hkd) (by decide)
            rw [if_neg hk13] at hf
            exact nomatch hf
      · rw [if_pos hc] at hf
        refine xm_aload_n hx hb (xvor _ _) dM_times_8 rfl (lv_at hl 2 rfl) ?_
        obtain ⟨hg2, hf⟩ := xifn hf
        refine xm_vget (v := .int ((xpi st 0) (c1 - 1))) hx hb htx hown hK hP 0 (by decide) hg2 rfl ((hZ.1 (93, "kind", "I") (List.mem_of_getElem? (i := 0) rfl)).use rfl) rfl dM_times_9 ?_
        refine lv_iconst (v := 3) hx hb dM_times_12 (by decide) ?_
        refine lv_icmp_ne (tgt := 70) hx hb dM_times_13 (by decide) (fun hc => ?_) (fun hc => ?_)
        · rw [if_neg hc] at hf
          refine xm_aload_n hx hb (xvor _ _) dM_times_70 rfl (lv_at hl 1 rfl) ?_
          refine xm_vget (v := .int ((xpi st 0) (c0 - 1))) hx hb htx hown hK hP 0 (by decide) hg1 rfl ((hZ.1 (93, "kind", "I") (List.mem_of_getElem? (i := 0) rfl)).use rfl) rfl dM_times_71 ?_
          refine lv_bipush (v := 6) hx hb dM_times_74 (by decide) ?_
          refine lv_icmp_ne (tgt := 95) hx hb dM_times_76 (by decide) (fun hc => ?_) (fun hc => ?_)
          · rw [if_neg hc] at hf
            refine xm_aload_n hx hb (xvor _ _) dM_times_95 rfl (lv_at hl 1 rfl) ?_
            refine xm_vget (v := .int ((xpi st 0) (c0 - 1))) hx hb htx hown hK hP 0 (by decide) hg1 rfl ((hZ.1 (93, "kind", "I") (List.mem_of_getElem? (i := 0) rfl)).use rfl) rfl dM_times_96 ?_
            refine lv_iconst (v := 3) hx hb dM_times_99 (by decide) ?_
            refine lv_icmp_ne (tgt := 118) hx hb dM_times_100 (by decide) (fun hc => ?_) (fun hc => ?_)
            · rw [if_neg hc] at hf
              refine xm_aload_n hx hb (xvor _ _) dM_times_118 rfl (lv_at hl 1 rfl) ?_
              refine xm_vget (v := .int ((xpi st 0) (c0 - 1))) hx hb htx hown hK hP 0 (by decide) hg1 rfl ((hZ.1 (93, "kind", "I") (List.mem_of_getElem? (i := 0) rfl)).use rfl) rfl dM_times_119 ?_
              refine lv_iconst (v := 4) hx hb dM_times_122 (by decide) ?_
              refine lv_icmp_ne (tgt := 134) hx hb dM_times_123 (by decide) (fun hc => ?_) (fun hc => ?_)
              · rw [if_neg hc] at hf
                refine lv_aload_n hx hb dM_times_134 rfl (lv_at hl 0 rfl) ?_
                refine lv_iconst (v := 1) hx hb dM_times_135 (by decide) ?_
                obtain ⟨o3, hq4, hf⟩ := xbind hf
                have hl := lv_sub (l' := [(0, .ref aM)]) hl [0] rfl
                by_cases hk5 : o3.1 = 1
                · rw [if_pos hk5] at hf
                  obtain ⟨hm6, hf⟩ := xmoE hf
                  have hFc := xm_free hD hS hA
                  refine xx_thr (vx_runV (C := "ValueBenchModel") (As := [.int 1]) (rest := []) ⟨hx, hb, hml, hown, htx⟩ (gM_refuse_1 l hl9 D cT aK aV s.heap.size n aM ad rd gd vad st (1 : Int32) o3 hq4 hk5) ⟨callB_of 1 htx (xw_goodC kw_6_93) rfl rfl rfl (htx _ kw_1_5) (htx _ kw_6_90) ⟨by decide, by decide, by decide +kernel⟩ ⟨Nat.le_of_ble_eq_true rfl, Nat.le_of_ble_eq_true rfl⟩, (htx _ kw_6_92), (htx _ kp_M_refuse)⟩ ⟨xPre_blind, va_recv hK hP (ci := 5) rfl (q0 := 0) rfl, (fun U hU hW => ⟨rfl, xPre_of hZ hS hFc hP hD hK U hU hW⟩)⟩ rfl rfl hl.1 rfl (xm_room (Nat.le_of_ble_eq_true rfl)) dM_times_136 ⟨hm6.1, hm6.2⟩) hS hFc (fun q _ h => hFc q h) (fun E ce q9 u9 t H1 locs ht hvm hr9 hB hz1 hk1 hS hce hcv hcl => ?_)
                  obtain ⟨rfl, hP1, hK1, hD1⟩ := hB
                  rw [ht] at hP1
                  obtain ⟨ad8, gd9, vad10⟩ := u9
                  obtain ⟨hv11, hn12⟩ := hr9
                  have hP : va_P D xcl (xMw cT aM ad8 rd gd9 vad10 o3.2.2.2.2 []) H1 := hP1
                  have hD : va_D A (xMw cT aM ad8 rd gd9 vad10 o3.2.2.2.2 []) := hD1.weaken (fun k q _ h => hFc q.1 h)
                  generalize H1 = H at hP hS hce ⊢
                  have hE9 : ∀ p, p < xct st → vad10 p = vad p := fun p h => (hv11 p (Nat.lt_of_lt_of_le h hN)).trans (hE p h)
                  have hE := hE9
                  have hN : xct st ≤ xct o3.2.2.2.2 := Nat.le_trans hN hn12
                  obtain rfl := Option.some.inj hf
                  exact vx_out (E := "java/lang/ArithmeticException") (fun x h => (hne x h).elim) hlocks hce hcv hcl (fun t ht ha => ⟨(ad8, gd9, vad10), ⟨hE, hN⟩, ⟨rfl, by rw [ht]; exact hP, va_K.moved ha hK, hD⟩, hS.F ht⟩) hS.2.2 (Nat.le_refl _) (Nat.le_refl _)
                rw [if_neg hk5] at hf
                exact nomatch hf
              · rw [if_pos hc] at hf
                refine xm_aload_n hx hb (xvor _ _) dM_times_126 rfl (lv_at hl 2 rfl) ?_
                refine xm_vget (v := .int ((xpi st 0) (c1 - 1))) hx hb htx hown hK hP 0 (by decide) hg2 rfl ((hZ.1 (93, "kind", "I") (List.mem_of_getElem? (i := 0) rfl)).use rfl) rfl dM_times_127 ?_
                refine lv_iconst (v := 3) hx hb dM_times_130 (by decide) ?_
                refine lv_icmp_eq (tgt := 140) hx hb dM_times_131 (by decide) (fun hc => ?_) (fun hc => ?_)
                · rw [if_pos hc] at hf
                  refine xm_aload_n hx hb (xvor _ _) dM_times_140 rfl (lv_at hl 2 rfl) ?_
                  refine xm_vget (v := .long ((xpl st) (c1 - 1))) hx hb htx hown hK hP 1 (by decide) hg2 rfl ((hZ.1 (96, "n", "J") (List.mem_of_getElem? (i := 1) rfl)).use rfl) rfl dM_times_141 ?_
                  refine lv_lconst (v := 1) hx hb dM_times_144 (by decide) ?_
                  refine W.lcmp hx hb dM_times_145 ?_
                  refine lv_if_ge (tgt := 155) hx hb dM_times_146 (by decide) (fun hc => ?_) (fun hc => ?_)
                  · rw [if_pos hc] at hf
                    refine xm_aload_n hx hb (xvor _ _) dM_times_155 rfl (lv_at hl 2 rfl) ?_
                    refine xm_vget (v := .long ((xpl st) (c1 - 1))) hx hb htx hown hK hP 1 (by decide) hg2 rfl ((hZ.1 (96, "n", "J") (List.mem_of_getElem? (i := 1) rfl)).use rfl) rfl dM_times_156 ?_
                    refine xm_aload_n hx hb (xvor _ _) dM_times_159 rfl (lv_at hl 1 rfl) ?_
                    refine xm_vget (v := .int ((xpi st 3) (c0 - 1))) hx hb htx hown hK hP 3 (by decide) hg1 rfl ((hZ.1 (103, "count", "I") (List.mem_of_getElem? (i := 3) rfl)).use rfl) rfl dM_times_160 ?_
                    refine lv_i2l hx hb dM_times_163 rfl ?_
                    refine lv_lconst (v := 1) hx hb dM_times_164 (by decide) ?_
                    refine lv_ladd hx hb dM_times_165 ?_
                    refine lv_lmul hx hb dM_times_166 ?_
                    refine lv_ldc2 hx hb hown (htx _ kw_6_221) dM_times_167 ?_
                    refine W.lcmp hx hb dM_times_170 ?_
                    refine lv_if_le (tgt := 197) hx hb dM_times_171 (by decide) (fun hc => ?_) (fun hc => ?_)
                    · rw [if_pos hc] at hf
                      refine xm_aload_n hx hb (xvor _ _) dM_times_197 rfl (lv_at hl 1 rfl) ?_
                      refine xm_vget (v := .int ((xpi st 3) (c0 - 1))) hx hb htx hown hK hP 3 (by decide) hg1 rfl ((hZ.1 (103, "count", "I") (List.mem_of_getElem? (i := 3) rfl)).use rfl) rfl dM_times_198 ?_
                      refine lv_if_le (tgt := 225) hx hb dM_times_201 (by decide) (fun hc => ?_) (fun hc => ?_)
                      · rw [if_pos hc] at hf
                        refine lv_aload_n hx hb dM_times_225 rfl (lv_at hl 0 rfl) ?_
                        refine xm_get (v := .int (xsi st 4)) hx hb htx hown hK hP 4 (by decide) rfl (htx _ kw_5_91) rfl dM_times_226 ?_
                        refine lv_istore_n (lv' := [(3, .int (xsi st 4)), (0, .ref aM), (1, xv vad c0), (2, xv vad c1)]) hx hb dM_times_229 rfl hl (by decide) (by simp only [List.filter, xvcat, xrscat, xcI, xcL, xcR, xcN]; rfl) (fun ls hl => ?_)
                        refine lv_lconst (v := 0) hx hb dM_times_230 (by decide) ?_
                        refine lv_lstore (lv' := [(4, .long 0), (3, .int (xsi st 4)), (0, .ref aM), (1, xv vad c0), (2, xv vad c1)]) hx hb dM_times_231 hl (by decide) rfl (fun ls hl => ?_)
                        exact key n (1, (0 : Int64), (xsi st 4), c0, c1, st, 0, 0) _ _ ls (⟨ad, gd, vad, rfl, hf, hP, hD, hS, lv_sub hl [0, 1, 2, 3, 4] rfl, hE, hN⟩)
                      · rw [if_neg hc] at hf
                        refine xm_aload_n hx hb (xvor _ _) dM_times_204 rfl (lv_at hl 2 rfl) ?_
                        refine xm_vget (v := .long ((xpl st) (c1 - 1))) hx hb htx hown hK hP 1 (by decide) hg2 rfl ((hZ.1 (96, "n", "J") (List.mem_of_getElem? (i := 1) rfl)).use rfl) rfl dM_times_205 ?_
                        refine lv_ldc hx hb hown (htx _ kw_6_62) dM_times_208 ?_
                        refine xm_aload_n hx hb (xvor _ _) dM_times_210 rfl (lv_at hl 1 rfl) ?_
                        refine xm_vget (v := .int ((xpi st 3) (c0 - 1))) hx hb htx hown hK hP 3 (by decide) hg1 rfl ((hZ.1 (103, "count", "I") (List.mem_of_getElem? (i := 3) rfl)).use rfl) rfl dM_times_211 ?_
                        obtain ⟨hg3, hf⟩ := xifn hf
                        refine lv_idiv hx hb dM_times_214 hg3 ?_
                        refine lv_i2l hx hb dM_times_215 rfl ?_
                        refine W.lcmp hx hb dM_times_216 ?_
                        refine lv_if_le (tgt := 225) hx hb dM_times_217 (by decide) (fun hc => ?_) (fun hc => ?_)
                        · rw [if_pos hc] at hf
                          refine lv_aload_n hx hb dM_times_225 rfl (lv_at hl 0 rfl) ?_
                          refine xm_get (v := .int (xsi st 4)) hx hb htx hown hK hP 4 (by decide) rfl (htx _ kw_5_91) rfl dM_times_226 ?_
                          refine lv_istore_n (lv' := [(3, .int (xsi st 4)), (0, .ref aM), (1, xv vad c0), (2, xv vad c1)]) hx hb dM_times_229 rfl hl (by decide) (by simp only [List.filter, xvcat, xrscat, xcI, xcL, xcR, xcN]; rfl) (fun ls hl => ?_)
                          refine lv_lconst (v := 0) hx hb dM_times_230 (by decide) ?_
                          refine lv_lstore (lv' := [(4, .long 0), (3, .int (xsi st 4)), (0, .ref aM), (1, xv vad c0), (2, xv vad c1)]) hx hb dM_times_231 hl (by decide) rfl (fun ls hl => ?_)
                          exact key n (1, (0 : Int64), (xsi st 4), c0, c1, st, 0, 0) _ _ ls (⟨ad, gd, vad, rfl, hf, hP, hD, hS, lv_sub hl [0, 1, 2, 3, 4] rfl, hE, hN⟩)
                        · rw [if_neg hc] at hf
                          refine lv_aload_n hx hb dM_times_220 rfl (lv_at hl 0 rfl) ?_
                          obtain ⟨o4, hq5, hf⟩ := xbind hf
                          have hl := lv_sub (l' := [(0, .ref aM)]) hl [0] rfl
                          by_cases hk6 : o4.1 = 1
                          · rw [if_pos hk6] at hf
                            obtain ⟨hm7, hf⟩ := xmoE hf
                            obtain rfl := Option.some.inj hf
                            exact absurd (show (2 : Nat) = 1 from hkd) (by decide)
                          rw [if_neg hk6] at hf
                          exact nomatch hf
                    · rw [if_neg hc] at hf
                      refine xm_aload_n hx hb (xvor _ _) dM_times_174 rfl (lv_at hl 1 rfl) ?_
                      refine xm_vget (v := .int ((xpi st 3) (c0 - 1))) hx hb htx hown hK hP 3 (by decide) hg1 rfl ((hZ.1 (103, "count", "I") (List.mem_of_getElem? (i := 3) rfl)).use rfl) rfl dM_times_175 ?_
                      refine lv_if_le (tgt := 197) hx hb dM_times_178 (by decide) (fun hc => ?_) (fun hc => ?_)
                      · rw [if_pos hc] at hf
                        refine xm_aload_n hx hb (xvor _ _) dM_times_197 rfl (lv_at hl 1 rfl) ?_
                        refine xm_vget (v := .int ((xpi st 3) (c0 - 1))) hx hb htx hown hK hP 3 (by decide) hg1 rfl ((hZ.1 (103, "count", "I") (List.mem_of_getElem? (i := 3) rfl)).use rfl) rfl dM_times_198 ?_
                        refine lv_if_le (tgt := 225) hx hb dM_times_201 (by decide) (fun hc => ?_) (fun hc => ?_)
                        · rw [if_pos hc] at hf
                          refine lv_aload_n hx hb dM_times_225 rfl (lv_at hl 0 rfl) ?_
                          refine xm_get (v := .int (xsi st 4)) hx hb htx hown hK hP 4 (by decide) rfl (htx _ kw_5_91) rfl dM_times_226 ?_
                          refine lv_istore_n (lv' := [(3, .int (xsi st 4)), (0, .ref aM), (1, xv vad c0), (2, xv vad c1)]) hx hb dM_times_229 rfl hl (by decide) (by simp only [List.filter, xvcat, xrscat, xcI, xcL, xcR, xcN]; rfl) (fun ls hl => ?_)
                          refine lv_lconst (v := 0) hx hb dM_times_230 (by decide) ?_
                          refine lv_lstore (lv' := [(4, .long 0), (3, .int (xsi st 4)), (0, .ref aM), (1, xv vad c0), (2, xv vad c1)]) hx hb dM_times_231 hl (by decide) rfl (fun ls hl => ?_)
                          exact key n (1, (0 : Int64), (xsi st 4), c0, c1, st, 0, 0) _ _ ls (⟨ad, gd, vad, rfl, hf, hP, hD, hS, lv_sub hl [0, 1, 2, 3, 4] rfl, hE, hN⟩)
                        · rw [if_neg hc] at hf
                          refine xm_aload_n hx hb (xvor _ _) dM_times_204 rfl (lv_at hl 2 rfl) ?_
                          refine xm_vget (v := .long ((xpl st) (c1 - 1))) hx hb htx hown hK hP 1 (by decide) hg2 rfl ((hZ.1 (96, "n", "J") (List.mem_of_getElem? (i := 1) rfl)).use rfl) rfl dM_times_205 ?_
                          refine lv_ldc hx hb hown (htx _ kw_6_62) dM_times_208 ?_
                          refine xm_aload_n hx hb (xvor _ _) dM_times_210 rfl (lv_at hl 1 rfl) ?_
                          refine xm_vget (v := .int ((xpi st 3) (c0 - 1))) hx hb htx hown hK hP 3 (by decide) hg1 rfl ((hZ.1 (103, "count", "I") (List.mem_of_getElem? (i := 3) rfl)).use rfl) rfl dM_times_211 ?_
                          obtain ⟨hg3, hf⟩ := xifn hf
                          refine lv_idiv hx hb dM_times_214 hg3 ?_
                          refine lv_i2l hx hb dM_times_215 rfl ?_
                          refine W.lcmp hx hb dM_times_216 ?_
                          refine lv_if_le (tgt := 225) hx hb dM_times_217 (by decide) (fun hc => ?_) (fun hc => ?_)
                          · rw [if_pos hc] at hf
                            refine lv_aload_n hx hb dM_times_225 rfl (lv_at hl 0 rfl) ?_
                            refine xm_get (v := .int (xsi st 4)) hx hb htx hown hK hP 4 (by decide) rfl (htx _ kw_5_91) rfl dM_times_226 ?_
                            refine lv_istore_n (lv' := [(3, .int (xsi st 4)), (0, .ref aM), (1, xv vad c0), (2, xv vad c1)]) hx hb dM_times_229 rfl hl (by decide) (by simp only [List.filter, xvcat, xrscat, xcI, xcL, xcR, xcN]; rfl) (fun ls hl => ?_)
                            refine lv_lconst (v := 0) hx hb dM_times_230 (by decide) ?_
                            refine lv_lstore (lv' := [(4, .long 0), (3, .int (xsi st 4)), (0, .ref aM), (1, xv vad c0), (2, xv vad c1)]) hx hb dM_times_231 hl (by decide) rfl (fun ls hl => ?_)
                            exact key n (1, (0 : Int64), (xsi st 4), c0, c1, st, 0, 0) _ _ ls (⟨ad, gd, vad, rfl, hf, hP, hD, hS, lv_sub hl [0, 1, 2, 3, 4] rfl, hE, hN⟩)
                          · rw [if_neg hc] at hf
                            refine lv_aload_n hx hb dM_times_220 rfl (lv_at hl 0 rfl) ?_
                            obtain ⟨o4, hq5, hf⟩ := xbind hf
                            have hl := lv_sub (l' := [(0, .ref aM)]) hl [0] rfl
                            by_cases hk6 : o4.1 = 1
                            · rw [if_pos hk6] at hf
                              obtain ⟨hm7, hf⟩ := xmoE hf
                              obtain rfl := Option.some.inj hf
                              exact absurd (show (2 : Nat) = 1 from hkd) (by decide)
                            rw [if_neg hk6] at hf
                            exact nomatch hf
                      · rw [if_neg hc] at hf
                        refine xm_aload_n hx hb (xvor _ _) dM_times_181 rfl (lv_at hl 2 rfl) ?_
                        refine xm_vget (v := .long ((xpl st) (c1 - 1))) hx hb htx hown hK hP 1 (by decide) hg2 rfl ((hZ.1 (96, "n", "J") (List.mem_of_getElem? (i := 1) rfl)).use rfl) rfl dM_times_182 ?_
                        refine lv_ldc2 hx hb hown (htx _ kw_6_108) dM_times_185 ?_
                        refine W.lcmp hx hb dM_times_188 ?_
                        refine lv_if_le (tgt := 197) hx hb dM_times_189 (by decide) (fun hc => ?_) (fun hc => ?_)
                        · rw [if_pos hc] at hf
                          refine xm_aload_n hx hb (xvor _ _) dM_times_197 rfl (lv_at hl 1 rfl) ?_
                          refine xm_vget (v := .int ((xpi st 3) (c0 - 1))) hx hb htx hown hK hP 3 (by decide) hg1 rfl ((hZ.1 (103, "count", "I") (List.mem_of_getElem? (i := 3) rfl)).use rfl) rfl dM_times_198 ?_
                          refine lv_if_le (tgt := 225) hx hb dM_times_201 (by decide) (fun hc => ?_) (fun hc => ?_)
                          · rw [if_pos hc] at hf
                            refine lv_aload_n hx hb dM_times_225 rfl (lv_at hl 0 rfl) ?_
                            refine xm_get (v := .int (xsi st 4)) hx hb htx hown hK hP 4 (by decide) rfl (htx _ kw_5_91) rfl dM_times_226 ?_
                            refine lv_istore_n (lv' := [(3, .int (xsi st 4)), (0, .ref aM), (1, xv vad c0), (2, xv vad c1)]) hx hb dM_times_229 rfl hl (by decide) (by simp only [List.filter, xvcat, xrscat, xcI, xcL, xcR, xcN]; rfl) (fun ls hl => ?_)
                            refine lv_lconst (v := 0) hx hb dM_times_230 (by decide) ?_
                            refine lv_lstore (lv' := [(4, .long 0), (3, .int (xsi st 4)), (0, .ref aM), (1, xv vad c0), (2, xv vad c1)]) hx hb dM_times_231 hl (by decide) rfl (fun ls hl => ?_)
                            exact key n (1, (0 : Int64), (xsi st 4), c0, c1, st, 0, 0) _ _ ls (⟨ad, gd, vad, rfl, hf, hP, hD, hS, lv_sub hl [0, 1, 2, 3, 4] rfl, hE, hN⟩)
                          · rw [if_neg hc] at hf
                            refine xm_aload_n hx hb (xvor _ _) dM_times_204 rfl (lv_at hl 2 rfl) ?_
                            refine xm_vget (v := .long ((xpl st) (c1 - 1))) hx hb htx hown hK hP 1 (by decide) hg2 rfl ((hZ.1 (96, "n", "J") (List.mem_of_getElem? (i := 1) rfl)).use rfl) rfl dM_times_205 ?_
                            refine lv_ldc hx hb hown (htx _ kw_6_62) dM_times_208 ?_
                            refine xm_aload_n hx hb (xvor _ _) dM_times_210 rfl (lv_at hl 1 rfl) ?_
                            refine xm_vget (v := .int ((xpi st 3) (c0 - 1))) hx hb htx hown hK hP 3 (by decide) hg1 rfl ((hZ.1 (103, "count", "I") (List.mem_of_getElem? (i := 3) rfl)).use rfl) rfl dM_times_211 ?_
                            obtain ⟨hg3, hf⟩ := xifn hf
                            refine lv_idiv hx hb dM_times_214 hg3 ?_
                            refine lv_i2l hx hb dM_times_215 rfl ?_
                            refine W.lcmp hx hb dM_times_216 ?_
                            refine lv_if_le (tgt := 225) hx hb dM_times_217 (by decide) (fun hc => ?_) (fun hc => ?_)
                            · rw [if_pos hc] at hf
                              refine lv_aload_n hx hb dM_times_225 rfl (lv_at hl 0 rfl) ?_
                              refine xm_get (v := .int (xsi st 4)) hx hb htx hown hK hP 4 (by decide) rfl (htx _ kw_5_91) rfl dM_times_226 ?_
                              refine lv_istore_n (lv' := [(3, .int (xsi st 4)), (0, .ref aM), (1, xv vad c0), (2, xv vad c1)]) hx hb dM_times_229 rfl hl (by decide) (by simp only [List.filter, xvcat, xrscat, xcI, xcL, xcR, xcN]; rfl) (fun ls hl => ?_)
                              refine lv_lconst (v := 0) hx hb dM_times_230 (by decide) ?_
                              refine lv_lstore (lv' := [(4, .long 0), (3, .int (xsi st 4)), (0, .ref aM), (1, xv vad c0), (2, xv vad c1)]) hx hb dM_times_231 hl (by decide) rfl (fun ls hl => ?_)
                              exact key n (1, (0 : Int64), (xsi st 4), c0, c1, st, 0, 0) _ _ ls (⟨ad, gd, vad, rfl, hf, hP, hD, hS, lv_sub hl [0, 1, 2, 3, 4] rfl, hE, hN⟩)
                            · rw [if_neg hc] at hf
                              refine lv_aload_n hx hb dM_times_220 rfl (lv_at hl 0 rfl) ?_
                              obtain ⟨o4, hq5, hf⟩ := xbind hf
                              have hl := lv_sub (l' := [(0, .ref aM)]) hl [0] rfl
                              by_cases hk6 : o4.1 = 1
                              · rw [if_pos hk6] at hf
                                obtain ⟨hm7, hf⟩ := xmoE hf
                                obtain rfl := Option.some.inj hf
                                exact absurd (show (2 : Nat) = 1 from hkd) (by decide)
                              rw [if_neg hk6] at hf
                              exact nomatch hf
                        · rw [if_neg hc] at hf
                          refine lv_aload_n hx hb dM_times_192 rfl (lv_at hl 0 rfl) ?_
                          obtain ⟨o3, hq4, hf⟩ := xbind hf
                          have hl := lv_sub (l' := [(0, .ref aM)]) hl [0] rfl
                          by_cases hk5 : o3.1 = 1
                          · rw [if_pos hk5] at hf
                            obtain ⟨hm6, hf⟩ := xmoE hf
                            obtain rfl := Option.some.inj hf
                            exact absurd (show (2 : Nat) = 1 from hkd) (by decide)
                          rw [if_neg hk5] at hf
                          exact nomatch hf
                  · rw [if_neg hc] at hf
                    refine lv_aload_n hx hb dM_times_149 rfl (lv_at hl 0 rfl) ?_
                    refine lv_iconst (v := 0) hx hb dM_times_150 (by decide) ?_
                    obtain ⟨o3, hq4, hf⟩ := xbind hf
                    have hl := lv_sub (l' := [(0, .ref aM)]) hl [0] rfl
                    obtain ⟨hm5, hf⟩ := xmoE hf
                    have hFc := xm_free hD hS hA
                    refine va_callq (va_runV (C := "ValueBenchModel") (As := [.int 0]) (rest := []) ⟨hx, hb, hml, hown, htx⟩ (gM_fresh l hl9 D cT aK aV s.heap.size n aM ad rd gd vad st (0 : Int32) o3 hq4) ⟨callB_of 1 htx (xw_goodC kw_6_16) rfl rfl rfl (htx _ kw_1_5) (htx _ kw_6_13) ⟨by decide, by decide, by decide +kernel⟩ ⟨Nat.le_of_ble_eq_true rfl, Nat.le_of_ble_eq_true rfl⟩, (htx _ kw_6_15), (htx _ kp_M_fresh)⟩ ⟨xPre_blind, va_recv hK hP (ci := 5) rfl (q0 := 0) rfl, (fun U hU hW => ⟨rfl, xPre_of hZ hS hFc hP hD hK U hU hW⟩)⟩ rfl rfl hl.1 rfl (xm_room (Nat.le_of_ble_eq_true rfl)) dM_times_151 ⟨hm5.1, hm5.2⟩) hS (fun q _ h => hFc q h) hFc (fun r6 u9 t H1 locs ht hvm hr9 hB hz1 hk1 hS => ?_)
                    obtain ⟨hP1, hK1, hD1⟩ := hB
                    rw [ht] at hP1
                    obtain ⟨ad7, gd8, vad9⟩ := u9
                    obtain ⟨hr9, hv10, hn11⟩ := hr9
                    have hP : va_P D xcl (xMw cT aM ad7 rd gd8 vad9 o3.2.2.2 []) H1 := hP1
                    have hD : va_D A (xMw cT aM ad7 rd gd8 vad9 o3.2.2.2 []) := hD1.weaken (fun k q _ h => hFc q.1 h)
                    generalize H1 = H at hP hS ⊢
                    have hE9 : ∀ p, p < xct st → vad9 p = vad p := fun p h => (hv10 p (Nat.lt_of_lt_of_le h hN)).trans (hE p h)
                    have hE := hE9
                    have hN : xct st ≤ xct o3.2.2.2 := Nat.le_trans hN hn11
                    rw [hr9]
                    refine W.eq (g2 := F0 m 154 ls [xv vad9 o3.2.2.1]) (by first | rfl | (skip; rfl)) ?_
                    obtain rfl := Option.some.inj hf
                    exact absurd (show (0 : Nat) = 1 from hkd) (by decide)
                · rw [if_neg hc] at hf
                  refine lv_aload_n hx hb dM_times_134 rfl (lv_at hl 0 rfl) ?_
                  refine lv_iconst (v := 1) hx hb dM_times_135 (by decide) ?_
                  obtain ⟨o3, hq4, hf⟩ := xbind hf
                  have hl := lv_sub (l' := [(0, .ref aM)]) hl [0] rfl
                  by_cases hk5 : o3.1 = 1
                  · rw [if_pos hk5] at hf
                    obtain ⟨hm6, hf⟩ := xmoE hf
                    have hFc := xm_free hD hS hA
                    refine xx_thr (vx_runV (C := "ValueBenchModel") (As := [.int 1]) (rest := []) ⟨hx, hb, hml, hown, htx⟩ (gM_refuse_1 l hl9 D cT aK aV s.heap.size n aM ad rd gd vad st (1 : Int32) o3 hq4 hk5) ⟨callB_of 1 htx (xw_goodC kw_6_93) rfl rfl rfl (htx _ kw_1_5) (htx _ kw_6_90) ⟨by decide, by decide, by decide +kernel⟩ ⟨Nat.le_of_ble_eq_true rfl, Nat.le_of_ble_eq_true rfl⟩, (htx _ kw_6_92), (htx _ kp_M_refuse)⟩ ⟨xPre_blind, va_recv hK hP (ci := 5) rfl (q0 := 0) rfl, (fun U hU hW => ⟨rfl, xPre_of hZ hS hFc hP hD hK U hU hW⟩)⟩ rfl rfl hl.1 rfl (xm_room (Nat.le_of_ble_eq_true rfl)) dM_times_136 ⟨hm6.1, hm6.2⟩) hS hFc (fun q _ h => hFc q h) (fun E ce q9 u9 t H1 locs ht hvm hr9 hB hz1 hk1 hS hce hcv hcl => ?_)
                    obtain ⟨rfl, hP1, hK1, hD1⟩ := hB
                    rw [ht] at hP1
                    obtain ⟨ad8, gd9, vad10⟩ := u9
                    obtain ⟨hv11, hn12⟩ := hr9
                    have hP : va_P D xcl (xMw cT aM ad8 rd gd9 vad10 o3.2.2.2.2 []) H1 := hP1
                    have hD : va_D A (xMw cT aM ad8 rd gd9 vad10 o3.2.2.2.2 []) := hD1.weaken (fun k q _ h => hFc q.1 h)
                    generalize H1 = H at hP hS hce ⊢
                    have hE9 : ∀ p, p < xct st → vad10 p = vad p := fun p h => (hv11 p (Nat.lt_of_lt_of_le h hN)).trans (hE p h)
                    have hE := hE9
                    have hN : xct st ≤ xct o3.2.2.2.2 := Nat.le_trans hN hn12
                    obtain rfl := Option.some.inj hf
                    exact vx_out (E := "java/lang/ArithmeticException") (fun x h => (hne x h).elim) hlocks hce hcv hcl (fun t ht ha => ⟨(ad8, gd9, vad10), ⟨hE, hN⟩, ⟨rfl, by rw [ht]; exact hP, va_K.moved ha hK, hD⟩, hS.F ht⟩) hS.2.2 (Nat.le_refl _) (Nat.le_refl _)
                  rw [if_neg hk5] at hf
                  exact nomatch hf
            · rw [if_pos hc] at hf
              refine xm_aload_n hx hb (xvor _ _) dM_times_103 rfl (lv_at hl 2 rfl) ?_
              refine xm_vget (v := .int ((xpi st 0) (c1 - 1))) hx hb htx hown hK hP 0 (by decide) hg2 rfl ((hZ.1 (93, "kind", "I") (List.mem_of_getElem? (i := 0) rfl)).use rfl) rfl dM_times_104 ?_
              refine lv_iconst (v := 4) hx hb dM_times_107 (by decide) ?_
              refine lv_icmp_ne (tgt := 118) hx hb dM_times_108 (by decide) (fun hc => ?_) (fun hc => ?_)
              · rw [if_neg hc] at hf
                refine xm_aload_n hx hb (xvor _ _) dM_times_118 rfl (lv_at hl 1 rfl) ?_
                refine xm_vget (v := .int ((xpi st 0) (c0 - 1))) hx hb htx hown hK hP 0 (by decide) hg1 rfl ((hZ.1 (93, "kind", "I") (List.mem_of_getElem? (i := 0) rfl)).use rfl) rfl dM_times_119 ?_
                refine lv_iconst (v := 4) hx hb dM_times_122 (by decide) ?_
                refine lv_icmp_ne (tgt := 134) hx hb dM_times_123 (by decide) (fun hc => ?_) (fun hc => ?_)
                · rw [if_neg hc] at hf
                  refine lv_aload_n hx hb dM_times_134 rfl (lv_at hl 0 rfl) ?_
                  refine lv_iconst (v := 1) hx hb dM_times_135 (by decide) ?_
                  obtain ⟨o3, hq4, hf⟩ := xbind hf
                  have hl := lv_sub (l' := [(0, .ref aM)]) hl [0] rfl
                  by_cases hk5 : o3.1 = 1
                  · rw [if_pos hk5] at hf
                    obtain ⟨hm6, hf⟩ := xmoE hf
                    have hFc := xm_free hD hS hA
                    refine xx_thr (vx_runV (C := "ValueBenchModel") (As := [.int 1]) (rest := []) ⟨hx, hb, hml, hown, htx⟩ (gM_refuse_1 l hl9 D cT aK aV s.heap.size n aM ad rd gd vad st (1 : Int32) o3 hq4 hk5) ⟨callB_of 1 htx (xw_goodC kw_6_93) rfl rfl rfl (htx _ kw_1_5) (htx _ kw_6_90) ⟨by decide, by decide, by decide +kernel⟩ ⟨Nat.le_of_ble_eq_true rfl, Nat.le_of_ble_eq_true rfl⟩, (htx _ kw_6_92), (htx _ kp_M_refuse)⟩ ⟨xPre_blind, va_recv hK hP (ci := 5) rfl (q0 := 0) rfl, (fun U hU hW => ⟨rfl, xPre_of hZ hS hFc hP hD hK U hU hW⟩)⟩ rfl rfl hl.1 rfl (xm_room (Nat.le_of_ble_eq_true rfl)) dM_times_136 ⟨hm6.1, hm6.2⟩) hS hFc (fun q _ h => hFc q h) (fun E ce q9 u9 t H1 locs ht hvm hr9 hB hz1 hk1 hS hce hcv hcl => ?_)
                    obtain ⟨rfl, hP1, hK1, hD1⟩ := hB
                    rw [ht] at hP1
                    obtain ⟨ad8, gd9, vad10⟩ := u9
                    obtain ⟨hv11, hn12⟩ := hr9
                    have hP : va_P D xcl (xMw cT aM ad8 rd gd9 vad10 o3.2.2.2.2 []) H1 := hP1
                    have hD : va_D A (xMw cT aM ad8 rd gd9 vad10 o3.2.2.2.2 []) := hD1.weaken (fun k q _ h => hFc q.1 h)
                    generalize H1 = H at hP hS hce ⊢
                    have hE9 : ∀ p, p < xct st → vad10 p = vad p := fun p h => (hv11 p (Nat.lt_of_lt_of_le h hN)).trans (hE p h)
                    have hE := hE9
                    have hN : xct st ≤ xct o3.2.2.2.2 := Nat.le_trans hN hn12
                    obtain rfl := Option.some.inj hf
                    exact vx_out (E := "java/lang/ArithmeticException") (fun x h => (hne x h).elim) hlocks hce hcv hcl (fun t ht ha => ⟨(ad8, gd9, vad10), ⟨hE, hN⟩, ⟨rfl, by rw [ht]; exact hP, va_K.moved ha hK, hD⟩, hS.F ht⟩) hS.2.2 (Nat.le_refl _) (Nat.le_refl _)
                  rw [if_neg hk5] at hf
                  exact nomatch hf
                · rw [if_pos hc] at hf
                  refine xm_aload_n hx hb (xvor _ _) dM_times_126 rfl (lv_at hl 2 rfl) ?_
                  refine xm_vget (v := .int ((xpi st 0) (c1 - 1))) hx hb htx hown hK hP 0 (by decide) hg2 rfl ((hZ.1 (93, "kind", "I") (List.mem_of_getElem? (i := 0) rfl)).use rfl) rfl dM_times_127 ?_
                  refine lv_iconst (v := 3) hx hb dM_times_130 (by decide) ?_
                  refine lv_icmp_eq (tgt := 140) hx hb dM_times_131 (by decide) (fun hc => ?_) (fun hc => ?_)
                  · rw [if_pos hc] at hf
                    refine xm_aload_n hx hb (xvor _ _) dM_times_140 rfl (lv_at hl 2 rfl) ?_
                    refine xm_vget (v := .long ((xpl st) (c1 - 1))) hx hb htx hown hK hP 1 (by decide) hg2 rfl ((hZ.1 (96, "n", "J") (List.mem_of_getElem? (i := 1) rfl)).use rfl) rfl dM_times_141 ?_
                    refine lv_lconst (v := 1) hx hb dM_times_144 (by decide) ?_
                    refine W.lcmp hx hb dM_times_145 ?_
                    refine lv_if_ge (tgt := 155) hx hb dM_times_146 (by decide) (fun hc => ?_) (fun hc => ?_)
                    · rw [if_pos hc] at hf
                      refine xm_aload_n hx hb (xvor _ _) dM_times_155 rfl (lv_at hl 2 rfl) ?_
                      refine xm_vget (v := .long ((xpl st) (c1 - 1))) hx hb htx hown hK hP 1 (by decide) hg2 rfl ((hZ.1 (96, "n", "J") (List.mem_of_getElem? (i := 1) rfl)).use rfl) rfl dM_times_156 ?_
                      refine xm_aload_n hx hb (xvor _ _) dM_times_159 rfl (lv_at hl 1 rfl) ?_
                      refine xm_vget (v := .int ((xpi st 3) (c0 - 1))) hx hb htx hown hK hP 3 (by decide) hg1 rfl ((hZ.1 (103, "count", "I") (List.mem_of_getElem? (i := 3) rfl)).use rfl) rfl dM_times_160 ?_
                      refine lv_i2l hx hb dM_times_163 rfl ?_
                      refine lv_lconst (v := 1) hx hb dM_times_164 (by decide) ?_
                      refine lv_ladd hx hb dM_times_165 ?_
                      refine lv_lmul hx hb dM_times_166 ?_
                      refine lv_ldc2 hx hb hown (htx _ kw_6_221) dM_times_167 ?_
                      refine W.lcmp hx hb dM_times_170 ?_
                      refine lv_if_le (tgt := 197) hx hb dM_times_171 (by decide) (fun hc => ?_) (fun hc => ?_)
                      · rw [if_pos hc] at hf
                        refine xm_aload_n hx hb (xvor _ _) dM_times_197 rfl (lv_at hl 1 rfl) ?_
                        refine xm_vget (v := .int ((xpi st 3) (c0 - 1))) hx hb htx hown hK hP 3 (by decide) hg1 rfl ((hZ.1 (103, "count", "I") (List.mem_of_getElem? (i := 3) rfl)).use rfl) rfl dM_times_198 ?_
                        refine lv_if_le (tgt := 225) hx hb dM_times_201 (by decide) (fun hc => ?_) (fun hc => ?_)
                        · rw [if_pos hc] at hf
                          refine lv_aload_n hx hb dM_times_225 rfl (lv_at hl 0 rfl) ?_
                          refine xm_get (v := .int (xsi st 4)) hx hb htx hown hK hP 4 (by decide) rfl (htx _ kw_5_91) rfl dM_times_226 ?_
                          refine lv_istore_n (lv' := [(3, .int (xsi st 4)), (0, .ref aM), (1, xv vad c0), (2, xv vad c1)]) hx hb dM_times_229 rfl hl (by decide) (by simp only [List.filter, xvcat, xrscat, xcI, xcL, xcR, xcN]; rfl) (fun ls hl => ?_)
                          refine lv_lconst (v := 0) hx hb dM_times_230 (by decide) ?_
                          refine lv_lstore (lv' := [(4, .long 0), (3, .int (xsi st 4)), (0, .ref aM), (1, xv vad c0), (2, xv vad c1)]) hx hb dM_times_231 hl (by decide) rfl (fun ls hl => ?_)
                          exact key n (1, (0 : Int64), (xsi st 4), c0, c1, st, 0, 0) _ _ ls (⟨ad, gd, vad, rfl, hf, hP, hD, hS, lv_sub hl [0, 1, 2, 3, 4] rfl, hE, hN⟩)
                        · rw [if_neg hc] at hf
                          refine xm_aload_n hx hb (xvor _ _) dM_times_204 rfl (lv_at hl 2 rfl) ?_
                          refine xm_vget (v := .long ((xpl st) (c1 - 1))) hx hb htx hown hK hP 1 (by decide) hg2 rfl ((hZ.1 (96, "n", "J") (List.mem_of_getElem? (i := 1) rfl)).use rfl) rfl dM_times_205 ?_
                          refine lv_ldc hx hb hown (htx _ kw_6_62) dM_times_208 ?_
                          refine xm_aload_n hx hb (xvor _ _) dM_times_210 rfl (lv_at hl 1 rfl) ?_
                          refine xm_vget (v := .int ((xpi st 3) (c0 - 1))) hx hb htx hown hK hP 3 (by decide) hg1 rfl ((hZ.1 (103, "count", "I") (List.mem_of_getElem? (i := 3) rfl)).use rfl) rfl dM_times_211 ?_
                          obtain ⟨hg3, hf⟩ := xifn hf
                          refine lv_idiv hx hb dM_times_214 hg3 ?_
                          refine lv_i2l hx hb dM_times_215 rfl ?_
                          refine W.lcmp hx hb dM_times_216 ?_
                          refine lv_if_le (tgt := 225) hx hb dM_times_217 (by decide) (fun hc => ?_) (fun hc => ?_)
                          · rw [if_pos hc] at hf
                            refine lv_aload_n hx hb dM_times_225 rfl (lv_at hl 0 rfl) ?_
                            refine xm_get (v := .int (xsi st 4)) hx hb htx hown hK hP 4 (by decide) rfl (htx _ kw_5_91) rfl dM_times_226 ?_
                            refine lv_istore_n (lv' := [(3, .int (xsi st 4)), (0, .ref aM), (1, xv vad c0), (2, xv vad c1)]) hx hb dM_times_229 rfl hl (by decide) (by simp only [List.filter, xvcat, xrscat, xcI, xcL, xcR, xcN]; rfl) (fun ls hl => ?_)
                            refine lv_lconst (v := 0) hx hb dM_times_230 (by decide) ?_
                            refine lv_lstore (lv' := [(4, .long 0), (3, .int (xsi st 4)), (0, .ref aM), (1, xv vad c0), (2, xv vad c1)]) hx hb dM_times_231 hl (by decide) rfl (fun ls hl => ?_)
                            exact key n (1, (0 : Int64), (xsi st 4), c0, c1, st, 0, 0) _ _ ls (⟨ad, gd, vad, rfl, hf, hP, hD, hS, lv_sub hl [0, 1, 2, 3, 4] rfl, hE, hN⟩)
                          · rw [if_neg hc] at hf
                            refine lv_aload_n hx hb dM_times_220 rfl (lv_at hl 0 rfl) ?_
                            obtain ⟨o4, hq5, hf⟩ := xbind hf
                            have hl := lv_sub (l' := [(0, .ref aM)]) hl [0] rfl
                            by_cases hk6 : o4.1 = 1
                            · rw [if_pos hk6] at hf
                              obtain ⟨hm7, hf⟩ := xmoE hf
                              obtain rfl := Option.some.inj hf
                              exact absurd (show (2 : Nat) = 1 from hkd) (by decide)
                            rw [if_neg hk6] at hf
                            exact nomatch hf
                      · rw [if_neg hc] at hf
                        refine xm_aload_n hx hb (xvor _ _) dM_times_174 rfl (lv_at hl 1 rfl) ?_
                        refine xm_vget (v := .int ((xpi st 3) (c0 - 1))) hx hb htx hown hK hP 3 (by decide) hg1 rfl ((hZ.1 (103, "count", "I") (List.mem_of_getElem? (i := 3) rfl)).use rfl) rfl dM_times_175 ?_
                        refine lv_if_le (tgt := 197) hx hb dM_times_178 (by decide) (fun hc => ?_) (fun hc => ?_)
                        · rw [if_pos hc] at hf
                          refine xm_aload_n hx hb (xvor _ _) dM_times_197 rfl (lv_at hl 1 rfl) ?_
                          refine xm_vget (v := .int ((xpi st 3) (c0 - 1))) hx hb htx hown hK hP 3 (by decide) hg1 rfl ((hZ.1 (103, "count", "I") (List.mem_of_getElem? (i := 3) rfl)).use rfl) rfl dM_times_198 ?_
                          refine lv_if_le (tgt := 225) hx hb dM_times_201 (by decide) (fun hc => ?_) (fun hc => ?_)
                          · rw [if_pos hc] at hf
                            refine lv_aload_n hx hb dM_times_225 rfl (lv_at hl 0 rfl) ?_
                            refine xm_get (v := .int (xsi st 4)) hx hb htx hown hK hP 4 (by decide) rfl (htx _ kw_5_91) rfl dM_times_226 ?_
                            refine lv_istore_n (lv' := [(3, .int (xsi st 4)), (0, .ref aM), (1, xv vad c0), (2, xv vad c1)]) hx hb dM_times_229 rfl hl (by decide) (by simp only [List.filter, xvcat, xrscat, xcI, xcL, xcR, xcN]; rfl) (fun ls hl => ?_)
                            refine lv_lconst (v := 0) hx hb dM_times_230 (by decide) ?_
                            refine lv_lstore (lv' := [(4, .long 0), (3, .int (xsi st 4)), (0, .ref aM), (1, xv vad c0), (2, xv vad c1)]) hx hb dM_times_231 hl (by decide) rfl (fun ls hl => ?_)
                            exact key n (1, (0 : Int64), (xsi st 4), c0, c1, st, 0, 0) _ _ ls (⟨ad, gd, vad, rfl, hf, hP, hD, hS, lv_sub hl [0, 1, 2, 3, 4] rfl, hE, hN⟩)
                          · rw [if_neg hc] at hf
                            refine xm_aload_n hx hb (xvor _ _) dM_times_204 rfl (lv_at hl 2 rfl) ?_
                            refine xm_vget (v := .long ((xpl st) (c1 - 1))) hx hb htx hown hK hP 1 (by decide) hg2 rfl ((hZ.1 (96, "n", "J") (List.mem_of_getElem? (i := 1) rfl)).use rfl) rfl dM_times_205 ?_
                            refine lv_ldc hx hb hown (htx _ kw_6_62) dM_times_208 ?_
                            refine xm_aload_n hx hb (xvor _ _) dM_times_210 rfl (lv_at hl 1 rfl) ?_
                            refine xm_vget (v := .int ((xpi st 3) (c0 - 1))) hx hb htx hown hK hP 3 (by decide) hg1 rfl ((hZ.1 (103, "count", "I") (List.mem_of_getElem? (i := 3) rfl)).use rfl) rfl dM_times_211 ?_
                            obtain ⟨hg3, hf⟩ := xifn hf
                            refine lv_idiv hx hb dM_times_214 hg3 ?_
                            refine lv_i2l hx hb dM_times_215 rfl ?_
                            refine W.lcmp hx hb dM_times_216 ?_
                            refine lv_if_le (tgt := 225) hx hb dM_times_217 (by decide) (fun hc => ?_) (fun hc => ?_)
                            · rw [if_pos hc] at hf
                              refine lv_aload_n hx hb dM_times_225 rfl (lv_at hl 0 rfl) ?_
                              refine xm_get (v := .int (xsi st 4)) hx hb htx hown hK hP 4 (by decide) rfl (htx _ kw_5_91) rfl dM_times_226 ?_
                              refine lv_istore_n (lv' := [(3, .int (xsi st 4)), (0, .ref aM), (1, xv vad c0), (2, xv vad c1)]) hx hb dM_times_229 rfl hl (by decide) (by simp only [List.filter, xvcat, xrscat, xcI, xcL, xcR, xcN]; rfl) (fun ls hl => ?_)
                              refine lv_lconst (v := 0) hx hb dM_times_230 (by decide) ?_
                              refine lv_lstore (lv' := [(4, .long 0), (3, .int (xsi st 4)), (0, .ref aM), (1, xv vad c0), (2, xv vad c1)]) hx hb dM_times_231 hl (by decide) rfl (fun ls hl => ?_)
                              exact key n (1, (0 : Int64), (xsi st 4), c0, c1, st, 0, 0) _ _ ls (⟨ad, gd, vad, rfl, hf, hP, hD, hS, lv_sub hl [0, 1, 2, 3, 4] rfl, hE, hN⟩)
                            · rw [if_neg hc] at hf
                              refine lv_aload_n hx hb dM_times_220 rfl (lv_at hl 0 rfl) ?_
                              obtain ⟨o4, hq5, hf⟩ := xbind hf
                              have hl := lv_sub (l' := [(0, .ref aM)]) hl [0] rfl
                              by_cases hk6 : o4.1 = 1
                              · rw [if_pos hk6] at hf
                                obtain ⟨hm7, hf⟩ := xmoE hf
                                obtain rfl := Option.some.inj hf
                                exact absurd (show (2 : Nat) = 1 from hkd) (by decide)
                              rw [if_neg hk6] at hf
                              exact nomatch hf
                        · rw [if_neg hc] at hf
                          refine xm_aload_n hx hb (xvor _ _) dM_times_181 rfl (lv_at hl 2 rfl) ?_
                          refine xm_vget (v := .long ((xpl st) (c1 - 1))) hx hb htx hown hK hP 1 (by decide) hg2 rfl ((hZ.1 (96, "n", "J") (List.mem_of_getElem? (i := 1) rfl)).use rfl) rfl dM_times_182 ?_
                          refine lv_ldc2 hx hb hown (htx _ kw_6_108) dM_times_185 ?_
                          refine W.lcmp hx hb dM_times_188 ?_
                          refine lv_if_le (tgt := 197) hx hb dM_times_189 (by decide) (fun hc => ?_) (fun hc => ?_)
                          · rw [if_pos hc] at hf
                            refine xm_aload_n hx hb (xvor _ _) dM_times_197 rfl (lv_at hl 1 rfl) ?_
                            refine xm_vget (v := .int ((xpi st 3) (c0 - 1))) hx hb htx hown hK hP 3 (by decide) hg1 rfl ((hZ.1 (103, "count", "I") (List.mem_of_getElem? (i := 3) rfl)).use rfl) rfl dM_times_198 ?_
                            refine lv_if_le (tgt := 225) hx hb dM_times_201 (by decide) (fun hc => ?_) (fun hc => ?_)
                            · rw [if_pos hc] at hf
                              refine lv_aload_n hx hb dM_times_225 rfl (lv_at hl 0 rfl) ?_
                              refine xm_get (v := .int (xsi st 4)) hx hb htx hown hK hP 4 (by decide) rfl (htx _ kw_5_91) rfl dM_times_226 ?_
                              refine lv_istore_n (lv' := [(3, .int (xsi st 4)), (0, .ref aM), (1, xv vad c0), (2, xv vad c1)]) hx hb dM_times_229 rfl hl (by decide) (by simp only [List.filter, xvcat, xrscat, xcI, xcL, xcR, xcN]; rfl) (fun ls hl => ?_)
                              refine lv_lconst (v := 0) hx hb dM_times_230 (by decide) ?_
                              refine lv_lstore (lv' := [(4, .long 0), (3, .int (xsi st 4)), (0, .ref aM), (1, xv vad c0), (2, xv vad c1)]) hx hb dM_times_231 hl (by decide) rfl (fun ls hl => ?_)
                              exact key n (1, (0 : Int64), (xsi st 4), c0, c1, st, 0, 0) _ _ ls (⟨ad, gd, vad, rfl, hf, hP, hD, hS, lv_sub hl [0, 1, 2, 3, 4] rfl, hE, hN⟩)
                            · rw [if_neg hc] at hf
                              refine xm_aload_n hx hb (xvor _ _) dM_times_204 rfl (lv_at hl 2 rfl) ?_
                              refine xm_vget (v := .long ((xpl st) (c1 - 1))) hx hb htx hown hK hP 1 (by decide) hg2 rfl ((hZ.1 (96, "n", "J") (List.mem_of_getElem? (i := 1) rfl)).use rfl) rfl dM_times_205 ?_
                              refine lv_ldc hx hb hown (htx _ kw_6_62) dM_times_208 ?_
                              refine xm_aload_n hx hb (xvor _ _) dM_times_210 rfl (lv_at hl 1 rfl) ?_
                              refine xm_vget (v := .int ((xpi st 3) (c0 - 1))) hx hb htx hown hK hP 3 (by decide) hg1 rfl ((hZ.1 (103, "count", "I") (List.mem_of_getElem? (i := 3) rfl)).use rfl) rfl dM_times_211 ?_
                              obtain ⟨hg3, hf⟩ := xifn hf
                              refine lv_idiv hx hb dM_times_214 hg3 ?_
                              refine lv_i2l hx hb dM_times_215 rfl ?_
                              refine W.lcmp hx hb dM_times_216 ?_
                              refine lv_if_le (tgt := 225) hx hb dM_times_217 (by decide) (fun hc => ?_) (fun hc => ?_)
                              · rw [if_pos hc] at hf
                                refine lv_aload_n hx hb dM_times_225 rfl (lv_at hl 0 rfl) ?_
                                refine xm_get (v := .int (xsi st 4)) hx hb htx hown hK hP 4 (by decide) rfl (htx _ kw_5_91) rfl dM_times_226 ?_
                                refine lv_istore_n (lv' := [(3, .int (xsi st 4)), (0, .ref aM), (1, xv vad c0), (2, xv vad c1)]) hx hb dM_times_229 rfl hl (by decide) (by simp only [List.filter, xvcat, xrscat, xcI, xcL, xcR, xcN]; rfl) (fun ls hl => ?_)
                                refine lv_lconst (v := 0) hx hb dM_times_230 (by decide) ?_
                                refine lv_lstore (lv' := [(4, .long 0), (3, .int (xsi st 4)), (0, .ref aM), (1, xv vad c0), (2, xv vad c1)]) hx hb dM_times_231 hl (by decide) rfl (fun ls hl => ?_)
                                exact key n (1, (0 : Int64), (xsi st 4), c0, c1, st, 0, 0) _ _ ls (⟨ad, gd, vad, rfl, hf, hP, hD, hS, lv_sub hl [0, 1, 2, 3, 4] rfl, hE, hN⟩)
                              · rw [if_neg hc] at hf
                                refine lv_aload_n hx hb dM_times_220 rfl (lv_at hl 0 rfl) ?_
                                obtain ⟨o4, hq5, hf⟩ := xbind hf
                                have hl := lv_sub (l' := [(0, .ref aM)]) hl [0] rfl
                                by_cases hk6 : o4.1 = 1
                                · rw [if_pos hk6] at hf
                                  obtain ⟨hm7, hf⟩ := xmoE hf
                                  obtain rfl := Option.some.inj hf
                                  exact absurd (show (2 : Nat) = 1 from hkd) (by decide)
                                rw [if_neg hk6] at hf
                                exact nomatch hf
                          · rw [if_neg hc] at hf
                            refine lv_aload_n hx hb dM_times_192 rfl (lv_at hl 0 rfl) ?_
                            obtain ⟨o3, hq4, hf⟩ := xbind hf
                            have hl := lv_sub (l' := [(0, .ref aM)]) hl [0] rfl
                            by_cases hk5 : o3.1 = 1
                            · rw [if_pos hk5] at hf
                              obtain ⟨hm6, hf⟩ := xmoE hf
                              obtain rfl := Option.some.inj hf
                              exact absurd (show (2 : Nat) = 1 from hkd) (by decide)
                            rw [if_neg hk5] at hf
                            exact nomatch hf
                    · rw [if_neg hc] at hf
                      refine lv_aload_n hx hb dM_times_149 rfl (lv_at hl 0 rfl) ?_
                      refine lv_iconst (v := 0) hx hb dM_times_150 (by decide) ?_
                      obtain ⟨o3, hq4, hf⟩ := xbind hf
                      have hl := lv_sub (l' := [(0, .ref aM)]) hl [0] rfl
                      obtain ⟨hm5, hf⟩ := xmoE hf
                      have hFc := xm_free hD hS hA
                      refine va_callq (va_runV (C := "ValueBenchModel") (As := [.int 0]) (rest := []) ⟨hx, hb, hml, hown, htx⟩ (gM_fresh l hl9 D cT aK aV s.heap.size n aM ad rd gd vad st (0 : Int32) o3 hq4) ⟨callB_of 1 htx (xw_goodC kw_6_16) rfl rfl rfl (htx _ kw_1_5) (htx _ kw_6_13) ⟨by decide, by decide, by decide +kernel⟩ ⟨Nat.le_of_ble_eq_true rfl, Nat.le_of_ble_eq_true rfl⟩, (htx _ kw_6_15), (htx _ kp_M_fresh)⟩ ⟨xPre_blind, va_recv hK hP (ci := 5) rfl (q0 := 0) rfl, (fun U hU hW => ⟨rfl, xPre_of hZ hS hFc hP hD hK U hU hW⟩)⟩ rfl rfl hl.1 rfl (xm_room (Nat.le_of_ble_eq_true rfl)) dM_times_151 ⟨hm5.1, hm5.2⟩) hS (fun q _ h => hFc q h) hFc (fun r6 u9 t H1 locs ht hvm hr9 hB hz1 hk1 hS => ?_)
                      obtain ⟨hP1, hK1, hD1⟩ := hB
                      rw [ht] at hP1
                      obtain ⟨ad7, gd8, vad9⟩ := u9
                      obtain ⟨hr9, hv10, hn11⟩ := hr9
                      have hP : va_P D xcl (xMw cT aM ad7 rd gd8 vad9 o3.2.2.2 []) H1 := hP1
                      have hD : va_D A (xMw cT aM ad7 rd gd8 vad9 o3.2.2.2 []) := hD1.weaken (fun k q _ h => hFc q.1 h)
                      generalize H1 = H at hP hS ⊢
                      have hE9 : ∀ p, p < xct st → vad9 p = vad p := fun p h => (hv10 p (Nat.lt_of_lt_of_le h hN)).trans (hE p h)
                      have hE := hE9
                      have hN : xct st ≤ xct o3.2.2.2 := Nat.le_trans hN hn11
                      rw [hr9]
                      refine W.eq (g2 := F0 m 154 ls [xv vad9 o3.2.2.1]) (by first | rfl | (skip; rfl)) ?_
                      obtain rfl := Option.some.inj hf
                      exact absurd (show (0 : Nat) = 1 from hkd) (by decide)
                  · rw [if_neg hc] at hf
                    refine lv_aload_n hx hb dM_times_134 rfl (lv_at hl 0 rfl) ?_
                    refine lv_iconst (v := 1) hx hb dM_times_135 (by decide) ?_
                    obtain ⟨o3, hq4, hf⟩ := xbind hf
                    have hl := lv_sub (l' := [(0, .ref aM)]) hl [0] rfl
                    by_cases hk5 : o3.1 = 1
                    · rw [if_pos hk5] at hf
                      obtain ⟨hm6, hf⟩ := xmoE hf
                      have hFc := xm_free hD hS hA
                      refine xx_thr (vx_runV (C := "ValueBenchModel") (As := [.int 1]) (rest := []) ⟨hx, hb, hml, hown, htx⟩ (gM_refuse_1 l hl9 D cT aK aV s.heap.size n aM ad rd gd vad st (1 : Int32) o3 hq4 hk5) ⟨callB_of 1 htx (xw_goodC kw_6_93) rfl rfl rfl (htx _ kw_1_5) (htx _ kw_6_90) ⟨by decide, by decide, by decide +kernel⟩ ⟨Nat.le_of_ble_eq_true rfl, Nat.le_of_ble_eq_true rfl⟩, (htx _ kw_6_92), (htx _ kp_M_refuse)⟩ ⟨xPre_blind, va_recv hK hP (ci := 5) rfl (q0 := 0) rfl, (fun U hU hW => ⟨rfl, xPre_of hZ hS hFc hP hD hK U hU hW⟩)⟩ rfl rfl hl.1 rfl (xm_room (Nat.le_of_ble_eq_true rfl)) dM_times_136 ⟨hm6.1, hm6.2⟩) hS hFc (fun q _ h => hFc q h) (fun E ce q9 u9 t H1 locs ht hvm hr9 hB hz1 hk1 hS hce hcv hcl => ?_)
                      obtain ⟨rfl, hP1, hK1, hD1⟩ := hB
                      rw [ht] at hP1
                      obtain ⟨ad8, gd9, vad10⟩ := u9
                      obtain ⟨hv11, hn12⟩ := hr9
                      have hP : va_P D xcl (xMw cT aM ad8 rd gd9 vad10 o3.2.2.2.2 []) H1 := hP1
                      have hD : va_D A (xMw cT aM ad8 rd gd9 vad10 o3.2.2.2.2 []) := hD1.weaken (fun k q _ h => hFc q.1 h)
                      generalize H1 = H at hP hS hce ⊢
                      have hE9 : ∀ p, p < xct st → vad10 p = vad p := fun p h => (hv11 p (Nat.lt_of_lt_of_le h hN)).trans (hE p h)
                      have hE := hE9
                      have hN : xct st ≤ xct o3.2.2.2.2 := Nat.le_trans hN hn12
                      obtain rfl := Option.some.inj hf
                      exact vx_out (E := "java/lang/ArithmeticException") (fun x h => (hne x h).elim) hlocks hce hcv hcl (fun t ht ha => ⟨(ad8, gd9, vad10), ⟨hE, hN⟩, ⟨rfl, by rw [ht]; exact hP, va_K.moved ha hK, hD⟩, hS.F ht⟩) hS.2.2 (Nat.le_refl _) (Nat.le_refl _)
                    rw [if_neg hk5] at hf
                    exact nomatch hf
              · rw [if_pos hc] at hf
                refine lv_aload_n hx hb dM_times_111 rfl (lv_at hl 0 rfl) ?_
                refine xm_aload_n hx hb (xvor _ _) dM_times_112 rfl (lv_at hl 2 rfl) ?_
                refine xm_aload_n hx hb (xvor _ _) dM_times_113 rfl (lv_at hl 1 rfl) ?_
                obtain ⟨o3, hq4, hf⟩ := xbind hf
                have hl := lv_sub (l' := [(0, .ref aM)]) hl [0] rfl
                by_cases hk5 : o3.1 = 0
                · rw [if_pos hk5] at hf
                  obtain ⟨hm6, hf⟩ := xmoE hf
                  have hFc := xm_free hD hS hA
                  refine va_callq (va_runV (C := "ValueBenchModel") (As := [xv vad c1, xv vad c0]) (rest := []) ⟨hx, hb, hml, hown, htx⟩ ((hrec s.heap.size aM ad rd gd vad st c1 c0 o3 hq4).1 hk5) ⟨callB_of 2 htx (xw_goodC kw_6_215) rfl rfl rfl (htx _ kw_1_5) (htx _ kw_6_212) ⟨by decide, by decide, by decide +kernel⟩ ⟨(by show (16 * d) + 1 ≤ 16 * (d + 1); omega), (by show 8 + (7 + 11) + (400 * d) ≤ 400 * (d + 1); omega)⟩, (htx _ kw_6_214), (htx _ kp_M_times)⟩ ⟨xPre_blind, va_recv hK hP (ci := 5) rfl (q0 := 0) rfl, (fun U hU hW => ⟨rfl, xPre_of hZ hS hFc hP hD hK U hU hW⟩)⟩ rfl rfl hl.1 rfl (xm_room (Nat.le_of_ble_eq_true rfl)) dM_times_114 ⟨hm6.1, hm6.2⟩) hS (fun q _ h => hFc q h) hFc (fun r7 u9 t H1 locs ht hvm hr9 hB hz1 hk1 hS => ?_)
                  obtain ⟨hP1, hK1, hD1⟩ := hB
                  rw [ht] at hP1
                  obtain ⟨ad8, gd9, vad10⟩ := u9
                  obtain ⟨hr9, hv11, hn12⟩ := hr9
                  have hP : va_P D xcl (xMw cT aM ad8 rd gd9 vad10 o3.2.2.2.2 []) H1 := hP1
                  have hD : va_D A (xMw cT aM ad8 rd gd9 vad10 o3.2.2.2.2 []) := hD1.weaken (fun k q _ h => hFc q.1 h)
                  generalize H1 = H at hP hS ⊢
                  have hE9 : ∀ p, p < xct st → vad10 p = vad p := fun p h => (hv11 p (Nat.lt_of_lt_of_le h hN)).trans (hE p h)
                  have hE := hE9
                  have hN : xct st ≤ xct o3.2.2.2.2 := Nat.le_trans hN hn12
                  rw [hr9]
                  refine W.eq (g2 := F0 m 117 ls [xv vad10 o3.2.2.2.1]) (by first | rfl | (skip; rfl)) ?_
                  obtain rfl := Option.some.inj hf
                  exact absurd (show (0 : Nat) = 1 from hkd) (by decide)
                rw [if_neg hk5] at hf
                by_cases hk13 : o3.1 = 1
                · rw [if_pos hk13] at hf
                  obtain ⟨hm14, hf⟩ := xmoE hf
                  have hFc := xm_free hD hS hA
                  refine xx_thr (vx_runV (C := "ValueBenchModel") (As := [xv vad c1, xv vad c0]) (rest := []) ⟨hx, hb, hml, hown, htx⟩ ((hrec s.heap.size aM ad rd gd vad st c1 c0 o3 hq4).2.1 hk13) ⟨callB_of 2 htx (xw_goodC kw_6_215) rfl rfl rfl (htx _ kw_1_5) (htx _ kw_6_212) ⟨by decide, by decide, by decide +kernel⟩ ⟨(by show (16 * d) + 1 ≤ 16 * (d + 1); omega), (by show 8 + (7 + 11) + (400 * d) ≤ 400 * (d + 1); omega)⟩, (htx _ kw_6_214), (htx _ kp_M_times)⟩ ⟨xPre_blind, va_recv hK hP (ci := 5) rfl (q0 := 0) rfl, (fun U hU hW => ⟨rfl, xPre_of hZ hS hFc hP hD hK U hU hW⟩)⟩ rfl rfl hl.1 rfl (xm_room (Nat.le_of_ble_eq_true rfl)) dM_times_114 ⟨hm14.1, hm14.2⟩) hS hFc (fun q _ h => hFc q h) (fun E ce q9 u9 t H1 locs ht hvm hr9 hB hz1 hk1 hS hce hcv hcl => ?_)
                  obtain ⟨rfl, hP1, hK1, hD1⟩ := hB
                  rw [ht] at hP1
                  obtain ⟨ad16, gd17, vad18⟩ := u9
                  obtain ⟨hv19, hn20⟩ := hr9
                  have hP : va_P D xcl (xMw cT aM ad16 rd gd17 vad18 o3.2.2.2.2 []) H1 := hP1
                  have hD : va_D A (xMw cT aM ad16 rd gd17 vad18 o3.2.2.2.2 []) := hD1.weaken (fun k q _ h => hFc q.1 h)
                  generalize H1 = H at hP hS hce ⊢
                  have hE9 : ∀ p, p < xct st → vad18 p = vad p := fun p h => (hv19 p (Nat.lt_of_lt_of_le h hN)).trans (hE p h)
                  have hE := hE9
                  have hN : xct st ≤ xct o3.2.2.2.2 := Nat.le_trans hN hn20
                  obtain rfl := Option.some.inj hf
                  exact vx_out (E := "java/lang/ArithmeticException") (fun x h => (hne x h).elim) hlocks hce hcv hcl (fun t ht ha => ⟨(ad16, gd17, vad18), ⟨hE, hN⟩, ⟨rfl, by rw [ht]; exact hP, va_K.moved ha hK, hD⟩, hS.F ht⟩) hS.2.2 (Nat.le_refl _) (Nat.le_refl _)
                rw [if_neg hk13] at hf
                by_cases hk21 : o3.1 = 2
                · rw [if_pos hk21] at hf
                  obtain ⟨hm22, hf⟩ := xmoE hf
                  obtain rfl := Option.some.inj hf
                  exact absurd (show (2 : Nat) = 1 from hkd) (by decide)
                rw [if_neg hk21] at hf
                exact nomatch hf
          · rw [if_pos hc] at hf
            refine xm_aload_n hx hb (xvor _ _) dM_times_79 rfl (lv_at hl 2 rfl) ?_
            refine xm_vget (v := .int ((xpi st 0) (c1 - 1))) hx hb htx hown hK hP 0 (by decide) hg2 rfl ((hZ.1 (93, "kind", "I") (List.mem_of_getElem? (i := 0) rfl)).use rfl) rfl dM_times_80 ?_
            refine lv_bipush (v := 6) hx hb dM_times_83 (by decide) ?_
            refine lv_icmp_ne (tgt := 95) hx hb dM_times_85 (by decide) (fun hc => ?_) (fun hc => ?_)
            · rw [if_neg hc] at hf
              refine xm_aload_n hx hb (xvor _ _) dM_times_95 rfl (lv_at hl 1 rfl) ?_
              refine xm_vget (v := .int ((xpi st 0) (c0 - 1))) hx hb htx hown hK hP 0 (by decide) hg1 rfl ((hZ.1 (93, "kind", "I") (List.mem_of_getElem? (i := 0) rfl)).use rfl) rfl dM_times_96 ?_
              refine lv_iconst (v := 3) hx hb dM_times_99 (by decide) ?_
              refine lv_icmp_ne (tgt := 118) hx hb dM_times_100 (by decide) (fun hc => ?_) (fun hc => ?_)
              · rw [if_neg hc] at hf
                refine xm_aload_n hx hb (xvor _ _) dM_times_118 rfl (lv_at hl 1 rfl) ?_
                refine xm_vget (v := .int ((xpi st 0) (c0 - 1))) hx hb htx hown hK hP 0 (by decide) hg1 rfl ((hZ.1 (93, "kind", "I") (List.mem_of_getElem? (i := 0) rfl)).use rfl) rfl dM_times_119 ?_
                refine lv_iconst (v := 4) hx hb dM_times_122 (by decide) ?_
                refine lv_icmp_ne (tgt := 134) hx hb dM_times_123 (by decide) (fun hc => ?_) (fun hc => ?_)
                · rw [if_neg hc] at hf
                  refine lv_aload_n hx hb dM_times_134 rfl (lv_at hl 0 rfl) ?_
                  refine lv_iconst (v := 1) hx hb dM_times_135 (by decide) ?_
                  obtain ⟨o3, hq4, hf⟩ := xbind hf
                  have hl := lv_sub (l' := [(0, .ref aM)]) hl [0] rfl
                  by_cases hk5 : o3.1 = 1
                  · rw [if_pos hk5] at hf
                    obtain ⟨hm6, hf⟩ := xmoE hf
                    have hFc := xm_free hD hS hA
                    refine xx_thr (vx_runV (C := "ValueBenchModel") (As := [.int 1]) (rest := []) ⟨hx, hb, hml, hown, htx⟩ (gM_refuse_1 l hl9 D cT aK aV s.heap.size n aM ad rd gd vad st (1 : Int32) o3 hq4 hk5) ⟨callB_of 1 htx (xw_goodC kw_6_93) rfl rfl rfl (htx _ kw_1_5) (htx _ kw_6_90) ⟨by decide, by decide, by decide +kernel⟩ ⟨Nat.le_of_ble_eq_true rfl, Nat.le_of_ble_eq_true rfl⟩, (htx _ kw_6_92), (htx _ kp_M_refuse)⟩ ⟨xPre_blind, va_recv hK hP (ci := 5) rfl (q0 := 0) rfl, (fun U hU hW => ⟨rfl, xPre_of hZ hS hFc hP hD hK U hU hW⟩)⟩ rfl rfl hl.1 rfl (xm_room (Nat.le_of_ble_eq_true rfl)) dM_times_136 ⟨hm6.1, hm6.2⟩) hS hFc (fun q _ h => hFc q h) (fun E ce q9 u9 t H1 locs ht hvm hr9 hB hz1 hk1 hS hce hcv hcl => ?_)
                    obtain ⟨rfl, hP1, hK1, hD1⟩ := hB
                    rw [ht] at hP1
                    obtain ⟨ad8, gd9, vad10⟩ := u9
                    obtain ⟨hv11, hn12⟩ := hr9
                    have hP : va_P D xcl (xMw cT aM ad8 rd gd9 vad10 o3.2.2.2.2 []) H1 := hP1
                    have hD : va_D A (xMw cT aM ad8 rd gd9 vad10 o3.2.2.2.2 []) := hD1.weaken (fun k q _ h => hFc q.1 h)
                    generalize H1 = H at hP hS hce ⊢
                    have hE9 : ∀ p, p < xct st → vad10 p = vad p := fun p h => (hv11 p (Nat.lt_of_lt_of_le h hN)).trans (hE p h)
                    have hE := hE9
                    have hN : xct st ≤ xct o3.2.2.2.2 := Nat.le_trans hN hn12
                    obtain rfl := Option.some.inj hf
                    exact vx_out (E := "java/lang/ArithmeticException") (fun x h => (hne x h).elim) hlocks hce hcv hcl (fun t ht ha => ⟨(ad8, gd9, vad10), ⟨hE, hN⟩, ⟨rfl, by rw [ht]; exact hP, va_K.moved ha hK, hD⟩, hS.F ht⟩) hS.2.2 (Nat.le_refl _) (Nat.le_refl _)
                  rw [if_neg hk5] at hf
                  exact nomatch hf
                · rw [if_pos hc] at hf
                  refine xm_aload_n hx hb (xvor _ _) dM_times_126 rfl (lv_at hl 2 rfl) ?_
                  refine xm_vget (v := .int ((xpi st 0) (c1 - 1))) hx hb htx hown hK hP 0 (by decide) hg2 rfl ((hZ.1 (93, "kind", "I") (List.mem_of_getElem? (i := 0) rfl)).use rfl) rfl dM_times_127 ?_
                  refine lv_iconst (v := 3) hx hb dM_times_130 (by decide) ?_
                  refine lv_icmp_eq (tgt := 140) hx hb dM_times_131 (by decide) (fun hc => ?_) (fun hc => ?_)
                  · rw [if_pos hc] at hf
                    refine xm_aload_n hx hb (xvor _ _) dM_times_140 rfl (lv_at hl 2 rfl) ?_
                    refine xm_vget (v := .long ((xpl st) (c1 - 1))) hx hb htx hown hK hP 1 (by decide) hg2 rfl ((hZ.1 (96, "n", "J") (List.mem_of_getElem? (i := 1) rfl)).use rfl) rfl dM_times_141 ?_
                    refine lv_lconst (v := 1) hx hb dM_times_144 (by decide) ?_
                    refine W.lcmp hx hb dM_times_145 ?_
                    refine lv_if_ge (tgt := 155) hx hb dM_times_146 (by decide) (fun hc => ?_) (fun hc => ?_)
                    · rw [if_pos hc] at hf
                      refine xm_aload_n hx hb (xvor _ _) dM_times_155 rfl (lv_at hl 2 rfl) ?_
                      refine xm_vget (v := .long ((xpl st) (c1 - 1))) hx hb htx hown hK hP 1 (by decide) hg2 rfl ((hZ.1 (96, "n", "J") (List.mem_of_getElem? (i := 1) rfl)).use rfl) rfl dM_times_156 ?_
                      refine xm_aload_n hx hb (xvor _ _) dM_times_159 rfl (lv_at hl 1 rfl) ?_
                      refine xm_vget (v := .int ((xpi st 3) (c0 - 1))) hx hb htx hown hK hP 3 (by decide) hg1 rfl ((hZ.1 (103, "count", "I") (List.mem_of_getElem? (i := 3) rfl)).use rfl) rfl dM_times_160 ?_
                      refine lv_i2l hx hb dM_times_163 rfl ?_
                      refine lv_lconst (v := 1) hx hb dM_times_164 (by decide) ?_
                      refine lv_ladd hx hb dM_times_165 ?_
                      refine lv_lmul hx hb dM_times_166 ?_
                      refine lv_ldc2 hx hb hown (htx _ kw_6_221) dM_times_167 ?_
                      refine W.lcmp hx hb dM_times_170 ?_
                      refine lv_if_le (tgt := 197) hx hb dM_times_171 (by decide) (fun hc => ?_) (fun hc => ?_)
                      · rw [if_pos hc] at hf
                        refine xm_aload_n hx hb (xvor _ _) dM_times_197 rfl (lv_at hl 1 rfl) ?_
                        refine xm_vget (v := .int ((xpi st 3) (c0 - 1))) hx hb htx hown hK hP 3 (by decide) hg1 rfl ((hZ.1 (103, "count", "I") (List.mem_of_getElem? (i := 3) rfl)).use rfl) rfl dM_times_198 ?_
                        refine lv_if_le (tgt := 225) hx hb dM_times_201 (by decide) (fun hc => ?_) (fun hc => ?_)
                        · rw [if_pos hc] at hf
                          refine lv_aload_n hx hb dM_times_225 rfl (lv_at hl 0 rfl) ?_
                          refine xm_get (v := .int (xsi st 4)) hx hb htx hown hK hP 4 (by decide) rfl (htx _ kw_5_91) rfl dM_times_226 ?_
                          refine lv_istore_n (lv' := [(3, .int (xsi st 4)), (0, .ref aM), (1, xv vad c0), (2, xv vad c1)]) hx hb dM_times_229 rfl hl (by decide) (by simp only [List.filter, xvcat, xrscat, xcI, xcL, xcR, xcN]; rfl) (fun ls hl => ?_)
                          refine lv_lconst (v := 0) hx hb dM_times_230 (by decide) ?_
                          refine lv_lstore (lv' := [(4, .long 0), (3, .int (xsi st 4)), (0, .ref aM), (1, xv vad c0), (2, xv vad c1)]) hx hb dM_times_231 hl (by decide) rfl (fun ls hl => ?_)
                          exact key n (1, (0 : Int64), (xsi st 4), c0, c1, st, 0, 0) _ _ ls (⟨ad, gd, vad, rfl, hf, hP, hD, hS, lv_sub hl [0, 1, 2, 3, 4] rfl, hE, hN⟩)
                        · rw [if_neg hc] at hf
                          refine xm_aload_n hx hb (xvor _ _) dM_times_204 rfl (lv_at hl 2 rfl) ?_
                          refine xm_vget (v := .long ((xpl st) (c1 - 1))) hx hb htx hown hK hP 1 (by decide) hg2 rfl ((hZ.1 (96, "n", "J") (List.mem_of_getElem? (i := 1) rfl)).use rfl) rfl dM_times_205 ?_
                          refine lv_ldc hx hb hown (htx _ kw_6_62) dM_times_208 ?_
                          refine xm_aload_n hx hb (xvor _ _) dM_times_210 rfl (lv_at hl 1 rfl) ?_
                          refine xm_vget (v := .int ((xpi st 3) (c0 - 1))) hx hb htx hown hK hP 3 (by decide) hg1 rfl ((hZ.1 (103, "count", "I") (List.mem_of_getElem? (i := 3) rfl)).use rfl) rfl dM_times_211 ?_
                          obtain ⟨hg3, hf⟩ := xifn hf
                          refine lv_idiv hx hb dM_times_214 hg3 ?_
                          refine lv_i2l hx hb dM_times_215 rfl ?_
                          refine W.lcmp hx hb dM_times_216 ?_
                          refine lv_if_le (tgt := 225) hx hb dM_times_217 (by decide) (fun hc => ?_) (fun hc => ?_)
                          · rw [if_pos hc] at hf
                            refine lv_aload_n hx hb dM_times_225 rfl (lv_at hl 0 rfl) ?_
                            refine xm_get (v := .int (xsi st 4)) hx hb htx hown hK hP 4 (by decide) rfl (htx _ kw_5_91) rfl dM_times_226 ?_
                            refine lv_istore_n (lv' := [(3, .int (xsi st 4)), (0, .ref aM), (1, xv vad c0), (2, xv vad c1)]) hx hb dM_times_229 rfl hl (by decide) (by simp only [List.filter, xvcat, xrscat, xcI, xcL, xcR, xcN]; rfl) (fun ls hl => ?_)
                            refine lv_lconst (v := 0) hx hb dM_times_230 (by decide) ?_
                            refine lv_lstore (lv' := [(4, .long 0), (3, .int (xsi st 4)), (0, .ref aM), (1, xv vad c0), (2, xv vad c1)]) hx hb dM_times_231 hl (by decide) rfl (fun ls hl => ?_)
                            exact key n (1, (0 : Int64), (xsi st 4), c0, c1, st, 0, 0) _ _ ls (⟨ad, gd, vad, rfl, hf, hP, hD, hS, lv_sub hl [0, 1, 2, 3, 4] rfl, hE, hN⟩)
                          · rw [if_neg hc] at hf
                            refine lv_aload_n hx hb dM_times_220 rfl (lv_at hl 0 rfl) ?_
                            obtain ⟨o4, hq5, hf⟩ := xbind hf
                            have hl := lv_sub (l' := [(0, .ref aM)]) hl [0] rfl
                            by_cases hk6 : o4.1 = 1
                            · rw [if_pos hk6] at hf
                              obtain ⟨hm7, hf⟩ := xmoE hf
                              obtain rfl := Option.some.inj hf
                              exact absurd (show (2 : Nat) = 1 from hkd) (by decide)
                            rw [if_neg hk6] at hf
                            exact nomatch hf
                      · rw [if_neg hc] at hf
                        refine xm_aload_n hx hb (xvor _ _) dM_times_174 rfl (lv_at hl 1 rfl) ?_
                        refine xm_vget (v := .int ((xpi st 3) (c0 - 1))) hx hb htx hown hK hP 3 (by decide) hg1 rfl ((hZ.1 (103, "count", "I") (List.mem_of_getElem? (i := 3) rfl)).use rfl) rfl dM_times_175 ?_
                        refine lv_if_le (tgt := 197) hx hb dM_times_178 (by decide) (fun hc => ?_) (fun hc => ?_)
                        · rw [if_pos hc] at hf
                          refine xm_aload_n hx hb (xvor _ _) dM_times_197 rfl (lv_at hl 1 rfl) ?_
                          refine xm_vget (v := .int ((xpi st 3) (c0 - 1))) hx hb htx hown hK hP 3 (by decide) hg1 rfl ((hZ.1 (103, "count", "I") (List.mem_of_getElem? (i := 3) rfl)).use rfl) rfl dM_times_198 ?_
                          refine lv_if_le (tgt := 225) hx hb dM_times_201 (by decide) (fun hc => ?_) (fun hc => ?_)
                          · rw [if_pos hc] at hf
                            refine lv_aload_n hx hb dM_times_225 rfl (lv_at hl 0 rfl) ?_
                            refine xm_get (v := .int (xsi st 4)) hx hb htx hown hK hP 4 (by decide) rfl (htx _ kw_5_91) rfl dM_times_226 ?_
                            refine lv_istore_n (lv' := [(3, .int (xsi st 4)), (0, .ref aM), (1, xv vad c0), (2, xv vad c1)]) hx hb dM_times_229 rfl hl (by decide) (by simp only [List.filter, xvcat, xrscat, xcI, xcL, xcR, xcN]; rfl) (fun ls hl => ?_)
                            refine lv_lconst (v := 0) hx hb dM_times_230 (by decide) ?_
                            refine lv_lstore (lv' := [(4, .long 0), (3, .int (xsi st 4)), (0, .ref aM), (1, xv vad c0), (2, xv vad c1)]) hx hb dM_times_231 hl (by decide) rfl (fun ls hl => ?_)
                            exact key n (1, (0 : Int64), (xsi st 4), c0, c1, st, 0, 0) _ _ ls (⟨ad, gd, vad, rfl, hf, hP, hD, hS, lv_sub hl [0, 1, 2, 3, 4] rfl, hE, hN⟩)
                          · rw [if_neg hc] at hf
                            refine xm_aload_n hx hb (xvor _ _) dM_times_204 rfl (lv_at hl 2 rfl) ?_
                            refine xm_vget (v := .long ((xpl st) (c1 - 1))) hx hb htx hown hK hP 1 (by decide) hg2 rfl ((hZ.1 (96, "n", "J") (List.mem_of_getElem? (i := 1) rfl)).use rfl) rfl dM_times_205 ?_
                            refine lv_ldc hx hb hown (htx _ kw_6_62) dM_times_208 ?_
                            refine xm_aload_n hx hb (xvor _ _) dM_times_210 rfl (lv_at hl 1 rfl) ?_
                            refine xm_vget (v := .int ((xpi st 3) (c0 - 1))) hx hb htx hown hK hP 3 (by decide) hg1 rfl ((hZ.1 (103, "count", "I") (List.mem_of_getElem? (i := 3) rfl)).use rfl) rfl dM_times_211 ?_
                            obtain ⟨hg3, hf⟩ := xifn hf
                            refine lv_idiv hx hb dM_times_214 hg3 ?_
                            refine lv_i2l hx hb dM_times_215 rfl ?_
                            refine W.lcmp hx hb dM_times_216 ?_
                            refine lv_if_le (tgt := 225) hx hb dM_times_217 (by decide) (fun hc => ?_) (fun hc => ?_)
                            · rw [if_pos hc] at hf
                              refine lv_aload_n hx hb dM_times_225 rfl (lv_at hl 0 rfl) ?_
                              refine xm_get (v := .int (xsi st 4)) hx hb htx hown hK hP 4 (by decide) rfl (htx _ kw_5_91) rfl dM_times_226 ?_
                              refine lv_istore_n (lv' := [(3, .int (xsi st 4)), (0, .ref aM), (1, xv vad c0), (2, xv vad c1)]) hx hb dM_times_229 rfl hl (by decide) (by simp only [List.filter, xvcat, xrscat, xcI, xcL, xcR, xcN]; rfl) (fun ls hl => ?_)
                              refine lv_lconst (v := 0) hx hb dM_times_230 (by decide) ?_
                              refine lv_lstore (lv' := [(4, .long 0), (3, .int (xsi st 4)), (0, .ref aM), (1, xv vad c0), (2, xv vad c1)]) hx hb dM_times_231 hl (by decide) rfl (fun ls hl => ?_)
                              exact key n (1, (0 : Int64), (xsi st 4), c0, c1, st, 0, 0) _ _ ls (⟨ad, gd, vad, rfl, hf, hP, hD, hS, lv_sub hl [0, 1, 2, 3, 4] rfl, hE, hN⟩)
                            · rw [if_neg hc] at hf
                              refine lv_aload_n hx hb dM_times_220 rfl (lv_at hl 0 rfl) ?_
                              obtain ⟨o4, hq5, hf⟩ := xbind hf
                              have hl := lv_sub (l' := [(0, .ref aM)]) hl [0] rfl
                              by_cases hk6 : o4.1 = 1
                              · rw [if_pos hk6] at hf
                                obtain ⟨hm7, hf⟩ := xmoE hf
                                obtain rfl := Option.some.inj hf
                                exact absurd (show (2 : Nat) = 1 from hkd) (by decide)
                              rw [if_neg hk6] at hf
                              exact nomatch hf
                        · rw [if_neg hc] at hf
                          refine xm_aload_n hx hb (xvor _ _) dM_times_181 rfl (lv_at hl 2 rfl) ?_
                          refine xm_vget (v := .long ((xpl st) (c1 - 1))) hx hb htx hown hK hP 1 (by decide) hg2 rfl ((hZ.1 (96, "n", "J") (List.mem_of_getElem? (i := 1) rfl)).use rfl) rfl dM_times_182 ?_
                          refine lv_ldc2 hx hb hown (htx _ kw_6_108) dM_times_185 ?_
                          refine W.lcmp hx hb dM_times_188 ?_
                          refine lv_if_le (tgt := 197) hx hb dM_times_189 (by decide) (fun hc => ?_) (fun hc => ?_)
                          · rw [if_pos hc] at hf
                            refine xm_aload_n hx hb (xvor _ _) dM_times_197 rfl (lv_at hl 1 rfl) ?_
                            refine xm_vget (v := .int ((xpi st 3) (c0 - 1))) hx hb htx hown hK hP 3 (by decide) hg1 rfl ((hZ.1 (103, "count", "I") (List.mem_of_getElem? (i := 3) rfl)).use rfl) rfl dM_times_198 ?_
                            refine lv_if_le (tgt := 225) hx hb dM_times_201 (by decide) (fun hc => ?_) (fun hc => ?_)
                            · rw [if_pos hc] at hf
                              refine lv_aload_n hx hb dM_times_225 rfl (lv_at hl 0 rfl) ?_
                              refine xm_get (v := .int (xsi st 4)) hx hb htx hown hK hP 4 (by decide) rfl (htx _ kw_5_91) rfl dM_times_226 ?_
                              refine lv_istore_n (lv' := [(3, .int (xsi st 4)), (0, .ref aM), (1, xv vad c0), (2, xv vad c1)]) hx hb dM_times_229 rfl hl (by decide) (by simp only [List.filter, xvcat, xrscat, xcI, xcL, xcR, xcN]; rfl) (fun ls hl => ?_)
                              refine lv_lconst (v := 0) hx hb dM_times_230 (by decide) ?_
                              refine lv_lstore (lv' := [(4, .long 0), (3, .int (xsi st 4)), (0, .ref aM), (1, xv vad c0), (2, xv vad c1)]) hx hb dM_times_231 hl (by decide) rfl (fun ls hl => ?_)
                              exact key n (1, (0 : Int64), (xsi st 4), c0, c1, st, 0, 0) _ _ ls (⟨ad, gd, vad, rfl, hf, hP, hD, hS, lv_sub hl [0, 1, 2, 3, 4] rfl, hE, hN⟩)
                            · rw [if_neg hc] at hf
                              refine xm_aload_n hx hb (xvor _ _) dM_times_204 rfl (lv_at hl 2 rfl) ?_
                              refine xm_vget (v := .long ((xpl st) (c1 - 1))) hx hb htx hown hK hP 1 (by decide) hg2 rfl ((hZ.1 (96, "n", "J") (List.mem_of_getElem? (i := 1) rfl)).use rfl) rfl dM_times_205 ?_
                              refine lv_ldc hx hb hown (htx _ kw_6_62) dM_times_208 ?_
                              refine xm_aload_n hx hb (xvor _ _) dM_times_210 rfl (lv_at hl 1 rfl) ?_
                              refine xm_vget (v := .int ((xpi st 3) (c0 - 1))) hx hb htx hown hK hP 3 (by decide) hg1 rfl ((hZ.1 (103, "count", "I") (List.mem_of_getElem? (i := 3) rfl)).use rfl) rfl dM_times_211 ?_
                              obtain ⟨hg3, hf⟩ := xifn hf
                              refine lv_idiv hx hb dM_times_214 hg3 ?_
                              refine lv_i2l hx hb dM_times_215 rfl ?_
                              refine W.lcmp hx hb dM_times_216 ?_
                              refine lv_if_le (tgt := 225) hx hb dM_times_217 (by decide) (fun hc => ?_) (fun hc => ?_)
                              · rw [if_pos hc] at hf
                                refine lv_aload_n hx hb dM_times_225 rfl (lv_at hl 0 rfl) ?_
                                refine xm_get (v := .int (xsi st 4)) hx hb htx hown hK hP 4 (by decide) rfl (htx _ kw_5_91) rfl dM_times_226 ?_
                                refine lv_istore_n (lv' := [(3, .int (xsi st 4)), (0, .ref aM), (1, xv vad c0), (2, xv vad c1)]) hx hb dM_times_229 rfl hl (by decide) (by simp only [List.filter, xvcat, xrscat, xcI, xcL, xcR, xcN]; rfl) (fun ls hl => ?_)
                                refine lv_lconst (v := 0) hx hb dM_times_230 (by decide) ?_
                                refine lv_lstore (lv' := [(4, .long 0), (3, .int (xsi st 4)), (0, .ref aM), (1, xv vad c0), (2, xv vad c1)]) hx hb dM_times_231 hl (by decide) rfl (fun ls hl => ?_)
                                exact key n (1, (0 : Int64), (xsi st 4), c0, c1, st, 0, 0) _ _ ls (⟨ad, gd, vad, rfl, hf, hP, hD, hS, lv_sub hl [0, 1, 2, 3, 4] rfl, hE, hN⟩)
                              · rw [if_neg hc] at hf
                                refine lv_aload_n hx hb dM_times_220 rfl (lv_at hl 0 rfl) ?_
                                obtain ⟨o4, hq5, hf⟩ := xbind hf
                                have hl := lv_sub (l' := [(0, .ref aM)]) hl [0] rfl
                                by_cases hk6 : o4.1 = 1
                                · rw [if_pos hk6] at hf
                                  obtain ⟨hm7, hf⟩ := xmoE hf
                                  obtain rfl := Option.some.inj hf
                                  exact absurd (show (2 : Nat) = 1 from hkd) (by decide)
                                rw [if_neg hk6] at hf
                                exact nomatch hf
                          · rw [if_neg hc] at hf
                            refine lv_aload_n hx hb dM_times_192 rfl (lv_at hl 0 rfl) ?_
                            obtain ⟨o3, hq4, hf⟩ := xbind hf
                            have hl := lv_sub (l' := [(0, .ref aM)]) hl [0] rfl
                            by_cases hk5 : o3.1 = 1
                            · rw [if_pos hk5] at hf
                              obtain ⟨hm6, hf⟩ := xmoE hf
                              obtain rfl := Option.some.inj hf
                              exact absurd (show (2 : Nat) = 1 from hkd) (by decide)
                            rw [if_neg hk5] at hf
                            exact nomatch hf
                    · rw [if_neg hc] at hf
                      refine lv_aload_n hx hb dM_times_149 rfl (lv_at hl 0 rfl) ?_
                      refine lv_iconst (v := 0) hx hb dM_times_150 (by decide) ?_
                      obtain ⟨o3, hq4, hf⟩ := xbind hf
                      have hl := lv_sub (l' := [(0, .ref aM)]) hl [0] rfl
                      obtain ⟨hm5, hf⟩ := xmoE hf
                      have hFc := xm_free hD hS hA
                      refine va_callq (va_runV (C := "ValueBenchModel") (As := [.int 0]) (rest := []) ⟨hx, hb, hml, hown, htx⟩ (gM_fresh l hl9 D cT aK aV s.heap.size n aM ad rd gd vad st (0 : Int32) o3 hq4) ⟨callB_of 1 htx (xw_goodC kw_6_16) rfl rfl rfl (htx _ kw_1_5) (htx _ kw_6_13) ⟨by decide, by decide, by decide +kernel⟩ ⟨Nat.le_of_ble_eq_true rfl, Nat.le_of_ble_eq_true rfl⟩, (htx _ kw_6_15), (htx _ kp_M_fresh)⟩ ⟨xPre_blind, va_recv hK hP (ci := 5) rfl (q0 := 0) rfl, (fun U hU hW => ⟨rfl, xPre_of hZ hS hFc hP hD hK U hU hW⟩)⟩ rfl rfl hl.1 rfl (xm_room (Nat.le_of_ble_eq_true rfl)) dM_times_151 ⟨hm5.1, hm5.2⟩) hS (fun q _ h => hFc q h) hFc (fun r6 u9 t H1 locs ht hvm hr9 hB hz1 hk1 hS => ?_)
                      obtain ⟨hP1, hK1, hD1⟩ := hB
                      rw [ht] at hP1
                      obtain ⟨ad7, gd8, vad9⟩ := u9
                      obtain ⟨hr9, hv10, hn11⟩ := hr9
                      have hP : va_P D xcl (xMw cT aM ad7 rd gd8 vad9 o3.2.2.2 []) H1 := hP1
                      have hD : va_D A (xMw cT aM ad7 rd gd8 vad9 o3.2.2.2 []) := hD1.weaken (fun k q _ h => hFc q.1 h)
                      generalize H1 = H at hP hS ⊢
                      have hE9 : ∀ p, p < xct st → vad9 p = vad p := fun p h => (hv10 p (Nat.lt_of_lt_of_le h hN)).trans (hE p h)
                      have hE := hE9
                      have hN : xct st ≤ xct o3.2.2.2 := Nat.le_trans hN hn11
                      rw [hr9]
                      refine W.eq (g2 := F0 m 154 ls [xv vad9 o3.2.2.1]) (by first | rfl | (skip; rfl)) ?_
                      obtain rfl := Option.some.inj hf
                      exact absurd (show (0 : Nat) = 1 from hkd) (by decide)
                  · rw [if_neg hc] at hf
                    refine lv_aload_n hx hb dM_times_134 rfl (lv_at hl 0 rfl) ?_
                    refine lv_iconst (v := 1) hx hb dM_times_135 (by decide) ?_
                    obtain ⟨o3, hq4, hf⟩ := xbind hf
                    have hl := lv_sub (l' := [(0, .ref aM)]) hl [0] rfl
                    by_cases hk5 : o3.1 = 1
                    · rw [if_pos hk5] at hf
                      obtain ⟨hm6, hf⟩ := xmoE hf
                      have hFc := xm_free hD hS hA
                      refine xx_thr (vx_runV (C := "ValueBenchModel") (As := [.int 1]) (rest := []) ⟨hx, hb, hml, hown, htx⟩ (gM_refuse_1 l hl9 D cT aK aV s.heap.size n aM ad rd gd vad st (1 : Int32) o3 hq4 hk5) ⟨callB_of 1 htx (xw_goodC kw_6_93) rfl rfl rfl (htx _ kw_1_5) (htx _ kw_6_90) ⟨by decide, by decide, by decide +kernel⟩ ⟨Nat.le_of_ble_eq_true rfl, Nat.le_of_ble_eq_true rfl⟩, (htx _ kw_6_92), (htx _ kp_M_refuse)⟩ ⟨xPre_blind, va_recv hK hP (ci := 5) rfl (q0 := 0) rfl, (fun U hU hW => ⟨rfl, xPre_of hZ hS hFc hP hD hK U hU hW⟩)⟩ rfl rfl hl.1 rfl (xm_room (Nat.le_of_ble_eq_true rfl)) dM_times_136 ⟨hm6.1, hm6.2⟩) hS hFc (fun q _ h => hFc q h) (fun E ce q9 u9 t H1 locs ht hvm hr9 hB hz1 hk1 hS hce hcv hcl => ?_)
                      obtain ⟨rfl, hP1, hK1, hD1⟩ := hB
                      rw [ht] at hP1
                      obtain ⟨ad8, gd9, vad10⟩ := u9
                      obtain ⟨hv11, hn12⟩ := hr9
                      have hP : va_P D xcl (xMw cT aM ad8 rd gd9 vad10 o3.2.2.2.2 []) H1 := hP1
                      have hD : va_D A (xMw cT aM ad8 rd gd9 vad10 o3.2.2.2.2 []) := hD1.weaken (fun k q _ h => hFc q.1 h)
                      generalize H1 = H at hP hS hce ⊢
                      have hE9 : ∀ p, p < xct st → vad10 p = vad p := fun p h => (hv11 p (Nat.lt_of_lt_of_le h hN)).trans (hE p h)
                      have hE := hE9
                      have hN : xct st ≤ xct o3.2.2.2.2 := Nat.le_trans hN hn12
                      obtain rfl := Option.some.inj hf
                      exact vx_out (E := "java/lang/ArithmeticException") (fun x h => (hne x h).elim) hlocks hce hcv hcl (fun t ht ha => ⟨(ad8, gd9, vad10), ⟨hE, hN⟩, ⟨rfl, by rw [ht]; exact hP, va_K.moved ha hK, hD⟩, hS.F ht⟩) hS.2.2 (Nat.le_refl _) (Nat.le_refl _)
                    rw [if_neg hk5] at hf
                    exact nomatch hf
              · rw [if_pos hc] at hf
                refine xm_aload_n hx hb (xvor _ _) dM_times_103 rfl (lv_at hl 2 rfl) ?_
                refine xm_vget (v := .int ((xpi st 0) (c1 - 1))) hx hb htx hown hK hP 0 (by decide) hg2 rfl ((hZ.1 (93, "kind", "I") (List.mem_of_getElem? (i := 0) rfl)).use rfl) rfl dM_times_104 ?_
                refine lv_iconst (v := 4) hx hb dM_times_107 (by decide) ?_
                refine lv_icmp_ne (tgt := 118) hx hb dM_times_108 (by decide) (fun hc => ?_) (fun hc => ?_)
                · rw [if_neg hc] at hf
                  refine xm_aload_n hx hb (xvor _ _) dM_times_118 rfl (lv_at hl 1 rfl) ?_
                  refine xm_vget (v := .int ((xpi st 0) (c0 - 1))) hx hb htx hown hK hP 0 (by decide) hg1 rfl ((hZ.1 (93, "kind", "I") (List.mem_of_getElem? (i := 0) rfl)).use rfl) rfl dM_times_119 ?_
                  refine lv_iconst (v := 4) hx hb dM_times_122 (by decide) ?_
                  refine lv_icmp_ne (tgt := 134) hx hb dM_times_123 (by decide) (fun hc => ?_) (fun hc => ?_)
                  · rw [if_neg hc] at hf
                    refine lv_aload_n hx hb dM_times_134 rfl (lv_at hl 0 rfl) ?_
                    refine lv_iconst (v := 1) hx hb dM_times_135 (by decide) ?_
                    obtain ⟨o3, hq4, hf⟩ := xbind hf
                    have hl := lv_sub (l' := [(0, .ref aM)]) hl [0] rfl
                    by_cases hk5 : o3.1 = 1
                    · rw [if_pos hk5] at hf
                      obtain ⟨hm6, hf⟩ := xmoE hf
                      have hFc := xm_free hD hS hA
                      refine xx_thr (vx_runV (C := "ValueBenchModel") (As := [.int 1]) (rest := []) ⟨hx, hb, hml, hown, htx⟩ (gM_refuse_1 l hl9 D cT aK aV s.heap.size n aM ad rd gd vad st (1 : Int32) o3 hq4 hk5) ⟨callB_of 1 htx (xw_goodC kw_6_93) rfl rfl rfl (htx _ kw_1_5) (htx _ kw_6_90) ⟨by decide, by decide, by decide +kernel⟩ ⟨Nat.le_of_ble_eq_true rfl, Nat.le_of_ble_eq_true rfl⟩, (htx _ kw_6_92), (htx _ kp_M_refuse)⟩ ⟨xPre_blind, va_recv hK hP (ci := 5) rfl (q0 := 0) rfl, (fun U hU hW => ⟨rfl, xPre_of hZ hS hFc hP hD hK U hU hW⟩)⟩ rfl rfl hl.1 rfl (xm_room (Nat.le_of_ble_eq_true rfl)) dM_times_136 ⟨hm6.1, hm6.2⟩) hS hFc (fun q _ h => hFc q h) (fun E ce q9 u9 t H1 locs ht hvm hr9 hB hz1 hk1 hS hce hcv hcl => ?_)
                      obtain ⟨rfl, hP1, hK1, hD1⟩ := hB
                      rw [ht] at hP1
                      obtain ⟨ad8, gd9, vad10⟩ := u9
                      obtain ⟨hv11, hn12⟩ := hr9
                      have hP : va_P D xcl (xMw cT aM ad8 rd gd9 vad10 o3.2.2.2.2 []) H1 := hP1
                      have hD : va_D A (xMw cT aM ad8 rd gd9 vad10 o3.2.2.2.2 []) := hD1.weaken (fun k q _ h => hFc q.1 h)
                      generalize H1 = H at hP hS hce ⊢
                      have hE9 : ∀ p, p < xct st → vad10 p = vad p := fun p h => (hv11 p (Nat.lt_of_lt_of_le h hN)).trans (hE p h)
                      have hE := hE9
                      have hN : xct st ≤ xct o3.2.2.2.2 := Nat.le_trans hN hn12
                      obtain rfl := Option.some.inj hf
                      exact vx_out (E := "java/lang/ArithmeticException") (fun x h => (hne x h).elim) hlocks hce hcv hcl (fun t ht ha => ⟨(ad8, gd9, vad10), ⟨hE, hN⟩, ⟨rfl, by rw [ht]; exact hP, va_K.moved ha hK, hD⟩, hS.F ht⟩) hS.2.2 (Nat.le_refl _) (Nat.le_refl _)
                    rw [if_neg hk5] at hf
                    exact nomatch hf
                  · rw [if_pos hc] at hf
                    refine xm_aload_n hx hb (xvor _ _) dM_times_126 rfl (lv_at hl 2 rfl) ?_
                    refine xm_vget (v := .int ((xpi st 0) (c1 - 1))) hx hb htx hown hK hP 0 (by decide) hg2 rfl ((hZ.1 (93, "kind", "I") (List.mem_of_getElem? (i := 0) rfl)).use rfl) rfl dM_times_127 ?_
                    refine lv_iconst (v := 3) hx hb dM_times_130 (by decide) ?_
                    refine lv_icmp_eq (tgt := 140) hx hb dM_times_131 (by decide) (fun hc => ?_) (fun hc => ?_)
                    · rw [if_pos hc] at hf
                      refine xm_aload_n hx hb (xvor _ _) dM_times_140 rfl (lv_at hl 2 rfl) ?_
                      refine xm_vget (v := .long ((xpl st) (c1 - 1))) hx hb htx hown hK hP 1 (by decide) hg2 rfl ((hZ.1 (96, "n", "J") (List.mem_of_getElem? (i := 1) rfl)).use rfl) rfl dM_times_141 ?_
                      refine lv_lconst (v := 1) hx hb dM_times_144 (by decide) ?_
                      refine W.lcmp hx hb dM_times_145 ?_
                      refine lv_if_ge (tgt := 155) hx hb dM_times_146 (by decide) (fun hc => ?_) (fun hc => ?_)
                      · rw [if_pos hc] at hf
                        refine xm_aload_n hx hb (xvor _ _) dM_times_155 rfl (lv_at hl 2 rfl) ?_
                        refine xm_vget (v := .long ((xpl st) (c1 - 1))) hx hb htx hown hK hP 1 (by decide) hg2 rfl ((hZ.1 (96, "n", "J") (List.mem_of_getElem? (i := 1) rfl)).use rfl) rfl dM_times_156 ?_
                        refine xm_aload_n hx hb (xvor _ _) dM_times_159 rfl (lv_at hl 1 rfl) ?_
                        refine xm_vget (v := .int ((xpi st 3) (c0 - 1))) hx hb htx hown hK hP 3 (by decide) hg1 rfl ((hZ.1 (103, "count", "I") (List.mem_of_getElem? (i := 3) rfl)).use rfl) rfl dM_times_160 ?_
                        refine lv_i2l hx hb dM_times_163 rfl ?_
                        refine lv_lconst (v := 1) hx hb dM_times_164 (by decide) ?_
                        refine lv_ladd hx hb dM_times_165 ?_
                        refine lv_lmul hx hb dM_times_166 ?_
                        refine lv_ldc2 hx hb hown (htx _ kw_6_221) dM_times_167 ?_
                        refine W.lcmp hx hb dM_times_170 ?_
                        refine lv_if_le (tgt := 197) hx hb dM_times_171 (by decide) (fun hc => ?_) (fun hc => ?_)
                        · rw [if_pos hc] at hf
                          refine xm_aload_n hx hb (xvor _ _) dM_times_197 rfl (lv_at hl 1 rfl) ?_
                          refine xm_vget (v := .int ((xpi st 3) (c0 - 1))) hx hb htx hown hK hP 3 (by decide) hg1 rfl ((hZ.1 (103, "count", "I") (List.mem_of_getElem? (i := 3) rfl)).use rfl) rfl dM_times_198 ?_
                          refine lv_if_le (tgt := 225) hx hb dM_times_201 (by decide) (fun hc => ?_) (fun hc => ?_)
                          · rw [if_pos hc] at hf
                            refine lv_aload_n hx hb dM_times_225 rfl (lv_at hl 0 rfl) ?_
                            refine xm_get (v := .int (xsi st 4)) hx hb htx hown hK hP 4 (by decide) rfl (htx _ kw_5_91) rfl dM_times_226 ?_
                            refine lv_istore_n (lv' := [(3, .int (xsi st 4)), (0, .ref aM), (1, xv vad c0), (2, xv vad c1)]) hx hb dM_times_229 rfl hl (by decide) (by simp only [List.filter, xvcat, xrscat, xcI, xcL, xcR, xcN]; rfl) (fun ls hl => ?_)
                            refine lv_lconst (v := 0) hx hb dM_times_230 (by decide) ?_
                            refine lv_lstore (lv' := [(4, .long 0), (3, .int (xsi st 4)), (0, .ref aM), (1, xv vad c0), (2, xv vad c1)]) hx hb dM_times_231 hl (by decide) rfl (fun ls hl => ?_)
                            exact key n (1, (0 : Int64), (xsi st 4), c0, c1, st, 0, 0) _ _ ls (⟨ad, gd, vad, rfl, hf, hP, hD, hS, lv_sub hl [0, 1, 2, 3, 4] rfl, hE, hN⟩)
                          · rw [if_neg hc] at hf
                            refine xm_aload_n hx hb (xvor _ _) dM_times_204 rfl (lv_at hl 2 rfl) ?_
                            refine xm_vget (v := .long ((xpl st) (c1 - 1))) hx hb htx hown hK hP 1 (by decide) hg2 rfl ((hZ.1 (96, "n", "J") (List.mem_of_getElem? (i := 1) rfl)).use rfl) rfl dM_times_205 ?_
                            refine lv_ldc hx hb hown (htx _ kw_6_62) dM_times_208 ?_
                            refine xm_aload_n hx hb (xvor _ _) dM_times_210 rfl (lv_at hl 1 rfl) ?_
                            refine xm_vget (v := .int ((xpi st 3) (c0 - 1))) hx hb htx hown hK hP 3 (by decide) hg1 rfl ((hZ.1 (103, "count", "I") (List.mem_of_getElem? (i := 3) rfl)).use rfl) rfl dM_times_211 ?_
                            obtain ⟨hg3, hf⟩ := xifn hf
                            refine lv_idiv hx hb dM_times_214 hg3 ?_
                            refine lv_i2l hx hb dM_times_215 rfl ?_
                            refine W.lcmp hx hb dM_times_216 ?_
                            refine lv_if_le (tgt := 225) hx hb dM_times_217 (by decide) (fun hc => ?_) (fun hc => ?_)
                            · rw [if_pos hc] at hf
                              refine lv_aload_n hx hb dM_times_225 rfl (lv_at hl 0 rfl) ?_
                              refine xm_get (v := .int (xsi st 4)) hx hb htx hown hK hP 4 (by decide) rfl (htx _ kw_5_91) rfl dM_times_226 ?_
                              refine lv_istore_n (lv' := [(3, .int (xsi st 4)), (0, .ref aM), (1, xv vad c0), (2, xv vad c1)]) hx hb dM_times_229 rfl hl (by decide) (by simp only [List.filter, xvcat, xrscat, xcI, xcL, xcR, xcN]; rfl) (fun ls hl => ?_)
                              refine lv_lconst (v := 0) hx hb dM_times_230 (by decide) ?_
                              refine lv_lstore (lv' := [(4, .long 0), (3, .int (xsi st 4)), (0, .ref aM), (1, xv vad c0), (2, xv vad c1)]) hx hb dM_times_231 hl (by decide) rfl (fun ls hl => ?_)
                              exact key n (1, (0 : Int64), (xsi st 4), c0, c1, st, 0, 0) _ _ ls (⟨ad, gd, vad, rfl, hf, hP, hD, hS, lv_sub hl [0, 1, 2, 3, 4] rfl, hE, hN⟩)
                            · rw [if_neg hc] at hf
                              refine lv_aload_n hx hb dM_times_220 rfl (lv_at hl 0 rfl) ?_
                              obtain ⟨o4, hq5, hf⟩ := xbind hf
                              have hl := lv_sub (l' := [(0, .ref aM)]) hl [0] rfl
                              by_cases hk6 : o4.1 = 1
                              · rw [if_pos hk6] at hf
                                obtain ⟨hm7, hf⟩ := xmoE hf
                                obtain rfl := Option.some.inj hf
                                exact absurd (show (2 : Nat) = 1 from hkd) (by decide)
                              rw [if_neg hk6] at hf
                              exact nomatch hf
                        · rw [if_neg hc] at hf
                          refine xm_aload_n hx hb (xvor _ _) dM_times_174 rfl (lv_at hl 1 rfl) ?_
                          refine xm_vget (v := .int ((xpi st 3) (c0 - 1))) hx hb htx hown hK hP 3 (by decide) hg1 rfl ((hZ.1 (103, "count", "I") (List.mem_of_getElem? (i := 3) rfl)).use rfl) rfl dM_times_175 ?_
                          refine lv_if_le (tgt := 197) hx hb dM_times_178 (by decide) (fun hc => ?_) (fun hc => ?_)
                          · rw [if_pos hc] at hf
                            refine xm_aload_n hx hb (xvor _ _) dM_times_197 rfl (lv_at hl 1 rfl) ?_
                            refine xm_vget (v := .int ((xpi st 3) (c0 - 1))) hx hb htx hown hK hP 3 (by decide) hg1 rfl ((hZ.1 (103, "count", "I") (List.mem_of_getElem? (i := 3) rfl)).use rfl) rfl dM_times_198 ?_
                            refine lv_if_le (tgt := 225) hx hb dM_times_201 (by decide) (fun hc => ?_) (fun hc => ?_)
                            · rw [if_pos hc] at hf
                              refine lv_aload_n hx hb dM_times_225 rfl (lv_at hl 0 rfl) ?_
                              refine xm_get (v := .int (xsi st 4)) hx hb htx hown hK hP 4 (by decide) rfl (htx _ kw_5_91) rfl dM_times_226 ?_
                              refine lv_istore_n (lv' := [(3, .int (xsi st 4)), (0, .ref aM), (1, xv vad c0), (2, xv vad c1)]) hx hb dM_times_229 rfl hl (by decide) (by simp only [List.filter, xvcat, xrscat, xcI, xcL, xcR, xcN]; rfl) (fun ls hl => ?_)
                              refine lv_lconst (v := 0) hx hb dM_times_230 (by decide) ?_
                              refine lv_lstore (lv' := [(4, .long 0), (3, .int (xsi st 4)), (0, .ref aM), (1, xv vad c0), (2, xv vad c1)]) hx hb dM_times_231 hl (by decide) rfl (fun ls hl => ?_)
                              exact key n (1, (0 : Int64), (xsi st 4), c0, c1, st, 0, 0) _ _ ls (⟨ad, gd, vad, rfl, hf, hP, hD, hS, lv_sub hl [0, 1, 2, 3, 4] rfl, hE, hN⟩)
                            · rw [if_neg hc] at hf
                              refine xm_aload_n hx hb (xvor _ _) dM_times_204 rfl (lv_at hl 2 rfl) ?_
                              refine xm_vget (v := .long ((xpl st) (c1 - 1))) hx hb htx hown hK hP 1 (by decide) hg2 rfl ((hZ.1 (96, "n", "J") (List.mem_of_getElem? (i := 1) rfl)).use rfl) rfl dM_times_205 ?_
                              refine lv_ldc hx hb hown (htx _ kw_6_62) dM_times_208 ?_
                              refine xm_aload_n hx hb (xvor _ _) dM_times_210 rfl (lv_at hl 1 rfl) ?_
                              refine xm_vget (v := .int ((xpi st 3) (c0 - 1))) hx hb htx hown hK hP 3 (by decide) hg1 rfl ((hZ.1 (103, "count", "I") (List.mem_of_getElem? (i := 3) rfl)).use rfl) rfl dM_times_211 ?_
                              obtain ⟨hg3, hf⟩ := xifn hf
                              refine lv_idiv hx hb dM_times_214 hg3 ?_
                              refine lv_i2l hx hb dM_times_215 rfl ?_
                              refine W.lcmp hx hb dM_times_216 ?_
                              refine lv_if_le (tgt := 225) hx hb dM_times_217 (by decide) (fun hc => ?_) (fun hc => ?_)
                              · rw [if_pos hc] at hf
                                refine lv_aload_n hx hb dM_times_225 rfl (lv_at hl 0 rfl) ?_
                                refine xm_get (v := .int (xsi st 4)) hx hb htx hown hK hP 4 (by decide) rfl (htx _ kw_5_91) rfl dM_times_226 ?_
                                refine lv_istore_n (lv' := [(3, .int (xsi st 4)), (0, .ref aM), (1, xv vad c0), (2, xv vad c1)]) hx hb dM_times_229 rfl hl (by decide) (by simp only [List.filter, xvcat, xrscat, xcI, xcL, xcR, xcN]; rfl) (fun ls hl => ?_)
                                refine lv_lconst (v := 0) hx hb dM_times_230 (by decide) ?_
                                refine lv_lstore (lv' := [(4, .long 0), (3, .int (xsi st 4)), (0, .ref aM), (1, xv vad c0), (2, xv vad c1)]) hx hb dM_times_231 hl (by decide) rfl (fun ls hl => ?_)
                                exact key n (1, (0 : Int64), (xsi st 4), c0, c1, st, 0, 0) _ _ ls (⟨ad, gd, vad, rfl, hf, hP, hD, hS, lv_sub hl [0, 1, 2, 3, 4] rfl, hE, hN⟩)
                              · rw [if_neg hc] at hf
                                refine lv_aload_n hx hb dM_times_220 rfl (lv_at hl 0 rfl) ?_
                                obtain ⟨o4, hq5, hf⟩ := xbind hf
                                have hl := lv_sub (l' := [(0, .ref aM)]) hl [0] rfl
                                by_cases hk6 : o4.1 = 1
                                · rw [if_pos hk6] at hf
                                  obtain ⟨hm7, hf⟩ := xmoE hf
                                  obtain rfl := Option.some.inj hf
                                  exact absurd (show (2 : Nat) = 1 from hkd) (by decide)
                                rw [if_neg hk6] at hf
                                exact nomatch hf
                          · rw [if_neg hc] at hf
                            refine xm_aload_n hx hb (xvor _ _) dM_times_181 rfl (lv_at hl 2 rfl) ?_
                            refine xm_vget (v := .long ((xpl st) (c1 - 1))) hx hb htx hown hK hP 1 (by decide) hg2 rfl ((hZ.1 (96, "n", "J") (List.mem_of_getElem? (i := 1) rfl)).use rfl) rfl dM_times_182 ?_
                            refine lv_ldc2 hx hb hown (htx _ kw_6_108) dM_times_185 ?_
                            refine W.lcmp hx hb dM_times_188 ?_
                            refine lv_if_le (tgt := 197) hx hb dM_times_189 (by decide) (fun hc => ?_) (fun hc => ?_)
                            · rw [if_pos hc] at hf
                              refine xm_aload_n hx hb (xvor _ _) dM_times_197 rfl (lv_at hl 1 rfl) ?_
                              refine xm_vget (v := .int ((xpi st 3) (c0 - 1))) hx hb htx hown hK hP 3 (by decide) hg1 rfl ((hZ.1 (103, "count", "I") (List.mem_of_getElem? (i := 3) rfl)).use rfl) rfl dM_times_198 ?_
                              refine lv_if_le (tgt := 225) hx hb dM_times_201 (by decide) (fun hc => ?_) (fun hc => ?_)
                              · rw [if_pos hc] at hf
                                refine lv_aload_n hx hb dM_times_225 rfl (lv_at hl 0 rfl) ?_
                                refine xm_get (v := .int (xsi st 4)) hx hb htx hown hK hP 4 (by decide) rfl (htx _ kw_5_91) rfl dM_times_226 ?_
                                refine lv_istore_n (lv' := [(3, .int (xsi st 4)), (0, .ref aM), (1, xv vad c0), (2, xv vad c1)]) hx hb dM_times_229 rfl hl (by decide) (by simp only [List.filter, xvcat, xrscat, xcI, xcL, xcR, xcN]; rfl) (fun ls hl => ?_)
                                refine lv_lconst (v := 0) hx hb dM_times_230 (by decide) ?_
                                refine lv_lstore (lv' := [(4, .long 0), (3, .int (xsi st 4)), (0, .ref aM), (1, xv vad c0), (2, xv vad c1)]) hx hb dM_times_231 hl (by decide) rfl (fun ls hl => ?_)
                                exact key n (1, (0 : Int64), (xsi st 4), c0, c1, st, 0, 0) _ _ ls (⟨ad, gd, vad, rfl, hf, hP, hD, hS, lv_sub hl [0, 1, 2, 3, 4] rfl, hE, hN⟩)
                              · rw [if_neg hc] at hf
                                refine xm_aload_n hx hb (xvor _ _) dM_times_204 rfl (lv_at hl 2 rfl) ?_
                                refine xm_vget (v := .long ((xpl st) (c1 - 1))) hx hb htx hown hK hP 1 (by decide) hg2 rfl ((hZ.1 (96, "n", "J") (List.mem_of_getElem? (i := 1) rfl)).use rfl) rfl dM_times_205 ?_
                                refine lv_ldc hx hb hown (htx _ kw_6_62) dM_times_208 ?_
                                refine xm_aload_n hx hb (xvor _ _) dM_times_210 rfl (lv_at hl 1 rfl) ?_
                                refine xm_vget (v := .int ((xpi st 3) (c0 - 1))) hx hb htx hown hK hP 3 (by decide) hg1 rfl ((hZ.1 (103, "count", "I") (List.mem_of_getElem? (i := 3) rfl)).use rfl) rfl dM_times_211 ?_
                                obtain ⟨hg3, hf⟩ := xifn hf
                                refine lv_idiv hx hb dM_times_214 hg3 ?_
                                refine lv_i2l hx hb dM_times_215 rfl ?_
                                refine W.lcmp hx hb dM_times_216 ?_
                                refine lv_if_le (tgt := 225) hx hb dM_times_217 (by decide) (fun hc => ?_) (fun hc => ?_)
                                · rw [if_pos hc] at hf
                                  refine lv_aload_n hx hb dM_times_225 rfl (lv_at hl 0 rfl) ?_
                                  refine xm_get (v := .int (xsi st 4)) hx hb htx hown hK hP 4 (by decide) rfl (htx _ kw_5_91) rfl dM_times_226 ?_
                                  refine lv_istore_n (lv' := [(3, .int (xsi st 4)), (0, .ref aM), (1, xv vad c0), (2, xv vad c1)]) hx hb dM_times_229 rfl hl (by decide) (by simp only [List.filter, xvcat, xrscat, xcI, xcL, xcR, xcN]; rfl) (fun ls hl => ?_)
                                  refine lv_lconst (v := 0) hx hb dM_times_230 (by decide) ?_
                                  refine lv_lstore (lv' := [(4, .long 0), (3, .int (xsi st 4)), (0, .ref aM), (1, xv vad c0), (2, xv vad c1)]) hx hb dM_times_231 hl (by decide) rfl (fun ls hl => ?_)
                                  exact key n (1, (0 : Int64), (xsi st 4), c0, c1, st, 0, 0) _ _ ls (⟨ad, gd, vad, rfl, hf, hP, hD, hS, lv_sub hl [0, 1, 2, 3, 4] rfl, hE, hN⟩)
                                · rw [if_neg hc] at hf
                                  refine lv_aload_n hx hb dM_times_220 rfl (lv_at hl 0 rfl) ?_
                                  obtain ⟨o4, hq5, hf⟩ := xbind hf
                                  have hl := lv_sub (l' := [(0, .ref aM)]) hl [0] rfl
                                  by_cases hk6 : o4.1 = 1
                                  · rw [if_pos hk6] at hf
                                    obtain ⟨hm7, hf⟩ := xmoE hf
                                    obtain rfl := Option.some.inj hf
                                    exact absurd (show (2 : Nat) = 1 from hkd) (by decide)
                                  rw [if_neg hk6] at hf
                                  exact nomatch hf
                            · rw [if_neg hc] at hf
                              refine lv_aload_n hx hb dM_times_192 rfl (lv_at hl 0 rfl) ?_
                              obtain ⟨o3, hq4, hf⟩ := xbind hf
                              have hl := lv_sub (l' := [(0, .ref aM)]) hl [0] rfl
                              by_cases hk5 : o3.1 = 1
                              · rw [if_pos hk5] at hf
                                obtain ⟨hm6, hf⟩ := xmoE hf
                                obtain rfl := Option.some.inj hf
                                exact absurd (show (2 : Nat) = 1 from hkd) (by decide)
                              rw [if_neg hk5] at hf
                              exact nomatch hf
                      · rw [if_neg hc] at hf
                        refine lv_aload_n hx hb dM_times_149 rfl (lv_at hl 0 rfl) ?_
                        refine lv_iconst (v := 0) hx hb dM_times_150 (by decide) ?_
                        obtain ⟨o3, hq4, hf⟩ := xbind hf
                        have hl := lv_sub (l' := [(0, .ref aM)]) hl [0] rfl
                        obtain ⟨hm5, hf⟩ := xmoE hf
                        have hFc := xm_free hD hS hA
                        refine va_callq (va_runV (C := "ValueBenchModel") (As := [.int 0]) (rest := []) ⟨hx, hb, hml, hown, htx⟩ (gM_fresh l hl9 D cT aK aV s.heap.size n aM ad rd gd vad st (0 : Int32) o3 hq4) ⟨callB_of 1 htx (xw_goodC kw_6_16) rfl rfl rfl (htx _ kw_1_5) (htx _ kw_6_13) ⟨by decide, by decide, by decide +kernel⟩ ⟨Nat.le_of_ble_eq_true rfl, Nat.le_of_ble_eq_true rfl⟩, (htx _ kw_6_15), (htx _ kp_M_fresh)⟩ ⟨xPre_blind, va_recv hK hP (ci := 5) rfl (q0 := 0) rfl, (fun U hU hW => ⟨rfl, xPre_of hZ hS hFc hP hD hK U hU hW⟩)⟩ rfl rfl hl.1 rfl (xm_room (Nat.le_of_ble_eq_true rfl)) dM_times_151 ⟨hm5.1, hm5.2⟩) hS (fun q _ h => hFc q h) hFc (fun r6 u9 t H1 locs ht hvm hr9 hB hz1 hk1 hS => ?_)
                        obtain ⟨hP1, hK1, hD1⟩ := hB
                        rw [ht] at hP1
                        obtain ⟨ad7, gd8, vad9⟩ := u9
                        obtain ⟨hr9, hv10, hn11⟩ := hr9
                        have hP : va_P D xcl (xMw cT aM ad7 rd gd8 vad9 o3.2.2.2 []) H1 := hP1
                        have hD : va_D A (xMw cT aM ad7 rd gd8 vad9 o3.2.2.2 []) := hD1.weaken (fun k q _ h => hFc q.1 h)
                        generalize H1 = H at hP hS ⊢
                        have hE9 : ∀ p, p < xct st → vad9 p = vad p := fun p h => (hv10 p (Nat.lt_of_lt_of_le h hN)).trans (hE p h)
                        have hE := hE9
                        have hN : xct st ≤ xct o3.2.2.2 := Nat.le_trans hN hn11
                        rw [hr9]
                        refine W.eq (g2 := F0 m 154 ls [xv vad9 o3.2.2.1]) (by first | rfl | (skip; rfl)) ?_
                        obtain rfl := Option.some.inj hf
                        exact absurd (show (0 : Nat) = 1 from hkd) (by decide)
                    · rw [if_neg hc] at hf
                      refine lv_aload_n hx hb dM_times_134 rfl (lv_at hl 0 rfl) ?_
                      refine lv_iconst (v := 1) hx hb dM_times_135 (by decide) ?_
                      obtain ⟨o3, hq4, hf⟩ := xbind hf
                      have hl := lv_sub (l' := [(0, .ref aM)]) hl [0] rfl
                      by_cases hk5 : o3.1 = 1
                      · rw [if_pos hk5] at hf
                        obtain ⟨hm6, hf⟩ := xmoE hf
                        have hFc := xm_free hD hS hA
                        refine xx_thr (vx_runV (C := "ValueBenchModel") (As := [.int 1]) (rest := []) ⟨hx, hb, hml, hown, htx⟩ (gM_refuse_1 l hl9 D cT aK aV s.heap.size n aM ad rd gd vad st (1 : Int32) o3 hq4 hk5) ⟨callB_of 1 htx (xw_goodC kw_6_93) rfl rfl rfl (htx _ kw_1_5) (htx _ kw_6_90) ⟨by decide, by decide, by decide +kernel⟩ ⟨Nat.le_of_ble_eq_true rfl, Nat.le_of_ble_eq_true rfl⟩, (htx _ kw_6_92), (htx _ kp_M_refuse)⟩ ⟨xPre_blind, va_recv hK hP (ci := 5) rfl (q0 := 0) rfl, (fun U hU hW => ⟨rfl, xPre_of hZ hS hFc hP hD hK U hU hW⟩)⟩ rfl rfl hl.1 rfl (xm_room (Nat.le_of_ble_eq_true rfl)) dM_times_136 ⟨hm6.1, hm6.2⟩) hS hFc (fun q _ h => hFc q h) (fun E ce q9 u9 t H1 locs ht hvm hr9 hB hz1 hk1 hS hce hcv hcl => ?_)
                        obtain ⟨rfl, hP1, hK1, hD1⟩ := hB
                        rw [ht] at hP1
                        obtain ⟨ad8, gd9, vad10⟩ := u9
                        obtain ⟨hv11, hn12⟩ := hr9
                        have hP : va_P D xcl (xMw cT aM ad8 rd gd9 vad10 o3.2.2.2.2 []) H1 := hP1
                        have hD : va_D A (xMw cT aM ad8 rd gd9 vad10 o3.2.2.2.2 []) := hD1.weaken (fun k q _ h => hFc q.1 h)
                        generalize H1 = H at hP hS hce ⊢
                        have hE9 : ∀ p, p < xct st → vad10 p = vad p := fun p h => (hv11 p (Nat.lt_of_lt_of_le h hN)).trans (hE p h)
                        have hE := hE9
                        have hN : xct st ≤ xct o3.2.2.2.2 := Nat.le_trans hN hn12
                        obtain rfl := Option.some.inj hf
                        exact vx_out (E := "java/lang/ArithmeticException") (fun x h => (hne x h).elim) hlocks hce hcv hcl (fun t ht ha => ⟨(ad8, gd9, vad10), ⟨hE, hN⟩, ⟨rfl, by rw [ht]; exact hP, va_K.moved ha hK, hD⟩, hS.F ht⟩) hS.2.2 (Nat.le_refl _) (Nat.le_refl _)
                      rw [if_neg hk5] at hf
                      exact nomatch hf
                · rw [if_pos hc] at hf
                  refine lv_aload_n hx hb dM_times_111 rfl (lv_at hl 0 rfl) ?_
                  refine xm_aload_n hx hb (xvor _ _) dM_times_112 rfl (lv_at hl 2 rfl) ?_
                  refine xm_aload_n hx hb (xvor _ _) dM_times_113 rfl (lv_at hl 1 rfl) ?_
                  obtain ⟨o3, hq4, hf⟩ := xbind hf
                  have hl := lv_sub (l' := [(0, .ref aM)]) hl [0] rfl
                  by_cases hk5 : o3.1 = 0
                  · rw [if_pos hk5] at hf
                    obtain ⟨hm6, hf⟩ := xmoE hf
                    have hFc := xm_free hD hS hA
                    refine va_callq (va_runV (C := "ValueBenchModel") (As := [xv vad c1, xv vad c0]) (rest := []) ⟨hx, hb, hml, hown, htx⟩ ((hrec s.heap.size aM ad rd gd vad st c1 c0 o3 hq4).1 hk5) ⟨callB_of 2 htx (xw_goodC kw_6_215) rfl rfl rfl (htx _ kw_1_5) (htx _ kw_6_212) ⟨by decide, by decide, by decide +kernel⟩ ⟨(by show (16 * d) + 1 ≤ 16 * (d + 1); omega), (by show 8 + (7 + 11) + (400 * d) ≤ 400 * (d + 1); omega)⟩, (htx _ kw_6_214), (htx _ kp_M_times)⟩ ⟨xPre_blind, va_recv hK hP (ci := 5) rfl (q0 := 0) rfl, (fun U hU hW => ⟨rfl, xPre_of hZ hS hFc hP hD hK U hU hW⟩)⟩ rfl rfl hl.1 rfl (xm_room (Nat.le_of_ble_eq_true rfl)) dM_times_114 ⟨hm6.1, hm6.2⟩) hS (fun q _ h => hFc q h) hFc (fun r7 u9 t H1 locs ht hvm hr9 hB hz1 hk1 hS => ?_)
                    obtain ⟨hP1, hK1, hD1⟩ := hB
                    rw [ht] at hP1
                    obtain ⟨ad8, gd9, vad10⟩ := u9
                    obtain ⟨hr9, hv11, hn12⟩ := hr9
                    have hP : va_P D xcl (xMw cT aM ad8 rd gd9 vad10 o3.2.2.2.2 []) H1 := hP1
                    have hD : va_D A (xMw cT aM ad8 rd gd9 vad10 o3.2.2.2.2 []) := hD1.weaken (fun k q _ h => hFc q.1 h)
                    generalize H1 = H at hP hS ⊢
                    have hE9 : ∀ p, p < xct st → vad10 p = vad p := fun p h => (hv11 p (Nat.lt_of_lt_of_le h hN)).trans (hE p h)
                    have hE := hE9
                    have hN : xct st ≤ xct o3.2.2.2.2 := Nat.le_trans hN hn12
                    rw [hr9]
                    refine W.eq (g2 := F0 m 117 ls [xv vad10 o3.2.2.2.1]) (by first | rfl | (skip; rfl)) ?_
                    obtain rfl := Option.some.inj hf
                    exact absurd (show (0 : Nat) = 1 from hkd) (by decide)
                  rw [if_neg hk5] at hf
                  by_cases hk13 : o3.1 = 1
                  · rw [if_pos hk13] at hf
                    obtain ⟨hm14, hf⟩ := xmoE hf
                    have hFc := xm_free hD hS hA
                    refine xx_thr (vx_runV (C := "ValueBenchModel") (As := [xv vad c1, xv vad c0]) (rest := []) ⟨hx, hb, hml, hown, htx⟩ ((hrec s.heap.size aM ad rd gd vad st c1 c0 o3 hq4).2.1 hk13) ⟨callB_of 2 htx (xw_goodC kw_6_215) rfl rfl rfl (htx _ kw_1_5) (htx _ kw_6_212) ⟨by decide, by decide, by decide +kernel⟩ ⟨(by show (16 * d) + 1 ≤ 16 * (d + 1); omega), (by show 8 + (7 + 11) + (400 * d) ≤ 400 * (d + 1); omega)⟩, (htx _ kw_6_214), (htx _ kp_M_times)⟩ ⟨xPre_blind, va_recv hK hP (ci := 5) rfl (q0 := 0) rfl, (fun U hU hW => ⟨rfl, xPre_of hZ hS hFc hP hD hK U hU hW⟩)⟩ rfl rfl hl.1 rfl (xm_room (Nat.le_of_ble_eq_true rfl)) dM_times_114 ⟨hm14.1, hm14.2⟩) hS hFc (fun q _ h => hFc q h) (fun E ce q9 u9 t H1 locs ht hvm hr9 hB hz1 hk1 hS hce hcv hcl => ?_)
                    obtain ⟨rfl, hP1, hK1, hD1⟩ := hB
                    rw [ht] at hP1
                    obtain ⟨ad16, gd17, vad18⟩ := u9
                    obtain ⟨hv19, hn20⟩ := hr9
                    have hP : va_P D xcl (xMw cT aM ad16 rd gd17 vad18 o3.2.2.2.2 []) H1 := hP1
                    have hD : va_D A (xMw cT aM ad16 rd gd17 vad18 o3.2.2.2.2 []) := hD1.weaken (fun k q _ h => hFc q.1 h)
                    generalize H1 = H at hP hS hce ⊢
                    have hE9 : ∀ p, p < xct st → vad18 p = vad p := fun p h => (hv19 p (Nat.lt_of_lt_of_le h hN)).trans (hE p h)
                    have hE := hE9
                    have hN : xct st ≤ xct o3.2.2.2.2 := Nat.le_trans hN hn20
                    obtain rfl := Option.some.inj hf
                    exact vx_out (E := "java/lang/ArithmeticException") (fun x h => (hne x h).elim) hlocks hce hcv hcl (fun t ht ha => ⟨(ad16, gd17, vad18), ⟨hE, hN⟩, ⟨rfl, by rw [ht]; exact hP, va_K.moved ha hK, hD⟩, hS.F ht⟩) hS.2.2 (Nat.le_refl _) (Nat.le_refl _)
                  rw [if_neg hk13] at hf
                  by_cases hk21 : o3.1 = 2
                  · rw [if_pos hk21] at hf
                    obtain ⟨hm22, hf⟩ := xmoE hf
                    obtain rfl := Option.some.inj hf
                    exact absurd (show (2 : Nat) = 1 from hkd) (by decide)
                  rw [if_neg hk21] at hf
                  exact nomatch hf
            · rw [if_pos hc] at hf
              refine lv_aload_n hx hb dM_times_88 rfl (lv_at hl 0 rfl) ?_
              refine xm_aload_n hx hb (xvor _ _) dM_times_89 rfl (lv_at hl 1 rfl) ?_
              refine xm_aload_n hx hb (xvor _ _) dM_times_90 rfl (lv_at hl 2 rfl) ?_
              obtain ⟨o3, hq4, hf⟩ := xbind hf
              have hl := lv_sub (l' := [(0, .ref aM)]) hl [0] rfl
              by_cases hk5 : o3.1 = 0
              · rw [if_pos hk5] at hf
                obtain ⟨hm6, hf⟩ := xmoE hf
                have hFc := xm_free hD hS hA
                refine va_callq (va_runV (C := "ValueBenchModel") (As := [xv vad c0, xv vad c1]) (rest := []) ⟨hx, hb, hml, hown, htx⟩ ((gM_merged l hl9 D cT aK aV d s.heap.size n aM ad rd gd vad st c0 c1 o3 hq4).1 hk5) ⟨callB_of 2 htx (xw_goodC kw_6_220) rfl rfl rfl (htx _ kw_1_5) (htx _ kw_6_217) ⟨by decide, by decide, by decide +kernel⟩ ⟨(by show (16 * d) + 1 ≤ 16 * (d + 1); omega), (by show 8 + (8 + 11) + (400 * d) ≤ 400 * (d + 1); omega)⟩, (htx _ kw_6_219), (htx _ kp_M_merged)⟩ ⟨xPre_blind, va_recv hK hP (ci := 5) rfl (q0 := 0) rfl, (fun U hU hW => ⟨rfl, xPre_of hZ hS hFc hP hD hK U hU hW⟩)⟩ rfl rfl hl.1 rfl (xm_room (Nat.le_of_ble_eq_true rfl)) dM_times_91 ⟨hm6.1, hm6.2⟩) hS (fun q _ h => hFc q h) hFc (fun r7 u9 t H1 locs ht hvm hr9 hB hz1 hk1 hS => ?_)
                obtain ⟨hP1, hK1, hD1⟩ := hB
                rw [ht] at hP1
                obtain ⟨ad8, gd9, vad10⟩ := u9
                obtain ⟨hr9, hv11, hn12⟩ := hr9
                have hP : va_P D xcl (xMw cT aM ad8 rd gd9 vad10 o3.2.2.2.2 []) H1 := hP1
                have hD : va_D A (xMw cT aM ad8 rd gd9 vad10 o3.2.2.2.2 []) := hD1.weaken (fun k q _ h => hFc q.1 h)
                generalize H1 = H at hP hS ⊢
                have hE9 : ∀ p, p < xct st → vad10 p = vad p := fun p h => (hv11 p (Nat.lt_of_lt_of_le h hN)).trans (hE p h)
                have hE := hE9
                have hN : xct st ≤ xct o3.2.2.2.2 := Nat.le_trans hN hn12
                rw [hr9]
                refine W.eq (g2 := F0 m 94 ls [xv vad10 o3.2.2.2.1]) (by first | rfl | (skip; rfl)) ?_
                obtain rfl := Option.some.inj hf
                exact absurd (show (0 : Nat) = 1 from hkd) (by decide)
              rw [if_neg hk5] at hf
              by_cases hk13 : o3.1 = 1
              · rw [if_pos hk13] at hf
                obtain ⟨hm14, hf⟩ := xmoE hf
                obtain rfl := Option.some.inj hf
                exact absurd (show (2 : Nat) = 1 from hkd) (by decide)
              rw [if_neg hk13] at hf
              exact nomatch hf
        · rw [if_pos hc] at hf
          refine xm_aload_n hx hb (xvor _ _) dM_times_16 rfl (lv_at hl 1 rfl) ?_
          refine xm_vget (v := .long ((xpl st) (c0 - 1))) hx hb htx hown hK hP 1 (by decide) hg1 rfl ((hZ.1 (96, "n", "J") (List.mem_of_getElem? (i := 1) rfl)).use rfl) rfl dM_times_17 ?_
          refine va_mabs_long hx hb (hml.trans hl.1.symm) hown (htx _ kw_6_216) (htx _ kw_3_43) (htx _ kw_1_15) (htx _ kw_3_44) (Nat.le_of_ble_eq_true rfl) (Nat.le_of_ble_eq_true rfl) (Nat.zero_le _) (Nat.zero_le _) dM_times_20 ?_
          refine W.eq (g2 := F0 m 23 ls [.long (if 0 < ((xpl st) (c0 - 1)) then ((xpl st) (c0 - 1)) else -((xpl st) (c0 - 1)))]) rfl ?_
          refine lv_lstore_n (lv' := [(3, .long (if 0 < ((xpl st) (c0 - 1)) then ((xpl st) (c0 - 1)) else -((xpl st) (c0 - 1)))), (0, .ref aM), (1, xv vad c0), (2, xv vad c1)]) hx hb dM_times_23 rfl hl (by decide) (by simp only [List.filter, xvcat, xrscat, xcI, xcL, xcR, xcN]; rfl) (fun ls hl => ?_)
          refine xm_aload_n hx hb (xvor _ _) dM_times_24 rfl (lv_at hl 3 rfl) ?_
          refine xm_vget (v := .long ((xpl st) (c1 - 1))) hx hb htx hown hK hP 1 (by decide) hg2 rfl ((hZ.1 (96, "n", "J") (List.mem_of_getElem? (i := 1) rfl)).use rfl) rfl dM_times_25 ?_
          refine va_mabs_long hx hb (hml.trans hl.1.symm) hown (htx _ kw_6_216) (htx _ kw_3_43) (htx _ kw_1_15) (htx _ kw_3_44) (Nat.le_of_ble_eq_true rfl) (Nat.le_of_ble_eq_true rfl) (Nat.zero_le _) (Nat.zero_le _) dM_times_28 ?_
          refine W.eq (g2 := F0 m 31 ls [.long (if 0 < ((xpl st) (c1 - 1)) then ((xpl st) (c1 - 1)) else -((xpl st) (c1 - 1)))]) rfl ?_
          refine lv_lstore (lv' := [(5, .long (if 0 < ((xpl st) (c1 - 1)) then ((xpl st) (c1 - 1)) else -((xpl st) (c1 - 1)))), (3, .long (if 0 < ((xpl st) (c0 - 1)) then ((xpl st) (c0 - 1)) else -((xpl st) (c0 - 1)))), (0, .ref aM), (1, xv vad c0), (2, xv vad c1)]) hx hb dM_times_31 hl (by decide) rfl (fun ls hl => ?_)
          refine lv_lload_n hx hb dM_times_33 rfl (lv_at hl 1 rfl) ?_
          refine lv_lconst (v := 0) hx hb dM_times_34 (by decide) ?_
          refine W.lcmp hx hb dM_times_35 ?_
          refine lv_if_eq (tgt := 56) hx hb dM_times_36 (by decide) (fun hc => ?_) (fun hc => ?_)
          · rw [if_pos hc] at hf
            refine lv_aload_n hx hb dM_times_56 rfl (lv_at hl 2 rfl) ?_
            refine xm_aload_n hx hb (xvor _ _) dM_times_57 rfl (lv_at hl 3 rfl) ?_
            refine xm_vget (v := .long ((xpl st) (c0 - 1))) hx hb htx hown hK hP 1 (by decide) hg1 rfl ((hZ.1 (96, "n", "J") (List.mem_of_getElem? (i := 1) rfl)).use rfl) rfl dM_times_58 ?_
            refine xm_aload_n hx hb (xvor _ _) dM_times_61 rfl (lv_at hl 4 rfl) ?_
            refine xm_vget (v := .long ((xpl st) (c1 - 1))) hx hb htx hown hK hP 1 (by decide) hg2 rfl ((hZ.1 (96, "n", "J") (List.mem_of_getElem? (i := 1) rfl)).use rfl) rfl dM_times_62 ?_
            refine lv_lmul hx hb dM_times_65 ?_
            obtain ⟨o3, hq4, hf⟩ := xbind hf
            have hl := lv_sub (l' := [(5, .long (if 0 < ((xpl st) (c1 - 1)) then ((xpl st) (c1 - 1)) else -((xpl st) (c1 - 1)))), (3, .long (if 0 < ((xpl st) (c0 - 1)) then ((xpl st) (c0 - 1)) else -((xpl st) (c0 - 1)))), (0, .ref aM)]) hl [0, 1, 2] rfl
            by_cases hk5 : o3.1 = 0
            · rw [if_pos hk5] at hf
              obtain ⟨hm6, hf⟩ := xmoE hf
              have hFc := xm_free hD hS hA
              refine va_callq (va_runV (C := "ValueBenchModel") (As := [.long (((xpl st) (c0 - 1)) * ((xpl st) (c1 - 1)))]) (rest := []) ⟨hx, hb, hml, hown, htx⟩ (gM_number l hl9 D cT aK aV s.heap.size n aM ad rd gd vad st (((xpl st) (c0 - 1)) * ((xpl st) (c1 - 1))) o3 hq4 hk5) ⟨callB_of 1 htx (xw_goodC kw_6_88) rfl rfl rfl (htx _ kw_1_5) (htx _ kw_6_85) ⟨by decide, by decide, by decide +kernel⟩ ⟨Nat.le_of_ble_eq_true rfl, Nat.le_of_ble_eq_true rfl⟩, (htx _ kw_6_87), (htx _ kp_M_number)⟩ ⟨xPre_blind, va_recv hK hP (ci := 5) rfl (q0 := 0) rfl, (fun U hU hW => ⟨rfl, xPre_of hZ hS hFc hP hD hK U hU hW⟩)⟩ rfl rfl hl.1 rfl (xm_room (Nat.le_of_ble_eq_true rfl)) dM_times_66 ⟨hm6.1, hm6.2⟩) hS (fun q _ h => hFc q h) hFc (fun r7 u9 t H1 locs ht hvm hr9 hB hz1 hk1 hS => ?_)
              obtain ⟨hP1, hK1, hD1⟩ := hB
              rw [ht] at hP1
              obtain ⟨ad8, gd9, vad10⟩ := u9
              obtain ⟨hr9, hv11, hn12⟩ := hr9
              have hP : va_P D xcl (xMw cT aM ad8 rd gd9 vad10 o3.2.2.2.2 []) H1 := hP1
              have hD : va_D A (xMw cT aM ad8 rd gd9 vad10 o3.2.2.2.2 []) := hD1.weaken (fun k q _ h => hFc q.1 h)
              generalize H1 = H at hP hS ⊢
              have hE9 : ∀ p, p < xct st → vad10 p = vad p := fun p h => (hv11 p (Nat.lt_of_lt_of_le h hN)).trans (hE p h)
              have hE := hE9
              have hN : xct st ≤ xct o3.2.2.2.2 := Nat.le_trans hN hn12
              rw [hr9]
              refine W.eq (g2 := F0 m 69 ls [xv vad10 o3.2.2.2.1]) (by first | rfl | (skip; rfl)) ?_
              obtain rfl := Option.some.inj hf
              exact absurd (show (0 : Nat) = 1 from hkd) (by decide)
            rw [if_neg hk5] at hf
            by_cases hk13 : o3.1 = 1
            · rw [if_pos hk13] at hf
              obtain ⟨hm14, hf⟩ := xmoE hf
              have hFc := xm_free hD hS hA
              refine xx_thr (vx_runV (C := "ValueBenchModel") (As := [.long (((xpl st) (c0 - 1)) * ((xpl st) (c1 - 1)))]) (rest := []) ⟨hx, hb, hml, hown, htx⟩ (gM_number_1 l hl9 D cT aK aV s.heap.size n aM ad rd gd vad st (((xpl st) (c0 - 1)) * ((xpl st) (c1 - 1))) o3 hq4 hk13) ⟨callB_of 1 htx (xw_goodC kw_6_88) rfl rfl rfl (htx _ kw_1_5) (htx _ kw_6_85) ⟨by decide, by decide, by decide +kernel⟩ ⟨Nat.le_of_ble_eq_true rfl, Nat.le_of_ble_eq_true rfl⟩, (htx _ kw_6_87), (htx _ kp_M_number)⟩ ⟨xPre_blind, va_recv hK hP (ci := 5) rfl (q0 := 0) rfl, (fun U hU hW => ⟨rfl, xPre_of hZ hS hFc hP hD hK U hU hW⟩)⟩ rfl rfl hl.1 rfl (xm_room (Nat.le_of_ble_eq_true rfl)) dM_times_66 ⟨hm14.1, hm14.2⟩) hS hFc (fun q _ h => hFc q h) (fun E ce q9 u9 t H1 locs ht hvm hr9 hB hz1 hk1 hS hce hcv hcl => ?_)
              obtain ⟨rfl, hP1, hK1, hD1⟩ := hB
              rw [ht] at hP1
              obtain ⟨ad16, gd17, vad18⟩ := u9
              obtain ⟨hv19, hn20⟩ := hr9
              have hP : va_P D xcl (xMw cT aM ad16 rd gd17 vad18 o3.2.2.2.2 []) H1 := hP1
              have hD : va_D A (xMw cT aM ad16 rd gd17 vad18 o3.2.2.2.2 []) := hD1.weaken (fun k q _ h => hFc q.1 h)
              generalize H1 = H at hP hS hce ⊢
              have hE9 : ∀ p, p < xct st → vad18 p = vad p := fun p h => (hv19 p (Nat.lt_of_lt_of_le h hN)).trans (hE p h)
              have hE := hE9
              have hN : xct st ≤ xct o3.2.2.2.2 := Nat.le_trans hN hn20
              obtain rfl := Option.some.inj hf
              exact vx_out (E := "java/lang/ArithmeticException") (fun x h => (hne x h).elim) hlocks hce hcv hcl (fun t ht ha => ⟨(ad16, gd17, vad18), ⟨hE, hN⟩, ⟨rfl, by rw [ht]; exact hP, va_K.moved ha hK, hD⟩, hS.F ht⟩) hS.2.2 (Nat.le_refl _) (Nat.le_refl _)
            rw [if_neg hk13] at hf
            exact nomatch hf
          · rw [if_neg hc] at hf
            refine lv_lload hx hb dM_times_39 (lv_at hl 0 rfl) ?_
            refine lv_ldc2 hx hb hown (htx _ kw_6_84) dM_times_41 ?_
            refine lv_lload_n hx hb dM_times_44 rfl (lv_at hl 1 rfl) ?_
            obtain ⟨hg3, hf⟩ := xifn hf
            refine lv_ldiv hx hb dM_times_45 hg3 ?_
            refine W.lcmp hx hb dM_times_46 ?_
            refine lv_if_le (tgt := 56) hx hb dM_times_47 (by decide) (fun hc => ?_) (fun hc => ?_)
            · rw [if_pos hc] at hf
              refine lv_aload_n hx hb dM_times_56 rfl (lv_at hl 2 rfl) ?_
              refine xm_aload_n hx hb (xvor _ _) dM_times_57 rfl (lv_at hl 3 rfl) ?_
              refine xm_vget (v := .long ((xpl st) (c0 - 1))) hx hb htx hown hK hP 1 (by decide) hg1 rfl ((hZ.1 (96, "n", "J") (List.mem_of_getElem? (i := 1) rfl)).use rfl) rfl dM_times_58 ?_
              refine xm_aload_n hx hb (xvor _ _) dM_times_61 rfl (lv_at hl 4 rfl) ?_
              refine xm_vget (v := .long ((xpl st) (c1 - 1))) hx hb htx hown hK hP 1 (by decide) hg2 rfl ((hZ.1 (96, "n", "J") (List.mem_of_getElem? (i := 1) rfl)).use rfl) rfl dM_times_62 ?_
              refine lv_lmul hx hb dM_times_65 ?_
              obtain ⟨o4, hq5, hf⟩ := xbind hf
              have hl := lv_sub (l' := [(5, .long (if 0 < ((xpl st) (c1 - 1)) then ((xpl st) (c1 - 1)) else -((xpl st) (c1 - 1)))), (3, .long (if 0 < ((xpl st) (c0 - 1)) then ((xpl st) (c0 - 1)) else -((xpl st) (c0 - 1)))), (0, .ref aM)]) hl [0, 1, 2] rfl
              by_cases hk6 : o4.1 = 0
              · rw [if_pos hk6] at hf
                obtain ⟨hm7, hf⟩ := xmoE hf
                have hFc := xm_free hD hS hA
                refine va_callq (va_runV (C := "ValueBenchModel") (As := [.long (((xpl st) (c0 - 1)) * ((xpl st) (c1 - 1)))]) (rest := []) ⟨hx, hb, hml, hown, htx⟩ (gM_number l hl9 D cT aK aV s.heap.size n aM ad rd gd vad st (((xpl st) (c0 - 1)) * ((xpl st) (c1 - 1))) o4 hq5 hk6) ⟨callB_of 1 htx (xw_goodC kw_6_88) rfl rfl rfl (htx _ kw_1_5) (htx _ kw_6_85) ⟨by decide, by decide, by decide +kernel⟩ ⟨Nat.le_of_ble_eq_true rfl, Nat.le_of_ble_eq_true rfl⟩, (htx _ kw_6_87), (htx _ kp_M_number)⟩ ⟨xPre_blind, va_recv hK hP (ci := 5) rfl (q0 := 0) rfl, (fun U hU hW => ⟨rfl, xPre_of hZ hS hFc hP hD hK U hU hW⟩)⟩ rfl rfl hl.1 rfl (xm_room (Nat.le_of_ble_eq_true rfl)) dM_times_66 ⟨hm7.1, hm7.2⟩) hS (fun q _ h => hFc q h) hFc (fun r8 u9 t H1 locs ht hvm hr9 hB hz1 hk1 hS => ?_)
                obtain ⟨hP1, hK1, hD1⟩ := hB
                rw [ht] at hP1
                obtain ⟨ad9, gd10, vad11⟩ := u9
                obtain ⟨hr9, hv12, hn13⟩ := hr9
                have hP : va_P D xcl (xMw cT aM ad9 rd gd10 vad11 o4.2.2.2.2 []) H1 := hP1
                have hD : va_D A (xMw cT aM ad9 rd gd10 vad11 o4.2.2.2.2 []) := hD1.weaken (fun k q _ h => hFc q.1 h)
                generalize H1 = H at hP hS ⊢
                have hE9 : ∀ p, p < xct st → vad11 p = vad p := fun p h => (hv12 p (Nat.lt_of_lt_of_le h hN)).trans (hE p h)
                have hE := hE9
                have hN : xct st ≤ xct o4.2.2.2.2 := Nat.le_trans hN hn13
                rw [hr9]
                refine W.eq (g2 := F0 m 69 ls [xv vad11 o4.2.2.2.1]) (by first | rfl | (skip; rfl)) ?_
                obtain rfl := Option.some.inj hf
                exact absurd (show (0 : Nat) = 1 from hkd) (by decide)
              rw [if_neg hk6] at hf
              by_cases hk14 : o4.1 = 1
              · rw [if_pos hk14] at hf
                obtain ⟨hm15, hf⟩ := xmoE hf
                have hFc := xm_free hD hS hA
                refine xx_thr (vx_runV (C := "ValueBenchModel") (As := [.long (((xpl st) (c0 - 1)) * ((xpl st) (c1 - 1)))]) (rest := []) ⟨hx, hb, hml, hown, htx⟩ (gM_number_1 l hl9 D cT aK aV s.heap.size n aM ad rd gd vad st (((xpl st) (c0 - 1)) * ((xpl st) (c1 - 1))) o4 hq5 hk14) ⟨callB_of 1 htx (xw_goodC kw_6_88) rfl rfl rfl (htx _ kw_1_5) (htx _ kw_6_85) ⟨by decide, by decide, by decide +kernel⟩ ⟨Nat.le_of_ble_eq_true rfl, Nat.le_of_ble_eq_true rfl⟩, (htx _ kw_6_87), (htx _ kp_M_number)⟩ ⟨xPre_blind, va_recv hK hP (ci := 5) rfl (q0 := 0) rfl, (fun U hU hW => ⟨rfl, xPre_of hZ hS hFc hP hD hK U hU hW⟩)⟩ rfl rfl hl.1 rfl (xm_room (Nat.le_of_ble_eq_true rfl)) dM_times_66 ⟨hm15.1, hm15.2⟩) hS hFc (fun q _ h => hFc q h) (fun E ce q9 u9 t H1 locs ht hvm hr9 hB hz1 hk1 hS hce hcv hcl => ?_)
                obtain ⟨rfl, hP1, hK1, hD1⟩ := hB
                rw [ht] at hP1
                obtain ⟨ad17, gd18, vad19⟩ := u9
                obtain ⟨hv20, hn21⟩ := hr9
                have hP : va_P D xcl (xMw cT aM ad17 rd gd18 vad19 o4.2.2.2.2 []) H1 := hP1
                have hD : va_D A (xMw cT aM ad17 rd gd18 vad19 o4.2.2.2.2 []) := hD1.weaken (fun k q _ h => hFc q.1 h)
                generalize H1 = H at hP hS hce ⊢
                have hE9 : ∀ p, p < xct st → vad19 p = vad p := fun p h => (hv20 p (Nat.lt_of_lt_of_le h hN)).trans (hE p h)
                have hE := hE9
                have hN : xct st ≤ xct o4.2.2.2.2 := Nat.le_trans hN hn21
                obtain rfl := Option.some.inj hf
                exact vx_out (E := "java/lang/ArithmeticException") (fun x h => (hne x h).elim) hlocks hce hcv hcl (fun t ht ha => ⟨(ad17, gd18, vad19), ⟨hE, hN⟩, ⟨rfl, by rw [ht]; exact hP, va_K.moved ha hK, hD⟩, hS.F ht⟩) hS.2.2 (Nat.le_refl _) (Nat.le_refl _)
              rw [if_neg hk14] at hf
              exact nomatch hf
            · rw [if_neg hc] at hf
              refine lv_aload_n hx hb dM_times_50 rfl (lv_at hl 2 rfl) ?_
              refine lv_iconst (v := 2) hx hb dM_times_51 (by decide) ?_
              obtain ⟨o4, hq5, hf⟩ := xbind hf
              have hl := lv_sub (l' := [(5, .long (if 0 < ((xpl st) (c1 - 1)) then ((xpl st) (c1 - 1)) else -((xpl st) (c1 - 1)))), (3, .long (if 0 < ((xpl st) (c0 - 1)) then ((xpl st) (c0 - 1)) else -((xpl st) (c0 - 1)))), (0, .ref aM)]) hl [0, 1, 2] rfl
              by_cases hk6 : o4.1 = 1
              · rw [if_pos hk6] at hf
                obtain ⟨hm7, hf⟩ := xmoE hf
                have hFc := xm_free hD hS hA
                refine xx_thr (vx_runV (C := "ValueBenchModel") (As := [.int 2]) (rest := []) ⟨hx, hb, hml, hown, htx⟩ (gM_refuse_1 l hl9 D cT aK aV s.heap.size n aM ad rd gd vad st (2 : Int32) o4 hq5 hk6) ⟨callB_of 1 htx (xw_goodC kw_6_93) rfl rfl rfl (htx _ kw_1_5) (htx _ kw_6_90) ⟨by decide, by decide, by decide +kernel⟩ ⟨Nat.le_of_ble_eq_true rfl, Nat.le_of_ble_eq_true rfl⟩, (htx _ kw_6_92), (htx _ kp_M_refuse)⟩ ⟨xPre_blind, va_recv hK hP (ci := 5) rfl (q0 := 0) rfl, (fun U hU hW => ⟨rfl, xPre_of hZ hS hFc hP hD hK U hU hW⟩)⟩ rfl rfl hl.1 rfl (xm_room (Nat.le_of_ble_eq_true rfl)) dM_times_52 ⟨hm7.1, hm7.2⟩) hS hFc (fun q _ h => hFc q h) (fun E ce q9 u9 t H1 locs ht hvm hr9 hB hz1 hk1 hS hce hcv hcl => ?_)
                obtain ⟨rfl, hP1, hK1, hD1⟩ := hB
                rw [ht] at hP1
                obtain ⟨ad9, gd10, vad11⟩ := u9
                obtain ⟨hv12, hn13⟩ := hr9
                have hP : va_P D xcl (xMw cT aM ad9 rd gd10 vad11 o4.2.2.2.2 []) H1 := hP1
                have hD : va_D A (xMw cT aM ad9 rd gd10 vad11 o4.2.2.2.2 []) := hD1.weaken (fun k q _ h => hFc q.1 h)
                generalize H1 = H at hP hS hce ⊢
                have hE9 : ∀ p, p < xct st → vad11 p = vad p := fun p h => (hv12 p (Nat.lt_of_lt_of_le h hN)).trans (hE p h)
                have hE := hE9
                have hN : xct st ≤ xct o4.2.2.2.2 := Nat.le_trans hN hn13
                obtain rfl := Option.some.inj hf
                exact vx_out (E := "java/lang/ArithmeticException") (fun x h => (hne x h).elim) hlocks hce hcv hcl (fun t ht ha => ⟨(ad9, gd10, vad11), ⟨hE, hN⟩, ⟨rfl, by rw [ht]; exact hP, va_K.moved ha hK, hD⟩, hS.F ht⟩) hS.2.2 (Nat.le_refl _) (Nat.le_refl _)
              rw [if_neg hk6] at hf
              exact nomatch hf
    · refine vx_ofW (cc := prog_13_method_51_code) (maxL := 7) (ret := (some (.object "ValueBenchModel$V"))) (by decide) rfl ?_
      intro p e s m args below meth c s₁ B hml hne hv
      obtain ⟨rfl, hsz, hZ, hP, hK, hD0⟩ := hv
      have hx := B.exec
      have hb := B.bytes
      have hr := B.returns
      have hts := atoms_spec (ws := wyM_times) B.pre
      have htx := fun w h => hts w (List.mem_cons_of_mem _ h)
      have hown : s.vm.findClass "ValueBenchModel" = some m.cls := findClass_of_methodNamed B.named
      have hlocks := B.notSynchronized
      subst hsz
      have hD := hD0.self (sz := s.heap.size)
      generalize hAe : va_A (xMw cT aM ad rd gd vad st []) s.heap.size = A at hD hZ ⊢
      have hA : ∀ q : Nat, s.heap.size ≤ q → A q := fun q h => by rw [← hAe]; exact Or.inr h
      have hS : va_S A s.heap s.heap [] := va_S.rf
      have hl := lv_entry ([.ref aM, xv vad c0, xv vad c1]) (n := 7) (by simp [lg_sl, xvcat, xrscat, xcI, xcL, xcR, xcN])
      rw [show lv_args 0 [.ref aM, xv vad c0, xv vad c1] = [(0, .ref aM), (1, xv vad c0), (2, xv vad c1)] from by simp [lv_args, xvcat, xrscat, xcI, xcL, xcR, xcN]] at hl
      rw [lg_entry_eq]
      generalize (lg_sl ([.ref aM, xv vad c0, xv vad c1]) ++ List.replicate (7 - (lg_sl ([.ref aM, xv vad c0, xv vad c1])).length) Slot.unset).toArray = ls at hl ⊢
      have hl : lv_has ls 7 [(0, .ref aM), (1, xv vad c0), (2, xv vad c1)] := hl
      have hE : ∀ p, p < xct st → vad p = vad p := fun _ _ => rfl
      have hN : xct st ≤ xct st := Nat.le_refl _
      refine xloopM (σ := Nat × Int64 × Int32 × Nat × Nat × xS × Nat × Nat) (fun n x H locs ls => (∃ (adL gdL vadL : Nat → Nat), x.1 = 1 ∧ fM_times_b rec d n x.1 x.2.1 x.2.2.1 x.2.2.2.1 x.2.2.2.2.1 x.2.2.2.2.2.1 x.2.2.2.2.2.2.1 x.2.2.2.2.2.2.2 = some out ∧ va_P D xcl (xMw cT aM adL rd gdL vadL x.2.2.2.2.2.1 []) H ∧ va_D A (xMw cT aM adL rd gdL vadL x.2.2.2.2.2.1 []) ∧ va_S A s.heap H locs ∧ lv_has ls 7 [(4, .long x.2.1), (3, .int x.2.2.1), (0, .ref aM), (1, xv vadL x.2.2.2.1), (2, xv vadL x.2.2.2.2.1)] ∧ (∀ p, p < xct st → vadL p = vad p) ∧ xct st ≤ xct x.2.2.2.2.2.1)) (fun x => 233) (fun x => x.2.2.2.2.2.2.1) (fun x => x.2.2.2.2.2.2.2) (fun x H locs ls h => by (obtain ⟨_, _, _, h⟩ := h; exact absurd h.2.1 (by rw [fM_times_b]; exact fun h => nomatch h))) (fun n ih x H locs ls hv => ?_) (fun key => ?_)
      · obtain ⟨lb, y4, y3, y1, y2, ws9, wc, wn⟩ := x
        rcases hv with ⟨adL, gdL, vadL, hj, hf, hP, hD, hS, hl, hE, hN⟩
        subst hj
        have hf : fM_times_b rec d (n + 1) 1 y4 y3 y1 y2 ws9 wc wn = some out := hf
        rw [fM_times_b] at hf
        obtain ⟨hP, hD⟩ : xPD D xcl A (xMw cT aM adL rd gdL vadL ws9 []) H := ⟨hP, hD⟩
        have hl : lv_has ls 7 [(4, .long y4), (3, .int y3), (0, .ref aM), (1, xv vadL y1), (2, xv vadL y2)] := hl
        refine W.eq (g2 := F0 m 233 ls []) rfl ?_
        show W p l e _ s m _ below meth c H locs wc wn _ _
        obtain ⟨hm0, hf⟩ := xmoE hf
        refine lv_lload hx hb dM_times_233 (lv_at hl 0 rfl) ?_
        refine xm_aload_n hx hb (xvor _ _) dM_times_235 rfl (lv_at hl 4 rfl) ?_
        obtain ⟨hg1, hf⟩ := xifn hf
        refine xm_vget (v := .long ((xpl ws9) (y2 - 1))) hx hb htx hown hK hP 1 (by decide) hg1 rfl ((hZ.1 (96, "n", "J") (List.mem_of_getElem? (i := 1) rfl)).use rfl) rfl dM_times_236 ?_
        refine W.lcmp hx hb dM_times_239 ?_
        refine lv_if_ge (tgt := 264) hx hb dM_times_240 (by decide) (fun hc => ?_) (fun hc => ?_)
        · rw [if_pos hc] at hf
          refine lv_aload_n hx hb dM_times_264 rfl (lv_at hl 2 rfl) ?_
          refine lv_iload_n hx hb dM_times_265 rfl (lv_at hl 1 rfl) ?_
          obtain ⟨o2, hq3, hf⟩ := xbind hf
          have hl := lv_sub (l' := [(4, .long y4), (3, .int y3), (0, .ref aM)]) hl [0, 1, 2] rfl
          by_cases hk4 : o2.1 = 0
          · rw [if_pos hk4] at hf
            obtain ⟨hm5, hf⟩ := xmoE hf
            have hFc := xm_free hD hS hA
            refine va_callq (va_runV (C := "ValueBenchModel") (As := [.int y3]) (rest := []) ⟨hx, hb, hml, hown, htx⟩ (gM_string l hl9 D cT aK aV H.size n aM adL rd gdL vadL ws9 y3 o2 hq3 hk4) ⟨callB_of 1 htx (xw_goodC kw_6_61) rfl rfl rfl (htx _ kw_1_5) (htx _ kw_6_58) ⟨by decide, by decide, by decide +kernel⟩ ⟨Nat.le_of_ble_eq_true rfl, Nat.le_of_ble_eq_true rfl⟩, (htx _ kw_6_60), (htx _ kp_M_string)⟩ ⟨xPre_blind, va_recv hK hP (ci := 5) rfl (q0 := 0) rfl, (fun U hU hW => ⟨rfl, xPre_of hZ hS hFc hP hD hK U hU hW⟩)⟩ rfl rfl hl.1 rfl (xm_room (Nat.le_of_ble_eq_true rfl)) dM_times_266 ⟨hm5.1, hm5.2⟩) hS (fun q _ h => hFc q h) hFc (fun r6 u9 t H1 locs ht hvm hr9 hB hz1 hk1 hS => ?_)
            obtain ⟨hP1, hK1, hD1⟩ := hB
            rw [ht] at hP1
            obtain ⟨ad7, gd8, vad9⟩ := u9
            obtain ⟨hr9, hv10, hn11⟩ := hr9
            have hP : va_P D xcl (xMw cT aM ad7 rd gd8 vad9 o2.2.2.2.2 []) H1 := hP1
            have hD : va_D A (xMw cT aM ad7 rd gd8 vad9 o2.2.2.2.2 []) := hD1.weaken (fun k q _ h => hFc q.1 h)
            generalize H1 = H at hP hS ⊢
            have hE9 : ∀ p, p < xct st → vad9 p = vad p := fun p h => (hv10 p (Nat.lt_of_lt_of_le h hN)).trans (hE p h)
            have hE := hE9
            have hN : xct st ≤ xct o2.2.2.2.2 := Nat.le_trans hN hn11
            rw [hr9]
            refine W.eq (g2 := F0 m 269 ls [xv vad9 o2.2.2.2.1]) (by first | rfl | (skip; rfl)) ?_
            obtain rfl := Option.some.inj hf
            exact absurd (show (0 : Nat) = 2 from hkd) (by decide)
          rw [if_neg hk4] at hf
          by_cases hk12 : o2.1 = 1
          · rw [if_pos hk12] at hf
            obtain ⟨hm13, hf⟩ := xmoE hf
            have hFc := xm_free hD hS hA
            refine xx_thr (vx_runV (C := "ValueBenchModel") (As := [.int y3]) (rest := []) ⟨hx, hb, hml, hown, htx⟩ (gM_string_1 l hl9 D cT aK aV H.size n aM adL rd gdL vadL ws9 y3 o2 hq3 hk12) ⟨callB_of 1 htx (xw_goodC kw_6_61) rfl rfl rfl (htx _ kw_1_5) (htx _ kw_6_58) ⟨by decide, by decide, by decide +kernel⟩ ⟨Nat.le_of_ble_eq_true rfl, Nat.le_of_ble_eq_true rfl⟩, (htx _ kw_6_60), (htx _ kp_M_string)⟩ ⟨xPre_blind, va_recv hK hP (ci := 5) rfl (q0 := 0) rfl, (fun U hU hW => ⟨rfl, xPre_of hZ hS hFc hP hD hK U hU hW⟩)⟩ rfl rfl hl.1 rfl (xm_room (Nat.le_of_ble_eq_true rfl)) dM_times_266 ⟨hm13.1, hm13.2⟩) hS hFc (fun q _ h => hFc q h) (fun E ce q9 u9 t H1 locs ht hvm hr9 hB hz1 hk1 hS hce hcv hcl => ?_)
            obtain ⟨rfl, hP1, hK1, hD1⟩ := hB
            rw [ht] at hP1
            obtain ⟨ad15, gd16, vad17⟩ := u9
            obtain ⟨hv18, hn19⟩ := hr9
            have hP : va_P D xcl (xMw cT aM ad15 rd gd16 vad17 o2.2.2.2.2 []) H1 := hP1
            have hD : va_D A (xMw cT aM ad15 rd gd16 vad17 o2.2.2.2.2 []) := hD1.weaken (fun k q _ h => hFc q.1 h)
            generalize H1 = H at hP hS hce ⊢
            have hE9 : ∀ p, p < xct st → vad17 p = vad p := fun p h => (hv18 p (Nat.lt_of_lt_of_le h hN)).trans (hE p h)
            have hE := hE9
            have hN : xct st ≤ xct o2.2.2.2.2 := Nat.le_trans hN hn19
            obtain rfl := Option.some.inj hf
            exact vx_out (E := "java/lang/IndexOutOfBoundsException") (fun x h => (hne x h).elim) hlocks hce hcv hcl (fun t ht ha => ⟨(ad15, gd16, vad17), ⟨hE, hN⟩, ⟨rfl, by rw [ht]; exact hP, va_K.moved ha hK, hD⟩, hS.F ht⟩) hS.2.2 (Nat.le_refl _) (Nat.le_refl _)
          rw [if_neg hk12] at hf
          exact nomatch hf
        · rw [if_neg hc] at hf
          refine xm_aload_n hx hb (xvor _ _) dM_times_243 rfl (lv_at hl 3 rfl) ?_
          obtain ⟨hg2, hf⟩ := xifn hf
          refine xm_vget (v := .int ((xpi ws9 3) (y1 - 1))) hx hb htx hown hK hP 3 (by decide) hg2 rfl ((hZ.1 (103, "count", "I") (List.mem_of_getElem? (i := 3) rfl)).use rfl) rfl dM_times_244 ?_
          refine lv_if_le (tgt := 264) hx hb dM_times_247 (by decide) (fun hc => ?_) (fun hc => ?_)
          · rw [if_pos hc] at hf
            refine lv_aload_n hx hb dM_times_264 rfl (lv_at hl 2 rfl) ?_
            refine lv_iload_n hx hb dM_times_265 rfl (lv_at hl 1 rfl) ?_
            obtain ⟨o3, hq4, hf⟩ := xbind hf
            have hl := lv_sub (l' := [(4, .long y4), (3, .int y3), (0, .ref aM)]) hl [0, 1, 2] rfl
            by_cases hk5 : o3.1 = 0
            · rw [if_pos hk5] at hf
              obtain ⟨hm6, hf⟩ := xmoE hf
              have hFc := xm_free hD hS hA
              refine va_callq (va_runV (C := "ValueBenchModel") (As := [.int y3]) (rest := []) ⟨hx, hb, hml, hown, htx⟩ (gM_string l hl9 D cT aK aV H.size n aM adL rd gdL vadL ws9 y3 o3 hq4 hk5) ⟨callB_of 1 htx (xw_goodC kw_6_61) rfl rfl rfl (htx _ kw_1_5) (htx _ kw_6_58) ⟨by decide, by decide, by decide +kernel⟩ ⟨Nat.le_of_ble_eq_true rfl, Nat.le_of_ble_eq_true rfl⟩, (htx _ kw_6_60), (htx _ kp_M_string)⟩ ⟨xPre_blind, va_recv hK hP (ci := 5) rfl (q0 := 0) rfl, (fun U hU hW => ⟨rfl, xPre_of hZ hS hFc hP hD hK U hU hW⟩)⟩ rfl rfl hl.1 rfl (xm_room (Nat.le_of_ble_eq_true rfl)) dM_times_266 ⟨hm6.1, hm6.2⟩) hS (fun q _ h => hFc q h) hFc (fun r7 u9 t H1 locs ht hvm hr9 hB hz1 hk1 hS => ?_)
              obtain ⟨hP1, hK1, hD1⟩ := hB
              rw [ht] at hP1
              obtain ⟨ad8, gd9, vad10⟩ := u9
              obtain ⟨hr9, hv11, hn12⟩ := hr9
              have hP : va_P D xcl (xMw cT aM ad8 rd gd9 vad10 o3.2.2.2.2 []) H1 := hP1
              have hD : va_D A (xMw cT aM ad8 rd gd9 vad10 o3.2.2.2.2 []) := hD1.weaken (fun k q _ h => hFc q.1 h)
              generalize H1 = H at hP hS ⊢
              have hE9 : ∀ p, p < xct st → vad10 p = vad p := fun p h => (hv11 p (Nat.lt_of_lt_of_le h hN)).trans (hE p h)
              have hE := hE9
              have hN : xct st ≤ xct o3.2.2.2.2 := Nat.le_trans hN hn12
              rw [hr9]
              refine W.eq (g2 := F0 m 269 ls [xv vad10 o3.2.2.2.1]) (by first | rfl | (skip; rfl)) ?_
              obtain rfl := Option.some.inj hf
              exact absurd (show (0 : Nat) = 2 from hkd) (by decide)
            rw [if_neg hk5] at hf
            by_cases hk13 : o3.1 = 1
            · rw [if_pos hk13] at hf
              obtain ⟨hm14, hf⟩ := xmoE hf
              have hFc := xm_free hD hS hA
              refine xx_thr (vx_runV (C := "ValueBenchModel") (As := [.int y3]) (rest := []) ⟨hx, hb, hml, hown, htx⟩ (gM_string_1 l hl9 D cT aK aV H.size n aM adL rd gdL vadL ws9 y3 o3 hq4 hk13) ⟨callB_of 1 htx (xw_goodC kw_6_61) rfl rfl rfl (htx _ kw_1_5) (htx _ kw_6_58) ⟨by decide, by decide, by decide +kernel⟩ ⟨Nat.le_of_ble_eq_true rfl, Nat.le_of_ble_eq_true rfl⟩, (htx _ kw_6_60), (htx _ kp_M_string)⟩ ⟨xPre_blind, va_recv hK hP (ci := 5) rfl (q0 := 0) rfl, (fun U hU hW => ⟨rfl, xPre_of hZ hS hFc hP hD hK U hU hW⟩)⟩ rfl rfl hl.1 rfl (xm_room (Nat.le_of_ble_eq_true rfl)) dM_times_266 ⟨hm14.1, hm14.2⟩) hS hFc (fun q _ h => hFc q h) (fun E ce q9 u9 t H1 locs ht hvm hr9 hB hz1 hk1 hS hce hcv hcl => ?_)
              obtain ⟨rfl, hP1, hK1, hD1⟩ := hB
              rw [ht] at hP1
              obtain ⟨ad16, gd17, vad18⟩ := u9
              obtain ⟨hv19, hn20⟩ := hr9
              have hP : va_P D xcl (xMw cT aM ad16 rd gd17 vad18 o3.2.2.2.2 []) H1 := hP1
              have hD : va_D A (xMw cT aM ad16 rd gd17 vad18 o3.2.2.2.2 []) := hD1.weaken (fun k q _ h => hFc q.1 h)
              generalize H1 = H at hP hS hce ⊢
              have hE9 : ∀ p, p < xct st → vad18 p = vad p := fun p h => (hv19 p (Nat.lt_of_lt_of_le h hN)).trans (hE p h)
              have hE := hE9
              have hN : xct st ≤ xct o3.2.2.2.2 := Nat.le_trans hN hn20
              obtain rfl := Option.some.inj hf
              exact vx_out (E := "java/lang/IndexOutOfBoundsException") (fun x h => (hne x h).elim) hlocks hce hcv hcl (fun t ht ha => ⟨(ad16, gd17, vad18), ⟨hE, hN⟩, ⟨rfl, by rw [ht]; exact hP, va_K.moved ha hK, hD⟩, hS.F ht⟩) hS.2.2 (Nat.le_refl _) (Nat.le_refl _)
            rw [if_neg hk13] at hf
            exact nomatch hf
          · rw [if_neg hc] at hf
            refine lv_aload_n hx hb dM_times_250 rfl (lv_at hl 2 rfl) ?_
            refine xm_aload_n hx hb (xvor _ _) dM_times_251 rfl (lv_at hl 3 rfl) ?_
            obtain ⟨o3, hq4, hf⟩ := xbind hf
            obtain ⟨hm5, hf⟩ := xmoE hf
            have hFc := xm_free hD hS hA
            refine va_callv (va_runV (C := "ValueBenchModel") (As := [xv vadL y1]) (rest := []) ⟨hx, hb, hml, hown, htx⟩ (gM_letters l hl9 D cT aK aV H.size n aM adL rd gdL vadL ws9 y1 o3 hq4) ⟨callB_of 1 htx (xw_goodC kw_6_207) rfl rfl rfl (htx _ kw_1_5) (htx _ kw_6_204) ⟨by decide, by decide, by decide +kernel⟩ ⟨Nat.le_of_ble_eq_true rfl, Nat.le_of_ble_eq_true rfl⟩, (htx _ kw_6_206), (htx _ kp_M_letters)⟩ ⟨xPre_blind, va_recv hK hP (ci := 5) rfl (q0 := 0) rfl, (fun U hU hW => ⟨rfl, xPre_of hZ hS hFc hP hD hK U hU hW⟩)⟩ rfl rfl hl.1 rfl (xm_room (Nat.le_of_ble_eq_true rfl)) dM_times_252 ⟨hm5.1, hm5.2⟩) hS (fun q _ h => hFc q h) hFc (fun u9 t H1 locs ht hvm hr9 hB hz1 hk1 hS => ?_)
            obtain ⟨hP1, hK1, hD1⟩ := hB
            rw [ht] at hP1
            obtain ⟨ad7, gd8, vad9⟩ := u9
            obtain ⟨hv10, hn11⟩ := hr9
            have hP : va_P D xcl (xMw cT aM ad7 rd gd8 vad9 o3.2.2 []) H1 := hP1
            have hD : va_D A (xMw cT aM ad7 rd gd8 vad9 o3.2.2 []) := hD1.weaken (fun k q _ h => hFc q.1 h)
            generalize H1 = H at hP hS ⊢
            have hE9 : ∀ p, p < xct st → vad9 p = vad p := fun p h => (hv10 p (Nat.lt_of_lt_of_le h hN)).trans (hE p h)
            have hE := hE9
            have hN : xct st ≤ xct o3.2.2 := Nat.le_trans hN hn11
            have ev12 : xv vadL y1 = xv vad9 y1 := xvE hv10 (fun h => hg2 (Or.inr h))
            have ev13 : xv vadL y2 = xv vad9 y2 := xvE hv10 (fun h => hg1 (Or.inr h))
            have hl : lv_has ls 7 [(4, .long y4), (3, .int y3), (0, .ref aM), (1, xv vad9 y1), (2, xv vad9 y2)] := by first | exact hl | ((try (rw [← ev12])); (try (rw [← ev13])); exact hl)
            refine W.eq (g2 := F0 m 255 ls []) (by first | rfl | ((try (rw [ev12])); (try (rw [ev13])); rfl)) ?_
            refine lv_lload hx hb dM_times_255 (lv_at hl 0 rfl) ?_
            refine lv_lconst (v := 1) hx hb dM_times_257 (by decide) ?_
            refine lv_ladd hx hb dM_times_258 ?_
            refine lv_lstore (lv' := [(4, .long (y4 + (1 : Int64))), (3, .int y3), (0, .ref aM), (1, xv vad9 y1), (2, xv vad9 y2)]) hx hb dM_times_259 hl (by decide) rfl (fun ls hl => ?_)
            refine lv_goto (tgt := 233) hx hb dM_times_261 (by decide) ?_
            exact ih (1, (y4 + (1 : Int64)), y3, y1, y2, o3.2.2, (wc + o3.1), (wn + o3.2.1)) _ _ ls (⟨ad7, gd8, vad9, rfl, hf, hP, hD, hS, lv_sub hl [0, 1, 2, 3, 4] rfl, hE, hN⟩)
      refine xm_aload_n hx hb (xvor _ _) dM_times_0 rfl (lv_at hl 1 rfl) ?_
      obtain ⟨hg1, hf⟩ := xifn hf
      refine xm_vget (v := .int ((xpi st 0) (c0 - 1))) hx hb htx hown hK hP 0 (by decide) hg1 rfl ((hZ.1 (93, "kind", "I") (List.mem_of_getElem? (i := 0) rfl)).use rfl) rfl dM_times_1 ?_
      refine lv_iconst (v := 3) hx hb dM_times_4 (by decide) ?_
      refine lv_icmp_ne (tgt := 70) hx hb dM_times_5 (by decide) (fun hc => ?_) (fun hc => ?_)
      · rw [if_neg hc] at hf
        refine xm_aload_n hx hb (xvor _ _) dM_times_70 rfl (lv_at hl 1 rfl) ?_
        refine xm_vget (v := .int ((xpi st 0) (c0 - 1))) hx hb htx hown hK hP 0 (by decide) hg1 rfl ((hZ.1 (93, "kind", "I") (List.mem_of_getElem? (i := 0) rfl)).use rfl) rfl dM_times_71 ?_
        refine lv_bipush (v := 6) hx hb dM_times_74 (by decide) ?_
        refine lv_icmp_ne (tgt := 95) hx hb dM_times_76 (by decide) (fun hc => ?_) (fun hc => ?_)
        · rw [if_neg hc] at hf
          refine xm_aload_n hx hb (xvor _ _) dM_times_95 rfl (lv_at hl 1 rfl) ?_
          refine xm_vget (v := .int ((xpi st 0) (c0 - 1))) hx hb htx hown hK hP 0 (by decide) hg1 rfl ((hZ.1 (93, "kind", "I") (List.mem_of_getElem? (i := 0) rfl)).use rfl) rfl dM_times_96 ?_
          refine lv_iconst (v := 3) hx hb dM_times_99 (by decide) ?_
          refine lv_icmp_ne (tgt := 118) hx hb dM_times_100 (by decide) (fun hc => ?_) (fun hc => ?_)
          · rw [if_neg hc] at hf
            refine xm_aload_n hx hb (xvor _ _) dM_times_118 rfl (lv_at hl 1 rfl) ?_
            refine xm_vget (v := .int ((xpi st 0) (c0 - 1))) hx hb htx hown hK hP 0 (by decide) hg1 rfl ((hZ.1 (93, "kind", "I") (List.mem_of_getElem? (i := 0) rfl)).use rfl) rfl dM_times_119 ?_
            refine lv_iconst (v := 4) hx hb dM_times_122 (by decide) ?_
            refine lv_icmp_ne (tgt := 134) hx hb dM_times_123 (by decide) (fun hc => ?_) (fun hc => ?_)
            · rw [if_neg hc] at hf
              refine lv_aload_n hx hb dM_times_134 rfl (lv_at hl 0 rfl) ?_
              refine lv_iconst (v := 1) hx hb dM_times_135 (by decide) ?_
              obtain ⟨o2, hq3, hf⟩ := xbind hf
              have hl := lv_sub (l' := [(0, .ref aM)]) hl [0] rfl
              by_cases hk4 : o2.1 = 1
              · rw [if_pos hk4] at hf
                obtain ⟨hm5, hf⟩ := xmoE hf
                obtain rfl := Option.some.inj hf
                exact absurd (show (1 : Nat) = 2 from hkd) (by decide)
              rw [if_neg hk4] at hf
              exact nomatch hf
            · rw [if_pos hc] at hf
              refine xm_aload_n hx hb (xvor _ _) dM_times_126 rfl (lv_at hl 2 rfl) ?_
              obtain ⟨hg2, hf⟩ := xifn hf
              refine xm_vget (v := .int ((xpi st 0) (c1 - 1))) hx hb htx hown hK hP 0 (by decide) hg2 rfl ((hZ.1 (93, "kind", "I") (List.mem_of_getElem? (i := 0) rfl)).use rfl) rfl dM_times_127 ?_
              refine lv_iconst (v := 3) hx hb dM_times_130 (by decide) ?_
              refine lv_icmp_eq (tgt := 140) hx hb dM_times_131 (by decide) (fun hc => ?_) (fun hc => ?_)
              · rw [if_pos hc] at hf
                refine xm_aload_n hx hb (xvor _ _) dM_times_140 rfl (lv_at hl 2 rfl) ?_
                refine xm_vget (v := .long ((xpl st) (c1 - 1))) hx hb htx hown hK hP 1 (by decide) hg2 rfl ((hZ.1 (96, "n", "J") (List.mem_of_getElem? (i := 1) rfl)).use rfl) rfl dM_times_141 ?_
                refine lv_lconst (v := 1) hx hb dM_times_144 (by decide) ?_
                refine W.lcmp hx hb dM_times_145 ?_
                refine lv_if_ge (tgt := 155) hx hb dM_times_146 (by decide) (fun hc => ?_) (fun hc => ?_)
                · rw [if_pos hc] at hf
                  refine xm_aload_n hx hb (xvor _ _) dM_times_155 rfl (lv_at hl 2 rfl) ?_
                  refine xm_vget (v := .long ((xpl st) (c1 - 1))) hx hb htx hown hK hP 1 (by decide) hg2 rfl ((hZ.1 (96, "n", "J") (List.mem_of_getElem? (i := 1) rfl)).use rfl) rfl dM_times_156 ?_
                  refine xm_aload_n hx hb (xvor _ _) dM_times_159 rfl (lv_at hl 1 rfl) ?_
                  refine xm_vget (v := .int ((xpi st 3) (c0 - 1))) hx hb htx hown hK hP 3 (by decide) hg1 rfl ((hZ.1 (103, "count", "I") (List.mem_of_getElem? (i := 3) rfl)).use rfl) rfl dM_times_160 ?_
                  refine lv_i2l hx hb dM_times_163 rfl ?_
                  refine lv_lconst (v := 1) hx hb dM_times_164 (by decide) ?_
                  refine lv_ladd hx hb dM_times_165 ?_
                  refine lv_lmul hx hb dM_times_166 ?_
                  refine lv_ldc2 hx hb hown (htx _ kw_6_221) dM_times_167 ?_
                  refine W.lcmp hx hb dM_times_170 ?_
                  refine lv_if_le (tgt := 197) hx hb dM_times_171 (by decide) (fun hc => ?_) (fun hc => ?_)
                  · rw [if_pos hc] at hf
                    refine xm_aload_n hx hb (xvor _ _) dM_times_197 rfl (lv_at hl 1 rfl) ?_
                    refine xm_vget (v := .int ((xpi st 3) (c0 - 1))) hx hb htx hown hK hP 3 (by decide) hg1 rfl ((hZ.1 (103, "count", "I") (List.mem_of_getElem? (i := 3) rfl)).use rfl) rfl dM_times_198 ?_
                    refine lv_if_le (tgt := 225) hx hb dM_times_201 (by decide) (fun hc => ?_) (fun hc => ?_)
                    · rw [if_pos hc] at hf
                      refine lv_aload_n hx hb dM_times_225 rfl (lv_at hl 0 rfl) ?_
                      refine xm_get (v := .int (xsi st 4)) hx hb htx hown hK hP 4 (by decide) rfl (htx _ kw_5_91) rfl dM_times_226 ?_
                      refine lv_istore_n (lv' := [(3, .int (xsi st 4)), (0, .ref aM), (1, xv vad c0), (2, xv vad c1)]) hx hb dM_times_229 rfl hl (by decide) (by simp only [List.filter, xvcat, xrscat, xcI, xcL, xcR, xcN]; rfl) (fun ls hl => ?_)
                      refine lv_lconst (v := 0) hx hb dM_times_230 (by decide) ?_
                      refine lv_lstore (lv' := [(4, .long 0), (3, .int (xsi st 4)), (0, .ref aM), (1, xv vad c0), (2, xv vad c1)]) hx hb dM_times_231 hl (by decide) rfl (fun ls hl => ?_)
                      exact key n (1, (0 : Int64), (xsi st 4), c0, c1, st, 0, 0) _ _ ls (⟨ad, gd, vad, rfl, hf, hP, hD, hS, lv_sub hl [0, 1, 2, 3, 4] rfl, hE, hN⟩)
                    · rw [if_neg hc] at hf
                      refine xm_aload_n hx hb (xvor _ _) dM_times_204 rfl (lv_at hl 2 rfl) ?_
                      refine xm_vget (v := .long ((xpl st) (c1 - 1))) hx hb htx hown hK hP 1 (by decide) hg2 rfl ((hZ.1 (96, "n", "J") (List.mem_of_getElem? (i := 1) rfl)).use rfl) rfl dM_times_205 ?_
                      refine lv_ldc hx hb hown (htx _ kw_6_62) dM_times_208 ?_
                      refine xm_aload_n hx hb (xvor _ _) dM_times_210 rfl (lv_at hl 1 rfl) ?_
                      refine xm_vget (v := .int ((xpi st 3) (c0 - 1))) hx hb htx hown hK hP 3 (by decide) hg1 rfl ((hZ.1 (103, "count", "I") (List.mem_of_getElem? (i := 3) rfl)).use rfl) rfl dM_times_211 ?_
                      obtain ⟨hg3, hf⟩ := xifn hf
                      refine lv_idiv hx hb dM_times_214 hg3 ?_
                      refine lv_i2l hx hb dM_times_215 rfl ?_
                      refine W.lcmp hx hb dM_times_216 ?_
                      refine lv_if_le (tgt := 225) hx hb dM_times_217 (by decide) (fun hc => ?_) (fun hc => ?_)
                      · rw [if_pos hc] at hf
                        refine lv_aload_n hx hb dM_times_225 rfl (lv_at hl 0 rfl) ?_
                        refine xm_get (v := .int (xsi st 4)) hx hb htx hown hK hP 4 (by decide) rfl (htx _ kw_5_91) rfl dM_times_226 ?_
                        refine lv_istore_n (lv' := [(3, .int (xsi st 4)), (0, .ref aM), (1, xv vad c0), (2, xv vad c1)]) hx hb dM_times_229 rfl hl (by decide) (by simp only [List.filter, xvcat, xrscat, xcI, xcL, xcR, xcN]; rfl) (fun ls hl => ?_)
                        refine lv_lconst (v := 0) hx hb dM_times_230 (by decide) ?_
                        refine lv_lstore (lv' := [(4, .long 0), (3, .int (xsi st 4)), (0, .ref aM), (1, xv vad c0), (2, xv vad c1)]) hx hb dM_times_231 hl (by decide) rfl (fun ls hl => ?_)
                        exact key n (1, (0 : Int64), (xsi st 4), c0, c1, st, 0, 0) _ _ ls (⟨ad, gd, vad, rfl, hf, hP, hD, hS, lv_sub hl [0, 1, 2, 3, 4] rfl, hE, hN⟩)
                      · rw [if_neg hc] at hf
                        refine lv_aload_n hx hb dM_times_220 rfl (lv_at hl 0 rfl) ?_
                        obtain ⟨o4, hq5, hf⟩ := xbind hf
                        have hl := lv_sub (l' := [(0, .ref aM)]) hl [0] rfl
                        by_cases hk6 : o4.1 = 1
                        · rw [if_pos hk6] at hf
                          obtain ⟨hm7, hf⟩ := xmoE hf
                          have hFc := xm_free hD hS hA
                          refine xx_thr (vx_runV (C := "ValueBenchModel") (As := []) (rest := []) ⟨hx, hb, hml, hown, htx⟩ (gM_limit_1 l hl9 D cT aK aV s.heap.size n aM ad rd gd vad st o4 hq5 hk6) ⟨callB_of 0 htx (xw_goodC kw_6_66) rfl rfl rfl (htx _ kw_1_5) (htx _ kw_6_63) ⟨by decide, by decide, by decide +kernel⟩ ⟨Nat.le_of_ble_eq_true rfl, Nat.le_of_ble_eq_true rfl⟩, (htx _ kw_6_65), (htx _ kp_M_limit)⟩ ⟨xPre_blind, va_recv hK hP (ci := 5) rfl (q0 := 0) rfl, (fun U hU hW => ⟨rfl, xPre_of hZ hS hFc hP hD hK U hU hW⟩)⟩ rfl rfl hl.1 rfl (xm_room (Nat.le_of_ble_eq_true rfl)) dM_times_221 ⟨hm7.1, hm7.2⟩) hS hFc (fun q _ h => hFc q h) (fun E ce q9 u9 t H1 locs ht hvm hr9 hB hz1 hk1 hS hce hcv hcl => ?_)
                          obtain ⟨rfl, hP1, hK1, hD1⟩ := hB
                          rw [ht] at hP1
                          obtain ⟨ad9, gd10, vad11⟩ := u9
                          obtain ⟨hv12, hn13⟩ := hr9
                          have hP : va_P D xcl (xMw cT aM ad9 rd gd10 vad11 st []) H1 := hP1
                          have hD : va_D A (xMw cT aM ad9 rd gd10 vad11 st []) := hD1.weaken (fun k q _ h => hFc q.1 h)
                          generalize H1 = H at hP hS hce ⊢
                          have hE9 : ∀ p, p < xct st → vad11 p = vad p := fun p h => (hv12 p (Nat.lt_of_lt_of_le h hN)).trans (hE p h)
                          have hE := hE9
                          have hN : xct st ≤ xct st := Nat.le_trans hN hn13
                          obtain rfl := Option.some.inj hf
                          exact vx_out (E := "java/lang/IndexOutOfBoundsException") (fun x h => (hne x h).elim) hlocks hce hcv hcl (fun t ht ha => ⟨(ad9, gd10, vad11), ⟨hE, hN⟩, ⟨rfl, by rw [ht]; exact hP, va_K.moved ha hK, hD⟩, hS.F ht⟩) hS.2.2 (Nat.le_refl _) (Nat.le_refl _)
                        rw [if_neg hk6] at hf
                        exact nomatch hf
                  · rw [if_neg hc] at hf
                    refine xm_aload_n hx hb (xvor _ _) dM_times_174 rfl (lv_at hl 1 rfl) ?_
                    refine xm_vget (v := .int ((xpi st 3) (c0 - 1))) hx hb htx hown hK hP 3 (by decide) hg1 rfl ((hZ.1 (103, "count", "I") (List.mem_of_getElem? (i := 3) rfl)).use rfl) rfl dM_times_175 ?_
                    refine lv_if_le (tgt := 197) hx hb dM_times_178 (by decide) (fun hc => ?_) (fun hc => ?_)
                    · rw [if_pos hc] at hf
                      refine xm_aload_n hx hb (xvor _ _) dM_times_197 rfl (lv_at hl 1 rfl) ?_
                      refine xm_vget (v := .int ((xpi st 3) (c0 - 1))) hx hb htx hown hK hP 3 (by decide) hg1 rfl ((hZ.1 (103, "count", "I") (List.mem_of_getElem? (i := 3) rfl)).use rfl) rfl dM_times_198 ?_
                      refine lv_if_le (tgt := 225) hx hb dM_times_201 (by decide) (fun hc => ?_) (fun hc => ?_)
                      · rw [if_pos hc] at hf
                        refine lv_aload_n hx hb dM_times_225 rfl (lv_at hl 0 rfl) ?_
                        refine xm_get (v := .int (xsi st 4)) hx hb htx hown hK hP 4 (by decide) rfl (htx _ kw_5_91) rfl dM_times_226 ?_
                        refine lv_istore_n (lv' := [(3, .int (xsi st 4)), (0, .ref aM), (1, xv vad c0), (2, xv vad c1)]) hx hb dM_times_229 rfl hl (by decide) (by simp only [List.filter, xvcat, xrscat, xcI, xcL, xcR, xcN]; rfl) (fun ls hl => ?_)
                        refine lv_lconst (v := 0) hx hb dM_times_230 (by decide) ?_
                        refine lv_lstore (lv' := [(4, .long 0), (3, .int (xsi st 4)), (0, .ref aM), (1, xv vad c0), (2, xv vad c1)]) hx hb dM_times_231 hl (by decide) rfl (fun ls hl => ?_)
                        exact key n (1, (0 : Int64), (xsi st 4), c0, c1, st, 0, 0) _ _ ls (⟨ad, gd, vad, rfl, hf, hP, hD, hS, lv_sub hl [0, 1, 2, 3, 4] rfl, hE, hN⟩)
                      · rw [if_neg hc] at hf
                        refine xm_aload_n hx hb (xvor _ _) dM_times_204 rfl (lv_at hl 2 rfl) ?_
                        refine xm_vget (v := .long ((xpl st) (c1 - 1))) hx hb htx hown hK hP 1 (by decide) hg2 rfl ((hZ.1 (96, "n", "J") (List.mem_of_getElem? (i := 1) rfl)).use rfl) rfl dM_times_205 ?_
                        refine lv_ldc hx hb hown (htx _ kw_6_62) dM_times_208 ?_
                        refine xm_aload_n hx hb (xvor _ _) dM_times_210 rfl (lv_at hl 1 rfl) ?_
                        refine xm_vget (v := .int ((xpi st 3) (c0 - 1))) hx hb htx hown hK hP 3 (by decide) hg1 rfl ((hZ.1 (103, "count", "I") (List.mem_of_getElem? (i := 3) rfl)).use rfl) rfl dM_times_211 ?_
                        obtain ⟨hg3, hf⟩ := xifn hf
                        refine lv_idiv hx hb dM_times_214 hg3 ?_
                        refine lv_i2l hx hb dM_times_215 rfl ?_
                        refine W.lcmp hx hb dM_times_216 ?_
                        refine lv_if_le (tgt := 225) hx hb dM_times_217 (by decide) (fun hc => ?_) (fun hc => ?_)
                        · rw [if_pos hc] at hf
                          refine lv_aload_n hx hb dM_times_225 rfl (lv_at hl 0 rfl) ?_
                          refine xm_get (v := .int (xsi st 4)) hx hb htx hown hK hP 4 (by decide) rfl (htx _ kw_5_91) rfl dM_times_226 ?_
                          refine lv_istore_n (lv' := [(3, .int (xsi st 4)), (0, .ref aM), (1, xv vad c0), (2, xv vad c1)]) hx hb dM_times_229 rfl hl (by decide) (by simp only [List.filter, xvcat, xrscat, xcI, xcL, xcR, xcN]; rfl) (fun ls hl => ?_)
                          refine lv_lconst (v := 0) hx hb dM_times_230 (by decide) ?_
                          refine lv_lstore (lv' := [(4, .long 0), (3, .int (xsi st 4)), (0, .ref aM), (1, xv vad c0), (2, xv vad c1)]) hx hb dM_times_231 hl (by decide) rfl (fun ls hl => ?_)
                          exact key n (1, (0 : Int64), (xsi st 4), c0, c1, st, 0, 0) _ _ ls (⟨ad, gd, vad, rfl, hf, hP, hD, hS, lv_sub hl [0, 1, 2, 3, 4] rfl, hE, hN⟩)
                        · rw [if_neg hc] at hf
                          refine lv_aload_n hx hb dM_times_220 rfl (lv_at hl 0 rfl) ?_
                          obtain ⟨o4, hq5, hf⟩ := xbind hf
                          have hl := lv_sub (l' := [(0, .ref aM)]) hl [0] rfl
                          by_cases hk6 : o4.1 = 1
                          · rw [if_pos hk6] at hf
                            obtain ⟨hm7, hf⟩ := xmoE hf
                            have hFc := xm_free hD hS hA
                            refine xx_thr (vx_runV (C := "ValueBenchModel") (As := []) (rest := []) ⟨hx, hb, hml, hown, htx⟩ (gM_limit_1 l hl9 D cT aK aV s.heap.size n aM ad rd gd vad st o4 hq5 hk6) ⟨callB_of 0 htx (xw_goodC kw_6_66) rfl rfl rfl (htx _ kw_1_5) (htx _ kw_6_63) ⟨by decide, by decide, by decide +kernel⟩ ⟨Nat.le_of_ble_eq_true rfl, Nat.le_of_ble_eq_true rfl⟩, (htx _ kw_6_65), (htx _ kp_M_limit)⟩ ⟨xPre_blind, va_recv hK hP (ci := 5) rfl (q0 := 0) rfl, (fun U hU hW => ⟨rfl, xPre_of hZ hS hFc hP hD hK U hU hW⟩)⟩ rfl rfl hl.1 rfl (xm_room (Nat.le_of_ble_eq_true rfl)) dM_times_221 ⟨hm7.1, hm7.2⟩) hS hFc (fun q _ h => hFc q h) (fun E ce q9 u9 t H1 locs ht hvm hr9 hB hz1 hk1 hS hce hcv hcl => ?_)
                            obtain ⟨rfl, hP1, hK1, hD1⟩ := hB
                            rw [ht] at hP1
                            obtain ⟨ad9, gd10, vad11⟩ := u9
                            obtain ⟨hv12, hn13⟩ := hr9
                            have hP : va_P D xcl (xMw cT aM ad9 rd gd10 vad11 st []) H1 := hP1
                            have hD : va_D A (xMw cT aM ad9 rd gd10 vad11 st []) := hD1.weaken (fun k q _ h => hFc q.1 h)
                            generalize H1 = H at hP hS hce ⊢
                            have hE9 : ∀ p, p < xct st → vad11 p = vad p := fun p h => (hv12 p (Nat.lt_of_lt_of_le h hN)).trans (hE p h)
                            have hE := hE9
                            have hN : xct st ≤ xct st := Nat.le_trans hN hn13
                            obtain rfl := Option.some.inj hf
                            exact vx_out (E := "java/lang/IndexOutOfBoundsException") (fun x h => (hne x h).elim) hlocks hce hcv hcl (fun t ht ha => ⟨(ad9, gd10, vad11), ⟨hE, hN⟩, ⟨rfl, by rw [ht]; exact hP, va_K.moved ha hK, hD⟩, hS.F ht⟩) hS.2.2 (Nat.le_refl _) (Nat.le_refl _)
                          rw [if_neg hk6] at hf
                          exact nomatch hf
                    · rw [if_neg hc] at hf
                      refine xm_aload_n hx hb (xvor _ _) dM_times_181 rfl (lv_at hl 2 rfl) ?_
                      refine xm_vget (v := .long ((xpl st) (c1 - 1))) hx hb htx hown hK hP 1 (by decide) hg2 rfl ((hZ.1 (96, "n", "J") (List.mem_of_getElem? (i := 1) rfl)).use rfl) rfl dM_times_182 ?_
                      refine lv_ldc2 hx hb hown (htx _ kw_6_108) dM_times_185 ?_
                      refine W.lcmp hx hb dM_times_188 ?_
                      refine lv_if_le (tgt := 197) hx hb dM_times_189 (by decide) (fun hc => ?_) (fun hc => ?_)
                      · rw [if_pos hc] at hf
                        refine xm_aload_n hx hb (xvor _ _) dM_times_197 rfl (lv_at hl 1 rfl) ?_
                        refine xm_vget (v := .int ((xpi st 3) (c0 - 1))) hx hb htx hown hK hP 3 (by decide) hg1 rfl ((hZ.1 (103, "count", "I") (List.mem_of_getElem? (i := 3) rfl)).use rfl) rfl dM_times_198 ?_
                        refine lv_if_le (tgt := 225) hx hb dM_times_201 (by decide) (fun hc => ?_) (fun hc => ?_)
                        · rw [if_pos hc] at hf
                          refine lv_aload_n hx hb dM_times_225 rfl (lv_at hl 0 rfl) ?_
                          refine xm_get (v := .int (xsi st 4)) hx hb htx hown hK hP 4 (by decide) rfl (htx _ kw_5_91) rfl dM_times_226 ?_
                          refine lv_istore_n (lv' := [(3, .int (xsi st 4)), (0, .ref aM), (1, xv vad c0), (2, xv vad c1)]) hx hb dM_times_229 rfl hl (by decide) (by simp only [List.filter, xvcat, xrscat, xcI, xcL, xcR, xcN]; rfl) (fun ls hl => ?_)
                          refine lv_lconst (v := 0) hx hb dM_times_230 (by decide) ?_
                          refine lv_lstore (lv' := [(4, .long 0), (3, .int (xsi st 4)), (0, .ref aM), (1, xv vad c0), (2, xv vad c1)]) hx hb dM_times_231 hl (by decide) rfl (fun ls hl => ?_)
                          exact key n (1, (0 : Int64), (xsi st 4), c0, c1, st, 0, 0) _ _ ls (⟨ad, gd, vad, rfl, hf, hP, hD, hS, lv_sub hl [0, 1, 2, 3, 4] rfl, hE, hN⟩)
                        · rw [if_neg hc] at hf
                          refine xm_aload_n hx hb (xvor _ _) dM_times_204 rfl (lv_at hl 2 rfl) ?_
                          refine xm_vget (v := .long ((xpl st) (c1 - 1))) hx hb htx hown hK hP 1 (by decide) hg2 rfl ((hZ.1 (96, "n", "J") (List.mem_of_getElem? (i := 1) rfl)).use rfl) rfl dM_times_205 ?_
                          refine lv_ldc hx hb hown (htx _ kw_6_62) dM_times_208 ?_
                          refine xm_aload_n hx hb (xvor _ _) dM_times_210 rfl (lv_at hl 1 rfl) ?_
                          refine xm_vget (v := .int ((xpi st 3) (c0 - 1))) hx hb htx hown hK hP 3 (by decide) hg1 rfl ((hZ.1 (103, "count", "I") (List.mem_of_getElem? (i := 3) rfl)).use rfl) rfl dM_times_211 ?_
                          obtain ⟨hg3, hf⟩ := xifn hf
                          refine lv_idiv hx hb dM_times_214 hg3 ?_
                          refine lv_i2l hx hb dM_times_215 rfl ?_
                          refine W.lcmp hx hb dM_times_216 ?_
                          refine lv_if_le (tgt := 225) hx hb dM_times_217 (by decide) (fun hc => ?_) (fun hc => ?_)
                          · rw [if_pos hc] at hf
                            refine lv_aload_n hx hb dM_times_225 rfl (lv_at hl 0 rfl) ?_
                            refine xm_get (v := .int (xsi st 4)) hx hb htx hown hK hP 4 (by decide) rfl (htx _ kw_5_91) rfl dM_times_226 ?_
                            refine lv_istore_n (lv' := [(3, .int (xsi st 4)), (0, .ref aM), (1, xv vad c0), (2, xv vad c1)]) hx hb dM_times_229 rfl hl (by decide) (by simp only [List.filter, xvcat, xrscat, xcI, xcL, xcR, xcN]; rfl) (fun ls hl => ?_)
                            refine lv_lconst (v := 0) hx hb dM_times_230 (by decide) ?_
                            refine lv_lstore (lv' := [(4, .long 0), (3, .int (xsi st 4)), (0, .ref aM), (1, xv vad c0), (2, xv vad c1)]) hx hb dM_times_231 hl (by decide) rfl (fun ls hl => ?_)
                            exact key n (1, (0 : Int64), (xsi st 4), c0, c1, st, 0, 0) _ _ ls (⟨ad, gd, vad, rfl, hf, hP, hD, hS, lv_sub hl [0, 1, 2, 3, 4] rfl, hE, hN⟩)
                          · rw [if_neg hc] at hf
                            refine lv_aload_n hx hb dM_times_220 rfl (lv_at hl 0 rfl) ?_
                            obtain ⟨o4, hq5, hf⟩ := xbind hf
                            have hl := lv_sub (l' := [(0, .ref aM)]) hl [0] rfl
                            by_cases hk6 : o4.1 = 1
                            · rw [if_pos hk6] at hf
                              obtain ⟨hm7, hf⟩ := xmoE hf
                              have hFc := xm_free hD hS hA
                              refine xx_thr (vx_runV (C := "ValueBenchModel") (As := []) (rest := []) ⟨hx, hb, hml, hown, htx⟩ (gM_limit_1 l hl9 D cT aK aV s.heap.size n aM ad rd gd vad st o4 hq5 hk6) ⟨callB_of 0 htx (xw_goodC kw_6_66) rfl rfl rfl (htx _ kw_1_5) (htx _ kw_6_63) ⟨by decide, by decide, by decide +kernel⟩ ⟨Nat.le_of_ble_eq_true rfl, Nat.le_of_ble_eq_true rfl⟩, (htx _ kw_6_65), (htx _ kp_M_limit)⟩ ⟨xPre_blind, va_recv hK hP (ci := 5) rfl (q0 := 0) rfl, (fun U hU hW => ⟨rfl, xPre_of hZ hS hFc hP hD hK U hU hW⟩)⟩ rfl rfl hl.1 rfl (xm_room (Nat.le_of_ble_eq_true rfl)) dM_times_221 ⟨hm7.1, hm7.2⟩) hS hFc (fun q _ h => hFc q h) (fun E ce q9 u9 t H1 locs ht hvm hr9 hB hz1 hk1 hS hce hcv hcl => ?_)
                              obtain ⟨rfl, hP1, hK1, hD1⟩ := hB
                              rw [ht] at hP1
                              obtain ⟨ad9, gd10, vad11⟩ := u9
                              obtain ⟨hv12, hn13⟩ := hr9
                              have hP : va_P D xcl (xMw cT aM ad9 rd gd10 vad11 st []) H1 := hP1
                              have hD : va_D A (xMw cT aM ad9 rd gd10 vad11 st []) := hD1.weaken (fun k q _ h => hFc q.1 h)
                              generalize H1 = H at hP hS hce ⊢
                              have hE9 : ∀ p, p < xct st → vad11 p = vad p := fun p h => (hv12 p (Nat.lt_of_lt_of_le h hN)).trans (hE p h)
                              have hE := hE9
                              have hN : xct st ≤ xct st := Nat.le_trans hN hn13
                              obtain rfl := Option.some.inj hf
                              exact vx_out (E := "java/lang/IndexOutOfBoundsException") (fun x h => (hne x h).elim) hlocks hce hcv hcl (fun t ht ha => ⟨(ad9, gd10, vad11), ⟨hE, hN⟩, ⟨rfl, by rw [ht]; exact hP, va_K.moved ha hK, hD⟩, hS.F ht⟩) hS.2.2 (Nat.le_refl _) (Nat.le_refl _)
                            rw [if_neg hk6] at hf
                            exact nomatch hf
                      · rw [if_neg hc] at hf
                        refine lv_aload_n hx hb dM_times_192 rfl (lv_at hl 0 rfl) ?_
                        obtain ⟨o3, hq4, hf⟩ := xbind hf
                        have hl := lv_sub (l' := [(0, .ref aM)]) hl [0] rfl
                        by_cases hk5 : o3.1 = 1
                        · rw [if_pos hk5] at hf
                          obtain ⟨hm6, hf⟩ := xmoE hf
                          have hFc := xm_free hD hS hA
                          refine xx_thr (vx_runV (C := "ValueBenchModel") (As := []) (rest := []) ⟨hx, hb, hml, hown, htx⟩ (gM_limit_1 l hl9 D cT aK aV s.heap.size n aM ad rd gd vad st o3 hq4 hk5) ⟨callB_of 0 htx (xw_goodC kw_6_66) rfl rfl rfl (htx _ kw_1_5) (htx _ kw_6_63) ⟨by decide, by decide, by decide +kernel⟩ ⟨Nat.le_of_ble_eq_true rfl, Nat.le_of_ble_eq_true rfl⟩, (htx _ kw_6_65), (htx _ kp_M_limit)⟩ ⟨xPre_blind, va_recv hK hP (ci := 5) rfl (q0 := 0) rfl, (fun U hU hW => ⟨rfl, xPre_of hZ hS hFc hP hD hK U hU hW⟩)⟩ rfl rfl hl.1 rfl (xm_room (Nat.le_of_ble_eq_true rfl)) dM_times_193 ⟨hm6.1, hm6.2⟩) hS hFc (fun q _ h => hFc q h) (fun E ce q9 u9 t H1 locs ht hvm hr9 hB hz1 hk1 hS hce hcv hcl => ?_)
                          obtain ⟨rfl, hP1, hK1, hD1⟩ := hB
                          rw [ht] at hP1
                          obtain ⟨ad8, gd9, vad10⟩ := u9
                          obtain ⟨hv11, hn12⟩ := hr9
                          have hP : va_P D xcl (xMw cT aM ad8 rd gd9 vad10 st []) H1 := hP1
                          have hD : va_D A (xMw cT aM ad8 rd gd9 vad10 st []) := hD1.weaken (fun k q _ h => hFc q.1 h)
                          generalize H1 = H at hP hS hce ⊢
                          have hE9 : ∀ p, p < xct st → vad10 p = vad p := fun p h => (hv11 p (Nat.lt_of_lt_of_le h hN)).trans (hE p h)
                          have hE := hE9
                          have hN : xct st ≤ xct st := Nat.le_trans hN hn12
                          obtain rfl := Option.some.inj hf
                          exact vx_out (E := "java/lang/IndexOutOfBoundsException") (fun x h => (hne x h).elim) hlocks hce hcv hcl (fun t ht ha => ⟨(ad8, gd9, vad10), ⟨hE, hN⟩, ⟨rfl, by rw [ht]; exact hP, va_K.moved ha hK, hD⟩, hS.F ht⟩) hS.2.2 (Nat.le_refl _) (Nat.le_refl _)
                        rw [if_neg hk5] at hf
                        exact nomatch hf
                · rw [if_neg hc] at hf
                  refine lv_aload_n hx hb dM_times_149 rfl (lv_at hl 0 rfl) ?_
                  refine lv_iconst (v := 0) hx hb dM_times_150 (by decide) ?_
                  obtain ⟨o3, hq4, hf⟩ := xbind hf
                  have hl := lv_sub (l' := [(0, .ref aM)]) hl [0] rfl
                  obtain ⟨hm5, hf⟩ := xmoE hf
                  have hFc := xm_free hD hS hA
                  refine va_callq (va_runV (C := "ValueBenchModel") (As := [.int 0]) (rest := []) ⟨hx, hb, hml, hown, htx⟩ (gM_fresh l hl9 D cT aK aV s.heap.size n aM ad rd gd vad st (0 : Int32) o3 hq4) ⟨callB_of 1 htx (xw_goodC kw_6_16) rfl rfl rfl (htx _ kw_1_5) (htx _ kw_6_13) ⟨by decide, by decide, by decide +kernel⟩ ⟨Nat.le_of_ble_eq_true rfl, Nat.le_of_ble_eq_true rfl⟩, (htx _ kw_6_15), (htx _ kp_M_fresh)⟩ ⟨xPre_blind, va_recv hK hP (ci := 5) rfl (q0 := 0) rfl, (fun U hU hW => ⟨rfl, xPre_of hZ hS hFc hP hD hK U hU hW⟩)⟩ rfl rfl hl.1 rfl (xm_room (Nat.le_of_ble_eq_true rfl)) dM_times_151 ⟨hm5.1, hm5.2⟩) hS (fun q _ h => hFc q h) hFc (fun r6 u9 t H1 locs ht hvm hr9 hB hz1 hk1 hS => ?_)
                  obtain ⟨hP1, hK1, hD1⟩ := hB
                  rw [ht] at hP1
                  obtain ⟨ad7, gd8, vad9⟩ := u9
                  obtain ⟨hr9, hv10, hn11⟩ := hr9
                  have hP : va_P D xcl (xMw cT aM ad7 rd gd8 vad9 o3.2.2.2 []) H1 := hP1
                  have hD : va_D A (xMw cT aM ad7 rd gd8 vad9 o3.2.2.2 []) := hD1.weaken (fun k q _ h => hFc q.1 h)
                  generalize H1 = H at hP hS ⊢
                  have hE9 : ∀ p, p < xct st → vad9 p = vad p := fun p h => (hv10 p (Nat.lt_of_lt_of_le h hN)).trans (hE p h)
                  have hE := hE9
                  have hN : xct st ≤ xct o3.2.2.2 := Nat.le_trans hN hn11
                  rw [hr9]
                  refine W.eq (g2 := F0 m 154 ls [xv vad9 o3.2.2.1]) (by first | rfl | (skip; rfl)) ?_
                  obtain rfl := Option.some.inj hf
                  exact absurd (show (0 : Nat) = 2 from hkd) (by decide)
              · rw [if_neg hc] at hf
                refine lv_aload_n hx hb dM_times_134 rfl (lv_at hl 0 rfl) ?_
                refine lv_iconst (v := 1) hx hb dM_times_135 (by decide) ?_
                obtain ⟨o3, hq4, hf⟩ := xbind hf
                have hl := lv_sub (l' := [(0, .ref aM)]) hl [0] rfl
                by_cases hk5 : o3.1 = 1
                · rw [if_pos hk5] at hf
                  obtain ⟨hm6, hf⟩ := xmoE hf
                  obtain rfl := Option.some.inj hf
                  exact absurd (show (1 : Nat) = 2 from hkd) (by decide)
                rw [if_neg hk5] at hf
                exact nomatch hf
          · rw [if_pos hc] at hf
            refine xm_aload_n hx hb (xvor _ _) dM_times_103 rfl (lv_at hl 2 rfl) ?_
            obtain ⟨hg2, hf⟩ := xifn hf
            refine xm_vget (v := .int ((xpi st 0) (c1 - 1))) hx hb htx hown hK hP 0 (by decide) hg2 rfl ((hZ.1 (93, "kind", "I") (List.mem_of_getElem? (i := 0) rfl)).use rfl) rfl dM_times_104 ?_
            refine lv_iconst (v := 4) hx hb dM_times_107 (by decide) ?_
            refine lv_icmp_ne (tgt := 118) hx hb dM_times_108 (by decide) (fun hc => ?_) (fun hc => ?_)
            · rw [if_neg hc] at hf
              refine xm_aload_n hx hb (xvor _ _) dM_times_118 rfl (lv_at hl 1 rfl) ?_
              refine xm_vget (v := .int ((xpi st 0) (c0 - 1))) hx hb htx hown hK hP 0 (by decide) hg1 rfl ((hZ.1 (93, "kind", "I") (List.mem_of_getElem? (i := 0) rfl)).use rfl) rfl dM_times_119 ?_
              refine lv_iconst (v := 4) hx hb dM_times_122 (by decide) ?_
              refine lv_icmp_ne (tgt := 134) hx hb dM_times_123 (by decide) (fun hc => ?_) (fun hc => ?_)
              · rw [if_neg hc] at hf
                refine lv_aload_n hx hb dM_times_134 rfl (lv_at hl 0 rfl) ?_
                refine lv_iconst (v := 1) hx hb dM_times_135 (by decide) ?_
                obtain ⟨o3, hq4, hf⟩ := xbind hf
                have hl := lv_sub (l' := [(0, .ref aM)]) hl [0] rfl
                by_cases hk5 : o3.1 = 1
                · rw [if_pos hk5] at hf
                  obtain ⟨hm6, hf⟩ := xmoE hf
                  obtain rfl := Option.some.inj hf
                  exact absurd (show (1 : Nat) = 2 from hkd) (by decide)
                rw [if_neg hk5] at hf
                exact nomatch hf
              · rw [if_pos hc] at hf
                refine xm_aload_n hx hb (xvor _ _) dM_times_126 rfl (lv_at hl 2 rfl) ?_
                refine xm_vget (v := .int ((xpi st 0) (c1 - 1))) hx hb htx hown hK hP 0 (by decide) hg2 rfl ((hZ.1 (93, "kind", "I") (List.mem_of_getElem? (i := 0) rfl)).use rfl) rfl dM_times_127 ?_
                refine lv_iconst (v := 3) hx hb dM_times_130 (by decide) ?_
                refine lv_icmp_eq (tgt := 140) hx hb dM_times_131 (by decide) (fun hc => ?_) (fun hc => ?_)
                · rw [if_pos hc] at hf
                  refine xm_aload_n hx hb (xvor _ _) dM_times_140 rfl (lv_at hl 2 rfl) ?_
                  refine xm_vget (v := .long ((xpl st) (c1 - 1))) hx hb htx hown hK hP 1 (by decide) hg2 rfl ((hZ.1 (96, "n", "J") (List.mem_of_getElem? (i := 1) rfl)).use rfl) rfl dM_times_141 ?_
                  refine lv_lconst (v := 1) hx hb dM_times_144 (by decide) ?_
                  refine W.lcmp hx hb dM_times_145 ?_
                  refine lv_if_ge (tgt := 155) hx hb dM_times_146 (by decide) (fun hc => ?_) (fun hc => ?_)
                  · rw [if_pos hc] at hf
                    refine xm_aload_n hx hb (xvor _ _) dM_times_155 rfl (lv_at hl 2 rfl) ?_
                    refine xm_vget (v := .long ((xpl st) (c1 - 1))) hx hb htx hown hK hP 1 (by decide) hg2 rfl ((hZ.1 (96, "n", "J") (List.mem_of_getElem? (i := 1) rfl)).use rfl) rfl dM_times_156 ?_
                    refine xm_aload_n hx hb (xvor _ _) dM_times_159 rfl (lv_at hl 1 rfl) ?_
                    refine xm_vget (v := .int ((xpi st 3) (c0 - 1))) hx hb htx hown hK hP 3 (by decide) hg1 rfl ((hZ.1 (103, "count", "I") (List.mem_of_getElem? (i := 3) rfl)).use rfl) rfl dM_times_160 ?_
                    refine lv_i2l hx hb dM_times_163 rfl ?_
                    refine lv_lconst (v := 1) hx hb dM_times_164 (by decide) ?_
                    refine lv_ladd hx hb dM_times_165 ?_
                    refine lv_lmul hx hb dM_times_166 ?_
                    refine lv_ldc2 hx hb hown (htx _ kw_6_221) dM_times_167 ?_
                    refine W.lcmp hx hb dM_times_170 ?_
                    refine lv_if_le (tgt := 197) hx hb dM_times_171 (by decide) (fun hc => ?_) (fun hc => ?_)
                    · rw [if_pos hc] at hf
                      refine xm_aload_n hx hb (xvor _ _) dM_times_197 rfl (lv_at hl 1 rfl) ?_
                      refine xm_vget (v := .int ((xpi st 3) (c0 - 1))) hx hb htx hown hK hP 3 (by decide) hg1 rfl ((hZ.1 (103, "count", "I") (List.mem_of_getElem? (i := 3) rfl)).use rfl) rfl dM_times_198 ?_
                      refine lv_if_le (tgt := 225) hx hb dM_times_201 (by decide) (fun hc => ?_) (fun hc => ?_)
                      · rw [if_pos hc] at hf
                        refine lv_aload_n hx hb dM_times_225 rfl (lv_at hl 0 rfl) ?_
                        refine xm_get (v := .int (xsi st 4)) hx hb htx hown hK hP 4 (by decide) rfl (htx _ kw_5_91) rfl dM_times_226 ?_
                        refine lv_istore_n (lv' := [(3, .int (xsi st 4)), (0, .ref aM), (1, xv vad c0), (2, xv vad c1)]) hx hb dM_times_229 rfl hl (by decide) (by simp only [List.filter, xvcat, xrscat, xcI, xcL, xcR, xcN]; rfl) (fun ls hl => ?_)
                        refine lv_lconst (v := 0) hx hb dM_times_230 (by decide) ?_
                        refine lv_lstore (lv' := [(4, .long 0), (3, .int (xsi st 4)), (0, .ref aM), (1, xv vad c0), (2, xv vad c1)]) hx hb dM_times_231 hl (by decide) rfl (fun ls hl => ?_)
                        exact key n (1, (0 : Int64), (xsi st 4), c0, c1, st, 0, 0) _ _ ls (⟨ad, gd, vad, rfl, hf, hP, hD, hS, lv_sub hl [0, 1, 2, 3, 4] rfl, hE, hN⟩)
                      · rw [if_neg hc] at hf
                        refine xm_aload_n hx hb (xvor _ _) dM_times_204 rfl (lv_at hl 2 rfl) ?_
                        refine xm_vget (v := .long ((xpl st) (c1 - 1))) hx hb htx hown hK hP 1 (by decide) hg2 rfl ((hZ.1 (96, "n", "J") (List.mem_of_getElem? (i := 1) rfl)).use rfl) rfl dM_times_205 ?_
                        refine lv_ldc hx hb hown (htx _ kw_6_62) dM_times_208 ?_
                        refine xm_aload_n hx hb (xvor _ _) dM_times_210 rfl (lv_at hl 1 rfl) ?_
                        refine xm_vget (v := .int ((xpi st 3) (c0 - 1))) hx hb htx hown hK hP 3 (by decide) hg1 rfl ((hZ.1 (103, "count", "I") (List.mem_of_getElem? (i := 3) rfl)).use rfl) rfl dM_times_211 ?_
                        obtain ⟨hg3, hf⟩ := xifn hf
                        refine lv_idiv hx hb dM_times_214 hg3 ?_
                        refine lv_i2l hx hb dM_times_215 rfl ?_
                        refine W.lcmp hx hb dM_times_216 ?_
                        refine lv_if_le (tgt := 225) hx hb dM_times_217 (by decide) (fun hc => ?_) (fun hc => ?_)
                        · rw [if_pos hc] at hf
                          refine lv_aload_n hx hb dM_times_225 rfl (lv_at hl 0 rfl) ?_
                          refine xm_get (v := .int (xsi st 4)) hx hb htx hown hK hP 4 (by decide) rfl (htx _ kw_5_91) rfl dM_times_226 ?_
                          refine lv_istore_n (lv' := [(3, .int (xsi st 4)), (0, .ref aM), (1, xv vad c0), (2, xv vad c1)]) hx hb dM_times_229 rfl hl (by decide) (by simp only [List.filter, xvcat, xrscat, xcI, xcL, xcR, xcN]; rfl) (fun ls hl => ?_)
                          refine lv_lconst (v := 0) hx hb dM_times_230 (by decide) ?_
                          refine lv_lstore (lv' := [(4, .long 0), (3, .int (xsi st 4)), (0, .ref aM), (1, xv vad c0), (2, xv vad c1)]) hx hb dM_times_231 hl (by decide) rfl (fun ls hl => ?_)
                          exact key n (1, (0 : Int64), (xsi st 4), c0, c1, st, 0, 0) _ _ ls (⟨ad, gd, vad, rfl, hf, hP, hD, hS, lv_sub hl [0, 1, 2, 3, 4] rfl, hE, hN⟩)
                        · rw [if_neg hc] at hf
                          refine lv_aload_n hx hb dM_times_220 rfl (lv_at hl 0 rfl) ?_
                          obtain ⟨o4, hq5, hf⟩ := xbind hf
                          have hl := lv_sub (l' := [(0, .ref aM)]) hl [0] rfl
                          by_cases hk6 : o4.1 = 1
                          · rw [if_pos hk6] at hf
                            obtain ⟨hm7, hf⟩ := xmoE hf
                            have hFc := xm_free hD hS hA
                            refine xx_thr (vx_runV (C := "ValueBenchModel") (As := []) (rest := []) ⟨hx, hb, hml, hown, htx⟩ (gM_limit_1 l hl9 D cT aK aV s.heap.size n aM ad rd gd vad st o4 hq5 hk6) ⟨callB_of 0 htx (xw_goodC kw_6_66) rfl rfl rfl (htx _ kw_1_5) (htx _ kw_6_63) ⟨by decide, by decide, by decide +kernel⟩ ⟨Nat.le_of_ble_eq_true rfl, Nat.le_of_ble_eq_true rfl⟩, (htx _ kw_6_65), (htx _ kp_M_limit)⟩ ⟨xPre_blind, va_recv hK hP (ci := 5) rfl (q0 := 0) rfl, (fun U hU hW => ⟨rfl, xPre_of hZ hS hFc hP hD hK U hU hW⟩)⟩ rfl rfl hl.1 rfl (xm_room (Nat.le_of_ble_eq_true rfl)) dM_times_221 ⟨hm7.1, hm7.2⟩) hS hFc (fun q _ h => hFc q h) (fun E ce q9 u9 t H1 locs ht hvm hr9 hB hz1 hk1 hS hce hcv hcl => ?_)
                            obtain ⟨rfl, hP1, hK1, hD1⟩ := hB
                            rw [ht] at hP1
                            obtain ⟨ad9, gd10, vad11⟩ := u9
                            obtain ⟨hv12, hn13⟩ := hr9
                            have hP : va_P D xcl (xMw cT aM ad9 rd gd10 vad11 st []) H1 := hP1
                            have hD : va_D A (xMw cT aM ad9 rd gd10 vad11 st []) := hD1.weaken (fun k q _ h => hFc q.1 h)
                            generalize H1 = H at hP hS hce ⊢
                            have hE9 : ∀ p, p < xct st → vad11 p = vad p := fun p h => (hv12 p (Nat.lt_of_lt_of_le h hN)).trans (hE p h)
                            have hE := hE9
                            have hN : xct st ≤ xct st := Nat.le_trans hN hn13
                            obtain rfl := Option.some.inj hf
                            exact vx_out (E := "java/lang/IndexOutOfBoundsException") (fun x h => (hne x h).elim) hlocks hce hcv hcl (fun t ht ha => ⟨(ad9, gd10, vad11), ⟨hE, hN⟩, ⟨rfl, by rw [ht]; exact hP, va_K.moved ha hK, hD⟩, hS.F ht⟩) hS.2.2 (Nat.le_refl _) (Nat.le_refl _)
                          rw [if_neg hk6] at hf
                          exact nomatch hf
                    · rw [if_neg hc] at hf
                      refine xm_aload_n hx hb (xvor _ _) dM_times_174 rfl (lv_at hl 1 rfl) ?_
                      refine xm_vget (v := .int ((xpi st 3) (c0 - 1))) hx hb htx hown hK hP 3 (by decide) hg1 rfl ((hZ.1 (103, "count", "I") (List.mem_of_getElem? (i := 3) rfl)).use rfl) rfl dM_times_175 ?_
                      refine lv_if_le (tgt := 197) hx hb dM_times_178 (by decide) (fun hc => ?_) (fun hc => ?_)
                      · rw [if_pos hc] at hf
                        refine xm_aload_n hx hb (xvor _ _) dM_times_197 rfl (lv_at hl 1 rfl) ?_
                        refine xm_vget (v := .int ((xpi st 3) (c0 - 1))) hx hb htx hown hK hP 3 (by decide) hg1 rfl ((hZ.1 (103, "count", "I") (List.mem_of_getElem? (i := 3) rfl)).use rfl) rfl dM_times_198 ?_
                        refine lv_if_le (tgt := 225) hx hb dM_times_201 (by decide) (fun hc => ?_) (fun hc => ?_)
                        · rw [if_pos hc] at hf
                          refine lv_aload_n hx hb dM_times_225 rfl (lv_at hl 0 rfl) ?_
                          refine xm_get (v := .int (xsi st 4)) hx hb htx hown hK hP 4 (by decide) rfl (htx _ kw_5_91) rfl dM_times_226 ?_
                          refine lv_istore_n (lv' := [(3, .int (xsi st 4)), (0, .ref aM), (1, xv vad c0), (2, xv vad c1)]) hx hb dM_times_229 rfl hl (by decide) (by simp only [List.filter, xvcat, xrscat, xcI, xcL, xcR, xcN]; rfl) (fun ls hl => ?_)
                          refine lv_lconst (v := 0) hx hb dM_times_230 (by decide) ?_
                          refine lv_lstore (lv' := [(4, .long 0), (3, .int (xsi st 4)), (0, .ref aM), (1, xv vad c0), (2, xv vad c1)]) hx hb dM_times_231 hl (by decide) rfl (fun ls hl => ?_)
                          exact key n (1, (0 : Int64), (xsi st 4), c0, c1, st, 0, 0) _ _ ls (⟨ad, gd, vad, rfl, hf, hP, hD, hS, lv_sub hl [0, 1, 2, 3, 4] rfl, hE, hN⟩)
                        · rw [if_neg hc] at hf
                          refine xm_aload_n hx hb (xvor _ _) dM_times_204 rfl (lv_at hl 2 rfl) ?_
                          refine xm_vget (v := .long ((xpl st) (c1 - 1))) hx hb htx hown hK hP 1 (by decide) hg2 rfl ((hZ.1 (96, "n", "J") (List.mem_of_getElem? (i := 1) rfl)).use rfl) rfl dM_times_205 ?_
                          refine lv_ldc hx hb hown (htx _ kw_6_62) dM_times_208 ?_
                          refine xm_aload_n hx hb (xvor _ _) dM_times_210 rfl (lv_at hl 1 rfl) ?_
                          refine xm_vget (v := .int ((xpi st 3) (c0 - 1))) hx hb htx hown hK hP 3 (by decide) hg1 rfl ((hZ.1 (103, "count", "I") (List.mem_of_getElem? (i := 3) rfl)).use rfl) rfl dM_times_211 ?_
                          obtain ⟨hg3, hf⟩ := xifn hf
                          refine lv_idiv hx hb dM_times_214 hg3 ?_
                          refine lv_i2l hx hb dM_times_215 rfl ?_
                          refine W.lcmp hx hb dM_times_216 ?_
                          refine lv_if_le (tgt := 225) hx hb dM_times_217 (by decide) (fun hc => ?_) (fun hc => ?_)
                          · rw [if_pos hc] at hf
                            refine lv_aload_n hx hb dM_times_225 rfl (lv_at hl 0 rfl) ?_
                            refine xm_get (v := .int (xsi st 4)) hx hb htx hown hK hP 4 (by decide) rfl (htx _ kw_5_91) rfl dM_times_226 ?_
                            refine lv_istore_n (lv' := [(3, .int (xsi st 4)), (0, .ref aM), (1, xv vad c0), (2, xv vad c1)]) hx hb dM_times_229 rfl hl (by decide) (by simp only [List.filter, xvcat, xrscat, xcI, xcL, xcR, xcN]; rfl) (fun ls hl => ?_)
                            refine lv_lconst (v := 0) hx hb dM_times_230 (by decide) ?_
                            refine lv_lstore (lv' := [(4, .long 0), (3, .int (xsi st 4)), (0, .ref aM), (1, xv vad c0), (2, xv vad c1)]) hx hb dM_times_231 hl (by decide) rfl (fun ls hl => ?_)
                            exact key n (1, (0 : Int64), (xsi st 4), c0, c1, st, 0, 0) _ _ ls (⟨ad, gd, vad, rfl, hf, hP, hD, hS, lv_sub hl [0, 1, 2, 3, 4] rfl, hE, hN⟩)
                          · rw [if_neg hc] at hf
                            refine lv_aload_n hx hb dM_times_220 rfl (lv_at hl 0 rfl) ?_
                            obtain ⟨o4, hq5, hf⟩ := xbind hf
                            have hl := lv_sub (l' := [(0, .ref aM)]) hl [0] rfl
                            by_cases hk6 : o4.1 = 1
                            · rw [if_pos hk6] at hf
                              obtain ⟨hm7, hf⟩ := xmoE hf
                              have hFc := xm_free hD hS hA
                              refine xx_thr (vx_runV (C := "ValueBenchModel") (As := []) (rest := []) ⟨hx, hb, hml, hown, htx⟩ (gM_limit_1 l hl9 D cT aK aV s.heap.size n aM ad rd gd vad st o4 hq5 hk6) ⟨callB_of 0 htx (xw_goodC kw_6_66) rfl rfl rfl (htx _ kw_1_5) (htx _ kw_6_63) ⟨by decide, by decide, by decide +kernel⟩ ⟨Nat.le_of_ble_eq_true rfl, Nat.le_of_ble_eq_true rfl⟩, (htx _ kw_6_65), (htx _ kp_M_limit)⟩ ⟨xPre_blind, va_recv hK hP (ci := 5) rfl (q0 := 0) rfl, (fun U hU hW => ⟨rfl, xPre_of hZ hS hFc hP hD hK U hU hW⟩)⟩ rfl rfl hl.1 rfl (xm_room (Nat.le_of_ble_eq_true rfl)) dM_times_221 ⟨hm7.1, hm7.2⟩) hS hFc (fun q _ h => hFc q h) (fun E ce q9 u9 t H1 locs ht hvm hr9 hB hz1 hk1 hS hce hcv hcl => ?_)
                              obtain ⟨rfl, hP1, hK1, hD1⟩ := hB
                              rw [ht] at hP1
                              obtain ⟨ad9, gd10, vad11⟩ := u9
                              obtain ⟨hv12, hn13⟩ := hr9
                              have hP : va_P D xcl (xMw cT aM ad9 rd gd10 vad11 st []) H1 := hP1
                              have hD : va_D A (xMw cT aM ad9 rd gd10 vad11 st []) := hD1.weaken (fun k q _ h => hFc q.1 h)
                              generalize H1 = H at hP hS hce ⊢
                              have hE9 : ∀ p, p < xct st → vad11 p = vad p := fun p h => (hv12 p (Nat.lt_of_lt_of_le h hN)).trans (hE p h)
                              have hE := hE9
                              have hN : xct st ≤ xct st := Nat.le_trans hN hn13
                              obtain rfl := Option.some.inj hf
                              exact vx_out (E := "java/lang/IndexOutOfBoundsException") (fun x h => (hne x h).elim) hlocks hce hcv hcl (fun t ht ha => ⟨(ad9, gd10, vad11), ⟨hE, hN⟩, ⟨rfl, by rw [ht]; exact hP, va_K.moved ha hK, hD⟩, hS.F ht⟩) hS.2.2 (Nat.le_refl _) (Nat.le_refl _)
                            rw [if_neg hk6] at hf
                            exact nomatch hf
                      · rw [if_neg hc] at hf
                        refine xm_aload_n hx hb (xvor _ _) dM_times_181 rfl (lv_at hl 2 rfl) ?_
                        refine xm_vget (v := .long ((xpl st) (c1 - 1))) hx hb htx hown hK hP 1 (by decide) hg2 rfl ((hZ.1 (96, "n", "J") (List.mem_of_getElem? (i := 1) rfl)).use rfl) rfl dM_times_182 ?_
                        refine lv_ldc2 hx hb hown (htx _ kw_6_108) dM_times_185 ?_
                        refine W.lcmp hx hb dM_times_188 ?_
                        refine lv_if_le (tgt := 197) hx hb dM_times_189 (by decide) (fun hc => ?_) (fun hc => ?_)
                        · rw [if_pos hc] at hf
                          refine xm_aload_n hx hb (xvor _ _) dM_times_197 rfl (lv_at hl 1 rfl) ?_
                          refine xm_vget (v := .int ((xpi st 3) (c0 - 1))) hx hb htx hown hK hP 3 (by decide) hg1 rfl ((hZ.1 (103, "count", "I") (List.mem_of_getElem? (i := 3) rfl)).use rfl) rfl dM_times_198 ?_
                          refine lv_if_le (tgt := 225) hx hb dM_times_201 (by decide) (fun hc => ?_) (fun hc => ?_)
                          · rw [if_pos hc] at hf
                            refine lv_aload_n hx hb dM_times_225 rfl (lv_at hl 0 rfl) ?_
                            refine xm_get (v := .int (xsi st 4)) hx hb htx hown hK hP 4 (by decide) rfl (htx _ kw_5_91) rfl dM_times_226 ?_
                            refine lv_istore_n (lv' := [(3, .int (xsi st 4)), (0, .ref aM), (1, xv vad c0), (2, xv vad c1)]) hx hb dM_times_229 rfl hl (by decide) (by simp only [List.filter, xvcat, xrscat, xcI, xcL, xcR, xcN]; rfl) (fun ls hl => ?_)
                            refine lv_lconst (v := 0) hx hb dM_times_230 (by decide) ?_
                            refine lv_lstore (lv' := [(4, .long 0), (3, .int (xsi st 4)), (0, .ref aM), (1, xv vad c0), (2, xv vad c1)]) hx hb dM_times_231 hl (by decide) rfl (fun ls hl => ?_)
                            exact key n (1, (0 : Int64), (xsi st 4), c0, c1, st, 0, 0) _ _ ls (⟨ad, gd, vad, rfl, hf, hP, hD, hS, lv_sub hl [0, 1, 2, 3, 4] rfl, hE, hN⟩)
                          · rw [if_neg hc] at hf
                            refine xm_aload_n hx hb (xvor _ _) dM_times_204 rfl (lv_at hl 2 rfl) ?_
                            refine xm_vget (v := .long ((xpl st) (c1 - 1))) hx hb htx hown hK hP 1 (by decide) hg2 rfl ((hZ.1 (96, "n", "J") (List.mem_of_getElem? (i := 1) rfl)).use rfl) rfl dM_times_205 ?_
                            refine lv_ldc hx hb hown (htx _ kw_6_62) dM_times_208 ?_
                            refine xm_aload_n hx hb (xvor _ _) dM_times_210 rfl (lv_at hl 1 rfl) ?_
                            refine xm_vget (v := .int ((xpi st 3) (c0 - 1))) hx hb htx hown hK hP 3 (by decide) hg1 rfl ((hZ.1 (103, "count", "I") (List.mem_of_getElem? (i := 3) rfl)).use rfl) rfl dM_times_211 ?_
                            obtain ⟨hg3, hf⟩ := xifn hf
                            refine lv_idiv hx hb dM_times_214 hg3 ?_
                            refine lv_i2l hx hb dM_times_215 rfl ?_
                            refine W.lcmp hx hb dM_times_216 ?_
                            refine lv_if_le (tgt := 225) hx hb dM_times_217 (by decide) (fun hc => ?_) (fun hc => ?_)
                            · rw [if_pos hc] at hf
                              refine lv_aload_n hx hb dM_times_225 rfl (lv_at hl 0 rfl) ?_
                              refine xm_get (v := .int (xsi st 4)) hx hb htx hown hK hP 4 (by decide) rfl (htx _ kw_5_91) rfl dM_times_226 ?_
                              refine lv_istore_n (lv' := [(3, .int (xsi st 4)), (0, .ref aM), (1, xv vad c0), (2, xv vad c1)]) hx hb dM_times_229 rfl hl (by decide) (by simp only [List.filter, xvcat, xrscat, xcI, xcL, xcR, xcN]; rfl) (fun ls hl => ?_)
                              refine lv_lconst (v := 0) hx hb dM_times_230 (by decide) ?_
                              refine lv_lstore (lv' := [(4, .long 0), (3, .int (xsi st 4)), (0, .ref aM), (1, xv vad c0), (2, xv vad c1)]) hx hb dM_times_231 hl (by decide) rfl (fun ls hl => ?_)
                              exact key n (1, (0 : Int64), (xsi st 4), c0, c1, st, 0, 0) _ _ ls (⟨ad, gd, vad, rfl, hf, hP, hD, hS, lv_sub hl [0, 1, 2, 3, 4] rfl, hE, hN⟩)
                            · rw [if_neg hc] at hf
                              refine lv_aload_n hx hb dM_times_220 rfl (lv_at hl 0 rfl) ?_
                              obtain ⟨o4, hq5, hf⟩ := xbind hf
                              have hl := lv_sub (l' := [(0, .ref aM)]) hl [0] rfl
                              by_cases hk6 : o4.1 = 1
                              · rw [if_pos hk6] at hf
                                obtain ⟨hm7, hf⟩ := xmoE hf
                                have hFc := xm_free hD hS hA
                                refine xx_thr (vx_runV (C := "ValueBenchModel") (As := []) (rest := []) ⟨hx, hb, hml, hown, htx⟩ (gM_limit_1 l hl9 D cT aK aV s.heap.size n aM ad rd gd vad st o4 hq5 hk6) ⟨callB_of 0 htx (xw_goodC kw_6_66) rfl rfl rfl (htx _ kw_1_5) (htx _ kw_6_63) ⟨by decide, by decide, by decide +kernel⟩ ⟨Nat.le_of_ble_eq_true rfl, Nat.le_of_ble_eq_true rfl⟩, (htx _ kw_6_65), (htx _ kp_M_limit)⟩ ⟨xPre_blind, va_recv hK hP (ci := 5) rfl (q0 := 0) rfl, (fun U hU hW => ⟨rfl, xPre_of hZ hS hFc hP hD hK U hU hW⟩)⟩ rfl rfl hl.1 rfl (xm_room (Nat.le_of_ble_eq_true rfl)) dM_times_221 ⟨hm7.1, hm7.2⟩) hS hFc (fun q _ h => hFc q h) (fun E ce q9 u9 t H1 locs ht hvm hr9 hB hz1 hk1 hS hce hcv hcl => ?_)
                                obtain ⟨rfl, hP1, hK1, hD1⟩ := hB
                                rw [ht] at hP1
                                obtain ⟨ad9, gd10, vad11⟩ := u9
                                obtain ⟨hv12, hn13⟩ := hr9
                                have hP : va_P D xcl (xMw cT aM ad9 rd gd10 vad11 st []) H1 := hP1
                                have hD : va_D A (xMw cT aM ad9 rd gd10 vad11 st []) := hD1.weaken (fun k q _ h => hFc q.1 h)
                                generalize H1 = H at hP hS hce ⊢
                                have hE9 : ∀ p, p < xct st → vad11 p = vad p := fun p h => (hv12 p (Nat.lt_of_lt_of_le h hN)).trans (hE p h)
                                have hE := hE9
                                have hN : xct st ≤ xct st := Nat.le_trans hN hn13
                                obtain rfl := Option.some.inj hf
                                exact vx_out (E := "java/lang/IndexOutOfBoundsException") (fun x h => (hne x h).elim) hlocks hce hcv hcl (fun t ht ha => ⟨(ad9, gd10, vad11), ⟨hE, hN⟩, ⟨rfl, by rw [ht]; exact hP, va_K.moved ha hK, hD⟩, hS.F ht⟩) hS.2.2 (Nat.le_refl _) (Nat.le_refl _)
                              rw [if_neg hk6] at hf
                              exact nomatch hf
                        · rw [if_neg hc] at hf
                          refine lv_aload_n hx hb dM_times_192 rfl (lv_at hl 0 rfl) ?_
                          obtain ⟨o3, hq4, hf⟩ := xbind hf
                          have hl := lv_sub (l' := [(0, .ref aM)]) hl [0] rfl
                          by_cases hk5 : o3.1 = 1
                          · rw [if_pos hk5] at hf
                            obtain ⟨hm6, hf⟩ := xmoE hf
                            have hFc := xm_free hD hS hA
                            refine xx_thr (vx_runV (C := "ValueBenchModel") (As := []) (rest := []) ⟨hx, hb, hml, hown, htx⟩ (gM_limit_1 l hl9 D cT aK aV s.heap.size n aM ad rd gd vad st o3 hq4 hk5) ⟨callB_of 0 htx (xw_goodC kw_6_66) rfl rfl rfl (htx _ kw_1_5) (htx _ kw_6_63) ⟨by decide, by decide, by decide +kernel⟩ ⟨Nat.le_of_ble_eq_true rfl, Nat.le_of_ble_eq_true rfl⟩, (htx _ kw_6_65), (htx _ kp_M_limit)⟩ ⟨xPre_blind, va_recv hK hP (ci := 5) rfl (q0 := 0) rfl, (fun U hU hW => ⟨rfl, xPre_of hZ hS hFc hP hD hK U hU hW⟩)⟩ rfl rfl hl.1 rfl (xm_room (Nat.le_of_ble_eq_true rfl)) dM_times_193 ⟨hm6.1, hm6.2⟩) hS hFc (fun q _ h => hFc q h) (fun E ce q9 u9 t H1 locs ht hvm hr9 hB hz1 hk1 hS hce hcv hcl => ?_)
                            obtain ⟨rfl, hP1, hK1, hD1⟩ := hB
                            rw [ht] at hP1
                            obtain ⟨ad8, gd9, vad10⟩ := u9
                            obtain ⟨hv11, hn12⟩ := hr9
                            have hP : va_P D xcl (xMw cT aM ad8 rd gd9 vad10 st []) H1 := hP1
                            have hD : va_D A (xMw cT aM ad8 rd gd9 vad10 st []) := hD1.weaken (fun k q _ h => hFc q.1 h)
                            generalize H1 = H at hP hS hce ⊢
                            have hE9 : ∀ p, p < xct st → vad10 p = vad p := fun p h => (hv11 p (Nat.lt_of_lt_of_le h hN)).trans (hE p h)
                            have hE := hE9
                            have hN : xct st ≤ xct st := Nat.le_trans hN hn12
                            obtain rfl := Option.some.inj hf
                            exact vx_out (E := "java/lang/IndexOutOfBoundsException") (fun x h => (hne x h).elim) hlocks hce hcv hcl (fun t ht ha => ⟨(ad8, gd9, vad10), ⟨hE, hN⟩, ⟨rfl, by rw [ht]; exact hP, va_K.moved ha hK, hD⟩, hS.F ht⟩) hS.2.2 (Nat.le_refl _) (Nat.le_refl _)
                          rw [if_neg hk5] at hf
                          exact nomatch hf
                  · rw [if_neg hc] at hf
                    refine lv_aload_n hx hb dM_times_149 rfl (lv_at hl 0 rfl) ?_
                    refine lv_iconst (v := 0) hx hb dM_times_150 (by decide) ?_
                    obtain ⟨o3, hq4, hf⟩ := xbind hf
                    have hl := lv_sub (l' := [(0, .ref aM)]) hl [0] rfl
                    obtain ⟨hm5, hf⟩ := xmoE hf
                    have hFc := xm_free hD hS hA
                    refine va_callq (va_runV (C := "ValueBenchModel") (As := [.int 0]) (rest := []) ⟨hx, hb, hml, hown, htx⟩ (gM_fresh l hl9 D cT aK aV s.heap.size n aM ad rd gd vad st (0 : Int32) o3 hq4) ⟨callB_of 1 htx (xw_goodC kw_6_16) rfl rfl rfl (htx _ kw_1_5) (htx _ kw_6_13) ⟨by decide, by decide, by decide +kernel⟩ ⟨Nat.le_of_ble_eq_true rfl, Nat.le_of_ble_eq_true rfl⟩, (htx _ kw_6_15), (htx _ kp_M_fresh)⟩ ⟨xPre_blind, va_recv hK hP (ci := 5) rfl (q0 := 0) rfl, (fun U hU hW => ⟨rfl, xPre_of hZ hS hFc hP hD hK U hU hW⟩)⟩ rfl rfl hl.1 rfl (xm_room (Nat.le_of_ble_eq_true rfl)) dM_times_151 ⟨hm5.1, hm5.2⟩) hS (fun q _ h => hFc q h) hFc (fun r6 u9 t H1 locs ht hvm hr9 hB hz1 hk1 hS => ?_)
                    obtain ⟨hP1, hK1, hD1⟩ := hB
                    rw [ht] at hP1
                    obtain ⟨ad7, gd8, vad9⟩ := u9
                    obtain ⟨hr9, hv10, hn11⟩ := hr9
                    have hP : va_P D xcl (xMw cT aM ad7 rd gd8 vad9 o3.2.2.2 []) H1 := hP1
                    have hD : va_D A (xMw cT aM ad7 rd gd8 vad9 o3.2.2.2 []) := hD1.weaken (fun k q _ h => hFc q.1 h)
                    generalize H1 = H at hP hS ⊢
                    have hE9 : ∀ p, p < xct st → vad9 p = vad p := fun p h => (hv10 p (Nat.lt_of_lt_of_le h hN)).trans (hE p h)
                    have hE := hE9
                    have hN : xct st ≤ xct o3.2.2.2 := Nat.le_trans hN hn11
                    rw [hr9]
                    refine W.eq (g2 := F0 m 154 ls [xv vad9 o3.2.2.1]) (by first | rfl | (skip; rfl)) ?_
                    obtain rfl := Option.some.inj hf
                    exact absurd (show (0 : Nat) = 2 from hkd) (by decide)
                · rw [if_neg hc] at hf
                  refine lv_aload_n hx hb dM_times_134 rfl (lv_at hl 0 rfl) ?_
                  refine lv_iconst (v := 1) hx hb dM_times_135 (by decide) ?_
                  obtain ⟨o3, hq4, hf⟩ := xbind hf
                  have hl := lv_sub (l' := [(0, .ref aM)]) hl [0] rfl
                  by_cases hk5 : o3.1 = 1
                  · rw [if_pos hk5] at hf
                    obtain ⟨hm6, hf⟩ := xmoE hf
                    obtain rfl := Option.some.inj hf
                    exact absurd (show (1 : Nat) = 2 from hkd) (by decide)
                  rw [if_neg hk5] at hf
                  exact nomatch hf
            · rw [if_pos hc] at hf
              refine lv_aload_n hx hb dM_times_111 rfl (lv_at hl 0 rfl) ?_
              refine xm_aload_n hx hb (xvor _ _) dM_times_112 rfl (lv_at hl 2 rfl) ?_
              refine xm_aload_n hx hb (xvor _ _) dM_times_113 rfl (lv_at hl 1 rfl) ?_
              obtain ⟨o3, hq4, hf⟩ := xbind hf
              have hl := lv_sub (l' := [(0, .ref aM)]) hl [0] rfl
              by_cases hk5 : o3.1 = 0
              · rw [if_pos hk5] at hf
                obtain ⟨hm6, hf⟩ := xmoE hf
                have hFc := xm_free hD hS hA
                refine va_callq (va_runV (C := "ValueBenchModel") (As := [xv vad c1, xv vad c0]) (rest := []) ⟨hx, hb, hml, hown, htx⟩ ((hrec s.heap.size aM ad rd gd vad st c1 c0 o3 hq4).1 hk5) ⟨callB_of 2 htx (xw_goodC kw_6_215) rfl rfl rfl (htx _ kw_1_5) (htx _ kw_6_212) ⟨by decide, by decide, by decide +kernel⟩ ⟨(by show (16 * d) + 1 ≤ 16 * (d + 1); omega), (by show 8 + (7 + 11) + (400 * d) ≤ 400 * (d + 1); omega)⟩, (htx _ kw_6_214), (htx _ kp_M_times)⟩ ⟨xPre_blind, va_recv hK hP (ci := 5) rfl (q0 := 0) rfl, (fun U hU hW => ⟨rfl, xPre_of hZ hS hFc hP hD hK U hU hW⟩)⟩ rfl rfl hl.1 rfl (xm_room (Nat.le_of_ble_eq_true rfl)) dM_times_114 ⟨hm6.1, hm6.2⟩) hS (fun q _ h => hFc q h) hFc (fun r7 u9 t H1 locs ht hvm hr9 hB hz1 hk1 hS => ?_)
                obtain ⟨hP1, hK1, hD1⟩ := hB
                rw [ht] at hP1
                obtain ⟨ad8, gd9, vad10⟩ := u9
                obtain ⟨hr9, hv11, hn12⟩ := hr9
                have hP : va_P D xcl (xMw cT aM ad8 rd gd9 vad10 o3.2.2.2.2 []) H1 := hP1
                have hD : va_D A (xMw cT aM ad8 rd gd9 vad10 o3.2.2.2.2 []) := hD1.weaken (fun k q _ h => hFc q.1 h)
                generalize H1 = H at hP hS ⊢
                have hE9 : ∀ p, p < xct st → vad10 p = vad p := fun p h => (hv11 p (Nat.lt_of_lt_of_le h hN)).trans (hE p h)
                have hE := hE9
                have hN : xct st ≤ xct o3.2.2.2.2 := Nat.le_trans hN hn12
                rw [hr9]
                refine W.eq (g2 := F0 m 117 ls [xv vad10 o3.2.2.2.1]) (by first | rfl | (skip; rfl)) ?_
                obtain rfl := Option.some.inj hf
                exact absurd (show (0 : Nat) = 2 from hkd) (by decide)
              rw [if_neg hk5] at hf
              by_cases hk13 : o3.1 = 1
              · rw [if_pos hk13] at hf
                obtain ⟨hm14, hf⟩ := xmoE hf
                obtain rfl := Option.some.inj hf
                exact absurd (show (1 : Nat) = 2 from hkd) (by decide)
              rw [if_neg hk13] at hf
              by_cases hk21 : o3.1 = 2
              · rw [if_pos hk21] at hf
                obtain ⟨hm22, hf⟩ := xmoE hf
                have hFc := xm_free hD hS hA
                refine xx_thr (vx_runV (C := "ValueBenchModel") (As := [xv vad c1, xv vad c0]) (rest := []) ⟨hx, hb, hml, hown, htx⟩ ((hrec s.heap.size aM ad rd gd vad st c1 c0 o3 hq4).2.2 hk21) ⟨callB_of 2 htx (xw_goodC kw_6_215) rfl rfl rfl (htx _ kw_1_5) (htx _ kw_6_212) ⟨by decide, by decide, by decide +kernel⟩ ⟨(by show (16 * d) + 1 ≤ 16 * (d + 1); omega), (by show 8 + (7 + 11) + (400 * d) ≤ 400 * (d + 1); omega)⟩, (htx _ kw_6_214), (htx _ kp_M_times)⟩ ⟨xPre_blind, va_recv hK hP (ci := 5) rfl (q0 := 0) rfl, (fun U hU hW => ⟨rfl, xPre_of hZ hS hFc hP hD hK U hU hW⟩)⟩ rfl rfl hl.1 rfl (xm_room (Nat.le_of_ble_eq_true rfl)) dM_times_114 ⟨hm22.1, hm22.2⟩) hS hFc (fun q _ h => hFc q h) (fun E ce q9 u9 t H1 locs ht hvm hr9 hB hz1 hk1 hS hce hcv hcl => ?_)
                obtain ⟨rfl, hP1, hK1, hD1⟩ := hB
                rw [ht] at hP1
                obtain ⟨ad24, gd25, vad26⟩ := u9
                obtain ⟨hv27, hn28⟩ := hr9
                have hP : va_P D xcl (xMw cT aM ad24 rd gd25 vad26 o3.2.2.2.2 []) H1 := hP1
                have hD : va_D A (xMw cT aM ad24 rd gd25 vad26 o3.2.2.2.2 []) := hD1.weaken (fun k q _ h => hFc q.1 h)
                generalize H1 = H at hP hS hce ⊢
                have hE9 : ∀ p, p < xct st → vad26 p = vad p := fun p h => (hv27 p (Nat.lt_of_lt_of_le h hN)).trans (hE p h)
                have hE := hE9
                have hN : xct st ≤ xct o3.2.2.2.2 := Nat.le_trans hN hn28
                obtain rfl := Option.some.inj hf
                exact vx_out (E := "java/lang/IndexOutOfBoundsException") (fun x h => (hne x h).elim) hlocks hce hcv hcl (fun t ht ha => ⟨(ad24, gd25, vad26), ⟨hE, hN⟩, ⟨rfl, by rw [ht]; exact hP, va_K.moved ha hK, hD⟩, hS.F ht⟩) hS.2.2 (Nat.le_refl _) (Nat.le_refl _)
              rw [if_neg hk21] at hf
              exact nomatch hf
        · rw [if_pos hc] at hf
          refine xm_aload_n hx hb (xvor _ _) dM_times_79 rfl (lv_at hl 2 rfl) ?_
          obtain ⟨hg2, hf⟩ := xifn hf
          refine xm_vget (v := .int ((xpi st 0) (c1 - 1))) hx hb htx hown hK hP 0 (by decide) hg2 rfl ((hZ.1 (93, "kind", "I") (List.mem_of_getElem? (i := 0) rfl)).use rfl) rfl dM_times_80 ?_
          refine lv_bipush (v := 6) hx hb dM_times_83 (by decide) ?_
          refine lv_icmp_ne (tgt := 95) hx hb dM_times_85 (by decide) (fun hc => ?_) (fun hc => ?_)
          · rw [if_neg hc] at hf
            refine xm_aload_n hx hb (xvor _ _) dM_times_95 rfl (lv_at hl 1 rfl) ?_
            refine xm_vget (v := .int ((xpi st 0) (c0 - 1))) hx hb htx hown hK hP 0 (by decide) hg1 rfl ((hZ.1 (93, "kind", "I") (List.mem_of_getElem? (i := 0) rfl)).use rfl) rfl dM_times_96 ?_
            refine lv_iconst (v := 3) hx hb dM_times_99 (by decide) ?_
            refine lv_icmp_ne (tgt := 118) hx hb dM_times_100 (by decide) (fun hc => ?_) (fun hc => ?_)
            · rw [if_neg hc] at hf
              refine xm_aload_n hx hb (xvor _ _) dM_times_118 rfl (lv_at hl 1 rfl) ?_
              refine xm_vget (v := .int ((xpi st 0) (c0 - 1))) hx hb htx hown hK hP 0 (by decide) hg1 rfl ((hZ.1 (93, "kind", "I") (List.mem_of_getElem? (i := 0) rfl)).use rfl) rfl dM_times_119 ?_
              refine lv_iconst (v := 4) hx hb dM_times_122 (by decide) ?_
              refine lv_icmp_ne (tgt := 134) hx hb dM_times_123 (by decide) (fun hc => ?_) (fun hc => ?_)
              · rw [if_neg hc] at hf
                refine lv_aload_n hx hb dM_times_134 rfl (lv_at hl 0 rfl) ?_
                refine lv_iconst (v := 1) hx hb dM_times_135 (by decide) ?_
                obtain ⟨o3, hq4, hf⟩ := xbind hf
                have hl := lv_sub (l' := [(0, .ref aM)]) hl [0] rfl
                by_cases hk5 : o3.1 = 1
                · rw [if_pos hk5] at hf
                  obtain ⟨hm6, hf⟩ := xmoE hf
                  obtain rfl := Option.some.inj hf
                  exact absurd (show (1 : Nat) = 2 from hkd) (by decide)
                rw [if_neg hk5] at hf
                exact nomatch hf
              · rw [if_pos hc] at hf
                refine xm_aload_n hx hb (xvor _ _) dM_times_126 rfl (lv_at hl 2 rfl) ?_
                refine xm_vget (v := .int ((xpi st 0) (c1 - 1))) hx hb htx hown hK hP 0 (by decide) hg2 rfl ((hZ.1 (93, "kind", "I") (List.mem_of_getElem? (i := 0) rfl)).use rfl) rfl dM_times_127 ?_
                refine lv_iconst (v := 3) hx hb dM_times_130 (by decide) ?_
                refine lv_icmp_eq (tgt := 140) hx hb dM_times_131 (by decide) (fun hc => ?_) (fun hc => ?_)
                · rw [if_pos hc] at hf
                  refine xm_aload_n hx hb (xvor _ _) dM_times_140 rfl (lv_at hl 2 rfl) ?_
                  refine xm_vget (v := .long ((xpl st) (c1 - 1))) hx hb htx hown hK hP 1 (by decide) hg2 rfl ((hZ.1 (96, "n", "J") (List.mem_of_getElem? (i := 1) rfl)).use rfl) rfl dM_times_141 ?_
                  refine lv_lconst (v := 1) hx hb dM_times_144 (by decide) ?_
                  refine W.lcmp hx hb dM_times_145 ?_
                  refine lv_if_ge (tgt := 155) hx hb dM_times_146 (by decide) (fun hc => ?_) (fun hc => ?_)
                  · rw [if_pos hc] at hf
                    refine xm_aload_n hx hb (xvor _ _) dM_times_155 rfl (lv_at hl 2 rfl) ?_
                    refine xm_vget (v := .long ((xpl st) (c1 - 1))) hx hb htx hown hK hP 1 (by decide) hg2 rfl ((hZ.1 (96, "n", "J") (List.mem_of_getElem? (i := 1) rfl)).use rfl) rfl dM_times_156 ?_
                    refine xm_aload_n hx hb (xvor _ _) dM_times_159 rfl (lv_at hl 1 rfl) ?_
                    refine xm_vget (v := .int ((xpi st 3) (c0 - 1))) hx hb htx hown hK hP 3 (by decide) hg1 rfl ((hZ.1 (103, "count", "I") (List.mem_of_getElem? (i := 3) rfl)).use rfl) rfl dM_times_160 ?_
                    refine lv_i2l hx hb dM_times_163 rfl ?_
                    refine lv_lconst (v := 1) hx hb dM_times_164 (by decide) ?_
                    refine lv_ladd hx hb dM_times_165 ?_
                    refine lv_lmul hx hb dM_times_166 ?_
                    refine lv_ldc2 hx hb hown (htx _ kw_6_221) dM_times_167 ?_
                    refine W.lcmp hx hb dM_times_170 ?_
                    refine lv_if_le (tgt := 197) hx hb dM_times_171 (by decide) (fun hc => ?_) (fun hc => ?_)
                    · rw [if_pos hc] at hf
                      refine xm_aload_n hx hb (xvor _ _) dM_times_197 rfl (lv_at hl 1 rfl) ?_
                      refine xm_vget (v := .int ((xpi st 3) (c0 - 1))) hx hb htx hown hK hP 3 (by decide) hg1 rfl ((hZ.1 (103, "count", "I") (List.mem_of_getElem? (i := 3) rfl)).use rfl) rfl dM_times_198 ?_
                      refine lv_if_le (tgt := 225) hx hb dM_times_201 (by decide) (fun hc => ?_) (fun hc => ?_)
                      · rw [if_pos hc] at hf
                        refine lv_aload_n hx hb dM_times_225 rfl (lv_at hl 0 rfl) ?_
                        refine xm_get (v := .int (xsi st 4)) hx hb htx hown hK hP 4 (by decide) rfl (htx _ kw_5_91) rfl dM_times_226 ?_
                        refine lv_istore_n (lv' := [(3, .int (xsi st 4)), (0, .ref aM), (1, xv vad c0), (2, xv vad c1)]) hx hb dM_times_229 rfl hl (by decide) (by simp only [List.filter, xvcat, xrscat, xcI, xcL, xcR, xcN]; rfl) (fun ls hl => ?_)
                        refine lv_lconst (v := 0) hx hb dM_times_230 (by decide) ?_
                        refine lv_lstore (lv' := [(4, .long 0), (3, .int (xsi st 4)), (0, .ref aM), (1, xv vad c0), (2, xv vad c1)]) hx hb dM_times_231 hl (by decide) rfl (fun ls hl => ?_)
                        exact key n (1, (0 : Int64), (xsi st 4), c0, c1, st, 0, 0) _ _ ls (⟨ad, gd, vad, rfl, hf, hP, hD, hS, lv_sub hl [0, 1, 2, 3, 4] rfl, hE, hN⟩)
                      · rw [if_neg hc] at hf
                        refine xm_aload_n hx hb (xvor _ _) dM_times_204 rfl (lv_at hl 2 rfl) ?_
                        refine xm_vget (v := .long ((xpl st) (c1 - 1))) hx hb htx hown hK hP 1 (by decide) hg2 rfl ((hZ.1 (96, "n", "J") (List.mem_of_getElem? (i := 1) rfl)).use rfl) rfl dM_times_205 ?_
                        refine lv_ldc hx hb hown (htx _ kw_6_62) dM_times_208 ?_
                        refine xm_aload_n hx hb (xvor _ _) dM_times_210 rfl (lv_at hl 1 rfl) ?_
                        refine xm_vget (v := .int ((xpi st 3) (c0 - 1))) hx hb htx hown hK hP 3 (by decide) hg1 rfl ((hZ.1 (103, "count", "I") (List.mem_of_getElem? (i := 3) rfl)).use rfl) rfl dM_times_211 ?_
                        obtain ⟨hg3, hf⟩ := xifn hf
                        refine lv_idiv hx hb dM_times_214 hg3 ?_
                        refine lv_i2l hx hb dM_times_215 rfl ?_
                        refine W.lcmp hx hb dM_times_216 ?_
                        refine lv_if_le (tgt := 225) hx hb dM_times_217 (by decide) (fun hc => ?_) (fun hc => ?_)
                        · rw [if_pos hc] at hf
                          refine lv_aload_n hx hb dM_times_225 rfl (lv_at hl 0 rfl) ?_
                          refine xm_get (v := .int (xsi st 4)) hx hb htx hown hK hP 4 (by decide) rfl (htx _ kw_5_91) rfl dM_times_226 ?_
                          refine lv_istore_n (lv' := [(3, .int (xsi st 4)), (0, .ref aM), (1, xv vad c0), (2, xv vad c1)]) hx hb dM_times_229 rfl hl (by decide) (by simp only [List.filter, xvcat, xrscat, xcI, xcL, xcR, xcN]; rfl) (fun ls hl => ?_)
                          refine lv_lconst (v := 0) hx hb dM_times_230 (by decide) ?_
                          refine lv_lstore (lv' := [(4, .long 0), (3, .int (xsi st 4)), (0, .ref aM), (1, xv vad c0), (2, xv vad c1)]) hx hb dM_times_231 hl (by decide) rfl (fun ls hl => ?_)
                          exact key n (1, (0 : Int64), (xsi st 4), c0, c1, st, 0, 0) _ _ ls (⟨ad, gd, vad, rfl, hf, hP, hD, hS, lv_sub hl [0, 1, 2, 3, 4] rfl, hE, hN⟩)
                        · rw [if_neg hc] at hf
                          refine lv_aload_n hx hb dM_times_220 rfl (lv_at hl 0 rfl) ?_
                          obtain ⟨o4, hq5, hf⟩ := xbind hf
                          have hl := lv_sub (l' := [(0, .ref aM)]) hl [0] rfl
                          by_cases hk6 : o4.1 = 1
                          · rw [if_pos hk6] at hf
                            obtain ⟨hm7, hf⟩ := xmoE hf
                            have hFc := xm_free hD hS hA
                            refine xx_thr (vx_runV (C := "ValueBenchModel") (As := []) (rest := []) ⟨hx, hb, hml, hown, htx⟩ (gM_limit_1 l hl9 D cT aK aV s.heap.size n aM ad rd gd vad st o4 hq5 hk6) ⟨callB_of 0 htx (xw_goodC kw_6_66) rfl rfl rfl (htx _ kw_1_5) (htx _ kw_6_63) ⟨by decide, by decide, by decide +kernel⟩ ⟨Nat.le_of_ble_eq_true rfl, Nat.le_of_ble_eq_true rfl⟩, (htx _ kw_6_65), (htx _ kp_M_limit)⟩ ⟨xPre_blind, va_recv hK hP (ci := 5) rfl (q0 := 0) rfl, (fun U hU hW => ⟨rfl, xPre_of hZ hS hFc hP hD hK U hU hW⟩)⟩ rfl rfl hl.1 rfl (xm_room (Nat.le_of_ble_eq_true rfl)) dM_times_221 ⟨hm7.1, hm7.2⟩) hS hFc (fun q _ h => hFc q h) (fun E ce q9 u9 t H1 locs ht hvm hr9 hB hz1 hk1 hS hce hcv hcl => ?_)
                            obtain ⟨rfl, hP1, hK1, hD1⟩ := hB
                            rw [ht] at hP1
                            obtain ⟨ad9, gd10, vad11⟩ := u9
                            obtain ⟨hv12, hn13⟩ := hr9
                            have hP : va_P D xcl (xMw cT aM ad9 rd gd10 vad11 st []) H1 := hP1
                            have hD : va_D A (xMw cT aM ad9 rd gd10 vad11 st []) := hD1.weaken (fun k q _ h => hFc q.1 h)
                            generalize H1 = H at hP hS hce ⊢
                            have hE9 : ∀ p, p < xct st → vad11 p = vad p := fun p h => (hv12 p (Nat.lt_of_lt_of_le h hN)).trans (hE p h)
                            have hE := hE9
                            have hN : xct st ≤ xct st := Nat.le_trans hN hn13
                            obtain rfl := Option.some.inj hf
                            exact vx_out (E := "java/lang/IndexOutOfBoundsException") (fun x h => (hne x h).elim) hlocks hce hcv hcl (fun t ht ha => ⟨(ad9, gd10, vad11), ⟨hE, hN⟩, ⟨rfl, by rw [ht]; exact hP, va_K.moved ha hK, hD⟩, hS.F ht⟩) hS.2.2 (Nat.le_refl _) (Nat.le_refl _)
                          rw [if_neg hk6] at hf
                          exact nomatch hf
                    · rw [if_neg hc] at hf
                      refine xm_aload_n hx hb (xvor _ _) dM_times_174 rfl (lv_at hl 1 rfl) ?_
                      refine xm_vget (v := .int ((xpi st 3) (c0 - 1))) hx hb htx hown hK hP 3 (by decide) hg1 rfl ((hZ.1 (103, "count", "I") (List.mem_of_getElem? (i := 3) rfl)).use rfl) rfl dM_times_175 ?_
                      refine lv_if_le (tgt := 197) hx hb dM_times_178 (by decide) (fun hc => ?_) (fun hc => ?_)
                      · rw [if_pos hc] at hf
                        refine xm_aload_n hx hb (xvor _ _) dM_times_197 rfl (lv_at hl 1 rfl) ?_
                        refine xm_vget (v := .int ((xpi st 3) (c0 - 1))) hx hb htx hown hK hP 3 (by decide) hg1 rfl ((hZ.1 (103, "count", "I") (List.mem_of_getElem? (i := 3) rfl)).use rfl) rfl dM_times_198 ?_
                        refine lv_if_le (tgt := 225) hx hb dM_times_201 (by decide) (fun hc => ?_) (fun hc => ?_)
                        · rw [if_pos hc] at hf
                          refine lv_aload_n hx hb dM_times_225 rfl (lv_at hl 0 rfl) ?_
                          refine xm_get (v := .int (xsi st 4)) hx hb htx hown hK hP 4 (by decide) rfl (htx _ kw_5_91) rfl dM_times_226 ?_
                          refine lv_istore_n (lv' := [(3, .int (xsi st 4)), (0, .ref aM), (1, xv vad c0), (2, xv vad c1)]) hx hb dM_times_229 rfl hl (by decide) (by simp only [List.filter, xvcat, xrscat, xcI, xcL, xcR, xcN]; rfl) (fun ls hl => ?_)
                          refine lv_lconst (v := 0) hx hb dM_times_230 (by decide) ?_
                          refine lv_lstore (lv' := [(4, .long 0), (3, .int (xsi st 4)), (0, .ref aM), (1, xv vad c0), (2, xv vad c1)]) hx hb dM_times_231 hl (by decide) rfl (fun ls hl => ?_)
                          exact key n (1, (0 : Int64), (xsi st 4), c0, c1, st, 0, 0) _ _ ls (⟨ad, gd, vad, rfl, hf, hP, hD, hS, lv_sub hl [0, 1, 2, 3, 4] rfl, hE, hN⟩)
                        · rw [if_neg hc] at hf
                          refine xm_aload_n hx hb (xvor _ _) dM_times_204 rfl (lv_at hl 2 rfl) ?_
                          refine xm_vget (v := .long ((xpl st) (c1 - 1))) hx hb htx hown hK hP 1 (by decide) hg2 rfl ((hZ.1 (96, "n", "J") (List.mem_of_getElem? (i := 1) rfl)).use rfl) rfl dM_times_205 ?_
                          refine lv_ldc hx hb hown (htx _ kw_6_62) dM_times_208 ?_
                          refine xm_aload_n hx hb (xvor _ _) dM_times_210 rfl (lv_at hl 1 rfl) ?_
                          refine xm_vget (v := .int ((xpi st 3) (c0 - 1))) hx hb htx hown hK hP 3 (by decide) hg1 rfl ((hZ.1 (103, "count", "I") (List.mem_of_getElem? (i := 3) rfl)).use rfl) rfl dM_times_211 ?_
                          obtain ⟨hg3, hf⟩ := xifn hf
                          refine lv_idiv hx hb dM_times_214 hg3 ?_
                          refine lv_i2l hx hb dM_times_215 rfl ?_
                          refine W.lcmp hx hb dM_times_216 ?_
                          refine lv_if_le (tgt := 225) hx hb dM_times_217 (by decide) (fun hc => ?_) (fun hc => ?_)
                          · rw [if_pos hc] at hf
                            refine lv_aload_n hx hb dM_times_225 rfl (lv_at hl 0 rfl) ?_
                            refine xm_get (v := .int (xsi st 4)) hx hb htx hown hK hP 4 (by decide) rfl (htx _ kw_5_91) rfl dM_times_226 ?_
                            refine lv_istore_n (lv' := [(3, .int (xsi st 4)), (0, .ref aM), (1, xv vad c0), (2, xv vad c1)]) hx hb dM_times_229 rfl hl (by decide) (by simp only [List.filter, xvcat, xrscat, xcI, xcL, xcR, xcN]; rfl) (fun ls hl => ?_)
                            refine lv_lconst (v := 0) hx hb dM_times_230 (by decide) ?_
                            refine lv_lstore (lv' := [(4, .long 0), (3, .int (xsi st 4)), (0, .ref aM), (1, xv vad c0), (2, xv vad c1)]) hx hb dM_times_231 hl (by decide) rfl (fun ls hl => ?_)
                            exact key n (1, (0 : Int64), (xsi st 4), c0, c1, st, 0, 0) _ _ ls (⟨ad, gd, vad, rfl, hf, hP, hD, hS, lv_sub hl [0, 1, 2, 3, 4] rfl, hE, hN⟩)
                          · rw [if_neg hc] at hf
                            refine lv_aload_n hx hb dM_times_220 rfl (lv_at hl 0 rfl) ?_
                            obtain ⟨o4, hq5, hf⟩ := xbind hf
                            have hl := lv_sub (l' := [(0, .ref aM)]) hl [0] rfl
                            by_cases hk6 : o4.1 = 1
                            · rw [if_pos hk6] at hf
                              obtain ⟨hm7, hf⟩ := xmoE hf
                              have hFc := xm_free hD hS hA
                              refine xx_thr (vx_runV (C := "ValueBenchModel") (As := []) (rest := []) ⟨hx, hb, hml, hown, htx⟩ (gM_limit_1 l hl9 D cT aK aV s.heap.size n aM ad rd gd vad st o4 hq5 hk6) ⟨callB_of 0 htx (xw_goodC kw_6_66) rfl rfl rfl (htx _ kw_1_5) (htx _ kw_6_63) ⟨by decide, by decide, by decide +kernel⟩ ⟨Nat.le_of_ble_eq_true rfl, Nat.le_of_ble_eq_true rfl⟩, (htx _ kw_6_65), (htx _ kp_M_limit)⟩ ⟨xPre_blind, va_recv hK hP (ci := 5) rfl (q0 := 0) rfl, (fun U hU hW => ⟨rfl, xPre_of hZ hS hFc hP hD hK U hU hW⟩)⟩ rfl rfl hl.1 rfl (xm_room (Nat.le_of_ble_eq_true rfl)) dM_times_221 ⟨hm7.1, hm7.2⟩) hS hFc (fun q _ h => hFc q h) (fun E ce q9 u9 t H1 locs ht hvm hr9 hB hz1 hk1 hS hce hcv hcl => ?_)
                              obtain ⟨rfl, hP1, hK1, hD1⟩ := hB
                              rw [ht] at hP1
                              obtain ⟨ad9, gd10, vad11⟩ := u9
                              obtain ⟨hv12, hn13⟩ := hr9
                              have hP : va_P D xcl (xMw cT aM ad9 rd gd10 vad11 st []) H1 := hP1
                              have hD : va_D A (xMw cT aM ad9 rd gd10 vad11 st []) := hD1.weaken (fun k q _ h => hFc q.1 h)
                              generalize H1 = H at hP hS hce ⊢
                              have hE9 : ∀ p, p < xct st → vad11 p = vad p := fun p h => (hv12 p (Nat.lt_of_lt_of_le h hN)).trans (hE p h)
                              have hE := hE9
                              have hN : xct st ≤ xct st := Nat.le_trans hN hn13
                              obtain rfl := Option.some.inj hf
                              exact vx_out (E := "java/lang/IndexOutOfBoundsException") (fun x h => (hne x h).elim) hlocks hce hcv hcl (fun t ht ha => ⟨(ad9, gd10, vad11), ⟨hE, hN⟩, ⟨rfl, by rw [ht]; exact hP, va_K.moved ha hK, hD⟩, hS.F ht⟩) hS.2.2 (Nat.le_refl _) (Nat.le_refl _)
                            rw [if_neg hk6] at hf
                            exact nomatch hf
                      · rw [if_neg hc] at hf
                        refine xm_aload_n hx hb (xvor _ _) dM_times_181 rfl (lv_at hl 2 rfl) ?_
                        refine xm_vget (v := .long ((xpl st) (c1 - 1))) hx hb htx hown hK hP 1 (by decide) hg2 rfl ((hZ.1 (96, "n", "J") (List.mem_of_getElem? (i := 1) rfl)).use rfl) rfl dM_times_182 ?_
                        refine lv_ldc2 hx hb hown (htx _ kw_6_108) dM_times_185 ?_
                        refine W.lcmp hx hb dM_times_188 ?_
                        refine lv_if_le (tgt := 197) hx hb dM_times_189 (by decide) (fun hc => ?_) (fun hc => ?_)
                        · rw [if_pos hc] at hf
                          refine xm_aload_n hx hb (xvor _ _) dM_times_197 rfl (lv_at hl 1 rfl) ?_
                          refine xm_vget (v := .int ((xpi st 3) (c0 - 1))) hx hb htx hown hK hP 3 (by decide) hg1 rfl ((hZ.1 (103, "count", "I") (List.mem_of_getElem? (i := 3) rfl)).use rfl) rfl dM_times_198 ?_
                          refine lv_if_le (tgt := 225) hx hb dM_times_201 (by decide) (fun hc => ?_) (fun hc => ?_)
                          · rw [if_pos hc] at hf
                            refine lv_aload_n hx hb dM_times_225 rfl (lv_at hl 0 rfl) ?_
                            refine xm_get (v := .int (xsi st 4)) hx hb htx hown hK hP 4 (by decide) rfl (htx _ kw_5_91) rfl dM_times_226 ?_
                            refine lv_istore_n (lv' := [(3, .int (xsi st 4)), (0, .ref aM), (1, xv vad c0), (2, xv vad c1)]) hx hb dM_times_229 rfl hl (by decide) (by simp only [List.filter, xvcat, xrscat, xcI, xcL, xcR, xcN]; rfl) (fun ls hl => ?_)
                            refine lv_lconst (v := 0) hx hb dM_times_230 (by decide) ?_
                            refine lv_lstore (lv' := [(4, .long 0), (3, .int (xsi st 4)), (0, .ref aM), (1, xv vad c0), (2, xv vad c1)]) hx hb dM_times_231 hl (by decide) rfl (fun ls hl => ?_)
                            exact key n (1, (0 : Int64), (xsi st 4), c0, c1, st, 0, 0) _ _ ls (⟨ad, gd, vad, rfl, hf, hP, hD, hS, lv_sub hl [0, 1, 2, 3, 4] rfl, hE, hN⟩)
                          · rw [if_neg hc] at hf
                            refine xm_aload_n hx hb (xvor _ _) dM_times_204 rfl (lv_at hl 2 rfl) ?_
                            refine xm_vget (v := .long ((xpl st) (c1 - 1))) hx hb htx hown hK hP 1 (by decide) hg2 rfl ((hZ.1 (96, "n", "J") (List.mem_of_getElem? (i := 1) rfl)).use rfl) rfl dM_times_205 ?_
                            refine lv_ldc hx hb hown (htx _ kw_6_62) dM_times_208 ?_
                            refine xm_aload_n hx hb (xvor _ _) dM_times_210 rfl (lv_at hl 1 rfl) ?_
                            refine xm_vget (v := .int ((xpi st 3) (c0 - 1))) hx hb htx hown hK hP 3 (by decide) hg1 rfl ((hZ.1 (103, "count", "I") (List.mem_of_getElem? (i := 3) rfl)).use rfl) rfl dM_times_211 ?_
                            obtain ⟨hg3, hf⟩ := xifn hf
                            refine lv_idiv hx hb dM_times_214 hg3 ?_
                            refine lv_i2l hx hb dM_times_215 rfl ?_
                            refine W.lcmp hx hb dM_times_216 ?_
                            refine lv_if_le (tgt := 225) hx hb dM_times_217 (by decide) (fun hc => ?_) (fun hc => ?_)
                            · rw [if_pos hc] at hf
                              refine lv_aload_n hx hb dM_times_225 rfl (lv_at hl 0 rfl) ?_
                              refine xm_get (v := .int (xsi st 4)) hx hb htx hown hK hP 4 (by decide) rfl (htx _ kw_5_91) rfl dM_times_226 ?_
                              refine lv_istore_n (lv' := [(3, .int (xsi st 4)), (0, .ref aM), (1, xv vad c0), (2, xv vad c1)]) hx hb dM_times_229 rfl hl (by decide) (by simp only [List.filter, xvcat, xrscat, xcI, xcL, xcR, xcN]; rfl) (fun ls hl => ?_)
                              refine lv_lconst (v := 0) hx hb dM_times_230 (by decide) ?_
                              refine lv_lstore (lv' := [(4, .long 0), (3, .int (xsi st 4)), (0, .ref aM), (1, xv vad c0), (2, xv vad c1)]) hx hb dM_times_231 hl (by decide) rfl (fun ls hl => ?_)
                              exact key n (1, (0 : Int64), (xsi st 4), c0, c1, st, 0, 0) _ _ ls (⟨ad, gd, vad, rfl, hf, hP, hD, hS, lv_sub hl [0, 1, 2, 3, 4] rfl, hE, hN⟩)
                            · rw [if_neg hc] at hf
                              refine lv_aload_n hx hb dM_times_220 rfl (lv_at hl 0 rfl) ?_
                              obtain ⟨o4, hq5, hf⟩ := xbind hf
                              have hl := lv_sub (l' := [(0, .ref aM)]) hl [0] rfl
                              by_cases hk6 : o4.1 = 1
                              · rw [if_pos hk6] at hf
                                obtain ⟨hm7, hf⟩ := xmoE hf
                                have hFc := xm_free hD hS hA
                                refine xx_thr (vx_runV (C := "ValueBenchModel") (As := []) (rest := []) ⟨hx, hb, hml, hown, htx⟩ (gM_limit_1 l hl9 D cT aK aV s.heap.size n aM ad rd gd vad st o4 hq5 hk6) ⟨callB_of 0 htx (xw_goodC kw_6_66) rfl rfl rfl (htx _ kw_1_5) (htx _ kw_6_63) ⟨by decide, by decide, by decide +kernel⟩ ⟨Nat.le_of_ble_eq_true rfl, Nat.le_of_ble_eq_true rfl⟩, (htx _ kw_6_65), (htx _ kp_M_limit)⟩ ⟨xPre_blind, va_recv hK hP (ci := 5) rfl (q0 := 0) rfl, (fun U hU hW => ⟨rfl, xPre_of hZ hS hFc hP hD hK U hU hW⟩)⟩ rfl rfl hl.1 rfl (xm_room (Nat.le_of_ble_eq_true rfl)) dM_times_221 ⟨hm7.1, hm7.2⟩) hS hFc (fun q _ h => hFc q h) (fun E ce q9 u9 t H1 locs ht hvm hr9 hB hz1 hk1 hS hce hcv hcl => ?_)
                                obtain ⟨rfl, hP1, hK1, hD1⟩ := hB
                                rw [ht] at hP1
                                obtain ⟨ad9, gd10, vad11⟩ := u9
                                obtain ⟨hv12, hn13⟩ := hr9
                                have hP : va_P D xcl (xMw cT aM ad9 rd gd10 vad11 st []) H1 := hP1
                                have hD : va_D A (xMw cT aM ad9 rd gd10 vad11 st []) := hD1.weaken (fun k q _ h => hFc q.1 h)
                                generalize H1 = H at hP hS hce ⊢
                                have hE9 : ∀ p, p < xct st → vad11 p = vad p := fun p h => (hv12 p (Nat.lt_of_lt_of_le h hN)).trans (hE p h)
                                have hE := hE9
                                have hN : xct st ≤ xct st := Nat.le_trans hN hn13
                                obtain rfl := Option.some.inj hf
                                exact vx_out (E := "java/lang/IndexOutOfBoundsException") (fun x h => (hne x h).elim) hlocks hce hcv hcl (fun t ht ha => ⟨(ad9, gd10, vad11), ⟨hE, hN⟩, ⟨rfl, by rw [ht]; exact hP, va_K.moved ha hK, hD⟩, hS.F ht⟩) hS.2.2 (Nat.le_refl _) (Nat.le_refl _)
                              rw [if_neg hk6] at hf
                              exact nomatch hf
                        · rw [if_neg hc] at hf
                          refine lv_aload_n hx hb dM_times_192 rfl (lv_at hl 0 rfl) ?_
                          obtain ⟨o3, hq4, hf⟩ := xbind hf
                          have hl := lv_sub (l' := [(0, .ref aM)]) hl [0] rfl
                          by_cases hk5 : o3.1 = 1
                          · rw [if_pos hk5] at hf
                            obtain ⟨hm6, hf⟩ := xmoE hf
                            have hFc := xm_free hD hS hA
                            refine xx_thr (vx_runV (C := "ValueBenchModel") (As := []) (rest := []) ⟨hx, hb, hml, hown, htx⟩ (gM_limit_1 l hl9 D cT aK aV s.heap.size n aM ad rd gd vad st o3 hq4 hk5) ⟨callB_of 0 htx (xw_goodC kw_6_66) rfl rfl rfl (htx _ kw_1_5) (htx _ kw_6_63) ⟨by decide, by decide, by decide +kernel⟩ ⟨Nat.le_of_ble_eq_true rfl, Nat.le_of_ble_eq_true rfl⟩, (htx _ kw_6_65), (htx _ kp_M_limit)⟩ ⟨xPre_blind, va_recv hK hP (ci := 5) rfl (q0 := 0) rfl, (fun U hU hW => ⟨rfl, xPre_of hZ hS hFc hP hD hK U hU hW⟩)⟩ rfl rfl hl.1 rfl (xm_room (Nat.le_of_ble_eq_true rfl)) dM_times_193 ⟨hm6.1, hm6.2⟩) hS hFc (fun q _ h => hFc q h) (fun E ce q9 u9 t H1 locs ht hvm hr9 hB hz1 hk1 hS hce hcv hcl => ?_)
                            obtain ⟨rfl, hP1, hK1, hD1⟩ := hB
                            rw [ht] at hP1
                            obtain ⟨ad8, gd9, vad10⟩ := u9
                            obtain ⟨hv11, hn12⟩ := hr9
                            have hP : va_P D xcl (xMw cT aM ad8 rd gd9 vad10 st []) H1 := hP1
                            have hD : va_D A (xMw cT aM ad8 rd gd9 vad10 st []) := hD1.weaken (fun k q _ h => hFc q.1 h)
                            generalize H1 = H at hP hS hce ⊢
                            have hE9 : ∀ p, p < xct st → vad10 p = vad p := fun p h => (hv11 p (Nat.lt_of_lt_of_le h hN)).trans (hE p h)
                            have hE := hE9
                            have hN : xct st ≤ xct st := Nat.le_trans hN hn12
                            obtain rfl := Option.some.inj hf
                            exact vx_out (E := "java/lang/IndexOutOfBoundsException") (fun x h => (hne x h).elim) hlocks hce hcv hcl (fun t ht ha => ⟨(ad8, gd9, vad10), ⟨hE, hN⟩, ⟨rfl, by rw [ht]; exact hP, va_K.moved ha hK, hD⟩, hS.F ht⟩) hS.2.2 (Nat.le_refl _) (Nat.le_refl _)
                          rw [if_neg hk5] at hf
                          exact nomatch hf
                  · rw [if_neg hc] at hf
                    refine lv_aload_n hx hb dM_times_149 rfl (lv_at hl 0 rfl) ?_
                    refine lv_iconst (v := 0) hx hb dM_times_150 (by decide) ?_
                    obtain ⟨o3, hq4, hf⟩ := xbind hf
                    have hl := lv_sub (l' := [(0, .ref aM)]) hl [0] rfl
                    obtain ⟨hm5, hf⟩ := xmoE hf
                    have hFc := xm_free hD hS hA
                    refine va_callq (va_runV (C := "ValueBenchModel") (As := [.int 0]) (rest := []) ⟨hx, hb, hml, hown, htx⟩ (gM_fresh l hl9 D cT aK aV s.heap.size n aM ad rd gd vad st (0 : Int32) o3 hq4) ⟨callB_of 1 htx (xw_goodC kw_6_16) rfl rfl rfl (htx _ kw_1_5) (htx _ kw_6_13) ⟨by decide, by decide, by decide +kernel⟩ ⟨Nat.le_of_ble_eq_true rfl, Nat.le_of_ble_eq_true rfl⟩, (htx _ kw_6_15), (htx _ kp_M_fresh)⟩ ⟨xPre_blind, va_recv hK hP (ci := 5) rfl (q0 := 0) rfl, (fun U hU hW => ⟨rfl, xPre_of hZ hS hFc hP hD hK U hU hW⟩)⟩ rfl rfl hl.1 rfl (xm_room (Nat.le_of_ble_eq_true rfl)) dM_times_151 ⟨hm5.1, hm5.2⟩) hS (fun q _ h => hFc q h) hFc (fun r6 u9 t H1 locs ht hvm hr9 hB hz1 hk1 hS => ?_)
                    obtain ⟨hP1, hK1, hD1⟩ := hB
                    rw [ht] at hP1
                    obtain ⟨ad7, gd8, vad9⟩ := u9
                    obtain ⟨hr9, hv10, hn11⟩ := hr9
                    have hP : va_P D xcl (xMw cT aM ad7 rd gd8 vad9 o3.2.2.2 []) H1 := hP1
                    have hD : va_D A (xMw cT aM ad7 rd gd8 vad9 o3.2.2.2 []) := hD1.weaken (fun k q _ h => hFc q.1 h)
                    generalize H1 = H at hP hS ⊢
                    have hE9 : ∀ p, p < xct st → vad9 p = vad p := fun p h => (hv10 p (Nat.lt_of_lt_of_le h hN)).trans (hE p h)
                    have hE := hE9
                    have hN : xct st ≤ xct o3.2.2.2 := Nat.le_trans hN hn11
                    rw [hr9]
                    refine W.eq (g2 := F0 m 154 ls [xv vad9 o3.2.2.1]) (by first | rfl | (skip; rfl)) ?_
                    obtain rfl := Option.some.inj hf
                    exact absurd (show (0 : Nat) = 2 from hkd) (by decide)
                · rw [if_neg hc] at hf
                  refine lv_aload_n hx hb dM_times_134 rfl (lv_at hl 0 rfl) ?_
                  refine lv_iconst (v := 1) hx hb dM_times_135 (by decide) ?_
                  obtain ⟨o3, hq4, hf⟩ := xbind hf
                  have hl := lv_sub (l' := [(0, .ref aM)]) hl [0] rfl
                  by_cases hk5 : o3.1 = 1
                  · rw [if_pos hk5] at hf
                    obtain ⟨hm6, hf⟩ := xmoE hf
                    obtain rfl := Option.some.inj hf
                    exact absurd (show (1 : Nat) = 2 from hkd) (by decide)
                  rw [if_neg hk5] at hf
                  exact nomatch hf
            · rw [if_pos hc] at hf
              refine xm_aload_n hx hb (xvor _ _) dM_times_103 rfl (lv_at hl 2 rfl) ?_
              refine xm_vget (v := .int ((xpi st 0) (c1 - 1))) hx hb htx hown hK hP 0 (by decide) hg2 rfl ((hZ.1 (93, "kind", "I") (List.mem_of_getElem? (i := 0) rfl)).use rfl) rfl dM_times_104 ?_
              refine lv_iconst (v := 4) hx hb dM_times_107 (by decide) ?_
              refine lv_icmp_ne (tgt := 118) hx hb dM_times_108 (by decide) (fun hc => ?_) (fun hc => ?_)
              · rw [if_neg hc] at hf
                refine xm_aload_n hx hb (xvor _ _) dM_times_118 rfl (lv_at hl 1 rfl) ?_
                refine xm_vget (v := .int ((xpi st 0) (c0 - 1))) hx hb htx hown hK hP 0 (by decide) hg1 rfl ((hZ.1 (93, "kind", "I") (List.mem_of_getElem? (i := 0) rfl)).use rfl) rfl dM_times_119 ?_
                refine lv_iconst (v := 4) hx hb dM_times_122 (by decide) ?_
                refine lv_icmp_ne (tgt := 134) hx hb dM_times_123 (by decide) (fun hc => ?_) (fun hc => ?_)
                · rw [if_neg hc] at hf
                  refine lv_aload_n hx hb dM_times_134 rfl (lv_at hl 0 rfl) ?_
                  refine lv_iconst (v := 1) hx hb dM_times_135 (by decide) ?_
                  obtain ⟨o3, hq4, hf⟩ := xbind hf
                  have hl := lv_sub (l' := [(0, .ref aM)]) hl [0] rfl
                  by_cases hk5 : o3.1 = 1
                  · rw [if_pos hk5] at hf
                    obtain ⟨hm6, hf⟩ := xmoE hf
                    obtain rfl := Option.some.inj hf
                    exact absurd (show (1 : Nat) = 2 from hkd) (by decide)
                  rw [if_neg hk5] at hf
                  exact nomatch hf
                · rw [if_pos hc] at hf
                  refine xm_aload_n hx hb (xvor _ _) dM_times_126 rfl (lv_at hl 2 rfl) ?_
                  refine xm_vget (v := .int ((xpi st 0) (c1 - 1))) hx hb htx hown hK hP 0 (by decide) hg2 rfl ((hZ.1 (93, "kind", "I") (List.mem_of_getElem? (i := 0) rfl)).use rfl) rfl dM_times_127 ?_
                  refine lv_iconst (v := 3) hx hb dM_times_130 (by decide) ?_
                  refine lv_icmp_eq (tgt := 140) hx hb dM_times_131 (by decide) (fun hc => ?_) (fun hc => ?_)
                  · rw [if_pos hc] at hf
                    refine xm_aload_n hx hb (xvor _ _) dM_times_140 rfl (lv_at hl 2 rfl) ?_
                    refine xm_vget (v := .long ((xpl st) (c1 - 1))) hx hb htx hown hK hP 1 (by decide) hg2 rfl ((hZ.1 (96, "n", "J") (List.mem_of_getElem? (i := 1) rfl)).use rfl) rfl dM_times_141 ?_
                    refine lv_lconst (v := 1) hx hb dM_times_144 (by decide) ?_
                    refine W.lcmp hx hb dM_times_145 ?_
                    refine lv_if_ge (tgt := 155) hx hb dM_times_146 (by decide) (fun hc => ?_) (fun hc => ?_)
                    · rw [if_pos hc] at hf
                      refine xm_aload_n hx hb (xvor _ _) dM_times_155 rfl (lv_at hl 2 rfl) ?_
                      refine xm_vget (v := .long ((xpl st) (c1 - 1))) hx hb htx hown hK hP 1 (by decide) hg2 rfl ((hZ.1 (96, "n", "J") (List.mem_of_getElem? (i := 1) rfl)).use rfl) rfl dM_times_156 ?_
                      refine xm_aload_n hx hb (xvor _ _) dM_times_159 rfl (lv_at hl 1 rfl) ?_
                      refine xm_vget (v := .int ((xpi st 3) (c0 - 1))) hx hb htx hown hK hP 3 (by decide) hg1 rfl ((hZ.1 (103, "count", "I") (List.mem_of_getElem? (i := 3) rfl)).use rfl) rfl dM_times_160 ?_
                      refine lv_i2l hx hb dM_times_163 rfl ?_
                      refine lv_lconst (v := 1) hx hb dM_times_164 (by decide) ?_
                      refine lv_ladd hx hb dM_times_165 ?_
                      refine lv_lmul hx hb dM_times_166 ?_
                      refine lv_ldc2 hx hb hown (htx _ kw_6_221) dM_times_167 ?_
                      refine W.lcmp hx hb dM_times_170 ?_
                      refine lv_if_le (tgt := 197) hx hb dM_times_171 (by decide) (fun hc => ?_) (fun hc => ?_)
                      · rw [if_pos hc] at hf
                        refine xm_aload_n hx hb (xvor _ _) dM_times_197 rfl (lv_at hl 1 rfl) ?_
                        refine xm_vget (v := .int ((xpi st 3) (c0 - 1))) hx hb htx hown hK hP 3 (by decide) hg1 rfl ((hZ.1 (103, "count", "I") (List.mem_of_getElem? (i := 3) rfl)).use rfl) rfl dM_times_198 ?_
                        refine lv_if_le (tgt := 225) hx hb dM_times_201 (by decide) (fun hc => ?_) (fun hc => ?_)
                        · rw [if_pos hc] at hf
                          refine lv_aload_n hx hb dM_times_225 rfl (lv_at hl 0 rfl) ?_
                          refine xm_get (v := .int (xsi st 4)) hx hb htx hown hK hP 4 (by decide) rfl (htx _ kw_5_91) rfl dM_times_226 ?_
                          refine lv_istore_n (lv' := [(3, .int (xsi st 4)), (0, .ref aM), (1, xv vad c0), (2, xv vad c1)]) hx hb dM_times_229 rfl hl (by decide) (by simp only [List.filter, xvcat, xrscat, xcI, xcL, xcR, xcN]; rfl) (fun ls hl => ?_)
                          refine lv_lconst (v := 0) hx hb dM_times_230 (by decide) ?_
                          refine lv_lstore (lv' := [(4, .long 0), (3, .int (xsi st 4)), (0, .ref aM), (1, xv vad c0), (2, xv vad c1)]) hx hb dM_times_231 hl (by decide) rfl (fun ls hl => ?_)
                          exact key n (1, (0 : Int64), (xsi st 4), c0, c1, st, 0, 0) _ _ ls (⟨ad, gd, vad, rfl, hf, hP, hD, hS, lv_sub hl [0, 1, 2, 3, 4] rfl, hE, hN⟩)
                        · rw [if_neg hc] at hf
                          refine xm_aload_n hx hb (xvor _ _) dM_times_204 rfl (lv_at hl 2 rfl) ?_
                          refine xm_vget (v := .long ((xpl st) (c1 - 1))) hx hb htx hown hK hP 1 (by decide) hg2 rfl ((hZ.1 (96, "n", "J") (List.mem_of_getElem? (i := 1) rfl)).use rfl) rfl dM_times_205 ?_
                          refine lv_ldc hx hb hown (htx _ kw_6_62) dM_times_208 ?_
                          refine xm_aload_n hx hb (xvor _ _) dM_times_210 rfl (lv_at hl 1 rfl) ?_
                          refine xm_vget (v := .int ((xpi st 3) (c0 - 1))) hx hb htx hown hK hP 3 (by decide) hg1 rfl ((hZ.1 (103, "count", "I") (List.mem_of_getElem? (i := 3) rfl)).use rfl) rfl dM_times_211 ?_
                          obtain ⟨hg3, hf⟩ := xifn hf
                          refine lv_idiv hx hb dM_times_214 hg3 ?_
                          refine lv_i2l hx hb dM_times_215 rfl ?_
                          refine W.lcmp hx hb dM_times_216 ?_
                          refine lv_if_le (tgt := 225) hx hb dM_times_217 (by decide) (fun hc => ?_) (fun hc => ?_)
                          · rw [if_pos hc] at hf
                            refine lv_aload_n hx hb dM_times_225 rfl (lv_at hl 0 rfl) ?_
                            refine xm_get (v := .int (xsi st 4)) hx hb htx hown hK hP 4 (by decide) rfl (htx _ kw_5_91) rfl dM_times_226 ?_
                            refine lv_istore_n (lv' := [(3, .int (xsi st 4)), (0, .ref aM), (1, xv vad c0), (2, xv vad c1)]) hx hb dM_times_229 rfl hl (by decide) (by simp only [List.filter, xvcat, xrscat, xcI, xcL, xcR, xcN]; rfl) (fun ls hl => ?_)
                            refine lv_lconst (v := 0) hx hb dM_times_230 (by decide) ?_
                            refine lv_lstore (lv' := [(4, .long 0), (3, .int (xsi st 4)), (0, .ref aM), (1, xv vad c0), (2, xv vad c1)]) hx hb dM_times_231 hl (by decide) rfl (fun ls hl => ?_)
                            exact key n (1, (0 : Int64), (xsi st 4), c0, c1, st, 0, 0) _ _ ls (⟨ad, gd, vad, rfl, hf, hP, hD, hS, lv_sub hl [0, 1, 2, 3, 4] rfl, hE, hN⟩)
                          · rw [if_neg hc] at hf
                            refine lv_aload_n hx hb dM_times_220 rfl (lv_at hl 0 rfl) ?_
                            obtain ⟨o4, hq5, hf⟩ := xbind hf
                            have hl := lv_sub (l' := [(0, .ref aM)]) hl [0] rfl
                            by_cases hk6 : o4.1 = 1
                            · rw [if_pos hk6] at hf
                              obtain ⟨hm7, hf⟩ := xmoE hf
                              have hFc := xm_free hD hS hA
                              refine xx_thr (vx_runV (C := "ValueBenchModel") (As := []) (rest := []) ⟨hx, hb, hml, hown, htx⟩ (gM_limit_1 l hl9 D cT aK aV s.heap.size n aM ad rd gd vad st o4 hq5 hk6) ⟨callB_of 0 htx (xw_goodC kw_6_66) rfl rfl rfl (htx _ kw_1_5) (htx _ kw_6_63) ⟨by decide, by decide, by decide +kernel⟩ ⟨Nat.le_of_ble_eq_true rfl, Nat.le_of_ble_eq_true rfl⟩, (htx _ kw_6_65), (htx _ kp_M_limit)⟩ ⟨xPre_blind, va_recv hK hP (ci := 5) rfl (q0 := 0) rfl, (fun U hU hW => ⟨rfl, xPre_of hZ hS hFc hP hD hK U hU hW⟩)⟩ rfl rfl hl.1 rfl (xm_room (Nat.le_of_ble_eq_true rfl)) dM_times_221 ⟨hm7.1, hm7.2⟩) hS hFc (fun q _ h => hFc q h) (fun E ce q9 u9 t H1 locs ht hvm hr9 hB hz1 hk1 hS hce hcv hcl => ?_)
                              obtain ⟨rfl, hP1, hK1, hD1⟩ := hB
                              rw [ht] at hP1
                              obtain ⟨ad9, gd10, vad11⟩ := u9
                              obtain ⟨hv12, hn13⟩ := hr9
                              have hP : va_P D xcl (xMw cT aM ad9 rd gd10 vad11 st []) H1 := hP1
                              have hD : va_D A (xMw cT aM ad9 rd gd10 vad11 st []) := hD1.weaken (fun k q _ h => hFc q.1 h)
                              generalize H1 = H at hP hS hce ⊢
                              have hE9 : ∀ p, p < xct st → vad11 p = vad p := fun p h => (hv12 p (Nat.lt_of_lt_of_le h hN)).trans (hE p h)
                              have hE := hE9
                              have hN : xct st ≤ xct st := Nat.le_trans hN hn13
                              obtain rfl := Option.some.inj hf
                              exact vx_out (E := "java/lang/IndexOutOfBoundsException") (fun x h => (hne x h).elim) hlocks hce hcv hcl (fun t ht ha => ⟨(ad9, gd10, vad11), ⟨hE, hN⟩, ⟨rfl, by rw [ht]; exact hP, va_K.moved ha hK, hD⟩, hS.F ht⟩) hS.2.2 (Nat.le_refl _) (Nat.le_refl _)
                            rw [if_neg hk6] at hf
                            exact nomatch hf
                      · rw [if_neg hc] at hf
                        refine xm_aload_n hx hb (xvor _ _) dM_times_174 rfl (lv_at hl 1 rfl) ?_
                        refine xm_vget (v := .int ((xpi st 3) (c0 - 1))) hx hb htx hown hK hP 3 (by decide) hg1 rfl ((hZ.1 (103, "count", "I") (List.mem_of_getElem? (i := 3) rfl)).use rfl) rfl dM_times_175 ?_
                        refine lv_if_le (tgt := 197) hx hb dM_times_178 (by decide) (fun hc => ?_) (fun hc => ?_)
                        · rw [if_pos hc] at hf
                          refine xm_aload_n hx hb (xvor _ _) dM_times_197 rfl (lv_at hl 1 rfl) ?_
                          refine xm_vget (v := .int ((xpi st 3) (c0 - 1))) hx hb htx hown hK hP 3 (by decide) hg1 rfl ((hZ.1 (103, "count", "I") (List.mem_of_getElem? (i := 3) rfl)).use rfl) rfl dM_times_198 ?_
                          refine lv_if_le (tgt := 225) hx hb dM_times_201 (by decide) (fun hc => ?_) (fun hc => ?_)
                          · rw [if_pos hc] at hf
                            refine lv_aload_n hx hb dM_times_225 rfl (lv_at hl 0 rfl) ?_
                            refine xm_get (v := .int (xsi st 4)) hx hb htx hown hK hP 4 (by decide) rfl (htx _ kw_5_91) rfl dM_times_226 ?_
                            refine lv_istore_n (lv' := [(3, .int (xsi st 4)), (0, .ref aM), (1, xv vad c0), (2, xv vad c1)]) hx hb dM_times_229 rfl hl (by decide) (by simp only [List.filter, xvcat, xrscat, xcI, xcL, xcR, xcN]; rfl) (fun ls hl => ?_)
                            refine lv_lconst (v := 0) hx hb dM_times_230 (by decide) ?_
                            refine lv_lstore (lv' := [(4, .long 0), (3, .int (xsi st 4)), (0, .ref aM), (1, xv vad c0), (2, xv vad c1)]) hx hb dM_times_231 hl (by decide) rfl (fun ls hl => ?_)
                            exact key n (1, (0 : Int64), (xsi st 4), c0, c1, st, 0, 0) _ _ ls (⟨ad, gd, vad, rfl, hf, hP, hD, hS, lv_sub hl [0, 1, 2, 3, 4] rfl, hE, hN⟩)
                          · rw [if_neg hc] at hf
                            refine xm_aload_n hx hb (xvor _ _) dM_times_204 rfl (lv_at hl 2 rfl) ?_
                            refine xm_vget (v := .long ((xpl st) (c1 - 1))) hx hb htx hown hK hP 1 (by decide) hg2 rfl ((hZ.1 (96, "n", "J") (List.mem_of_getElem? (i := 1) rfl)).use rfl) rfl dM_times_205 ?_
                            refine lv_ldc hx hb hown (htx _ kw_6_62) dM_times_208 ?_
                            refine xm_aload_n hx hb (xvor _ _) dM_times_210 rfl (lv_at hl 1 rfl) ?_
                            refine xm_vget (v := .int ((xpi st 3) (c0 - 1))) hx hb htx hown hK hP 3 (by decide) hg1 rfl ((hZ.1 (103, "count", "I") (List.mem_of_getElem? (i := 3) rfl)).use rfl) rfl dM_times_211 ?_
                            obtain ⟨hg3, hf⟩ := xifn hf
                            refine lv_idiv hx hb dM_times_214 hg3 ?_
                            refine lv_i2l hx hb dM_times_215 rfl ?_
                            refine W.lcmp hx hb dM_times_216 ?_
                            refine lv_if_le (tgt := 225) hx hb dM_times_217 (by decide) (fun hc => ?_) (fun hc => ?_)
                            · rw [if_pos hc] at hf
                              refine lv_aload_n hx hb dM_times_225 rfl (lv_at hl 0 rfl) ?_
                              refine xm_get (v := .int (xsi st 4)) hx hb htx hown hK hP 4 (by decide) rfl (htx _ kw_5_91) rfl dM_times_226 ?_
                              refine lv_istore_n (lv' := [(3, .int (xsi st 4)), (0, .ref aM), (1, xv vad c0), (2, xv vad c1)]) hx hb dM_times_229 rfl hl (by decide) (by simp only [List.filter, xvcat, xrscat, xcI, xcL, xcR, xcN]; rfl) (fun ls hl => ?_)
                              refine lv_lconst (v := 0) hx hb dM_times_230 (by decide) ?_
                              refine lv_lstore (lv' := [(4, .long 0), (3, .int (xsi st 4)), (0, .ref aM), (1, xv vad c0), (2, xv vad c1)]) hx hb dM_times_231 hl (by decide) rfl (fun ls hl => ?_)
                              exact key n (1, (0 : Int64), (xsi st 4), c0, c1, st, 0, 0) _ _ ls (⟨ad, gd, vad, rfl, hf, hP, hD, hS, lv_sub hl [0, 1, 2, 3, 4] rfl, hE, hN⟩)
                            · rw [if_neg hc] at hf
                              refine lv_aload_n hx hb dM_times_220 rfl (lv_at hl 0 rfl) ?_
                              obtain ⟨o4, hq5, hf⟩ := xbind hf
                              have hl := lv_sub (l' := [(0, .ref aM)]) hl [0] rfl
                              by_cases hk6 : o4.1 = 1
                              · rw [if_pos hk6] at hf
                                obtain ⟨hm7, hf⟩ := xmoE hf
                                have hFc := xm_free hD hS hA
                                refine xx_thr (vx_runV (C := "ValueBenchModel") (As := []) (rest := []) ⟨hx, hb, hml, hown, htx⟩ (gM_limit_1 l hl9 D cT aK aV s.heap.size n aM ad rd gd vad st o4 hq5 hk6) ⟨callB_of 0 htx (xw_goodC kw_6_66) rfl rfl rfl (htx _ kw_1_5) (htx _ kw_6_63) ⟨by decide, by decide, by decide +kernel⟩ ⟨Nat.le_of_ble_eq_true rfl, Nat.le_of_ble_eq_true rfl⟩, (htx _ kw_6_65), (htx _ kp_M_limit)⟩ ⟨xPre_blind, va_recv hK hP (ci := 5) rfl (q0 := 0) rfl, (fun U hU hW => ⟨rfl, xPre_of hZ hS hFc hP hD hK U hU hW⟩)⟩ rfl rfl hl.1 rfl (xm_room (Nat.le_of_ble_eq_true rfl)) dM_times_221 ⟨hm7.1, hm7.2⟩) hS hFc (fun q _ h => hFc q h) (fun E ce q9 u9 t H1 locs ht hvm hr9 hB hz1 hk1 hS hce hcv hcl => ?_)
                                obtain ⟨rfl, hP1, hK1, hD1⟩ := hB
                                rw [ht] at hP1
                                obtain ⟨ad9, gd10, vad11⟩ := u9
                                obtain ⟨hv12, hn13⟩ := hr9
                                have hP : va_P D xcl (xMw cT aM ad9 rd gd10 vad11 st []) H1 := hP1
                                have hD : va_D A (xMw cT aM ad9 rd gd10 vad11 st []) := hD1.weaken (fun k q _ h => hFc q.1 h)
                                generalize H1 = H at hP hS hce ⊢
                                have hE9 : ∀ p, p < xct st → vad11 p = vad p := fun p h => (hv12 p (Nat.lt_of_lt_of_le h hN)).trans (hE p h)
                                have hE := hE9
                                have hN : xct st ≤ xct st := Nat.le_trans hN hn13
                                obtain rfl := Option.some.inj hf
                                exact vx_out (E := "java/lang/IndexOutOfBoundsException") (fun x h => (hne x h).elim) hlocks hce hcv hcl (fun t ht ha => ⟨(ad9, gd10, vad11), ⟨hE, hN⟩, ⟨rfl, by rw [ht]; exact hP, va_K.moved ha hK, hD⟩, hS.F ht⟩) hS.2.2 (Nat.le_refl _) (Nat.le_refl _)
                              rw [if_neg hk6] at hf
                              exact nomatch hf
                        · rw [if_neg hc] at hf
                          refine xm_aload_n hx hb (xvor _ _) dM_times_181 rfl (lv_at hl 2 rfl) ?_
                          refine xm_vget (v := .long ((xpl st) (c1 - 1))) hx hb htx hown hK hP 1 (by decide) hg2 rfl ((hZ.1 (96, "n", "J") (List.mem_of_getElem? (i := 1) rfl)).use rfl) rfl dM_times_182 ?_
                          refine lv_ldc2 hx hb hown (htx _ kw_6_108) dM_times_185 ?_
                          refine W.lcmp hx hb dM_times_188 ?_
                          refine lv_if_le (tgt := 197) hx hb dM_times_189 (by decide) (fun hc => ?_) (fun hc => ?_)
                          · rw [if_pos hc] at hf
                            refine xm_aload_n hx hb (xvor _ _) dM_times_197 rfl (lv_at hl 1 rfl) ?_
                            refine xm_vget (v := .int ((xpi st 3) (c0 - 1))) hx hb htx hown hK hP 3 (by decide) hg1 rfl ((hZ.1 (103, "count", "I") (List.mem_of_getElem? (i := 3) rfl)).use rfl) rfl dM_times_198 ?_
                            refine lv_if_le (tgt := 225) hx hb dM_times_201 (by decide) (fun hc => ?_) (fun hc => ?_)
                            · rw [if_pos hc] at hf
                              refine lv_aload_n hx hb dM_times_225 rfl (lv_at hl 0 rfl) ?_
                              refine xm_get (v := .int (xsi st 4)) hx hb htx hown hK hP 4 (by decide) rfl (htx _ kw_5_91) rfl dM_times_226 ?_
                              refine lv_istore_n (lv' := [(3, .int (xsi st 4)), (0, .ref aM), (1, xv vad c0), (2, xv vad c1)]) hx hb dM_times_229 rfl hl (by decide) (by simp only [List.filter, xvcat, xrscat, xcI, xcL, xcR, xcN]; rfl) (fun ls hl => ?_)
                              refine lv_lconst (v := 0) hx hb dM_times_230 (by decide) ?_
                              refine lv_lstore (lv' := [(4, .long 0), (3, .int (xsi st 4)), (0, .ref aM), (1, xv vad c0), (2, xv vad c1)]) hx hb dM_times_231 hl (by decide) rfl (fun ls hl => ?_)
                              exact key n (1, (0 : Int64), (xsi st 4), c0, c1, st, 0, 0) _ _ ls (⟨ad, gd, vad, rfl, hf, hP, hD, hS, lv_sub hl [0, 1, 2, 3, 4] rfl, hE, hN⟩)
                            · rw [if_neg hc] at hf
                              refine xm_aload_n hx hb (xvor _ _) dM_times_204 rfl (lv_at hl 2 rfl) ?_
                              refine xm_vget (v := .long ((xpl st) (c1 - 1))) hx hb htx hown hK hP 1 (by decide) hg2 rfl ((hZ.1 (96, "n", "J") (List.mem_of_getElem? (i := 1) rfl)).use rfl) rfl dM_times_205 ?_
                              refine lv_ldc hx hb hown (htx _ kw_6_62) dM_times_208 ?_
                              refine xm_aload_n hx hb (xvor _ _) dM_times_210 rfl (lv_at hl 1 rfl) ?_
                              refine xm_vget (v := .int ((xpi st 3) (c0 - 1))) hx hb htx hown hK hP 3 (by decide) hg1 rfl ((hZ.1 (103, "count", "I") (List.mem_of_getElem? (i := 3) rfl)).use rfl) rfl dM_times_211 ?_
                              obtain ⟨hg3, hf⟩ := xifn hf
                              refine lv_idiv hx hb dM_times_214 hg3 ?_
                              refine lv_i2l hx hb dM_times_215 rfl ?_
                              refine W.lcmp hx hb dM_times_216 ?_
                              refine lv_if_le (tgt := 225) hx hb dM_times_217 (by decide) (fun hc => ?_) (fun hc => ?_)
                              · rw [if_pos hc] at hf
                                refine lv_aload_n hx hb dM_times_225 rfl (lv_at hl 0 rfl) ?_
                                refine xm_get (v := .int (xsi st 4)) hx hb htx hown hK hP 4 (by decide) rfl (htx _ kw_5_91) rfl dM_times_226 ?_
                                refine lv_istore_n (lv' := [(3, .int (xsi st 4)), (0, .ref aM), (1, xv vad c0), (2, xv vad c1)]) hx hb dM_times_229 rfl hl (by decide) (by simp only [List.filter, xvcat, xrscat, xcI, xcL, xcR, xcN]; rfl) (fun ls hl => ?_)
                                refine lv_lconst (v := 0) hx hb dM_times_230 (by decide) ?_
                                refine lv_lstore (lv' := [(4, .long 0), (3, .int (xsi st 4)), (0, .ref aM), (1, xv vad c0), (2, xv vad c1)]) hx hb dM_times_231 hl (by decide) rfl (fun ls hl => ?_)
                                exact key n (1, (0 : Int64), (xsi st 4), c0, c1, st, 0, 0) _ _ ls (⟨ad, gd, vad, rfl, hf, hP, hD, hS, lv_sub hl [0, 1, 2, 3, 4] rfl, hE, hN⟩)
                              · rw [if_neg hc] at hf
                                refine lv_aload_n hx hb dM_times_220 rfl (lv_at hl 0 rfl) ?_
                                obtain ⟨o4, hq5, hf⟩ := xbind hf
                                have hl := lv_sub (l' := [(0, .ref aM)]) hl [0] rfl
                                by_cases hk6 : o4.1 = 1
                                · rw [if_pos hk6] at hf
                                  obtain ⟨hm7, hf⟩ := xmoE hf
                                  have hFc := xm_free hD hS hA
                                  refine xx_thr (vx_runV (C := "ValueBenchModel") (As := []) (rest := []) ⟨hx, hb, hml, hown, htx⟩ (gM_limit_1 l hl9 D cT aK aV s.heap.size n aM ad rd gd vad st o4 hq5 hk6) ⟨callB_of 0 htx (xw_goodC kw_6_66) rfl rfl rfl (htx _ kw_1_5) (htx _ kw_6_63) ⟨by decide, by decide, by decide +kernel⟩ ⟨Nat.le_of_ble_eq_true rfl, Nat.le_of_ble_eq_true rfl⟩, (htx _ kw_6_65), (htx _ kp_M_limit)⟩ ⟨xPre_blind, va_recv hK hP (ci := 5) rfl (q0 := 0) rfl, (fun U hU hW => ⟨rfl, xPre_of hZ hS hFc hP hD hK U hU hW⟩)⟩ rfl rfl hl.1 rfl (xm_room (Nat.le_of_ble_eq_true rfl)) dM_times_221 ⟨hm7.1, hm7.2⟩) hS hFc (fun q _ h => hFc q h) (fun E ce q9 u9 t H1 locs ht hvm hr9 hB hz1 hk1 hS hce hcv hcl => ?_)
                                  obtain ⟨rfl, hP1, hK1, hD1⟩ := hB
                                  rw [ht] at hP1
                                  obtain ⟨ad9, gd10, vad11⟩ := u9
                                  obtain ⟨hv12, hn13⟩ := hr9
                                  have hP : va_P D xcl (xMw cT aM ad9 rd gd10 vad11 st []) H1 := hP1
                                  have hD : va_D A (xMw cT aM ad9 rd gd10 vad11 st []) := hD1.weaken (fun k q _ h => hFc q.1 h)
                                  generalize H1 = H at hP hS hce ⊢
                                  have hE9 : ∀ p, p < xct st → vad11 p = vad p := fun p h => (hv12 p (Nat.lt_of_lt_of_le h hN)).trans (hE p h)
                                  have hE := hE9
                                  have hN : xct st ≤ xct st := Nat.le_trans hN hn13
                                  obtain rfl := Option.some.inj hf
                                  exact vx_out (E := "java/lang/IndexOutOfBoundsException") (fun x h => (hne x h).elim) hlocks hce hcv hcl (fun t ht ha => ⟨(ad9, gd10, vad11), ⟨hE, hN⟩, ⟨rfl, by rw [ht]; exact hP, va_K.moved ha hK, hD⟩, hS.F ht⟩) hS.2.2 (Nat.le_refl _) (Nat.le_refl _)
                                rw [if_neg hk6] at hf
                                exact nomatch hf
                          · rw [if_neg hc] at hf
                            refine lv_aload_n hx hb dM_times_192 rfl (lv_at hl 0 rfl) ?_
                            obtain ⟨o3, hq4, hf⟩ := xbind hf
                            have hl := lv_sub (l' := [(0, .ref aM)]) hl [0] rfl
                            by_cases hk5 : o3.1 = 1
                            · rw [if_pos hk5] at hf
                              obtain ⟨hm6, hf⟩ := xmoE hf
                              have hFc := xm_free hD hS hA
                              refine xx_thr (vx_runV (C := "ValueBenchModel") (As := []) (rest := []) ⟨hx, hb, hml, hown, htx⟩ (gM_limit_1 l hl9 D cT aK aV s.heap.size n aM ad rd gd vad st o3 hq4 hk5) ⟨callB_of 0 htx (xw_goodC kw_6_66) rfl rfl rfl (htx _ kw_1_5) (htx _ kw_6_63) ⟨by decide, by decide, by decide +kernel⟩ ⟨Nat.le_of_ble_eq_true rfl, Nat.le_of_ble_eq_true rfl⟩, (htx _ kw_6_65), (htx _ kp_M_limit)⟩ ⟨xPre_blind, va_recv hK hP (ci := 5) rfl (q0 := 0) rfl, (fun U hU hW => ⟨rfl, xPre_of hZ hS hFc hP hD hK U hU hW⟩)⟩ rfl rfl hl.1 rfl (xm_room (Nat.le_of_ble_eq_true rfl)) dM_times_193 ⟨hm6.1, hm6.2⟩) hS hFc (fun q _ h => hFc q h) (fun E ce q9 u9 t H1 locs ht hvm hr9 hB hz1 hk1 hS hce hcv hcl => ?_)
                              obtain ⟨rfl, hP1, hK1, hD1⟩ := hB
                              rw [ht] at hP1
                              obtain ⟨ad8, gd9, vad10⟩ := u9
                              obtain ⟨hv11, hn12⟩ := hr9
                              have hP : va_P D xcl (xMw cT aM ad8 rd gd9 vad10 st []) H1 := hP1
                              have hD : va_D A (xMw cT aM ad8 rd gd9 vad10 st []) := hD1.weaken (fun k q _ h => hFc q.1 h)
                              generalize H1 = H at hP hS hce ⊢
                              have hE9 : ∀ p, p < xct st → vad10 p = vad p := fun p h => (hv11 p (Nat.lt_of_lt_of_le h hN)).trans (hE p h)
                              have hE := hE9
                              have hN : xct st ≤ xct st := Nat.le_trans hN hn12
                              obtain rfl := Option.some.inj hf
                              exact vx_out (E := "java/lang/IndexOutOfBoundsException") (fun x h => (hne x h).elim) hlocks hce hcv hcl (fun t ht ha => ⟨(ad8, gd9, vad10), ⟨hE, hN⟩, ⟨rfl, by rw [ht]; exact hP, va_K.moved ha hK, hD⟩, hS.F ht⟩) hS.2.2 (Nat.le_refl _) (Nat.le_refl _)
                            rw [if_neg hk5] at hf
                            exact nomatch hf
                    · rw [if_neg hc] at hf
                      refine lv_aload_n hx hb dM_times_149 rfl (lv_at hl 0 rfl) ?_
                      refine lv_iconst (v := 0) hx hb dM_times_150 (by decide) ?_
                      obtain ⟨o3, hq4, hf⟩ := xbind hf
                      have hl := lv_sub (l' := [(0, .ref aM)]) hl [0] rfl
                      obtain ⟨hm5, hf⟩ := xmoE hf
                      have hFc := xm_free hD hS hA
                      refine va_callq (va_runV (C := "ValueBenchModel") (As := [.int 0]) (rest := []) ⟨hx, hb, hml, hown, htx⟩ (gM_fresh l hl9 D cT aK aV s.heap.size n aM ad rd gd vad st (0 : Int32) o3 hq4) ⟨callB_of 1 htx (xw_goodC kw_6_16) rfl rfl rfl (htx _ kw_1_5) (htx _ kw_6_13) ⟨by decide, by decide, by decide +kernel⟩ ⟨Nat.le_of_ble_eq_true rfl, Nat.le_of_ble_eq_true rfl⟩, (htx _ kw_6_15), (htx _ kp_M_fresh)⟩ ⟨xPre_blind, va_recv hK hP (ci := 5) rfl (q0 := 0) rfl, (fun U hU hW => ⟨rfl, xPre_of hZ hS hFc hP hD hK U hU hW⟩)⟩ rfl rfl hl.1 rfl (xm_room (Nat.le_of_ble_eq_true rfl)) dM_times_151 ⟨hm5.1, hm5.2⟩) hS (fun q _ h => hFc q h) hFc (fun r6 u9 t H1 locs ht hvm hr9 hB hz1 hk1 hS => ?_)
                      obtain ⟨hP1, hK1, hD1⟩ := hB
                      rw [ht] at hP1
                      obtain ⟨ad7, gd8, vad9⟩ := u9
                      obtain ⟨hr9, hv10, hn11⟩ := hr9
                      have hP : va_P D xcl (xMw cT aM ad7 rd gd8 vad9 o3.2.2.2 []) H1 := hP1
                      have hD : va_D A (xMw cT aM ad7 rd gd8 vad9 o3.2.2.2 []) := hD1.weaken (fun k q _ h => hFc q.1 h)
                      generalize H1 = H at hP hS ⊢
                      have hE9 : ∀ p, p < xct st → vad9 p = vad p := fun p h => (hv10 p (Nat.lt_of_lt_of_le h hN)).trans (hE p h)
                      have hE := hE9
                      have hN : xct st ≤ xct o3.2.2.2 := Nat.le_trans hN hn11
                      rw [hr9]
                      refine W.eq (g2 := F0 m 154 ls [xv vad9 o3.2.2.1]) (by first | rfl | (skip; rfl)) ?_
                      obtain rfl := Option.some.inj hf
                      exact absurd (show (0 : Nat) = 2 from hkd) (by decide)
                  · rw [if_neg hc] at hf
                    refine lv_aload_n hx hb dM_times_134 rfl (lv_at hl 0 rfl) ?_
                    refine lv_iconst (v := 1) hx hb dM_times_135 (by decide) ?_
                    obtain ⟨o3, hq4, hf⟩ := xbind hf
                    have hl := lv_sub (l' := [(0, .ref aM)]) hl [0] rfl
                    by_cases hk5 : o3.1 = 1
                    · rw [if_pos hk5] at hf
                      obtain ⟨hm6, hf⟩ := xmoE hf
                      obtain rfl := Option.some.inj hf
                      exact absurd (show (1 : Nat) = 2 from hkd) (by decide)
                    rw [if_neg hk5] at hf
                    exact nomatch hf
              · rw [if_pos hc] at hf
                refine lv_aload_n hx hb dM_times_111 rfl (lv_at hl 0 rfl) ?_
                refine xm_aload_n hx hb (xvor _ _) dM_times_112 rfl (lv_at hl 2 rfl) ?_
                refine xm_aload_n hx hb (xvor _ _) dM_times_113 rfl (lv_at hl 1 rfl) ?_
                obtain ⟨o3, hq4, hf⟩ := xbind hf
                have hl := lv_sub (l' := [(0, .ref aM)]) hl [0] rfl
                by_cases hk5 : o3.1 = 0
                · rw [if_pos hk5] at hf
                  obtain ⟨hm6, hf⟩ := xmoE hf
                  have hFc := xm_free hD hS hA
                  refine va_callq (va_runV (C := "ValueBenchModel") (As := [xv vad c1, xv vad c0]) (rest := []) ⟨hx, hb, hml, hown, htx⟩ ((hrec s.heap.size aM ad rd gd vad st c1 c0 o3 hq4).1 hk5) ⟨callB_of 2 htx (xw_goodC kw_6_215) rfl rfl rfl (htx _ kw_1_5) (htx _ kw_6_212) ⟨by decide, by decide, by decide +kernel⟩ ⟨(by show (16 * d) + 1 ≤ 16 * (d + 1); omega), (by show 8 + (7 + 11) + (400 * d) ≤ 400 * (d + 1); omega)⟩, (htx _ kw_6_214), (htx _ kp_M_times)⟩ ⟨xPre_blind, va_recv hK hP (ci := 5) rfl (q0 := 0) rfl, (fun U hU hW => ⟨rfl, xPre_of hZ hS hFc hP hD hK U hU hW⟩)⟩ rfl rfl hl.1 rfl (xm_room (Nat.le_of_ble_eq_true rfl)) dM_times_114 ⟨hm6.1, hm6.2⟩) hS (fun q _ h => hFc q h) hFc (fun r7 u9 t H1 locs ht hvm hr9 hB hz1 hk1 hS => ?_)
                  obtain ⟨hP1, hK1, hD1⟩ := hB
                  rw [ht] at hP1
                  obtain ⟨ad8, gd9, vad10⟩ := u9
                  obtain ⟨hr9, hv11, hn12⟩ := hr9
                  have hP : va_P D xcl (xMw cT aM ad8 rd gd9 vad10 o3.2.2.2.2 []) H1 := hP1
                  have hD : va_D A (xMw cT aM ad8 rd gd9 vad10 o3.2.2.2.2 []) := hD1.weaken (fun k q _ h => hFc q.1 h)
                  generalize H1 = H at hP hS ⊢
                  have hE9 : ∀ p, p < xct st → vad10 p = vad p := fun p h => (hv11 p (Nat.lt_of_lt_of_le h hN)).trans (hE p h)
                  have hE := hE9
                  have hN : xct st ≤ xct o3.2.2.2.2 := Nat.le_trans hN hn12
                  rw [hr9]
                  refine W.eq (g2 := F0 m 117 ls [xv vad10 o3.2.2.2.1]) (by first | rfl | (skip; rfl)) ?_
                  obtain rfl := Option.some.inj hf
                  exact absurd (show (0 : Nat) = 2 from hkd) (by decide)
                rw [if_neg hk5] at hf
                by_cases hk13 : o3.1 = 1
                · rw [if_pos hk13] at hf
                  obtain ⟨hm14, hf⟩ := xmoE hf
                  obtain rfl := Option.some.inj hf
                  exact absurd (show (1 : Nat) = 2 from hkd) (by decide)
                rw [if_neg hk13] at hf
                by_cases hk21 : o3.1 = 2
                · rw [if_pos hk21] at hf
                  obtain ⟨hm22, hf⟩ := xmoE hf
                  have hFc := xm_free hD hS hA
                  refine xx_thr (vx_runV (C := "ValueBenchModel") (As := [xv vad c1, xv vad c0]) (rest := []) ⟨hx, hb, hml, hown, htx⟩ ((hrec s.heap.size aM ad rd gd vad st c1 c0 o3 hq4).2.2 hk21) ⟨callB_of 2 htx (xw_goodC kw_6_215) rfl rfl rfl (htx _ kw_1_5) (htx _ kw_6_212) ⟨by decide, by decide, by decide +kernel⟩ ⟨(by show (16 * d) + 1 ≤ 16 * (d + 1); omega), (by show 8 + (7 + 11) + (400 * d) ≤ 400 * (d + 1); omega)⟩, (htx _ kw_6_214), (htx _ kp_M_times)⟩ ⟨xPre_blind, va_recv hK hP (ci := 5) rfl (q0 := 0) rfl, (fun U hU hW => ⟨rfl, xPre_of hZ hS hFc hP hD hK U hU hW⟩)⟩ rfl rfl hl.1 rfl (xm_room (Nat.le_of_ble_eq_true rfl)) dM_times_114 ⟨hm22.1, hm22.2⟩) hS hFc (fun q _ h => hFc q h) (fun E ce q9 u9 t H1 locs ht hvm hr9 hB hz1 hk1 hS hce hcv hcl => ?_)
                  obtain ⟨rfl, hP1, hK1, hD1⟩ := hB
                  rw [ht] at hP1
                  obtain ⟨ad24, gd25, vad26⟩ := u9
                  obtain ⟨hv27, hn28⟩ := hr9
                  have hP : va_P D xcl (xMw cT aM ad24 rd gd25 vad26 o3.2.2.2.2 []) H1 := hP1
                  have hD : va_D A (xMw cT aM ad24 rd gd25 vad26 o3.2.2.2.2 []) := hD1.weaken (fun k q _ h => hFc q.1 h)
                  generalize H1 = H at hP hS hce ⊢
                  have hE9 : ∀ p, p < xct st → vad26 p = vad p := fun p h => (hv27 p (Nat.lt_of_lt_of_le h hN)).trans (hE p h)
                  have hE := hE9
                  have hN : xct st ≤ xct o3.2.2.2.2 := Nat.le_trans hN hn28
                  obtain rfl := Option.some.inj hf
                  exact vx_out (E := "java/lang/IndexOutOfBoundsException") (fun x h => (hne x h).elim) hlocks hce hcv hcl (fun t ht ha => ⟨(ad24, gd25, vad26), ⟨hE, hN⟩, ⟨rfl, by rw [ht]; exact hP, va_K.moved ha hK, hD⟩, hS.F ht⟩) hS.2.2 (Nat.le_refl _) (Nat.le_refl _)
                rw [if_neg hk21] at hf
                exact nomatch hf
          · rw [if_pos hc] at hf
            refine lv_aload_n hx hb dM_times_88 rfl (lv_at hl 0 rfl) ?_
            refine xm_aload_n hx hb (xvor _ _) dM_times_89 rfl (lv_at hl 1 rfl) ?_
            refine xm_aload_n hx hb (xvor _ _) dM_times_90 rfl (lv_at hl 2 rfl) ?_
            obtain ⟨o3, hq4, hf⟩ := xbind hf
            have hl := lv_sub (l' := [(0, .ref aM)]) hl [0] rfl
            by_cases hk5 : o3.1 = 0
            · rw [if_pos hk5] at hf
              obtain ⟨hm6, hf⟩ := xmoE hf
              have hFc := xm_free hD hS hA
              refine va_callq (va_runV (C := "ValueBenchModel") (As := [xv vad c0, xv vad c1]) (rest := []) ⟨hx, hb, hml, hown, htx⟩ ((gM_merged l hl9 D cT aK aV d s.heap.size n aM ad rd gd vad st c0 c1 o3 hq4).1 hk5) ⟨callB_of 2 htx (xw_goodC kw_6_220) rfl rfl rfl (htx _ kw_1_5) (htx _ kw_6_217) ⟨by decide, by decide, by decide +kernel⟩ ⟨(by show (16 * d) + 1 ≤ 16 * (d + 1); omega), (by show 8 + (8 + 11) + (400 * d) ≤ 400 * (d + 1); omega)⟩, (htx _ kw_6_219), (htx _ kp_M_merged)⟩ ⟨xPre_blind, va_recv hK hP (ci := 5) rfl (q0 := 0) rfl, (fun U hU hW => ⟨rfl, xPre_of hZ hS hFc hP hD hK U hU hW⟩)⟩ rfl rfl hl.1 rfl (xm_room (Nat.le_of_ble_eq_true rfl)) dM_times_91 ⟨hm6.1, hm6.2⟩) hS (fun q _ h => hFc q h) hFc (fun r7 u9 t H1 locs ht hvm hr9 hB hz1 hk1 hS => ?_)
              obtain ⟨hP1, hK1, hD1⟩ := hB
              rw [ht] at hP1
              obtain ⟨ad8, gd9, vad10⟩ := u9
              obtain ⟨hr9, hv11, hn12⟩ := hr9
              have hP : va_P D xcl (xMw cT aM ad8 rd gd9 vad10 o3.2.2.2.2 []) H1 := hP1
              have hD : va_D A (xMw cT aM ad8 rd gd9 vad10 o3.2.2.2.2 []) := hD1.weaken (fun k q _ h => hFc q.1 h)
              generalize H1 = H at hP hS ⊢
              have hE9 : ∀ p, p < xct st → vad10 p = vad p := fun p h => (hv11 p (Nat.lt_of_lt_of_le h hN)).trans (hE p h)
              have hE := hE9
              have hN : xct st ≤ xct o3.2.2.2.2 := Nat.le_trans hN hn12
              rw [hr9]
              refine W.eq (g2 := F0 m 94 ls [xv vad10 o3.2.2.2.1]) (by first | rfl | (skip; rfl)) ?_
              obtain rfl := Option.some.inj hf
              exact absurd (show (0 : Nat) = 2 from hkd) (by decide)
            rw [if_neg hk5] at hf
            by_cases hk13 : o3.1 = 1
            · rw [if_pos hk13] at hf
              obtain ⟨hm14, hf⟩ := xmoE hf
              have hFc := xm_free hD hS hA
              refine xx_thr (vx_runV (C := "ValueBenchModel") (As := [xv vad c0, xv vad c1]) (rest := []) ⟨hx, hb, hml, hown, htx⟩ ((gM_merged l hl9 D cT aK aV d s.heap.size n aM ad rd gd vad st c0 c1 o3 hq4).2 hk13) ⟨callB_of 2 htx (xw_goodC kw_6_220) rfl rfl rfl (htx _ kw_1_5) (htx _ kw_6_217) ⟨by decide, by decide, by decide +kernel⟩ ⟨(by show (16 * d) + 1 ≤ 16 * (d + 1); omega), (by show 8 + (8 + 11) + (400 * d) ≤ 400 * (d + 1); omega)⟩, (htx _ kw_6_219), (htx _ kp_M_merged)⟩ ⟨xPre_blind, va_recv hK hP (ci := 5) rfl (q0 := 0) rfl, (fun U hU hW => ⟨rfl, xPre_of hZ hS hFc hP hD hK U hU hW⟩)⟩ rfl rfl hl.1 rfl (xm_room (Nat.le_of_ble_eq_true rfl)) dM_times_91 ⟨hm14.1, hm14.2⟩) hS hFc (fun q _ h => hFc q h) (fun E ce q9 u9 t H1 locs ht hvm hr9 hB hz1 hk1 hS hce hcv hcl => ?_)
              obtain ⟨rfl, hP1, hK1, hD1⟩ := hB
              rw [ht] at hP1
              obtain ⟨ad16, gd17, vad18⟩ := u9
              obtain ⟨hv19, hn20⟩ := hr9
              have hP : va_P D xcl (xMw cT aM ad16 rd gd17 vad18 o3.2.2.2.2 []) H1 := hP1
              have hD : va_D A (xMw cT aM ad16 rd gd17 vad18 o3.2.2.2.2 []) := hD1.weaken (fun k q _ h => hFc q.1 h)
              generalize H1 = H at hP hS hce ⊢
              have hE9 : ∀ p, p < xct st → vad18 p = vad p := fun p h => (hv19 p (Nat.lt_of_lt_of_le h hN)).trans (hE p h)
              have hE := hE9
              have hN : xct st ≤ xct o3.2.2.2.2 := Nat.le_trans hN hn20
              obtain rfl := Option.some.inj hf
              exact vx_out (E := "java/lang/IndexOutOfBoundsException") (fun x h => (hne x h).elim) hlocks hce hcv hcl (fun t ht ha => ⟨(ad16, gd17, vad18), ⟨hE, hN⟩, ⟨rfl, by rw [ht]; exact hP, va_K.moved ha hK, hD⟩, hS.F ht⟩) hS.2.2 (Nat.le_refl _) (Nat.le_refl _)
            rw [if_neg hk13] at hf
            exact nomatch hf
      · rw [if_pos hc] at hf
        refine xm_aload_n hx hb (xvor _ _) dM_times_8 rfl (lv_at hl 2 rfl) ?_
        obtain ⟨hg2, hf⟩ := xifn hf
        refine xm_vget (v := .int ((xpi st 0) (c1 - 1))) hx hb htx hown hK hP 0 (by decide) hg2 rfl ((hZ.1 (93, "kind", "I") (List.mem_of_getElem? (i := 0) rfl)).use rfl) rfl dM_times_9 ?_
        refine lv_iconst (v := 3) hx hb dM_times_12 (by decide) ?_
        refine lv_icmp_ne (tgt := 70) hx hb dM_times_13 (by decide) (fun hc => ?_) (fun hc => ?_)
        · rw [if_neg hc] at hf
          refine xm_aload_n hx hb (xvor _ _) dM_times_70 rfl (lv_at hl 1 rfl) ?_
          refine xm_vget (v := .int ((xpi st 0) (c0 - 1))) hx hb htx hown hK hP 0 (by decide) hg1 rfl ((hZ.1 (93, "kind", "I") (List.mem_of_getElem? (i := 0) rfl)).use rfl) rfl dM_times_71 ?_
          refine lv_bipush (v := 6) hx hb dM_times_74 (by decide) ?_
          refine lv_icmp_ne (tgt := 95) hx hb dM_times_76 (by decide) (fun hc => ?_) (fun hc => ?_)
          · rw [if_neg hc] at hf
            refine xm_aload_n hx hb (xvor _ _) dM_times_95 rfl (lv_at hl 1 rfl) ?_
            refine xm_vget (v := .int ((xpi st 0) (c0 - 1))) hx hb htx hown hK hP 0 (by decide) hg1 rfl ((hZ.1 (93, "kind", "I") (List.mem_of_getElem? (i := 0) rfl)).use rfl) rfl dM_times_96 ?_
            refine lv_iconst (v := 3) hx hb dM_times_99 (by decide) ?_
            refine lv_icmp_ne (tgt := 118) hx hb dM_times_100 (by decide) (fun hc => ?_) (fun hc => ?_)
            · rw [if_neg hc] at hf
              refine xm_aload_n hx hb (xvor _ _) dM_times_118 rfl (lv_at hl 1 rfl) ?_
              refine xm_vget (v := .int ((xpi st 0) (c0 - 1))) hx hb htx hown hK hP 0 (by decide) hg1 rfl ((hZ.1 (93, "kind", "I") (List.mem_of_getElem? (i := 0) rfl)).use rfl) rfl dM_times_119 ?_
              refine lv_iconst (v := 4) hx hb dM_times_122 (by decide) ?_
              refine lv_icmp_ne (tgt := 134) hx hb dM_times_123 (by decide) (fun hc => ?_) (fun hc => ?_)
              · rw [if_neg hc] at hf
                refine lv_aload_n hx hb dM_times_134 rfl (lv_at hl 0 rfl) ?_
                refine lv_iconst (v := 1) hx hb dM_times_135 (by decide) ?_
                obtain ⟨o3, hq4, hf⟩ := xbind hf
                have hl := lv_sub (l' := [(0, .ref aM)]) hl [0] rfl
                by_cases hk5 : o3.1 = 1
                · rw [if_pos hk5] at hf
                  obtain ⟨hm6, hf⟩ := xmoE hf
                  obtain rfl := Option.some.inj hf
                  exact absurd (show (1 : Nat) = 2 from hkd) (by decide)
                rw [if_neg hk5] at hf
                exact nomatch hf
              · rw [if_pos hc] at hf
                refine xm_aload_n hx hb (xvor _ _) dM_times_126 rfl (lv_at hl 2 rfl) ?_
                refine xm_vget (v := .int ((xpi st 0) (c1 - 1))) hx hb htx hown hK hP 0 (by decide) hg2 rfl ((hZ.1 (93, "kind", "I") (List.mem_of_getElem? (i := 0) rfl)).use rfl) rfl dM_times_127 ?_
                refine lv_iconst (v := 3) hx hb dM_times_130 (by decide) ?_
                refine lv_icmp_eq (tgt := 140) hx hb dM_times_131 (by decide) (fun hc => ?_) (fun hc => ?_)
                · rw [if_pos hc] at hf
                  refine xm_aload_n hx hb (xvor _ _) dM_times_140 rfl (lv_at hl 2 rfl) ?_
                  refine xm_vget (v := .long ((xpl st) (c1 - 1))) hx hb htx hown hK hP 1 (by decide) hg2 rfl ((hZ.1 (96, "n", "J") (List.mem_of_getElem? (i := 1) rfl)).use rfl) rfl dM_times_141 ?_
                  refine lv_lconst (v := 1) hx hb dM_times_144 (by decide) ?_
                  refine W.lcmp hx hb dM_times_145 ?_
                  refine lv_if_ge (tgt := 155) hx hb dM_times_146 (by decide) (fun hc => ?_) (fun hc => ?_)
                  · rw [if_pos hc] at hf
                    refine xm_aload_n hx hb (xvor _ _) dM_times_155 rfl (lv_at hl 2 rfl) ?_
                    refine xm_vget (v := .long ((xpl st) (c1 - 1))) hx hb htx hown hK hP 1 (by decide) hg2 rfl ((hZ.1 (96, "n", "J") (List.mem_of_getElem? (i := 1) rfl)).use rfl) rfl dM_times_156 ?_
                    refine xm_aload_n hx hb (xvor _ _) dM_times_159 rfl (lv_at hl 1 rfl) ?_
                    refine xm_vget (v := .int ((xpi st 3) (c0 - 1))) hx hb htx hown hK hP 3 (by decide) hg1 rfl ((hZ.1 (103, "count", "I") (List.mem_of_getElem? (i := 3) rfl)).use rfl) rfl dM_times_160 ?_
                    refine lv_i2l hx hb dM_times_163 rfl ?_
                    refine lv_lconst (v := 1) hx hb dM_times_164 (by decide) ?_
                    refine lv_ladd hx hb dM_times_165 ?_
                    refine lv_lmul hx hb dM_times_166 ?_
                    refine lv_ldc2 hx hb hown (htx _ kw_6_221) dM_times_167 ?_
                    refine W.lcmp hx hb dM_times_170 ?_
                    refine lv_if_le (tgt := 197) hx hb dM_times_171 (by decide) (fun hc => ?_) (fun hc => ?_)
                    · rw [if_pos hc] at hf
                      refine xm_aload_n hx hb (xvor _ _) dM_times_197 rfl (lv_at hl 1 rfl) ?_
                      refine xm_vget (v := .int ((xpi st 3) (c0 - 1))) hx hb htx hown hK hP 3 (by decide) hg1 rfl ((hZ.1 (103, "count", "I") (List.mem_of_getElem? (i := 3) rfl)).use rfl) rfl dM_times_198 ?_
                      refine lv_if_le (tgt := 225) hx hb dM_times_201 (by decide) (fun hc => ?_) (fun hc => ?_)
                      · rw [if_pos hc] at hf
                        refine lv_aload_n hx hb dM_times_225 rfl (lv_at hl 0 rfl) ?_
                        refine xm_get (v := .int (xsi st 4)) hx hb htx hown hK hP 4 (by decide) rfl (htx _ kw_5_91) rfl dM_times_226 ?_
                        refine lv_istore_n (lv' := [(3, .int (xsi st 4)), (0, .ref aM), (1, xv vad c0), (2, xv vad c1)]) hx hb dM_times_229 rfl hl (by decide) (by simp only [List.filter, xvcat, xrscat, xcI, xcL, xcR, xcN]; rfl) (fun ls hl => ?_)
                        refine lv_lconst (v := 0) hx hb dM_times_230 (by decide) ?_
                        refine lv_lstore (lv' := [(4, .long 0), (3, .int (xsi st 4)), (0, .ref aM), (1, xv vad c0), (2, xv vad c1)]) hx hb dM_times_231 hl (by decide) rfl (fun ls hl => ?_)
                        exact key n (1, (0 : Int64), (xsi st 4), c0, c1, st, 0, 0) _ _ ls (⟨ad, gd, vad, rfl, hf, hP, hD, hS, lv_sub hl [0, 1, 2, 3, 4] rfl, hE, hN⟩)
                      · rw [if_neg hc] at hf
                        refine xm_aload_n hx hb (xvor _ _) dM_times_204 rfl (lv_at hl 2 rfl) ?_
                        refine xm_vget (v := .long ((xpl st) (c1 - 1))) hx hb htx hown hK hP 1 (by decide) hg2 rfl ((hZ.1 (96, "n", "J") (List.mem_of_getElem? (i := 1) rfl)).use rfl) rfl dM_times_205 ?_
                        refine lv_ldc hx hb hown (htx _ kw_6_62) dM_times_208 ?_
                        refine xm_aload_n hx hb (xvor _ _) dM_times_210 rfl (lv_at hl 1 rfl) ?_
                        refine xm_vget (v := .int ((xpi st 3) (c0 - 1))) hx hb htx hown hK hP 3 (by decide) hg1 rfl ((hZ.1 (103, "count", "I") (List.mem_of_getElem? (i := 3) rfl)).use rfl) rfl dM_times_211 ?_
                        obtain ⟨hg3, hf⟩ := xifn hf
                        refine lv_idiv hx hb dM_times_214 hg3 ?_
                        refine lv_i2l hx hb dM_times_215 rfl ?_
                        refine W.lcmp hx hb dM_times_216 ?_
                        refine lv_if_le (tgt := 225) hx hb dM_times_217 (by decide) (fun hc => ?_) (fun hc => ?_)
                        · rw [if_pos hc] at hf
                          refine lv_aload_n hx hb dM_times_225 rfl (lv_at hl 0 rfl) ?_
                          refine xm_get (v := .int (xsi st 4)) hx hb htx hown hK hP 4 (by decide) rfl (htx _ kw_5_91) rfl dM_times_226 ?_
                          refine lv_istore_n (lv' := [(3, .int (xsi st 4)), (0, .ref aM), (1, xv vad c0), (2, xv vad c1)]) hx hb dM_times_229 rfl hl (by decide) (by simp only [List.filter, xvcat, xrscat, xcI, xcL, xcR, xcN]; rfl) (fun ls hl => ?_)
                          refine lv_lconst (v := 0) hx hb dM_times_230 (by decide) ?_
                          refine lv_lstore (lv' := [(4, .long 0), (3, .int (xsi st 4)), (0, .ref aM), (1, xv vad c0), (2, xv vad c1)]) hx hb dM_times_231 hl (by decide) rfl (fun ls hl => ?_)
                          exact key n (1, (0 : Int64), (xsi st 4), c0, c1, st, 0, 0) _ _ ls (⟨ad, gd, vad, rfl, hf, hP, hD, hS, lv_sub hl [0, 1, 2, 3, 4] rfl, hE, hN⟩)
                        · rw [if_neg hc] at hf
                          refine lv_aload_n hx hb dM_times_220 rfl (lv_at hl 0 rfl) ?_
                          obtain ⟨o4, hq5, hf⟩ := xbind hf
                          have hl := lv_sub (l' := [(0, .ref aM)]) hl [0] rfl
                          by_cases hk6 : o4.1 = 1
                          · rw [if_pos hk6] at hf
                            obtain ⟨hm7, hf⟩ := xmoE hf
                            have hFc := xm_free hD hS hA
                            refine xx_thr (vx_runV (C := "ValueBenchModel") (As := []) (rest := []) ⟨hx, hb, hml, hown, htx⟩ (gM_limit_1 l hl9 D cT aK aV s.heap.size n aM ad rd gd vad st o4 hq5 hk6) ⟨callB_of 0 htx (xw_goodC kw_6_66) rfl rfl rfl (htx _ kw_1_5) (htx _ kw_6_63) ⟨by decide, by decide, by decide +kernel⟩ ⟨Nat.le_of_ble_eq_true rfl, Nat.le_of_ble_eq_true rfl⟩, (htx _ kw_6_65), (htx _ kp_M_limit)⟩ ⟨xPre_blind, va_recv hK hP (ci := 5) rfl (q0 := 0) rfl, (fun U hU hW => ⟨rfl, xPre_of hZ hS hFc hP hD hK U hU hW⟩)⟩ rfl rfl hl.1 rfl (xm_room (Nat.le_of_ble_eq_true rfl)) dM_times_221 ⟨hm7.1, hm7.2⟩) hS hFc (fun q _ h => hFc q h) (fun E ce q9 u9 t H1 locs ht hvm hr9 hB hz1 hk1 hS hce hcv hcl => ?_)
                            obtain ⟨rfl, hP1, hK1, hD1⟩ := hB
                            rw [ht] at hP1
                            obtain ⟨ad9, gd10, vad11⟩ := u9
                            obtain ⟨hv12, hn13⟩ := hr9
                            have hP : va_P D xcl (xMw cT aM ad9 rd gd10 vad11 st []) H1 := hP1
                            have hD : va_D A (xMw cT aM ad9 rd gd10 vad11 st []) := hD1.weaken (fun k q _ h => hFc q.1 h)
                            generalize H1 = H at hP hS hce ⊢
                            have hE9 : ∀ p, p < xct st → vad11 p = vad p := fun p h => (hv12 p (Nat.lt_of_lt_of_le h hN)).trans (hE p h)
                            have hE := hE9
                            have hN : xct st ≤ xct st := Nat.le_trans hN hn13
                            obtain rfl := Option.some.inj hf
                            exact vx_out (E := "java/lang/IndexOutOfBoundsException") (fun x h => (hne x h).elim) hlocks hce hcv hcl (fun t ht ha => ⟨(ad9, gd10, vad11), ⟨hE, hN⟩, ⟨rfl, by rw [ht]; exact hP, va_K.moved ha hK, hD⟩, hS.F ht⟩) hS.2.2 (Nat.le_refl _) (Nat.le_refl _)
                          rw [if_neg hk6] at hf
                          exact nomatch hf
                    · rw [if_neg hc] at hf
                      refine xm_aload_n hx hb (xvor _ _) dM_times_174 rfl (lv_at hl 1 rfl) ?_
                      refine xm_vget (v := .int ((xpi st 3) (c0 - 1))) hx hb htx hown hK hP 3 (by decide) hg1 rfl ((hZ.1 (103, "count", "I") (List.mem_of_getElem? (i := 3) rfl)).use rfl) rfl dM_times_175 ?_
                      refine lv_if_le (tgt := 197) hx hb dM_times_178 (by decide) (fun hc => ?_) (fun hc => ?_)
                      · rw [if_pos hc] at hf
                        refine xm_aload_n hx hb (xvor _ _) dM_times_197 rfl (lv_at hl 1 rfl) ?_
                        refine xm_vget (v := .int ((xpi st 3) (c0 - 1))) hx hb htx hown hK hP 3 (by decide) hg1 rfl ((hZ.1 (103, "count", "I") (List.mem_of_getElem? (i := 3) rfl)).use rfl) rfl dM_times_198 ?_
                        refine lv_if_le (tgt := 225) hx hb dM_times_201 (by decide) (fun hc => ?_) (fun hc => ?_)
                        · rw [if_pos hc] at hf
                          refine lv_aload_n hx hb dM_times_225 rfl (lv_at hl 0 rfl) ?_
                          refine xm_get (v := .int (xsi st 4)) hx hb htx hown hK hP 4 (by decide) rfl (htx _ kw_5_91) rfl dM_times_226 ?_
                          refine lv_istore_n (lv' := [(3, .int (xsi st 4)), (0, .ref aM), (1, xv vad c0), (2, xv vad c1)]) hx hb dM_times_229 rfl hl (by decide) (by simp only [List.filter, xvcat, xrscat, xcI, xcL, xcR, xcN]; rfl) (fun ls hl => ?_)
                          refine lv_lconst (v := 0) hx hb dM_times_230 (by decide) ?_
                          refine lv_lstore (lv' := [(4, .long 0), (3, .int (xsi st 4)), (0, .ref aM), (1, xv vad c0), (2, xv vad c1)]) hx hb dM_times_231 hl (by decide) rfl (fun ls hl => ?_)
                          exact key n (1, (0 : Int64), (xsi st 4), c0, c1, st, 0, 0) _ _ ls (⟨ad, gd, vad, rfl, hf, hP, hD, hS, lv_sub hl [0, 1, 2, 3, 4] rfl, hE, hN⟩)
                        · rw [if_neg hc] at hf
                          refine xm_aload_n hx hb (xvor _ _) dM_times_204 rfl (lv_at hl 2 rfl) ?_
                          refine xm_vget (v := .long ((xpl st) (c1 - 1))) hx hb htx hown hK hP 1 (by decide) hg2 rfl ((hZ.1 (96, "n", "J") (List.mem_of_getElem? (i := 1) rfl)).use rfl) rfl dM_times_205 ?_
                          refine lv_ldc hx hb hown (htx _ kw_6_62) dM_times_208 ?_
                          refine xm_aload_n hx hb (xvor _ _) dM_times_210 rfl (lv_at hl 1 rfl) ?_
                          refine xm_vget (v := .int ((xpi st 3) (c0 - 1))) hx hb htx hown hK hP 3 (by decide) hg1 rfl ((hZ.1 (103, "count", "I") (List.mem_of_getElem? (i := 3) rfl)).use rfl) rfl dM_times_211 ?_
                          obtain ⟨hg3, hf⟩ := xifn hf
                          refine lv_idiv hx hb dM_times_214 hg3 ?_
                          refine lv_i2l hx hb dM_times_215 rfl ?_
                          refine W.lcmp hx hb dM_times_216 ?_
                          refine lv_if_le (tgt := 225) hx hb dM_times_217 (by decide) (fun hc => ?_) (fun hc => ?_)
                          · rw [if_pos hc] at hf
                            refine lv_aload_n hx hb dM_times_225 rfl (lv_at hl 0 rfl) ?_
                            refine xm_get (v := .int (xsi st 4)) hx hb htx hown hK hP 4 (by decide) rfl (htx _ kw_5_91) rfl dM_times_226 ?_
                            refine lv_istore_n (lv' := [(3, .int (xsi st 4)), (0, .ref aM), (1, xv vad c0), (2, xv vad c1)]) hx hb dM_times_229 rfl hl (by decide) (by simp only [List.filter, xvcat, xrscat, xcI, xcL, xcR, xcN]; rfl) (fun ls hl => ?_)
                            refine lv_lconst (v := 0) hx hb dM_times_230 (by decide) ?_
                            refine lv_lstore (lv' := [(4, .long 0), (3, .int (xsi st 4)), (0, .ref aM), (1, xv vad c0), (2, xv vad c1)]) hx hb dM_times_231 hl (by decide) rfl (fun ls hl => ?_)
                            exact key n (1, (0 : Int64), (xsi st 4), c0, c1, st, 0, 0) _ _ ls (⟨ad, gd, vad, rfl, hf, hP, hD, hS, lv_sub hl [0, 1, 2, 3, 4] rfl, hE, hN⟩)
                          · rw [if_neg hc] at hf
                            refine lv_aload_n hx hb dM_times_220 rfl (lv_at hl 0 rfl) ?_
                            obtain ⟨o4, hq5, hf⟩ := xbind hf
                            have hl := lv_sub (l' := [(0, .ref aM)]) hl [0] rfl
                            by_cases hk6 : o4.1 = 1
                            · rw [if_pos hk6] at hf
                              obtain ⟨hm7, hf⟩ := xmoE hf
                              have hFc := xm_free hD hS hA
                              refine xx_thr (vx_runV (C := "ValueBenchModel") (As := []) (rest := []) ⟨hx, hb, hml, hown, htx⟩ (gM_limit_1 l hl9 D cT aK aV s.heap.size n aM ad rd gd vad st o4 hq5 hk6) ⟨callB_of 0 htx (xw_goodC kw_6_66) rfl rfl rfl (htx _ kw_1_5) (htx _ kw_6_63) ⟨by decide, by decide, by decide +kernel⟩ ⟨Nat.le_of_ble_eq_true rfl, Nat.le_of_ble_eq_true rfl⟩, (htx _ kw_6_65), (htx _ kp_M_limit)⟩ ⟨xPre_blind, va_recv hK hP (ci := 5) rfl (q0 := 0) rfl, (fun U hU hW => ⟨rfl, xPre_of hZ hS hFc hP hD hK U hU hW⟩)⟩ rfl rfl hl.1 rfl (xm_room (Nat.le_of_ble_eq_true rfl)) dM_times_221 ⟨hm7.1, hm7.2⟩) hS hFc (fun q _ h => hFc q h) (fun E ce q9 u9 t H1 locs ht hvm hr9 hB hz1 hk1 hS hce hcv hcl => ?_)
                              obtain ⟨rfl, hP1, hK1, hD1⟩ := hB
                              rw [ht] at hP1
                              obtain ⟨ad9, gd10, vad11⟩ := u9
                              obtain ⟨hv12, hn13⟩ := hr9
                              have hP : va_P D xcl (xMw cT aM ad9 rd gd10 vad11 st []) H1 := hP1
                              have hD : va_D A (xMw cT aM ad9 rd gd10 vad11 st []) := hD1.weaken (fun k q _ h => hFc q.1 h)
                              generalize H1 = H at hP hS hce ⊢
                              have hE9 : ∀ p, p < xct st → vad11 p = vad p := fun p h => (hv12 p (Nat.lt_of_lt_of_le h hN)).trans (hE p h)
                              have hE := hE9
                              have hN : xct st ≤ xct st := Nat.le_trans hN hn13
                              obtain rfl := Option.some.inj hf
                              exact vx_out (E := "java/lang/IndexOutOfBoundsException") (fun x h => (hne x h).elim) hlocks hce hcv hcl (fun t ht ha => ⟨(ad9, gd10, vad11), ⟨hE, hN⟩, ⟨rfl, by rw [ht]; exact hP, va_K.moved ha hK, hD⟩, hS.F ht⟩) hS.2.2 (Nat.le_refl _) (Nat.le_refl _)
                            rw [if_neg hk6] at hf
                            exact nomatch hf
                      · rw [if_neg hc] at hf
                        refine xm_aload_n hx hb (xvor _ _) dM_times_181 rfl (lv_at hl 2 rfl) ?_
                        refine xm_vget (v := .long ((xpl st) (c1 - 1))) hx hb htx hown hK hP 1 (by decide) hg2 rfl ((hZ.1 (96, "n", "J") (List.mem_of_getElem? (i := 1) rfl)).use rfl) rfl dM_times_182 ?_
                        refine lv_ldc2 hx hb hown (htx _ kw_6_108) dM_times_185 ?_
                        refine W.lcmp hx hb dM_times_188 ?_
                        refine lv_if_le (tgt := 197) hx hb dM_times_189 (by decide) (fun hc => ?_) (fun hc => ?_)
                        · rw [if_pos hc] at hf
                          refine xm_aload_n hx hb (xvor _ _) dM_times_197 rfl (lv_at hl 1 rfl) ?_
                          refine xm_vget (v := .int ((xpi st 3) (c0 - 1))) hx hb htx hown hK hP 3 (by decide) hg1 rfl ((hZ.1 (103, "count", "I") (List.mem_of_getElem? (i := 3) rfl)).use rfl) rfl dM_times_198 ?_
                          refine lv_if_le (tgt := 225) hx hb dM_times_201 (by decide) (fun hc => ?_) (fun hc => ?_)
                          · rw [if_pos hc] at hf
                            refine lv_aload_n hx hb dM_times_225 rfl (lv_at hl 0 rfl) ?_
                            refine xm_get (v := .int (xsi st 4)) hx hb htx hown hK hP 4 (by decide) rfl (htx _ kw_5_91) rfl dM_times_226 ?_
                            refine lv_istore_n (lv' := [(3, .int (xsi st 4)), (0, .ref aM), (1, xv vad c0), (2, xv vad c1)]) hx hb dM_times_229 rfl hl (by decide) (by simp only [List.filter, xvcat, xrscat, xcI, xcL, xcR, xcN]; rfl) (fun ls hl => ?_)
                            refine lv_lconst (v := 0) hx hb dM_times_230 (by decide) ?_
                            refine lv_lstore (lv' := [(4, .long 0), (3, .int (xsi st 4)), (0, .ref aM), (1, xv vad c0), (2, xv vad c1)]) hx hb dM_times_231 hl (by decide) rfl (fun ls hl => ?_)
                            exact key n (1, (0 : Int64), (xsi st 4), c0, c1, st, 0, 0) _ _ ls (⟨ad, gd, vad, rfl, hf, hP, hD, hS, lv_sub hl [0, 1, 2, 3, 4] rfl, hE, hN⟩)
                          · rw [if_neg hc] at hf
                            refine xm_aload_n hx hb (xvor _ _) dM_times_204 rfl (lv_at hl 2 rfl) ?_
                            refine xm_vget (v := .long ((xpl st) (c1 - 1))) hx hb htx hown hK hP 1 (by decide) hg2 rfl ((hZ.1 (96, "n", "J") (List.mem_of_getElem? (i := 1) rfl)).use rfl) rfl dM_times_205 ?_
                            refine lv_ldc hx hb hown (htx _ kw_6_62) dM_times_208 ?_
                            refine xm_aload_n hx hb (xvor _ _) dM_times_210 rfl (lv_at hl 1 rfl) ?_
                            refine xm_vget (v := .int ((xpi st 3) (c0 - 1))) hx hb htx hown hK hP 3 (by decide) hg1 rfl ((hZ.1 (103, "count", "I") (List.mem_of_getElem? (i := 3) rfl)).use rfl) rfl dM_times_211 ?_
                            obtain ⟨hg3, hf⟩ := xifn hf
                            refine lv_idiv hx hb dM_times_214 hg3 ?_
                            refine lv_i2l hx hb dM_times_215 rfl ?_
                            refine W.lcmp hx hb dM_times_216 ?_
                            refine lv_if_le (tgt := 225) hx hb dM_times_217 (by decide) (fun hc => ?_) (fun hc => ?_)
                            · rw [if_pos hc] at hf
                              refine lv_aload_n hx hb dM_times_225 rfl (lv_at hl 0 rfl) ?_
                              refine xm_get (v := .int (xsi st 4)) hx hb htx hown hK hP 4 (by decide) rfl (htx _ kw_5_91) rfl dM_times_226 ?_
                              refine lv_istore_n (lv' := [(3, .int (xsi st 4)), (0, .ref aM), (1, xv vad c0), (2, xv vad c1)]) hx hb dM_times_229 rfl hl (by decide) (by simp only [List.filter, xvcat, xrscat, xcI, xcL, xcR, xcN]; rfl) (fun ls hl => ?_)
                              refine lv_lconst (v := 0) hx hb dM_times_230 (by decide) ?_
                              refine lv_lstore (lv' := [(4, .long 0), (3, .int (xsi st 4)), (0, .ref aM), (1, xv vad c0), (2, xv vad c1)]) hx hb dM_times_231 hl (by decide) rfl (fun ls hl => ?_)
                              exact key n (1, (0 : Int64), (xsi st 4), c0, c1, st, 0, 0) _ _ ls (⟨ad, gd, vad, rfl, hf, hP, hD, hS, lv_sub hl [0, 1, 2, 3, 4] rfl, hE, hN⟩)
                            · rw [if_neg hc] at hf
                              refine lv_aload_n hx hb dM_times_220 rfl (lv_at hl 0 rfl) ?_
                              obtain ⟨o4, hq5, hf⟩ := xbind hf
                              have hl := lv_sub (l' := [(0, .ref aM)]) hl [0] rfl
                              by_cases hk6 : o4.1 = 1
                              · rw [if_pos hk6] at hf
                                obtain ⟨hm7, hf⟩ := xmoE hf
                                have hFc := xm_free hD hS hA
                                refine xx_thr (vx_runV (C := "ValueBenchModel") (As := []) (rest := []) ⟨hx, hb, hml, hown, htx⟩ (gM_limit_1 l hl9 D cT aK aV s.heap.size n aM ad rd gd vad st o4 hq5 hk6) ⟨callB_of 0 htx (xw_goodC kw_6_66) rfl rfl rfl (htx _ kw_1_5) (htx _ kw_6_63) ⟨by decide, by decide, by decide +kernel⟩ ⟨Nat.le_of_ble_eq_true rfl, Nat.le_of_ble_eq_true rfl⟩, (htx _ kw_6_65), (htx _ kp_M_limit)⟩ ⟨xPre_blind, va_recv hK hP (ci := 5) rfl (q0 := 0) rfl, (fun U hU hW => ⟨rfl, xPre_of hZ hS hFc hP hD hK U hU hW⟩)⟩ rfl rfl hl.1 rfl (xm_room (Nat.le_of_ble_eq_true rfl)) dM_times_221 ⟨hm7.1, hm7.2⟩) hS hFc (fun q _ h => hFc q h) (fun E ce q9 u9 t H1 locs ht hvm hr9 hB hz1 hk1 hS hce hcv hcl => ?_)
                                obtain ⟨rfl, hP1, hK1, hD1⟩ := hB
                                rw [ht] at hP1
                                obtain ⟨ad9, gd10, vad11⟩ := u9
                                obtain ⟨hv12, hn13⟩ := hr9
                                have hP : va_P D xcl (xMw cT aM ad9 rd gd10 vad11 st []) H1 := hP1
                                have hD : va_D A (xMw cT aM ad9 rd gd10 vad11 st []) := hD1.weaken (fun k q _ h => hFc q.1 h)
                                generalize H1 = H at hP hS hce ⊢
                                have hE9 : ∀ p, p < xct st → vad11 p = vad p := fun p h => (hv12 p (Nat.lt_of_lt_of_le h hN)).trans (hE p h)
                                have hE := hE9
                                have hN : xct st ≤ xct st := Nat.le_trans hN hn13
                                obtain rfl := Option.some.inj hf
                                exact vx_out (E := "java/lang/IndexOutOfBoundsException") (fun x h => (hne x h).elim) hlocks hce hcv hcl (fun t ht ha => ⟨(ad9, gd10, vad11), ⟨hE, hN⟩, ⟨rfl, by rw [ht]; exact hP, va_K.moved ha hK, hD⟩, hS.F ht⟩) hS.2.2 (Nat.le_refl _) (Nat.le_refl _)
                              rw [if_neg hk6] at hf
                              exact nomatch hf
                        · rw [if_neg hc] at hf
                          refine lv_aload_n hx hb dM_times_192 rfl (lv_at hl 0 rfl) ?_
                          obtain ⟨o3, hq4, hf⟩ := xbind hf
                          have hl := lv_sub (l' := [(0, .ref aM)]) hl [0] rfl
                          by_cases hk5 : o3.1 = 1
                          · rw [if_pos hk5] at hf
                            obtain ⟨hm6, hf⟩ := xmoE hf
                            have hFc := xm_free hD hS hA
                            refine xx_thr (vx_runV (C := "ValueBenchModel") (As := []) (rest := []) ⟨hx, hb, hml, hown, htx⟩ (gM_limit_1 l hl9 D cT aK aV s.heap.size n aM ad rd gd vad st o3 hq4 hk5) ⟨callB_of 0 htx (xw_goodC kw_6_66) rfl rfl rfl (htx _ kw_1_5) (htx _ kw_6_63) ⟨by decide, by decide, by decide +kernel⟩ ⟨Nat.le_of_ble_eq_true rfl, Nat.le_of_ble_eq_true rfl⟩, (htx _ kw_6_65), (htx _ kp_M_limit)⟩ ⟨xPre_blind, va_recv hK hP (ci := 5) rfl (q0 := 0) rfl, (fun U hU hW => ⟨rfl, xPre_of hZ hS hFc hP hD hK U hU hW⟩)⟩ rfl rfl hl.1 rfl (xm_room (Nat.le_of_ble_eq_true rfl)) dM_times_193 ⟨hm6.1, hm6.2⟩) hS hFc (fun q _ h => hFc q h) (fun E ce q9 u9 t H1 locs ht hvm hr9 hB hz1 hk1 hS hce hcv hcl => ?_)
                            obtain ⟨rfl, hP1, hK1, hD1⟩ := hB
                            rw [ht] at hP1
                            obtain ⟨ad8, gd9, vad10⟩ := u9
                            obtain ⟨hv11, hn12⟩ := hr9
                            have hP : va_P D xcl (xMw cT aM ad8 rd gd9 vad10 st []) H1 := hP1
                            have hD : va_D A (xMw cT aM ad8 rd gd9 vad10 st []) := hD1.weaken (fun k q _ h => hFc q.1 h)
                            generalize H1 = H at hP hS hce ⊢
                            have hE9 : ∀ p, p < xct st → vad10 p = vad p := fun p h => (hv11 p (Nat.lt_of_lt_of_le h hN)).trans (hE p h)
                            have hE := hE9
                            have hN : xct st ≤ xct st := Nat.le_trans hN hn12
                            obtain rfl := Option.some.inj hf
                            exact vx_out (E := "java/lang/IndexOutOfBoundsException") (fun x h => (hne x h).elim) hlocks hce hcv hcl (fun t ht ha => ⟨(ad8, gd9, vad10), ⟨hE, hN⟩, ⟨rfl, by rw [ht]; exact hP, va_K.moved ha hK, hD⟩, hS.F ht⟩) hS.2.2 (Nat.le_refl _) (Nat.le_refl _)
                          rw [if_neg hk5] at hf
                          exact nomatch hf
                  · rw [if_neg hc] at hf
                    refine lv_aload_n hx hb dM_times_149 rfl (lv_at hl 0 rfl) ?_
                    refine lv_iconst (v := 0) hx hb dM_times_150 (by decide) ?_
                    obtain ⟨o3, hq4, hf⟩ := xbind hf
                    have hl := lv_sub (l' := [(0, .ref aM)]) hl [0] rfl
                    obtain ⟨hm5, hf⟩ := xmoE hf
                    have hFc := xm_free hD hS hA
                    refine va_callq (va_runV (C := "ValueBenchModel") (As := [.int 0]) (rest := []) ⟨hx, hb, hml, hown, htx⟩ (gM_fresh l hl9 D cT aK aV s.heap.size n aM ad rd gd vad st (0 : Int32) o3 hq4) ⟨callB_of 1 htx (xw_goodC kw_6_16) rfl rfl rfl (htx _ kw_1_5) (htx _ kw_6_13) ⟨by decide, by decide, by decide +kernel⟩ ⟨Nat.le_of_ble_eq_true rfl, Nat.le_of_ble_eq_true rfl⟩, (htx _ kw_6_15), (htx _ kp_M_fresh)⟩ ⟨xPre_blind, va_recv hK hP (ci := 5) rfl (q0 := 0) rfl, (fun U hU hW => ⟨rfl, xPre_of hZ hS hFc hP hD hK U hU hW⟩)⟩ rfl rfl hl.1 rfl (xm_room (Nat.le_of_ble_eq_true rfl)) dM_times_151 ⟨hm5.1, hm5.2⟩) hS (fun q _ h => hFc q h) hFc (fun r6 u9 t H1 locs ht hvm hr9 hB hz1 hk1 hS => ?_)
                    obtain ⟨hP1, hK1, hD1⟩ := hB
                    rw [ht] at hP1
                    obtain ⟨ad7, gd8, vad9⟩ := u9
                    obtain ⟨hr9, hv10, hn11⟩ := hr9
                    have hP : va_P D xcl (xMw cT aM ad7 rd gd8 vad9 o3.2.2.2 []) H1 := hP1
                    have hD : va_D A (xMw cT aM ad7 rd gd8 vad9 o3.2.2.2 []) := hD1.weaken (fun k q _ h => hFc q.1 h)
                    generalize H1 = H at hP hS ⊢
                    have hE9 : ∀ p, p < xct st → vad9 p = vad p := fun p h => (hv10 p (Nat.lt_of_lt_of_le h hN)).trans (hE p h)
                    have hE := hE9
                    have hN : xct st ≤ xct o3.2.2.2 := Nat.le_trans hN hn11
                    rw [hr9]
                    refine W.eq (g2 := F0 m 154 ls [xv vad9 o3.2.2.1]) (by first | rfl | (skip; rfl)) ?_
                    obtain rfl := Option.some.inj hf
                    exact absurd (show (0 : Nat) = 2 from hkd) (by decide)
                · rw [if_neg hc] at hf
                  refine lv_aload_n hx hb dM_times_134 rfl (lv_at hl 0 rfl) ?_
                  refine lv_iconst (v := 1) hx hb dM_times_135 (by decide) ?_
                  obtain ⟨o3, hq4, hf⟩ := xbind hf
                  have hl := lv_sub (l' := [(0, .ref aM)]) hl [0] rfl
                  by_cases hk5 : o3.1 = 1
                  · rw [if_pos hk5] at hf
                    obtain ⟨hm6, hf⟩ := xmoE hf
                    obtain rfl := Option.some.inj hf
                    exact absurd (show (1 : Nat) = 2 from hkd) (by decide)
                  rw [if_neg hk5] at hf
                  exact nomatch hf
            · rw [if_pos hc] at hf
              refine xm_aload_n hx hb (xvor _ _) dM_times_103 rfl (lv_at hl 2 rfl) ?_
              refine xm_vget (v := .int ((xpi st 0) (c1 - 1))) hx hb htx hown hK hP 0 (by decide) hg2 rfl ((hZ.1 (93, "kind", "I") (List.mem_of_getElem? (i := 0) rfl)).use rfl) rfl dM_times_104 ?_
              refine lv_iconst (v := 4) hx hb dM_times_107 (by decide) ?_
              refine lv_icmp_ne (tgt := 118) hx hb dM_times_108 (by decide) (fun hc => ?_) (fun hc => ?_)
              · rw [if_neg hc] at hf
                refine xm_aload_n hx hb (xvor _ _) dM_times_118 rfl (lv_at hl 1 rfl) ?_
                refine xm_vget (v := .int ((xpi st 0) (c0 - 1))) hx hb htx hown hK hP 0 (by decide) hg1 rfl ((hZ.1 (93, "kind", "I") (List.mem_of_getElem? (i := 0) rfl)).use rfl) rfl dM_times_119 ?_
                refine lv_iconst (v := 4) hx hb dM_times_122 (by decide) ?_
                refine lv_icmp_ne (tgt := 134) hx hb dM_times_123 (by decide) (fun hc => ?_) (fun hc => ?_)
                · rw [if_neg hc] at hf
                  refine lv_aload_n hx hb dM_times_134 rfl (lv_at hl 0 rfl) ?_
                  refine lv_iconst (v := 1) hx hb dM_times_135 (by decide) ?_
                  obtain ⟨o3, hq4, hf⟩ := xbind hf
                  have hl := lv_sub (l' := [(0, .ref aM)]) hl [0] rfl
                  by_cases hk5 : o3.1 = 1
                  · rw [if_pos hk5] at hf
                    obtain ⟨hm6, hf⟩ := xmoE hf
                    obtain rfl := Option.some.inj hf
                    exact absurd (show (1 : Nat) = 2 from hkd) (by decide)
                  rw [if_neg hk5] at hf
                  exact nomatch hf
                · rw [if_pos hc] at hf
                  refine xm_aload_n hx hb (xvor _ _) dM_times_126 rfl (lv_at hl 2 rfl) ?_
                  refine xm_vget (v := .int ((xpi st 0) (c1 - 1))) hx hb htx hown hK hP 0 (by decide) hg2 rfl ((hZ.1 (93, "kind", "I") (List.mem_of_getElem? (i := 0) rfl)).use rfl) rfl dM_times_127 ?_
                  refine lv_iconst (v := 3) hx hb dM_times_130 (by decide) ?_
                  refine lv_icmp_eq (tgt := 140) hx hb dM_times_131 (by decide) (fun hc => ?_) (fun hc => ?_)
                  · rw [if_pos hc] at hf
                    refine xm_aload_n hx hb (xvor _ _) dM_times_140 rfl (lv_at hl 2 rfl) ?_
                    refine xm_vget (v := .long ((xpl st) (c1 - 1))) hx hb htx hown hK hP 1 (by decide) hg2 rfl ((hZ.1 (96, "n", "J") (List.mem_of_getElem? (i := 1) rfl)).use rfl) rfl dM_times_141 ?_
                    refine lv_lconst (v := 1) hx hb dM_times_144 (by decide) ?_
                    refine W.lcmp hx hb dM_times_145 ?_
                    refine lv_if_ge (tgt := 155) hx hb dM_times_146 (by decide) (fun hc => ?_) (fun hc => ?_)
                    · rw [if_pos hc] at hf
                      refine xm_aload_n hx hb (xvor _ _) dM_times_155 rfl (lv_at hl 2 rfl) ?_
                      refine xm_vget (v := .long ((xpl st) (c1 - 1))) hx hb htx hown hK hP 1 (by decide) hg2 rfl ((hZ.1 (96, "n", "J") (List.mem_of_getElem? (i := 1) rfl)).use rfl) rfl dM_times_156 ?_
                      refine xm_aload_n hx hb (xvor _ _) dM_times_159 rfl (lv_at hl 1 rfl) ?_
                      refine xm_vget (v := .int ((xpi st 3) (c0 - 1))) hx hb htx hown hK hP 3 (by decide) hg1 rfl ((hZ.1 (103, "count", "I") (List.mem_of_getElem? (i := 3) rfl)).use rfl) rfl dM_times_160 ?_
                      refine lv_i2l hx hb dM_times_163 rfl ?_
                      refine lv_lconst (v := 1) hx hb dM_times_164 (by decide) ?_
                      refine lv_ladd hx hb dM_times_165 ?_
                      refine lv_lmul hx hb dM_times_166 ?_
                      refine lv_ldc2 hx hb hown (htx _ kw_6_221) dM_times_167 ?_
                      refine W.lcmp hx hb dM_times_170 ?_
                      refine lv_if_le (tgt := 197) hx hb dM_times_171 (by decide) (fun hc => ?_) (fun hc => ?_)
                      · rw [if_pos hc] at hf
                        refine xm_aload_n hx hb (xvor _ _) dM_times_197 rfl (lv_at hl 1 rfl) ?_
                        refine xm_vget (v := .int ((xpi st 3) (c0 - 1))) hx hb htx hown hK hP 3 (by decide) hg1 rfl ((hZ.1 (103, "count", "I") (List.mem_of_getElem? (i := 3) rfl)).use rfl) rfl dM_times_198 ?_
                        refine lv_if_le (tgt := 225) hx hb dM_times_201 (by decide) (fun hc => ?_) (fun hc => ?_)
                        · rw [if_pos hc] at hf
                          refine lv_aload_n hx hb dM_times_225 rfl (lv_at hl 0 rfl) ?_
                          refine xm_get (v := .int (xsi st 4)) hx hb htx hown hK hP 4 (by decide) rfl (htx _ kw_5_91) rfl dM_times_226 ?_
                          refine lv_istore_n (lv' := [(3, .int (xsi st 4)), (0, .ref aM), (1, xv vad c0), (2, xv vad c1)]) hx hb dM_times_229 rfl hl (by decide) (by simp only [List.filter, xvcat, xrscat, xcI, xcL, xcR, xcN]; rfl) (fun ls hl => ?_)
                          refine lv_lconst (v := 0) hx hb dM_times_230 (by decide) ?_
                          refine lv_lstore (lv' := [(4, .long 0), (3, .int (xsi st 4)), (0, .ref aM), (1, xv vad c0), (2, xv vad c1)]) hx hb dM_times_231 hl (by decide) rfl (fun ls hl => ?_)
                          exact key n (1, (0 : Int64), (xsi st 4), c0, c1, st, 0, 0) _ _ ls (⟨ad, gd, vad, rfl, hf, hP, hD, hS, lv_sub hl [0, 1, 2, 3, 4] rfl, hE, hN⟩)
                        · rw [if_neg hc] at hf
                          refine xm_aload_n hx hb (xvor _ _) dM_times_204 rfl (lv_at hl 2 rfl) ?_
                          refine xm_vget (v := .long ((xpl st) (c1 - 1))) hx hb htx hown hK hP 1 (by decide) hg2 rfl ((hZ.1 (96, "n", "J") (List.mem_of_getElem? (i := 1) rfl)).use rfl) rfl dM_times_205 ?_
                          refine lv_ldc hx hb hown (htx _ kw_6_62) dM_times_208 ?_
                          refine xm_aload_n hx hb (xvor _ _) dM_times_210 rfl (lv_at hl 1 rfl) ?_
                          refine xm_vget (v := .int ((xpi st 3) (c0 - 1))) hx hb htx hown hK hP 3 (by decide) hg1 rfl ((hZ.1 (103, "count", "I") (List.mem_of_getElem? (i := 3) rfl)).use rfl) rfl dM_times_211 ?_
                          obtain ⟨hg3, hf⟩ := xifn hf
                          refine lv_idiv hx hb dM_times_214 hg3 ?_
                          refine lv_i2l hx hb dM_times_215 rfl ?_
                          refine W.lcmp hx hb dM_times_216 ?_
                          refine lv_if_le (tgt := 225) hx hb dM_times_217 (by decide) (fun hc => ?_) (fun hc => ?_)
                          · rw [if_pos hc] at hf
                            refine lv_aload_n hx hb dM_times_225 rfl (lv_at hl 0 rfl) ?_
                            refine xm_get (v := .int (xsi st 4)) hx hb htx hown hK hP 4 (by decide) rfl (htx _ kw_5_91) rfl dM_times_226 ?_
                            refine lv_istore_n (lv' := [(3, .int (xsi st 4)), (0, .ref aM), (1, xv vad c0), (2, xv vad c1)]) hx hb dM_times_229 rfl hl (by decide) (by simp only [List.filter, xvcat, xrscat, xcI, xcL, xcR, xcN]; rfl) (fun ls hl => ?_)
                            refine lv_lconst (v := 0) hx hb dM_times_230 (by decide) ?_
                            refine lv_lstore (lv' := [(4, .long 0), (3, .int (xsi st 4)), (0, .ref aM), (1, xv vad c0), (2, xv vad c1)]) hx hb dM_times_231 hl (by decide) rfl (fun ls hl => ?_)
                            exact key n (1, (0 : Int64), (xsi st 4), c0, c1, st, 0, 0) _ _ ls (⟨ad, gd, vad, rfl, hf, hP, hD, hS, lv_sub hl [0, 1, 2, 3, 4] rfl, hE, hN⟩)
                          · rw [if_neg hc] at hf
                            refine lv_aload_n hx hb dM_times_220 rfl (lv_at hl 0 rfl) ?_
                            obtain ⟨o4, hq5, hf⟩ := xbind hf
                            have hl := lv_sub (l' := [(0, .ref aM)]) hl [0] rfl
                            by_cases hk6 : o4.1 = 1
                            · rw [if_pos hk6] at hf
                              obtain ⟨hm7, hf⟩ := xmoE hf
                              have hFc := xm_free hD hS hA
                              refine xx_thr (vx_runV (C := "ValueBenchModel") (As := []) (rest := []) ⟨hx, hb, hml, hown, htx⟩ (gM_limit_1 l hl9 D cT aK aV s.heap.size n aM ad rd gd vad st o4 hq5 hk6) ⟨callB_of 0 htx (xw_goodC kw_6_66) rfl rfl rfl (htx _ kw_1_5) (htx _ kw_6_63) ⟨by decide, by decide, by decide +kernel⟩ ⟨Nat.le_of_ble_eq_true rfl, Nat.le_of_ble_eq_true rfl⟩, (htx _ kw_6_65), (htx _ kp_M_limit)⟩ ⟨xPre_blind, va_recv hK hP (ci := 5) rfl (q0 := 0) rfl, (fun U hU hW => ⟨rfl, xPre_of hZ hS hFc hP hD hK U hU hW⟩)⟩ rfl rfl hl.1 rfl (xm_room (Nat.le_of_ble_eq_true rfl)) dM_times_221 ⟨hm7.1, hm7.2⟩) hS hFc (fun q _ h => hFc q h) (fun E ce q9 u9 t H1 locs ht hvm hr9 hB hz1 hk1 hS hce hcv hcl => ?_)
                              obtain ⟨rfl, hP1, hK1, hD1⟩ := hB
                              rw [ht] at hP1
                              obtain ⟨ad9, gd10, vad11⟩ := u9
                              obtain ⟨hv12, hn13⟩ := hr9
                              have hP : va_P D xcl (xMw cT aM ad9 rd gd10 vad11 st []) H1 := hP1
                              have hD : va_D A (xMw cT aM ad9 rd gd10 vad11 st []) := hD1.weaken (fun k q _ h => hFc q.1 h)
                              generalize H1 = H at hP hS hce ⊢
                              have hE9 : ∀ p, p < xct st → vad11 p = vad p := fun p h => (hv12 p (Nat.lt_of_lt_of_le h hN)).trans (hE p h)
                              have hE := hE9
                              have hN : xct st ≤ xct st := Nat.le_trans hN hn13
                              obtain rfl := Option.some.inj hf
                              exact vx_out (E := "java/lang/IndexOutOfBoundsException") (fun x h => (hne x h).elim) hlocks hce hcv hcl (fun t ht ha => ⟨(ad9, gd10, vad11), ⟨hE, hN⟩, ⟨rfl, by rw [ht]; exact hP, va_K.moved ha hK, hD⟩, hS.F ht⟩) hS.2.2 (Nat.le_refl _) (Nat.le_refl _)
                            rw [if_neg hk6] at hf
                            exact nomatch hf
                      · rw [if_neg hc] at hf
                        refine xm_aload_n hx hb (xvor _ _) dM_times_174 rfl (lv_at hl 1 rfl) ?_
                        refine xm_vget (v := .int ((xpi st 3) (c0 - 1))) hx hb htx hown hK hP 3 (by decide) hg1 rfl ((hZ.1 (103, "count", "I") (List.mem_of_getElem? (i := 3) rfl)).use rfl) rfl dM_times_175 ?_
                        refine lv_if_le (tgt := 197) hx hb dM_times_178 (by decide) (fun hc => ?_) (fun hc => ?_)
                        · rw [if_pos hc] at hf
                          refine xm_aload_n hx hb (xvor _ _) dM_times_197 rfl (lv_at hl 1 rfl) ?_
                          refine xm_vget (v := .int ((xpi st 3) (c0 - 1))) hx hb htx hown hK hP 3 (by decide) hg1 rfl ((hZ.1 (103, "count", "I") (List.mem_of_getElem? (i := 3) rfl)).use rfl) rfl dM_times_198 ?_
                          refine lv_if_le (tgt := 225) hx hb dM_times_201 (by decide) (fun hc => ?_) (fun hc => ?_)
                          · rw [if_pos hc] at hf
                            refine lv_aload_n hx hb dM_times_225 rfl (lv_at hl 0 rfl) ?_
                            refine xm_get (v := .int (xsi st 4)) hx hb htx hown hK hP 4 (by decide) rfl (htx _ kw_5_91) rfl dM_times_226 ?_
                            refine lv_istore_n (lv' := [(3, .int (xsi st 4)), (0, .ref aM), (1, xv vad c0), (2, xv vad c1)]) hx hb dM_times_229 rfl hl (by decide) (by simp only [List.filter, xvcat, xrscat, xcI, xcL, xcR, xcN]; rfl) (fun ls hl => ?_)
                            refine lv_lconst (v := 0) hx hb dM_times_230 (by decide) ?_
                            refine lv_lstore (lv' := [(4, .long 0), (3, .int (xsi st 4)), (0, .ref aM), (1, xv vad c0), (2, xv vad c1)]) hx hb dM_times_231 hl (by decide) rfl (fun ls hl => ?_)
                            exact key n (1, (0 : Int64), (xsi st 4), c0, c1, st, 0, 0) _ _ ls (⟨ad, gd, vad, rfl, hf, hP, hD, hS, lv_sub hl [0, 1, 2, 3, 4] rfl, hE, hN⟩)
                          · rw [if_neg hc] at hf
                            refine xm_aload_n hx hb (xvor _ _) dM_times_204 rfl (lv_at hl 2 rfl) ?_
                            refine xm_vget (v := .long ((xpl st) (c1 - 1))) hx hb htx hown hK hP 1 (by decide) hg2 rfl ((hZ.1 (96, "n", "J") (List.mem_of_getElem? (i := 1) rfl)).use rfl) rfl dM_times_205 ?_
                            refine lv_ldc hx hb hown (htx _ kw_6_62) dM_times_208 ?_
                            refine xm_aload_n hx hb (xvor _ _) dM_times_210 rfl (lv_at hl 1 rfl) ?_
                            refine xm_vget (v := .int ((xpi st 3) (c0 - 1))) hx hb htx hown hK hP 3 (by decide) hg1 rfl ((hZ.1 (103, "count", "I") (List.mem_of_getElem? (i := 3) rfl)).use rfl) rfl dM_times_211 ?_
                            obtain ⟨hg3, hf⟩ := xifn hf
                            refine lv_idiv hx hb dM_times_214 hg3 ?_
                            refine lv_i2l hx hb dM_times_215 rfl ?_
                            refine W.lcmp hx hb dM_times_216 ?_
                            refine lv_if_le (tgt := 225) hx hb dM_times_217 (by decide) (fun hc => ?_) (fun hc => ?_)
                            · rw [if_pos hc] at hf
                              refine lv_aload_n hx hb dM_times_225 rfl (lv_at hl 0 rfl) ?_
                              refine xm_get (v := .int (xsi st 4)) hx hb htx hown hK hP 4 (by decide) rfl (htx _ kw_5_91) rfl dM_times_226 ?_
                              refine lv_istore_n (lv' := [(3, .int (xsi st 4)), (0, .ref aM), (1, xv vad c0), (2, xv vad c1)]) hx hb dM_times_229 rfl hl (by decide) (by simp only [List.filter, xvcat, xrscat, xcI, xcL, xcR, xcN]; rfl) (fun ls hl => ?_)
                              refine lv_lconst (v := 0) hx hb dM_times_230 (by decide) ?_
                              refine lv_lstore (lv' := [(4, .long 0), (3, .int (xsi st 4)), (0, .ref aM), (1, xv vad c0), (2, xv vad c1)]) hx hb dM_times_231 hl (by decide) rfl (fun ls hl => ?_)
                              exact key n (1, (0 : Int64), (xsi st 4), c0, c1, st, 0, 0) _ _ ls (⟨ad, gd, vad, rfl, hf, hP, hD, hS, lv_sub hl [0, 1, 2, 3, 4] rfl, hE, hN⟩)
                            · rw [if_neg hc] at hf
                              refine lv_aload_n hx hb dM_times_220 rfl (lv_at hl 0 rfl) ?_
                              obtain ⟨o4, hq5, hf⟩ := xbind hf
                              have hl := lv_sub (l' := [(0, .ref aM)]) hl [0] rfl
                              by_cases hk6 : o4.1 = 1
                              · rw [if_pos hk6] at hf
                                obtain ⟨hm7, hf⟩ := xmoE hf
                                have hFc := xm_free hD hS hA
                                refine xx_thr (vx_runV (C := "ValueBenchModel") (As := []) (rest := []) ⟨hx, hb, hml, hown, htx⟩ (gM_limit_1 l hl9 D cT aK aV s.heap.size n aM ad rd gd vad st o4 hq5 hk6) ⟨callB_of 0 htx (xw_goodC kw_6_66) rfl rfl rfl (htx _ kw_1_5) (htx _ kw_6_63) ⟨by decide, by decide, by decide +kernel⟩ ⟨Nat.le_of_ble_eq_true rfl, Nat.le_of_ble_eq_true rfl⟩, (htx _ kw_6_65), (htx _ kp_M_limit)⟩ ⟨xPre_blind, va_recv hK hP (ci := 5) rfl (q0 := 0) rfl, (fun U hU hW => ⟨rfl, xPre_of hZ hS hFc hP hD hK U hU hW⟩)⟩ rfl rfl hl.1 rfl (xm_room (Nat.le_of_ble_eq_true rfl)) dM_times_221 ⟨hm7.1, hm7.2⟩) hS hFc (fun q _ h => hFc q h) (fun E ce q9 u9 t H1 locs ht hvm hr9 hB hz1 hk1 hS hce hcv hcl => ?_)
                                obtain ⟨rfl, hP1, hK1, hD1⟩ := hB
                                rw [ht] at hP1
                                obtain ⟨ad9, gd10, vad11⟩ := u9
                                obtain ⟨hv12, hn13⟩ := hr9
                                have hP : va_P D xcl (xMw cT aM ad9 rd gd10 vad11 st []) H1 := hP1
                                have hD : va_D A (xMw cT aM ad9 rd gd10 vad11 st []) := hD1.weaken (fun k q _ h => hFc q.1 h)
                                generalize H1 = H at hP hS hce ⊢
                                have hE9 : ∀ p, p < xct st → vad11 p = vad p := fun p h => (hv12 p (Nat.lt_of_lt_of_le h hN)).trans (hE p h)
                                have hE := hE9
                                have hN : xct st ≤ xct st := Nat.le_trans hN hn13
                                obtain rfl := Option.some.inj hf
                                exact vx_out (E := "java/lang/IndexOutOfBoundsException") (fun x h => (hne x h).elim) hlocks hce hcv hcl (fun t ht ha => ⟨(ad9, gd10, vad11), ⟨hE, hN⟩, ⟨rfl, by rw [ht]; exact hP, va_K.moved ha hK, hD⟩, hS.F ht⟩) hS.2.2 (Nat.le_refl _) (Nat.le_refl _)
                              rw [if_neg hk6] at hf
                              exact nomatch hf
                        · rw [if_neg hc] at hf
                          refine xm_aload_n hx hb (xvor _ _) dM_times_181 rfl (lv_at hl 2 rfl) ?_
                          refine xm_vget (v := .long ((xpl st) (c1 - 1))) hx hb htx hown hK hP 1 (by decide) hg2 rfl ((hZ.1 (96, "n", "J") (List.mem_of_getElem? (i := 1) rfl)).use rfl) rfl dM_times_182 ?_
                          refine lv_ldc2 hx hb hown (htx _ kw_6_108) dM_times_185 ?_
                          refine W.lcmp hx hb dM_times_188 ?_
                          refine lv_if_le (tgt := 197) hx hb dM_times_189 (by decide) (fun hc => ?_) (fun hc => ?_)
                          · rw [if_pos hc] at hf
                            refine xm_aload_n hx hb (xvor _ _) dM_times_197 rfl (lv_at hl 1 rfl) ?_
                            refine xm_vget (v := .int ((xpi st 3) (c0 - 1))) hx hb htx hown hK hP 3 (by decide) hg1 rfl ((hZ.1 (103, "count", "I") (List.mem_of_getElem? (i := 3) rfl)).use rfl) rfl dM_times_198 ?_
                            refine lv_if_le (tgt := 225) hx hb dM_times_201 (by decide) (fun hc => ?_) (fun hc => ?_)
                            · rw [if_pos hc] at hf
                              refine lv_aload_n hx hb dM_times_225 rfl (lv_at hl 0 rfl) ?_
                              refine xm_get (v := .int (xsi st 4)) hx hb htx hown hK hP 4 (by decide) rfl (htx _ kw_5_91) rfl dM_times_226 ?_
                              refine lv_istore_n (lv' := [(3, .int (xsi st 4)), (0, .ref aM), (1, xv vad c0), (2, xv vad c1)]) hx hb dM_times_229 rfl hl (by decide) (by simp only [List.filter, xvcat, xrscat, xcI, xcL, xcR, xcN]; rfl) (fun ls hl => ?_)
                              refine lv_lconst (v := 0) hx hb dM_times_230 (by decide) ?_
                              refine lv_lstore (lv' := [(4, .long 0), (3, .int (xsi st 4)), (0, .ref aM), (1, xv vad c0), (2, xv vad c1)]) hx hb dM_times_231 hl (by decide) rfl (fun ls hl => ?_)
                              exact key n (1, (0 : Int64), (xsi st 4), c0, c1, st, 0, 0) _ _ ls (⟨ad, gd, vad, rfl, hf, hP, hD, hS, lv_sub hl [0, 1, 2, 3, 4] rfl, hE, hN⟩)
                            · rw [if_neg hc] at hf
                              refine xm_aload_n hx hb (xvor _ _) dM_times_204 rfl (lv_at hl 2 rfl) ?_
                              refine xm_vget (v := .long ((xpl st) (c1 - 1))) hx hb htx hown hK hP 1 (by decide) hg2 rfl ((hZ.1 (96, "n", "J") (List.mem_of_getElem? (i := 1) rfl)).use rfl) rfl dM_times_205 ?_
                              refine lv_ldc hx hb hown (htx _ kw_6_62) dM_times_208 ?_
                              refine xm_aload_n hx hb (xvor _ _) dM_times_210 rfl (lv_at hl 1 rfl) ?_
                              refine xm_vget (v := .int ((xpi st 3) (c0 - 1))) hx hb htx hown hK hP 3 (by decide) hg1 rfl ((hZ.1 (103, "count", "I") (List.mem_of_getElem? (i := 3) rfl)).use rfl) rfl dM_times_211 ?_
                              obtain ⟨hg3, hf⟩ := xifn hf
                              refine lv_idiv hx hb dM_times_214 hg3 ?_
                              refine lv_i2l hx hb dM_times_215 rfl ?_
                              refine W.lcmp hx hb dM_times_216 ?_
                              refine lv_if_le (tgt := 225) hx hb dM_times_217 (by decide) (fun hc => ?_) (fun hc => ?_)
                              · rw [if_pos hc] at hf
                                refine lv_aload_n hx hb dM_times_225 rfl (lv_at hl 0 rfl) ?_
                                refine xm_get (v := .int (xsi st 4)) hx hb htx hown hK hP 4 (by decide) rfl (htx _ kw_5_91) rfl dM_times_226 ?_
                                refine lv_istore_n (lv' := [(3, .int (xsi st 4)), (0, .ref aM), (1, xv vad c0), (2, xv vad c1)]) hx hb dM_times_229 rfl hl (by decide) (by simp only [List.filter, xvcat, xrscat, xcI, xcL, xcR, xcN]; rfl) (fun ls hl => ?_)
                                refine lv_lconst (v := 0) hx hb dM_times_230 (by decide) ?_
                                refine lv_lstore (lv' := [(4, .long 0), (3, .int (xsi st 4)), (0, .ref aM), (1, xv vad c0), (2, xv vad c1)]) hx hb dM_times_231 hl (by decide) rfl (fun ls hl => ?_)
                                exact key n (1, (0 : Int64), (xsi st 4), c0, c1, st, 0, 0) _ _ ls (⟨ad, gd, vad, rfl, hf, hP, hD, hS, lv_sub hl [0, 1, 2, 3, 4] rfl, hE, hN⟩)
                              · rw [if_neg hc] at hf
                                refine lv_aload_n hx hb dM_times_220 rfl (lv_at hl 0 rfl) ?_
                                obtain ⟨o4, hq5, hf⟩ := xbind hf
                                have hl := lv_sub (l' := [(0, .ref aM)]) hl [0] rfl
                                by_cases hk6 : o4.1 = 1
                                · rw [if_pos hk6] at hf
                                  obtain ⟨hm7, hf⟩ := xmoE hf
                                  have hFc := xm_free hD hS hA
                                  refine xx_thr (vx_runV (C := "ValueBenchModel") (As := []) (rest := []) ⟨hx, hb, hml, hown, htx⟩ (gM_limit_1 l hl9 D cT aK aV s.heap.size n aM ad rd gd vad st o4 hq5 hk6) ⟨callB_of 0 htx (xw_goodC kw_6_66) rfl rfl rfl (htx _ kw_1_5) (htx _ kw_6_63) ⟨by decide, by decide, by decide +kernel⟩ ⟨Nat.le_of_ble_eq_true rfl, Nat.le_of_ble_eq_true rfl⟩, (htx _ kw_6_65), (htx _ kp_M_limit)⟩ ⟨xPre_blind, va_recv hK hP (ci := 5) rfl (q0 := 0) rfl, (fun U hU hW => ⟨rfl, xPre_of hZ hS hFc hP hD hK U hU hW⟩)⟩ rfl rfl hl.1 rfl (xm_room (Nat.le_of_ble_eq_true rfl)) dM_times_221 ⟨hm7.1, hm7.2⟩) hS hFc (fun q _ h => hFc q h) (fun E ce q9 u9 t H1 locs ht hvm hr9 hB hz1 hk1 hS hce hcv hcl => ?_)
                                  obtain ⟨rfl, hP1, hK1, hD1⟩ := hB
                                  rw [ht] at hP1
                                  obtain ⟨ad9, gd10, vad11⟩ := u9
                                  obtain ⟨hv12, hn13⟩ := hr9
                                  have hP : va_P D xcl (xMw cT aM ad9 rd gd10 vad11 st []) H1 := hP1
                                  have hD : va_D A (xMw cT aM ad9 rd gd10 vad11 st []) := hD1.weaken (fun k q _ h => hFc q.1 h)
                                  generalize H1 = H at hP hS hce ⊢
                                  have hE9 : ∀ p, p < xct st → vad11 p = vad p := fun p h => (hv12 p (Nat.lt_of_lt_of_le h hN)).trans (hE p h)
                                  have hE := hE9
                                  have hN : xct st ≤ xct st := Nat.le_trans hN hn13
                                  obtain rfl := Option.some.inj hf
                                  exact vx_out (E := "java/lang/IndexOutOfBoundsException") (fun x h => (hne x h).elim) hlocks hce hcv hcl (fun t ht ha => ⟨(ad9, gd10, vad11), ⟨hE, hN⟩, ⟨rfl, by rw [ht]; exact hP, va_K.moved ha hK, hD⟩, hS.F ht⟩) hS.2.2 (Nat.le_refl _) (Nat.le_refl _)
                                rw [if_neg hk6] at hf
                                exact nomatch hf
                          · rw [if_neg hc] at hf
                            refine lv_aload_n hx hb dM_times_192 rfl (lv_at hl 0 rfl) ?_
                            obtain ⟨o3, hq4, hf⟩ := xbind hf
                            have hl := lv_sub (l' := [(0, .ref aM)]) hl [0] rfl
                            by_cases hk5 : o3.1 = 1
                            · rw [if_pos hk5] at hf
                              obtain ⟨hm6, hf⟩ := xmoE hf
                              have hFc := xm_free hD hS hA
                              refine xx_thr (vx_runV (C := "ValueBenchModel") (As := []) (rest := []) ⟨hx, hb, hml, hown, htx⟩ (gM_limit_1 l hl9 D cT aK aV s.heap.size n aM ad rd gd vad st o3 hq4 hk5) ⟨callB_of 0 htx (xw_goodC kw_6_66) rfl rfl rfl (htx _ kw_1_5) (htx _ kw_6_63) ⟨by decide, by decide, by decide +kernel⟩ ⟨Nat.le_of_ble_eq_true rfl, Nat.le_of_ble_eq_true rfl⟩, (htx _ kw_6_65), (htx _ kp_M_limit)⟩ ⟨xPre_blind, va_recv hK hP (ci := 5) rfl (q0 := 0) rfl, (fun U hU hW => ⟨rfl, xPre_of hZ hS hFc hP hD hK U hU hW⟩)⟩ rfl rfl hl.1 rfl (xm_room (Nat.le_of_ble_eq_true rfl)) dM_times_193 ⟨hm6.1, hm6.2⟩) hS hFc (fun q _ h => hFc q h) (fun E ce q9 u9 t H1 locs ht hvm hr9 hB hz1 hk1 hS hce hcv hcl => ?_)
                              obtain ⟨rfl, hP1, hK1, hD1⟩ := hB
                              rw [ht] at hP1
                              obtain ⟨ad8, gd9, vad10⟩ := u9
                              obtain ⟨hv11, hn12⟩ := hr9
                              have hP : va_P D xcl (xMw cT aM ad8 rd gd9 vad10 st []) H1 := hP1
                              have hD : va_D A (xMw cT aM ad8 rd gd9 vad10 st []) := hD1.weaken (fun k q _ h => hFc q.1 h)
                              generalize H1 = H at hP hS hce ⊢
                              have hE9 : ∀ p, p < xct st → vad10 p = vad p := fun p h => (hv11 p (Nat.lt_of_lt_of_le h hN)).trans (hE p h)
                              have hE := hE9
                              have hN : xct st ≤ xct st := Nat.le_trans hN hn12
                              obtain rfl := Option.some.inj hf
                              exact vx_out (E := "java/lang/IndexOutOfBoundsException") (fun x h => (hne x h).elim) hlocks hce hcv hcl (fun t ht ha => ⟨(ad8, gd9, vad10), ⟨hE, hN⟩, ⟨rfl, by rw [ht]; exact hP, va_K.moved ha hK, hD⟩, hS.F ht⟩) hS.2.2 (Nat.le_refl _) (Nat.le_refl _)
                            rw [if_neg hk5] at hf
                            exact nomatch hf
                    · rw [if_neg hc] at hf
                      refine lv_aload_n hx hb dM_times_149 rfl (lv_at hl 0 rfl) ?_
                      refine lv_iconst (v := 0) hx hb dM_times_150 (by decide) ?_
                      obtain ⟨o3, hq4, hf⟩ := xbind hf
                      have hl := lv_sub (l' := [(0, .ref aM)]) hl [0] rfl
                      obtain ⟨hm5, hf⟩ := xmoE hf
                      have hFc := xm_free hD hS hA
                      refine va_callq (va_runV (C := "ValueBenchModel") (As := [.int 0]) (rest := []) ⟨hx, hb, hml, hown, htx⟩ (gM_fresh l hl9 D cT aK aV s.heap.size n aM ad rd gd vad st (0 : Int32) o3 hq4) ⟨callB_of 1 htx (xw_goodC kw_6_16) rfl rfl rfl (htx _ kw_1_5) (htx _ kw_6_13) ⟨by decide, by decide, by decide +kernel⟩ ⟨Nat.le_of_ble_eq_true rfl, Nat.le_of_ble_eq_true rfl⟩, (htx _ kw_6_15), (htx _ kp_M_fresh)⟩ ⟨xPre_blind, va_recv hK hP (ci := 5) rfl (q0 := 0) rfl, (fun U hU hW => ⟨rfl, xPre_of hZ hS hFc hP hD hK U hU hW⟩)⟩ rfl rfl hl.1 rfl (xm_room (Nat.le_of_ble_eq_true rfl)) dM_times_151 ⟨hm5.1, hm5.2⟩) hS (fun q _ h => hFc q h) hFc (fun r6 u9 t H1 locs ht hvm hr9 hB hz1 hk1 hS => ?_)
                      obtain ⟨hP1, hK1, hD1⟩ := hB
                      rw [ht] at hP1
                      obtain ⟨ad7, gd8, vad9⟩ := u9
                      obtain ⟨hr9, hv10, hn11⟩ := hr9
                      have hP : va_P D xcl (xMw cT aM ad7 rd gd8 vad9 o3.2.2.2 []) H1 := hP1
                      have hD : va_D A (xMw cT aM ad7 rd gd8 vad9 o3.2.2.2 []) := hD1.weaken (fun k q _ h => hFc q.1 h)
                      generalize H1 = H at hP hS ⊢
                      have hE9 : ∀ p, p < xct st → vad9 p = vad p := fun p h => (hv10 p (Nat.lt_of_lt_of_le h hN)).trans (hE p h)
                      have hE := hE9
                      have hN : xct st ≤ xct o3.2.2.2 := Nat.le_trans hN hn11
                      rw [hr9]
                      refine W.eq (g2 := F0 m 154 ls [xv vad9 o3.2.2.1]) (by first | rfl | (skip; rfl)) ?_
                      obtain rfl := Option.some.inj hf
                      exact absurd (show (0 : Nat) = 2 from hkd) (by decide)
                  · rw [if_neg hc] at hf
                    refine lv_aload_n hx hb dM_times_134 rfl (lv_at hl 0 rfl) ?_
                    refine lv_iconst (v := 1) hx hb dM_times_135 (by decide) ?_
                    obtain ⟨o3, hq4, hf⟩ := xbind hf
                    have hl := lv_sub (l' := [(0, .ref aM)]) hl [0] rfl
                    by_cases hk5 : o3.1 = 1
                    · rw [if_pos hk5] at hf
                      obtain ⟨hm6, hf⟩ := xmoE hf
                      obtain rfl := Option.some.inj hf
                      exact absurd (show (1 : Nat) = 2 from hkd) (by decide)
                    rw [if_neg hk5] at hf
                    exact nomatch hf
              · rw [if_pos hc] at hf
                refine lv_aload_n hx hb dM_times_111 rfl (lv_at hl 0 rfl) ?_
                refine xm_aload_n hx hb (xvor _ _) dM_times_112 rfl (lv_at hl 2 rfl) ?_
                refine xm_aload_n hx hb (xvor _ _) dM_times_113 rfl (lv_at hl 1 rfl) ?_
                obtain ⟨o3, hq4, hf⟩ := xbind hf
                have hl := lv_sub (l' := [(0, .ref aM)]) hl [0] rfl
                by_cases hk5 : o3.1 = 0
                · rw [if_pos hk5] at hf
                  obtain ⟨hm6, hf⟩ := xmoE hf
                  have hFc := xm_free hD hS hA
                  refine va_callq (va_runV (C := "ValueBenchModel") (As := [xv vad c1, xv vad c0]) (rest := []) ⟨hx, hb, hml, hown, htx⟩ ((hrec s.heap.size aM ad rd gd vad st c1 c0 o3 hq4).1 hk5) ⟨callB_of 2 htx (xw_goodC kw_6_215) rfl rfl rfl (htx _ kw_1_5) (htx _ kw_6_212) ⟨by decide, by decide, by decide +kernel⟩ ⟨(by show (16 * d) + 1 ≤ 16 * (d + 1); omega), (by show 8 + (7 + 11) + (400 * d) ≤ 400 * (d + 1); omega)⟩, (htx _ kw_6_214), (htx _ kp_M_times)⟩ ⟨xPre_blind, va_recv hK hP (ci := 5) rfl (q0 := 0) rfl, (fun U hU hW => ⟨rfl, xPre_of hZ hS hFc hP hD hK U hU hW⟩)⟩ rfl rfl hl.1 rfl (xm_room (Nat.le_of_ble_eq_true rfl)) dM_times_114 ⟨hm6.1, hm6.2⟩) hS (fun q _ h => hFc q h) hFc (fun r7 u9 t H1 locs ht hvm hr9 hB hz1 hk1 hS => ?_)
                  obtain ⟨hP1, hK1, hD1⟩ := hB
                  rw [ht] at hP1
                  obtain ⟨ad8, gd9, vad10⟩ := u9
                  obtain ⟨hr9, hv11, hn12⟩ := hr9
                  have hP : va_P D xcl (xMw cT aM ad8 rd gd9 vad10 o3.2.2.2.2 []) H1 := hP1
                  have hD : va_D A (xMw cT aM ad8 rd gd9 vad10 o3.2.2.2.2 []) := hD1.weaken (fun k q _ h => hFc q.1 h)
                  generalize H1 = H at hP hS ⊢
                  have hE9 : ∀ p, p < xct st → vad10 p = vad p := fun p h => (hv11 p (Nat.lt_of_lt_of_le h hN)).trans (hE p h)
                  have hE := hE9
                  have hN : xct st ≤ xct o3.2.2.2.2 := Nat.le_trans hN hn12
                  rw [hr9]
                  refine W.eq (g2 := F0 m 117 ls [xv vad10 o3.2.2.2.1]) (by first | rfl | (skip; rfl)) ?_
                  obtain rfl := Option.some.inj hf
                  exact absurd (show (0 : Nat) = 2 from hkd) (by decide)
                rw [if_neg hk5] at hf
                by_cases hk13 : o3.1 = 1
                · rw [if_pos hk13] at hf
                  obtain ⟨hm14, hf⟩ := xmoE hf
                  obtain rfl := Option.some.inj hf
                  exact absurd (show (1 : Nat) = 2 from hkd) (by decide)
                rw [if_neg hk13] at hf
                by_cases hk21 : o3.1 = 2
                · rw [if_pos hk21] at hf
                  obtain ⟨hm22, hf⟩ := xmoE hf
                  have hFc := xm_free hD hS hA
                  refine xx_thr (vx_runV (C := "ValueBenchModel") (As := [xv vad c1, xv vad c0]) (rest := []) ⟨hx, hb, hml, hown, htx⟩ ((hrec s.heap.size aM ad rd gd vad st c1 c0 o3 hq4).2.2 hk21) ⟨callB_of 2 htx (xw_goodC kw_6_215) rfl rfl rfl (htx _ kw_1_5) (htx _ kw_6_212) ⟨by decide, by decide, by decide +kernel⟩ ⟨(by show (16 * d) + 1 ≤ 16 * (d + 1); omega), (by show 8 + (7 + 11) + (400 * d) ≤ 400 * (d + 1); omega)⟩, (htx _ kw_6_214), (htx _ kp_M_times)⟩ ⟨xPre_blind, va_recv hK hP (ci := 5) rfl (q0 := 0) rfl, (fun U hU hW => ⟨rfl, xPre_of hZ hS hFc hP hD hK U hU hW⟩)⟩ rfl rfl hl.1 rfl (xm_room (Nat.le_of_ble_eq_true rfl)) dM_times_114 ⟨hm22.1, hm22.2⟩) hS hFc (fun q _ h => hFc q h) (fun E ce q9 u9 t H1 locs ht hvm hr9 hB hz1 hk1 hS hce hcv hcl => ?_)
                  obtain ⟨rfl, hP1, hK1, hD1⟩ := hB
                  rw [ht] at hP1
                  obtain ⟨ad24, gd25, vad26⟩ := u9
                  obtain ⟨hv27, hn28⟩ := hr9
                  have hP : va_P D xcl (xMw cT aM ad24 rd gd25 vad26 o3.2.2.2.2 []) H1 := hP1
                  have hD : va_D A (xMw cT aM ad24 rd gd25 vad26 o3.2.2.2.2 []) := hD1.weaken (fun k q _ h => hFc q.1 h)
                  generalize H1 = H at hP hS hce ⊢
                  have hE9 : ∀ p, p < xct st → vad26 p = vad p := fun p h => (hv27 p (Nat.lt_of_lt_of_le h hN)).trans (hE p h)
                  have hE := hE9
                  have hN : xct st ≤ xct o3.2.2.2.2 := Nat.le_trans hN hn28
                  obtain rfl := Option.some.inj hf
                  exact vx_out (E := "java/lang/IndexOutOfBoundsException") (fun x h => (hne x h).elim) hlocks hce hcv hcl (fun t ht ha => ⟨(ad24, gd25, vad26), ⟨hE, hN⟩, ⟨rfl, by rw [ht]; exact hP, va_K.moved ha hK, hD⟩, hS.F ht⟩) hS.2.2 (Nat.le_refl _) (Nat.le_refl _)
                rw [if_neg hk21] at hf
                exact nomatch hf
          · rw [if_pos hc] at hf
            refine xm_aload_n hx hb (xvor _ _) dM_times_79 rfl (lv_at hl 2 rfl) ?_
            refine xm_vget (v := .int ((xpi st 0) (c1 - 1))) hx hb htx hown hK hP 0 (by decide) hg2 rfl ((hZ.1 (93, "kind", "I") (List.mem_of_getElem? (i := 0) rfl)).use rfl) rfl dM_times_80 ?_
            refine lv_bipush (v := 6) hx hb dM_times_83 (by decide) ?_
            refine lv_icmp_ne (tgt := 95) hx hb dM_times_85 (by decide) (fun hc => ?_) (fun hc => ?_)
            · rw [if_neg hc] at hf
              refine xm_aload_n hx hb (xvor _ _) dM_times_95 rfl (lv_at hl 1 rfl) ?_
              refine xm_vget (v := .int ((xpi st 0) (c0 - 1))) hx hb htx hown hK hP 0 (by decide) hg1 rfl ((hZ.1 (93, "kind", "I") (List.mem_of_getElem? (i := 0) rfl)).use rfl) rfl dM_times_96 ?_
              refine lv_iconst (v := 3) hx hb dM_times_99 (by decide) ?_
              refine lv_icmp_ne (tgt := 118) hx hb dM_times_100 (by decide) (fun hc => ?_) (fun hc => ?_)
              · rw [if_neg hc] at hf
                refine xm_aload_n hx hb (xvor _ _) dM_times_118 rfl (lv_at hl 1 rfl) ?_
                refine xm_vget (v := .int ((xpi st 0) (c0 - 1))) hx hb htx hown hK hP 0 (by decide) hg1 rfl ((hZ.1 (93, "kind", "I") (List.mem_of_getElem? (i := 0) rfl)).use rfl) rfl dM_times_119 ?_
                refine lv_iconst (v := 4) hx hb dM_times_122 (by decide) ?_
                refine lv_icmp_ne (tgt := 134) hx hb dM_times_123 (by decide) (fun hc => ?_) (fun hc => ?_)
                · rw [if_neg hc] at hf
                  refine lv_aload_n hx hb dM_times_134 rfl (lv_at hl 0 rfl) ?_
                  refine lv_iconst (v := 1) hx hb dM_times_135 (by decide) ?_
                  obtain ⟨o3, hq4, hf⟩ := xbind hf
                  have hl := lv_sub (l' := [(0, .ref aM)]) hl [0] rfl
                  by_cases hk5 : o3.1 = 1
                  · rw [if_pos hk5] at hf
                    obtain ⟨hm6, hf⟩ := xmoE hf
                    obtain rfl := Option.some.inj hf
                    exact absurd (show (1 : Nat) = 2 from hkd) (by decide)
                  rw [if_neg hk5] at hf
                  exact nomatch hf
                · rw [if_pos hc] at hf
                  refine xm_aload_n hx hb (xvor _ _) dM_times_126 rfl (lv_at hl 2 rfl) ?_
                  refine xm_vget (v := .int ((xpi st 0) (c1 - 1))) hx hb htx hown hK hP 0 (by decide) hg2 rfl ((hZ.1 (93, "kind", "I") (List.mem_of_getElem? (i := 0) rfl)).use rfl) rfl dM_times_127 ?_
                  refine lv_iconst (v := 3) hx hb dM_times_130 (by decide) ?_
                  refine lv_icmp_eq (tgt := 140) hx hb dM_times_131 (by decide) (fun hc => ?_) (fun hc => ?_)
                  · rw [if_pos hc] at hf
                    refine xm_aload_n hx hb (xvor _ _) dM_times_140 rfl (lv_at hl 2 rfl) ?_
                    refine xm_vget (v := .long ((xpl st) (c1 - 1))) hx hb htx hown hK hP 1 (by decide) hg2 rfl ((hZ.1 (96, "n", "J") (List.mem_of_getElem? (i := 1) rfl)).use rfl) rfl dM_times_141 ?_
                    refine lv_lconst (v := 1) hx hb dM_times_144 (by decide) ?_
                    refine W.lcmp hx hb dM_times_145 ?_
                    refine lv_if_ge (tgt := 155) hx hb dM_times_146 (by decide) (fun hc => ?_) (fun hc => ?_)
                    · rw [if_pos hc] at hf
                      refine xm_aload_n hx hb (xvor _ _) dM_times_155 rfl (lv_at hl 2 rfl) ?_
                      refine xm_vget (v := .long ((xpl st) (c1 - 1))) hx hb htx hown hK hP 1 (by decide) hg2 rfl ((hZ.1 (96, "n", "J") (List.mem_of_getElem? (i := 1) rfl)).use rfl) rfl dM_times_156 ?_
                      refine xm_aload_n hx hb (xvor _ _) dM_times_159 rfl (lv_at hl 1 rfl) ?_
                      refine xm_vget (v := .int ((xpi st 3) (c0 - 1))) hx hb htx hown hK hP 3 (by decide) hg1 rfl ((hZ.1 (103, "count", "I") (List.mem_of_getElem? (i := 3) rfl)).use rfl) rfl dM_times_160 ?_
                      refine lv_i2l hx hb dM_times_163 rfl ?_
                      refine lv_lconst (v := 1) hx hb dM_times_164 (by decide) ?_
                      refine lv_ladd hx hb dM_times_165 ?_
                      refine lv_lmul hx hb dM_times_166 ?_
                      refine lv_ldc2 hx hb hown (htx _ kw_6_221) dM_times_167 ?_
                      refine W.lcmp hx hb dM_times_170 ?_
                      refine lv_if_le (tgt := 197) hx hb dM_times_171 (by decide) (fun hc => ?_) (fun hc => ?_)
                      · rw [if_pos hc] at hf
                        refine xm_aload_n hx hb (xvor _ _) dM_times_197 rfl (lv_at hl 1 rfl) ?_
                        refine xm_vget (v := .int ((xpi st 3) (c0 - 1))) hx hb htx hown hK hP 3 (by decide) hg1 rfl ((hZ.1 (103, "count", "I") (List.mem_of_getElem? (i := 3) rfl)).use rfl) rfl dM_times_198 ?_
                        refine lv_if_le (tgt := 225) hx hb dM_times_201 (by decide) (fun hc => ?_) (fun hc => ?_)
                        · rw [if_pos hc] at hf
                          refine lv_aload_n hx hb dM_times_225 rfl (lv_at hl 0 rfl) ?_
                          refine xm_get (v := .int (xsi st 4)) hx hb htx hown hK hP 4 (by decide) rfl (htx _ kw_5_91) rfl dM_times_226 ?_
                          refine lv_istore_n (lv' := [(3, .int (xsi st 4)), (0, .ref aM), (1, xv vad c0), (2, xv vad c1)]) hx hb dM_times_229 rfl hl (by decide) (by simp only [List.filter, xvcat, xrscat, xcI, xcL, xcR, xcN]; rfl) (fun ls hl => ?_)
                          refine lv_lconst (v := 0) hx hb dM_times_230 (by decide) ?_
                          refine lv_lstore (lv' := [(4, .long 0), (3, .int (xsi st 4)), (0, .ref aM), (1, xv vad c0), (2, xv vad c1)]) hx hb dM_times_231 hl (by decide) rfl (fun ls hl => ?_)
                          exact key n (1, (0 : Int64), (xsi st 4), c0, c1, st, 0, 0) _ _ ls (⟨ad, gd, vad, rfl, hf, hP, hD, hS, lv_sub hl [0, 1, 2, 3, 4] rfl, hE, hN⟩)
                        · rw [if_neg hc] at hf
                          refine xm_aload_n hx hb (xvor _ _) dM_times_204 rfl (lv_at hl 2 rfl) ?_
                          refine xm_vget (v := .long ((xpl st) (c1 - 1))) hx hb htx hown hK hP 1 (by decide) hg2 rfl ((hZ.1 (96, "n", "J") (List.mem_of_getElem? (i := 1) rfl)).use rfl) rfl dM_times_205 ?_
                          refine lv_ldc hx hb hown (htx _ kw_6_62) dM_times_208 ?_
                          refine xm_aload_n hx hb (xvor _ _) dM_times_210 rfl (lv_at hl 1 rfl) ?_
                          refine xm_vget (v := .int ((xpi st 3) (c0 - 1))) hx hb htx hown hK hP 3 (by decide) hg1 rfl ((hZ.1 (103, "count", "I") (List.mem_of_getElem? (i := 3) rfl)).use rfl) rfl dM_times_211 ?_
                          obtain ⟨hg3, hf⟩ := xifn hf
                          refine lv_idiv hx hb dM_times_214 hg3 ?_
                          refine lv_i2l hx hb dM_times_215 rfl ?_
                          refine W.lcmp hx hb dM_times_216 ?_
                          refine lv_if_le (tgt := 225) hx hb dM_times_217 (by decide) (fun hc => ?_) (fun hc => ?_)
                          · rw [if_pos hc] at hf
                            refine lv_aload_n hx hb dM_times_225 rfl (lv_at hl 0 rfl) ?_
                            refine xm_get (v := .int (xsi st 4)) hx hb htx hown hK hP 4 (by decide) rfl (htx _ kw_5_91) rfl dM_times_226 ?_
                            refine lv_istore_n (lv' := [(3, .int (xsi st 4)), (0, .ref aM), (1, xv vad c0), (2, xv vad c1)]) hx hb dM_times_229 rfl hl (by decide) (by simp only [List.filter, xvcat, xrscat, xcI, xcL, xcR, xcN]; rfl) (fun ls hl => ?_)
                            refine lv_lconst (v := 0) hx hb dM_times_230 (by decide) ?_
                            refine lv_lstore (lv' := [(4, .long 0), (3, .int (xsi st 4)), (0, .ref aM), (1, xv vad c0), (2, xv vad c1)]) hx hb dM_times_231 hl (by decide) rfl (fun ls hl => ?_)
                            exact key n (1, (0 : Int64), (xsi st 4), c0, c1, st, 0, 0) _ _ ls (⟨ad, gd, vad, rfl, hf, hP, hD, hS, lv_sub hl [0, 1, 2, 3, 4] rfl, hE, hN⟩)
                          · rw [if_neg hc] at hf
                            refine lv_aload_n hx hb dM_times_220 rfl (lv_at hl 0 rfl) ?_
                            obtain ⟨o4, hq5, hf⟩ := xbind hf
                            have hl := lv_sub (l' := [(0, .ref aM)]) hl [0] rfl
                            by_cases hk6 : o4.1 = 1
                            · rw [if_pos hk6] at hf
                              obtain ⟨hm7, hf⟩ := xmoE hf
                              have hFc := xm_free hD hS hA
                              refine xx_thr (vx_runV (C := "ValueBenchModel") (As := []) (rest := []) ⟨hx, hb, hml, hown, htx⟩ (gM_limit_1 l hl9 D cT aK aV s.heap.size n aM ad rd gd vad st o4 hq5 hk6) ⟨callB_of 0 htx (xw_goodC kw_6_66) rfl rfl rfl (htx _ kw_1_5) (htx _ kw_6_63) ⟨by decide, by decide, by decide +kernel⟩ ⟨Nat.le_of_ble_eq_true rfl, Nat.le_of_ble_eq_true rfl⟩, (htx _ kw_6_65), (htx _ kp_M_limit)⟩ ⟨xPre_blind, va_recv hK hP (ci := 5) rfl (q0 := 0) rfl, (fun U hU hW => ⟨rfl, xPre_of hZ hS hFc hP hD hK U hU hW⟩)⟩ rfl rfl hl.1 rfl (xm_room (Nat.le_of_ble_eq_true rfl)) dM_times_221 ⟨hm7.1, hm7.2⟩) hS hFc (fun q _ h => hFc q h) (fun E ce q9 u9 t H1 locs ht hvm hr9 hB hz1 hk1 hS hce hcv hcl => ?_)
                              obtain ⟨rfl, hP1, hK1, hD1⟩ := hB
                              rw [ht] at hP1
                              obtain ⟨ad9, gd10, vad11⟩ := u9
                              obtain ⟨hv12, hn13⟩ := hr9
                              have hP : va_P D xcl (xMw cT aM ad9 rd gd10 vad11 st []) H1 := hP1
                              have hD : va_D A (xMw cT aM ad9 rd gd10 vad11 st []) := hD1.weaken (fun k q _ h => hFc q.1 h)
                              generalize H1 = H at hP hS hce ⊢
                              have hE9 : ∀ p, p < xct st → vad11 p = vad p := fun p h => (hv12 p (Nat.lt_of_lt_of_le h hN)).trans (hE p h)
                              have hE := hE9
                              have hN : xct st ≤ xct st := Nat.le_trans hN hn13
                              obtain rfl := Option.some.inj hf
                              exact vx_out (E := "java/lang/IndexOutOfBoundsException") (fun x h => (hne x h).elim) hlocks hce hcv hcl (fun t ht ha => ⟨(ad9, gd10, vad11), ⟨hE, hN⟩, ⟨rfl, by rw [ht]; exact hP, va_K.moved ha hK, hD⟩, hS.F ht⟩) hS.2.2 (Nat.le_refl _) (Nat.le_refl _)
                            rw [if_neg hk6] at hf
                            exact nomatch hf
                      · rw [if_neg hc] at hf
                        refine xm_aload_n hx hb (xvor _ _) dM_times_174 rfl (lv_at hl 1 rfl) ?_
                        refine xm_vget (v := .int ((xpi st 3) (c0 - 1))) hx hb htx hown hK hP 3 (by decide) hg1 rfl ((hZ.1 (103, "count", "I") (List.mem_of_getElem? (i := 3) rfl)).use rfl) rfl dM_times_175 ?_
                        refine lv_if_le (tgt := 197) hx hb dM_times_178 (by decide) (fun hc => ?_) (fun hc => ?_)
                        · rw [if_pos hc] at hf
                          refine xm_aload_n hx hb (xvor _ _) dM_times_197 rfl (lv_at hl 1 rfl) ?_
                          refine xm_vget (v := .int ((xpi st 3) (c0 - 1))) hx hb htx hown hK hP 3 (by decide) hg1 rfl ((hZ.1 (103, "count", "I") (List.mem_of_getElem? (i := 3) rfl)).use rfl) rfl dM_times_198 ?_
                          refine lv_if_le (tgt := 225) hx hb dM_times_201 (by decide) (fun hc => ?_) (fun hc => ?_)
                          · rw [if_pos hc] at hf
                            refine lv_aload_n hx hb dM_times_225 rfl (lv_at hl 0 rfl) ?_
                            refine xm_get (v := .int (xsi st 4)) hx hb htx hown hK hP 4 (by decide) rfl (htx _ kw_5_91) rfl dM_times_226 ?_
                            refine lv_istore_n (lv' := [(3, .int (xsi st 4)), (0, .ref aM), (1, xv vad c0), (2, xv vad c1)]) hx hb dM_times_229 rfl hl (by decide) (by simp only [List.filter, xvcat, xrscat, xcI, xcL, xcR, xcN]; rfl) (fun ls hl => ?_)
                            refine lv_lconst (v := 0) hx hb dM_times_230 (by decide) ?_
                            refine lv_lstore (lv' := [(4, .long 0), (3, .int (xsi st 4)), (0, .ref aM), (1, xv vad c0), (2, xv vad c1)]) hx hb dM_times_231 hl (by decide) rfl (fun ls hl => ?_)
                            exact key n (1, (0 : Int64), (xsi st 4), c0, c1, st, 0, 0) _ _ ls (⟨ad, gd, vad, rfl, hf, hP, hD, hS, lv_sub hl [0, 1, 2, 3, 4] rfl, hE, hN⟩)
                          · rw [if_neg hc] at hf
                            refine xm_aload_n hx hb (xvor _ _) dM_times_204 rfl (lv_at hl 2 rfl) ?_
                            refine xm_vget (v := .long ((xpl st) (c1 - 1))) hx hb htx hown hK hP 1 (by decide) hg2 rfl ((hZ.1 (96, "n", "J") (List.mem_of_getElem? (i := 1) rfl)).use rfl) rfl dM_times_205 ?_
                            refine lv_ldc hx hb hown (htx _ kw_6_62) dM_times_208 ?_
                            refine xm_aload_n hx hb (xvor _ _) dM_times_210 rfl (lv_at hl 1 rfl) ?_
                            refine xm_vget (v := .int ((xpi st 3) (c0 - 1))) hx hb htx hown hK hP 3 (by decide) hg1 rfl ((hZ.1 (103, "count", "I") (List.mem_of_getElem? (i := 3) rfl)).use rfl) rfl dM_times_211 ?_
                            obtain ⟨hg3, hf⟩ := xifn hf
                            refine lv_idiv hx hb dM_times_214 hg3 ?_
                            refine lv_i2l hx hb dM_times_215 rfl ?_
                            refine W.lcmp hx hb dM_times_216 ?_
                            refine lv_if_le (tgt := 225) hx hb dM_times_217 (by decide) (fun hc => ?_) (fun hc => ?_)
                            · rw [if_pos hc] at hf
                              refine lv_aload_n hx hb dM_times_225 rfl (lv_at hl 0 rfl) ?_
                              refine xm_get (v := .int (xsi st 4)) hx hb htx hown hK hP 4 (by decide) rfl (htx _ kw_5_91) rfl dM_times_226 ?_
                              refine lv_istore_n (lv' := [(3, .int (xsi st 4)), (0, .ref aM), (1, xv vad c0), (2, xv vad c1)]) hx hb dM_times_229 rfl hl (by decide) (by simp only [List.filter, xvcat, xrscat, xcI, xcL, xcR, xcN]; rfl) (fun ls hl => ?_)
                              refine lv_lconst (v := 0) hx hb dM_times_230 (by decide) ?_
                              refine lv_lstore (lv' := [(4, .long 0), (3, .int (xsi st 4)), (0, .ref aM), (1, xv vad c0), (2, xv vad c1)]) hx hb dM_times_231 hl (by decide) rfl (fun ls hl => ?_)
                              exact key n (1, (0 : Int64), (xsi st 4), c0, c1, st, 0, 0) _ _ ls (⟨ad, gd, vad, rfl, hf, hP, hD, hS, lv_sub hl [0, 1, 2, 3, 4] rfl, hE, hN⟩)
                            · rw [if_neg hc] at hf
                              refine lv_aload_n hx hb dM_times_220 rfl (lv_at hl 0 rfl) ?_
                              obtain ⟨o4, hq5, hf⟩ := xbind hf
                              have hl := lv_sub (l' := [(0, .ref aM)]) hl [0] rfl
                              by_cases hk6 : o4.1 = 1
                              · rw [if_pos hk6] at hf
                                obtain ⟨hm7, hf⟩ := xmoE hf
                                have hFc := xm_free hD hS hA
                                refine xx_thr (vx_runV (C := "ValueBenchModel") (As := []) (rest := []) ⟨hx, hb, hml, hown, htx⟩ (gM_limit_1 l hl9 D cT aK aV s.heap.size n aM ad rd gd vad st o4 hq5 hk6) ⟨callB_of 0 htx (xw_goodC kw_6_66) rfl rfl rfl (htx _ kw_1_5) (htx _ kw_6_63) ⟨by decide, by decide, by decide +kernel⟩ ⟨Nat.le_of_ble_eq_true rfl, Nat.le_of_ble_eq_true rfl⟩, (htx _ kw_6_65), (htx _ kp_M_limit)⟩ ⟨xPre_blind, va_recv hK hP (ci := 5) rfl (q0 := 0) rfl, (fun U hU hW => ⟨rfl, xPre_of hZ hS hFc hP hD hK U hU hW⟩)⟩ rfl rfl hl.1 rfl (xm_room (Nat.le_of_ble_eq_true rfl)) dM_times_221 ⟨hm7.1, hm7.2⟩) hS hFc (fun q _ h => hFc q h) (fun E ce q9 u9 t H1 locs ht hvm hr9 hB hz1 hk1 hS hce hcv hcl => ?_)
                                obtain ⟨rfl, hP1, hK1, hD1⟩ := hB
                                rw [ht] at hP1
                                obtain ⟨ad9, gd10, vad11⟩ := u9
                                obtain ⟨hv12, hn13⟩ := hr9
                                have hP : va_P D xcl (xMw cT aM ad9 rd gd10 vad11 st []) H1 := hP1
                                have hD : va_D A (xMw cT aM ad9 rd gd10 vad11 st []) := hD1.weaken (fun k q _ h => hFc q.1 h)
                                generalize H1 = H at hP hS hce ⊢
                                have hE9 : ∀ p, p < xct st → vad11 p = vad p := fun p h => (hv12 p (Nat.lt_of_lt_of_le h hN)).trans (hE p h)
                                have hE := hE9
                                have hN : xct st ≤ xct st := Nat.le_trans hN hn13
                                obtain rfl := Option.some.inj hf
                                exact vx_out (E := "java/lang/IndexOutOfBoundsException") (fun x h => (hne x h).elim) hlocks hce hcv hcl (fun t ht ha => ⟨(ad9, gd10, vad11), ⟨hE, hN⟩, ⟨rfl, by rw [ht]; exact hP, va_K.moved ha hK, hD⟩, hS.F ht⟩) hS.2.2 (Nat.le_refl _) (Nat.le_refl _)
                              rw [if_neg hk6] at hf
                              exact nomatch hf
                        · rw [if_neg hc] at hf
                          refine xm_aload_n hx hb (xvor _ _) dM_times_181 rfl (lv_at hl 2 rfl) ?_
                          refine xm_vget (v := .long ((xpl st) (c1 - 1))) hx hb htx hown hK hP 1 (by decide) hg2 rfl ((hZ.1 (96, "n", "J") (List.mem_of_getElem? (i := 1) rfl)).use rfl) rfl dM_times_182 ?_
                          refine lv_ldc2 hx hb hown (htx _ kw_6_108) dM_times_185 ?_
                          refine W.lcmp hx hb dM_times_188 ?_
                          refine lv_if_le (tgt := 197) hx hb dM_times_189 (by decide) (fun hc => ?_) (fun hc => ?_)
                          · rw [if_pos hc] at hf
                            refine xm_aload_n hx hb (xvor _ _) dM_times_197 rfl (lv_at hl 1 rfl) ?_
                            refine xm_vget (v := .int ((xpi st 3) (c0 - 1))) hx hb htx hown hK hP 3 (by decide) hg1 rfl ((hZ.1 (103, "count", "I") (List.mem_of_getElem? (i := 3) rfl)).use rfl) rfl dM_times_198 ?_
                            refine lv_if_le (tgt := 225) hx hb dM_times_201 (by decide) (fun hc => ?_) (fun hc => ?_)
                            · rw [if_pos hc] at hf
                              refine lv_aload_n hx hb dM_times_225 rfl (lv_at hl 0 rfl) ?_
                              refine xm_get (v := .int (xsi st 4)) hx hb htx hown hK hP 4 (by decide) rfl (htx _ kw_5_91) rfl dM_times_226 ?_
                              refine lv_istore_n (lv' := [(3, .int (xsi st 4)), (0, .ref aM), (1, xv vad c0), (2, xv vad c1)]) hx hb dM_times_229 rfl hl (by decide) (by simp only [List.filter, xvcat, xrscat, xcI, xcL, xcR, xcN]; rfl) (fun ls hl => ?_)
                              refine lv_lconst (v := 0) hx hb dM_times_230 (by decide) ?_
                              refine lv_lstore (lv' := [(4, .long 0), (3, .int (xsi st 4)), (0, .ref aM), (1, xv vad c0), (2, xv vad c1)]) hx hb dM_times_231 hl (by decide) rfl (fun ls hl => ?_)
                              exact key n (1, (0 : Int64), (xsi st 4), c0, c1, st, 0, 0) _ _ ls (⟨ad, gd, vad, rfl, hf, hP, hD, hS, lv_sub hl [0, 1, 2, 3, 4] rfl, hE, hN⟩)
                            · rw [if_neg hc] at hf
                              refine xm_aload_n hx hb (xvor _ _) dM_times_204 rfl (lv_at hl 2 rfl) ?_
                              refine xm_vget (v := .long ((xpl st) (c1 - 1))) hx hb htx hown hK hP 1 (by decide) hg2 rfl ((hZ.1 (96, "n", "J") (List.mem_of_getElem? (i := 1) rfl)).use rfl) rfl dM_times_205 ?_
                              refine lv_ldc hx hb hown (htx _ kw_6_62) dM_times_208 ?_
                              refine xm_aload_n hx hb (xvor _ _) dM_times_210 rfl (lv_at hl 1 rfl) ?_
                              refine xm_vget (v := .int ((xpi st 3) (c0 - 1))) hx hb htx hown hK hP 3 (by decide) hg1 rfl ((hZ.1 (103, "count", "I") (List.mem_of_getElem? (i := 3) rfl)).use rfl) rfl dM_times_211 ?_
                              obtain ⟨hg3, hf⟩ := xifn hf
                              refine lv_idiv hx hb dM_times_214 hg3 ?_
                              refine lv_i2l hx hb dM_times_215 rfl ?_
                              refine W.lcmp hx hb dM_times_216 ?_
                              refine lv_if_le (tgt := 225) hx hb dM_times_217 (by decide) (fun hc => ?_) (fun hc => ?_)
                              · rw [if_pos hc] at hf
                                refine lv_aload_n hx hb dM_times_225 rfl (lv_at hl 0 rfl) ?_
                                refine xm_get (v := .int (xsi st 4)) hx hb htx hown hK hP 4 (by decide) rfl (htx _ kw_5_91) rfl dM_times_226 ?_
                                refine lv_istore_n (lv' := [(3, .int (xsi st 4)), (0, .ref aM), (1, xv vad c0), (2, xv vad c1)]) hx hb dM_times_229 rfl hl (by decide) (by simp only [List.filter, xvcat, xrscat, xcI, xcL, xcR, xcN]; rfl) (fun ls hl => ?_)
                                refine lv_lconst (v := 0) hx hb dM_times_230 (by decide) ?_
                                refine lv_lstore (lv' := [(4, .long 0), (3, .int (xsi st 4)), (0, .ref aM), (1, xv vad c0), (2, xv vad c1)]) hx hb dM_times_231 hl (by decide) rfl (fun ls hl => ?_)
                                exact key n (1, (0 : Int64), (xsi st 4), c0, c1, st, 0, 0) _ _ ls (⟨ad, gd, vad, rfl, hf, hP, hD, hS, lv_sub hl [0, 1, 2, 3, 4] rfl, hE, hN⟩)
                              · rw [if_neg hc] at hf
                                refine lv_aload_n hx hb dM_times_220 rfl (lv_at hl 0 rfl) ?_
                                obtain ⟨o4, hq5, hf⟩ := xbind hf
                                have hl := lv_sub (l' := [(0, .ref aM)]) hl [0] rfl
                                by_cases hk6 : o4.1 = 1
                                · rw [if_pos hk6] at hf
                                  obtain ⟨hm7, hf⟩ := xmoE hf
                                  have hFc := xm_free hD hS hA
                                  refine xx_thr (vx_runV (C := "ValueBenchModel") (As := []) (rest := []) ⟨hx, hb, hml, hown, htx⟩ (gM_limit_1 l hl9 D cT aK aV s.heap.size n aM ad rd gd vad st o4 hq5 hk6) ⟨callB_of 0 htx (xw_goodC kw_6_66) rfl rfl rfl (htx _ kw_1_5) (htx _ kw_6_63) ⟨by decide, by decide, by decide +kernel⟩ ⟨Nat.le_of_ble_eq_true rfl, Nat.le_of_ble_eq_true rfl⟩, (htx _ kw_6_65), (htx _ kp_M_limit)⟩ ⟨xPre_blind, va_recv hK hP (ci := 5) rfl (q0 := 0) rfl, (fun U hU hW => ⟨rfl, xPre_of hZ hS hFc hP hD hK U hU hW⟩)⟩ rfl rfl hl.1 rfl (xm_room (Nat.le_of_ble_eq_true rfl)) dM_times_221 ⟨hm7.1, hm7.2⟩) hS hFc (fun q _ h => hFc q h) (fun E ce q9 u9 t H1 locs ht hvm hr9 hB hz1 hk1 hS hce hcv hcl => ?_)
                                  obtain ⟨rfl, hP1, hK1, hD1⟩ := hB
                                  rw [ht] at hP1
                                  obtain ⟨ad9, gd10, vad11⟩ := u9
                                  obtain ⟨hv12, hn13⟩ := hr9
                                  have hP : va_P D xcl (xMw cT aM ad9 rd gd10 vad11 st []) H1 := hP1
                                  have hD : va_D A (xMw cT aM ad9 rd gd10 vad11 st []) := hD1.weaken (fun k q _ h => hFc q.1 h)
                                  generalize H1 = H at hP hS hce ⊢
                                  have hE9 : ∀ p, p < xct st → vad11 p = vad p := fun p h => (hv12 p (Nat.lt_of_lt_of_le h hN)).trans (hE p h)
                                  have hE := hE9
                                  have hN : xct st ≤ xct st := Nat.le_trans hN hn13
                                  obtain rfl := Option.some.inj hf
                                  exact vx_out (E := "java/lang/IndexOutOfBoundsException") (fun x h => (hne x h).elim) hlocks hce hcv hcl (fun t ht ha => ⟨(ad9, gd10, vad11), ⟨hE, hN⟩, ⟨rfl, by rw [ht]; exact hP, va_K.moved ha hK, hD⟩, hS.F ht⟩) hS.2.2 (Nat.le_refl _) (Nat.le_refl _)
                                rw [if_neg hk6] at hf
                                exact nomatch hf
                          · rw [if_neg hc] at hf
                            refine lv_aload_n hx hb dM_times_192 rfl (lv_at hl 0 rfl) ?_
                            obtain ⟨o3, hq4, hf⟩ := xbind hf
                            have hl := lv_sub (l' := [(0, .ref aM)]) hl [0] rfl
                            by_cases hk5 : o3.1 = 1
                            · rw [if_pos hk5] at hf
                              obtain ⟨hm6, hf⟩ := xmoE hf
                              have hFc := xm_free hD hS hA
                              refine xx_thr (vx_runV (C := "ValueBenchModel") (As := []) (rest := []) ⟨hx, hb, hml, hown, htx⟩ (gM_limit_1 l hl9 D cT aK aV s.heap.size n aM ad rd gd vad st o3 hq4 hk5) ⟨callB_of 0 htx (xw_goodC kw_6_66) rfl rfl rfl (htx _ kw_1_5) (htx _ kw_6_63) ⟨by decide, by decide, by decide +kernel⟩ ⟨Nat.le_of_ble_eq_true rfl, Nat.le_of_ble_eq_true rfl⟩, (htx _ kw_6_65), (htx _ kp_M_limit)⟩ ⟨xPre_blind, va_recv hK hP (ci := 5) rfl (q0 := 0) rfl, (fun U hU hW => ⟨rfl, xPre_of hZ hS hFc hP hD hK U hU hW⟩)⟩ rfl rfl hl.1 rfl (xm_room (Nat.le_of_ble_eq_true rfl)) dM_times_193 ⟨hm6.1, hm6.2⟩) hS hFc (fun q _ h => hFc q h) (fun E ce q9 u9 t H1 locs ht hvm hr9 hB hz1 hk1 hS hce hcv hcl => ?_)
                              obtain ⟨rfl, hP1, hK1, hD1⟩ := hB
                              rw [ht] at hP1
                              obtain ⟨ad8, gd9, vad10⟩ := u9
                              obtain ⟨hv11, hn12⟩ := hr9
                              have hP : va_P D xcl (xMw cT aM ad8 rd gd9 vad10 st []) H1 := hP1
                              have hD : va_D A (xMw cT aM ad8 rd gd9 vad10 st []) := hD1.weaken (fun k q _ h => hFc q.1 h)
                              generalize H1 = H at hP hS hce ⊢
                              have hE9 : ∀ p, p < xct st → vad10 p = vad p := fun p h => (hv11 p (Nat.lt_of_lt_of_le h hN)).trans (hE p h)
                              have hE := hE9
                              have hN : xct st ≤ xct st := Nat.le_trans hN hn12
                              obtain rfl := Option.some.inj hf
                              exact vx_out (E := "java/lang/IndexOutOfBoundsException") (fun x h => (hne x h).elim) hlocks hce hcv hcl (fun t ht ha => ⟨(ad8, gd9, vad10), ⟨hE, hN⟩, ⟨rfl, by rw [ht]; exact hP, va_K.moved ha hK, hD⟩, hS.F ht⟩) hS.2.2 (Nat.le_refl _) (Nat.le_refl _)
                            rw [if_neg hk5] at hf
                            exact nomatch hf
                    · rw [if_neg hc] at hf
                      refine lv_aload_n hx hb dM_times_149 rfl (lv_at hl 0 rfl) ?_
                      refine lv_iconst (v := 0) hx hb dM_times_150 (by decide) ?_
                      obtain ⟨o3, hq4, hf⟩ := xbind hf
                      have hl := lv_sub (l' := [(0, .ref aM)]) hl [0] rfl
                      obtain ⟨hm5, hf⟩ := xmoE hf
                      have hFc := xm_free hD hS hA
                      refine va_callq (va_runV (C := "ValueBenchModel") (As := [.int 0]) (rest := []) ⟨hx, hb, hml, hown, htx⟩ (gM_fresh l hl9 D cT aK aV s.heap.size n aM ad rd gd vad st (0 : Int32) o3 hq4) ⟨callB_of 1 htx (xw_goodC kw_6_16) rfl rfl rfl (htx _ kw_1_5) (htx _ kw_6_13) ⟨by decide, by decide, by decide +kernel⟩ ⟨Nat.le_of_ble_eq_true rfl, Nat.le_of_ble_eq_true rfl⟩, (htx _ kw_6_15), (htx _ kp_M_fresh)⟩ ⟨xPre_blind, va_recv hK hP (ci := 5) rfl (q0 := 0) rfl, (fun U hU hW => ⟨rfl, xPre_of hZ hS hFc hP hD hK U hU hW⟩)⟩ rfl rfl hl.1 rfl (xm_room (Nat.le_of_ble_eq_true rfl)) dM_times_151 ⟨hm5.1, hm5.2⟩) hS (fun q _ h => hFc q h) hFc (fun r6 u9 t H1 locs ht hvm hr9 hB hz1 hk1 hS => ?_)
                      obtain ⟨hP1, hK1, hD1⟩ := hB
                      rw [ht] at hP1
                      obtain ⟨ad7, gd8, vad9⟩ := u9
                      obtain ⟨hr9, hv10, hn11⟩ := hr9
                      have hP : va_P D xcl (xMw cT aM ad7 rd gd8 vad9 o3.2.2.2 []) H1 := hP1
                      have hD : va_D A (xMw cT aM ad7 rd gd8 vad9 o3.2.2.2 []) := hD1.weaken (fun k q _ h => hFc q.1 h)
                      generalize H1 = H at hP hS ⊢
                      have hE9 : ∀ p, p < xct st → vad9 p = vad p := fun p h => (hv10 p (Nat.lt_of_lt_of_le h hN)).trans (hE p h)
                      have hE := hE9
                      have hN : xct st ≤ xct o3.2.2.2 := Nat.le_trans hN hn11
                      rw [hr9]
                      refine W.eq (g2 := F0 m 154 ls [xv vad9 o3.2.2.1]) (by first | rfl | (skip; rfl)) ?_
                      obtain rfl := Option.some.inj hf
                      exact absurd (show (0 : Nat) = 2 from hkd) (by decide)
                  · rw [if_neg hc] at hf
                    refine lv_aload_n hx hb dM_times_134 rfl (lv_at hl 0 rfl) ?_
                    refine lv_iconst (v := 1) hx hb dM_times_135 (by decide) ?_
                    obtain ⟨o3, hq4, hf⟩ := xbind hf
                    have hl := lv_sub (l' := [(0, .ref aM)]) hl [0] rfl
                    by_cases hk5 : o3.1 = 1
                    · rw [if_pos hk5] at hf
                      obtain ⟨hm6, hf⟩ := xmoE hf
                      obtain rfl := Option.some.inj hf
                      exact absurd (show (1 : Nat) = 2 from hkd) (by decide)
                    rw [if_neg hk5] at hf
                    exact nomatch hf
              · rw [if_pos hc] at hf
                refine xm_aload_n hx hb (xvor _ _) dM_times_103 rfl (lv_at hl 2 rfl) ?_
                refine xm_vget (v := .int ((xpi st 0) (c1 - 1))) hx hb htx hown hK hP 0 (by decide) hg2 rfl ((hZ.1 (93, "kind", "I") (List.mem_of_getElem? (i := 0) rfl)).use rfl) rfl dM_times_104 ?_
                refine lv_iconst (v := 4) hx hb dM_times_107 (by decide) ?_
                refine lv_icmp_ne (tgt := 118) hx hb dM_times_108 (by decide) (fun hc => ?_) (fun hc => ?_)
                · rw [if_neg hc] at hf
                  refine xm_aload_n hx hb (xvor _ _) dM_times_118 rfl (lv_at hl 1 rfl) ?_
                  refine xm_vget (v := .int ((xpi st 0) (c0 - 1))) hx hb htx hown hK hP 0 (by decide) hg1 rfl ((hZ.1 (93, "kind", "I") (List.mem_of_getElem? (i := 0) rfl)).use rfl) rfl dM_times_119 ?_
                  refine lv_iconst (v := 4) hx hb dM_times_122 (by decide) ?_
                  refine lv_icmp_ne (tgt := 134) hx hb dM_times_123 (by decide) (fun hc => ?_) (fun hc => ?_)
                  · rw [if_neg hc] at hf
                    refine lv_aload_n hx hb dM_times_134 rfl (lv_at hl 0 rfl) ?_
                    refine lv_iconst (v := 1) hx hb dM_times_135 (by decide) ?_
                    obtain ⟨o3, hq4, hf⟩ := xbind hf
                    have hl := lv_sub (l' := [(0, .ref aM)]) hl [0] rfl
                    by_cases hk5 : o3.1 = 1
                    · rw [if_pos hk5] at hf
                      obtain ⟨hm6, hf⟩ := xmoE hf
                      obtain rfl := Option.some.inj hf
                      exact absurd (show (1 : Nat) = 2 from hkd) (by decide)
                    rw [if_neg hk5] at hf
                    exact nomatch hf
                  · rw [if_pos hc] at hf
                    refine xm_aload_n hx hb (xvor _ _) dM_times_126 rfl (lv_at hl 2 rfl) ?_
                    refine xm_vget (v := .int ((xpi st 0) (c1 - 1))) hx hb htx hown hK hP 0 (by decide) hg2 rfl ((hZ.1 (93, "kind", "I") (List.mem_of_getElem? (i := 0) rfl)).use rfl) rfl dM_times_127 ?_
                    refine lv_iconst (v := 3) hx hb dM_times_130 (by decide) ?_
                    refine lv_icmp_eq (tgt := 140) hx hb dM_times_131 (by decide) (fun hc => ?_) (fun hc => ?_)
                    · rw [if_pos hc] at hf
                      refine xm_aload_n hx hb (xvor _ _) dM_times_140 rfl (lv_at hl 2 rfl) ?_
                      refine xm_vget (v := .long ((xpl st) (c1 - 1))) hx hb htx hown hK hP 1 (by decide) hg2 rfl ((hZ.1 (96, "n", "J") (List.mem_of_getElem? (i := 1) rfl)).use rfl) rfl dM_times_141 ?_
                      refine lv_lconst (v := 1) hx hb dM_times_144 (by decide) ?_
                      refine W.lcmp hx hb dM_times_145 ?_
                      refine lv_if_ge (tgt := 155) hx hb dM_times_146 (by decide) (fun hc => ?_) (fun hc => ?_)
                      · rw [if_pos hc] at hf
                        refine xm_aload_n hx hb (xvor _ _) dM_times_155 rfl (lv_at hl 2 rfl) ?_
                        refine xm_vget (v := .long ((xpl st) (c1 - 1))) hx hb htx hown hK hP 1 (by decide) hg2 rfl ((hZ.1 (96, "n", "J") (List.mem_of_getElem? (i := 1) rfl)).use rfl) rfl dM_times_156 ?_
                        refine xm_aload_n hx hb (xvor _ _) dM_times_159 rfl (lv_at hl 1 rfl) ?_
                        refine xm_vget (v := .int ((xpi st 3) (c0 - 1))) hx hb htx hown hK hP 3 (by decide) hg1 rfl ((hZ.1 (103, "count", "I") (List.mem_of_getElem? (i := 3) rfl)).use rfl) rfl dM_times_160 ?_
                        refine lv_i2l hx hb dM_times_163 rfl ?_
                        refine lv_lconst (v := 1) hx hb dM_times_164 (by decide) ?_
                        refine lv_ladd hx hb dM_times_165 ?_
                        refine lv_lmul hx hb dM_times_166 ?_
                        refine lv_ldc2 hx hb hown (htx _ kw_6_221) dM_times_167 ?_
                        refine W.lcmp hx hb dM_times_170 ?_
                        refine lv_if_le (tgt := 197) hx hb dM_times_171 (by decide) (fun hc => ?_) (fun hc => ?_)
                        · rw [if_pos hc] at hf
                          refine xm_aload_n hx hb (xvor _ _) dM_times_197 rfl (lv_at hl 1 rfl) ?_
                          refine xm_vget (v := .int ((xpi st 3) (c0 - 1))) hx hb htx hown hK hP 3 (by decide) hg1 rfl ((hZ.1 (103, "count", "I") (List.mem_of_getElem? (i := 3) rfl)).use rfl) rfl dM_times_198 ?_
                          refine lv_if_le (tgt := 225) hx hb dM_times_201 (by decide) (fun hc => ?_) (fun hc => ?_)
                          · rw [if_pos hc] at hf
                            refine lv_aload_n hx hb dM_times_225 rfl (lv_at hl 0 rfl) ?_
                            refine xm_get (v := .int (xsi st 4)) hx hb htx hown hK hP 4 (by decide) rfl (htx _ kw_5_91) rfl dM_times_226 ?_
                            refine lv_istore_n (lv' := [(3, .int (xsi st 4)), (0, .ref aM), (1, xv vad c0), (2, xv vad c1)]) hx hb dM_times_229 rfl hl (by decide) (by simp only [List.filter, xvcat, xrscat, xcI, xcL, xcR, xcN]; rfl) (fun ls hl => ?_)
                            refine lv_lconst (v := 0) hx hb dM_times_230 (by decide) ?_
                            refine lv_lstore (lv' := [(4, .long 0), (3, .int (xsi st 4)), (0, .ref aM), (1, xv vad c0), (2, xv vad c1)]) hx hb dM_times_231 hl (by decide) rfl (fun ls hl => ?_)
                            exact key n (1, (0 : Int64), (xsi st 4), c0, c1, st, 0, 0) _ _ ls (⟨ad, gd, vad, rfl, hf, hP, hD, hS, lv_sub hl [0, 1, 2, 3, 4] rfl, hE, hN⟩)
                          · rw [if_neg hc] at hf
                            refine xm_aload_n hx hb (xvor _ _) dM_times_204 rfl (lv_at hl 2 rfl) ?_
                            refine xm_vget (v := .long ((xpl st) (c1 - 1))) hx hb htx hown hK hP 1 (by decide) hg2 rfl ((hZ.1 (96, "n", "J") (List.mem_of_getElem? (i := 1) rfl)).use rfl) rfl dM_times_205 ?_
                            refine lv_ldc hx hb hown (htx _ kw_6_62) dM_times_208 ?_
                            refine xm_aload_n hx hb (xvor _ _) dM_times_210 rfl (lv_at hl 1 rfl) ?_
                            refine xm_vget (v := .int ((xpi st 3) (c0 - 1))) hx hb htx hown hK hP 3 (by decide) hg1 rfl ((hZ.1 (103, "count", "I") (List.mem_of_getElem? (i := 3) rfl)).use rfl) rfl dM_times_211 ?_
                            obtain ⟨hg3, hf⟩ := xifn hf
                            refine lv_idiv hx hb dM_times_214 hg3 ?_
                            refine lv_i2l hx hb dM_times_215 rfl ?_
                            refine W.lcmp hx hb dM_times_216 ?_
                            refine lv_if_le (tgt := 225) hx hb dM_times_217 (by decide) (fun hc => ?_) (fun hc => ?_)
                            · rw [if_pos hc] at hf
                              refine lv_aload_n hx hb dM_times_225 rfl (lv_at hl 0 rfl) ?_
                              refine xm_get (v := .int (xsi st 4)) hx hb htx hown hK hP 4 (by decide) rfl (htx _ kw_5_91) rfl dM_times_226 ?_
                              refine lv_istore_n (lv' := [(3, .int (xsi st 4)), (0, .ref aM), (1, xv vad c0), (2, xv vad c1)]) hx hb dM_times_229 rfl hl (by decide) (by simp only [List.filter, xvcat, xrscat, xcI, xcL, xcR, xcN]; rfl) (fun ls hl => ?_)
                              refine lv_lconst (v := 0) hx hb dM_times_230 (by decide) ?_
                              refine lv_lstore (lv' := [(4, .long 0), (3, .int (xsi st 4)), (0, .ref aM), (1, xv vad c0), (2, xv vad c1)]) hx hb dM_times_231 hl (by decide) rfl (fun ls hl => ?_)
                              exact key n (1, (0 : Int64), (xsi st 4), c0, c1, st, 0, 0) _ _ ls (⟨ad, gd, vad, rfl, hf, hP, hD, hS, lv_sub hl [0, 1, 2, 3, 4] rfl, hE, hN⟩)
                            · rw [if_neg hc] at hf
                              refine lv_aload_n hx hb dM_times_220 rfl (lv_at hl 0 rfl) ?_
                              obtain ⟨o4, hq5, hf⟩ := xbind hf
                              have hl := lv_sub (l' := [(0, .ref aM)]) hl [0] rfl
                              by_cases hk6 : o4.1 = 1
                              · rw [if_pos hk6] at hf
                                obtain ⟨hm7, hf⟩ := xmoE hf
                                have hFc := xm_free hD hS hA
                                refine xx_thr (vx_runV (C := "ValueBenchModel") (As := []) (rest := []) ⟨hx, hb, hml, hown, htx⟩ (gM_limit_1 l hl9 D cT aK aV s.heap.size n aM ad rd gd vad st o4 hq5 hk6) ⟨callB_of 0 htx (xw_goodC kw_6_66) rfl rfl rfl (htx _ kw_1_5) (htx _ kw_6_63) ⟨by decide, by decide, by decide +kernel⟩ ⟨Nat.le_of_ble_eq_true rfl, Nat.le_of_ble_eq_true rfl⟩, (htx _ kw_6_65), (htx _ kp_M_limit)⟩ ⟨xPre_blind, va_recv hK hP (ci := 5) rfl (q0 := 0) rfl, (fun U hU hW => ⟨rfl, xPre_of hZ hS hFc hP hD hK U hU hW⟩)⟩ rfl rfl hl.1 rfl (xm_room (Nat.le_of_ble_eq_true rfl)) dM_times_221 ⟨hm7.1, hm7.2⟩) hS hFc (fun q _ h => hFc q h) (fun E ce q9 u9 t H1 locs ht hvm hr9 hB hz1 hk1 hS hce hcv hcl => ?_)
                                obtain ⟨rfl, hP1, hK1, hD1⟩ := hB
                                rw [ht] at hP1
                                obtain ⟨ad9, gd10, vad11⟩ := u9
                                obtain ⟨hv12, hn13⟩ := hr9
                                have hP : va_P D xcl (xMw cT aM ad9 rd gd10 vad11 st []) H1 := hP1
                                have hD : va_D A (xMw cT aM ad9 rd gd10 vad11 st []) := hD1.weaken (fun k q _ h => hFc q.1 h)
                                generalize H1 = H at hP hS hce ⊢
                                have hE9 : ∀ p, p < xct st → vad11 p = vad p := fun p h => (hv12 p (Nat.lt_of_lt_of_le h hN)).trans (hE p h)
                                have hE := hE9
                                have hN : xct st ≤ xct st := Nat.le_trans hN hn13
                                obtain rfl := Option.some.inj hf
                                exact vx_out (E := "java/lang/IndexOutOfBoundsException") (fun x h => (hne x h).elim) hlocks hce hcv hcl (fun t ht ha => ⟨(ad9, gd10, vad11), ⟨hE, hN⟩, ⟨rfl, by rw [ht]; exact hP, va_K.moved ha hK, hD⟩, hS.F ht⟩) hS.2.2 (Nat.le_refl _) (Nat.le_refl _)
                              rw [if_neg hk6] at hf
                              exact nomatch hf
                        · rw [if_neg hc] at hf
                          refine xm_aload_n hx hb (xvor _ _) dM_times_174 rfl (lv_at hl 1 rfl) ?_
                          refine xm_vget (v := .int ((xpi st 3) (c0 - 1))) hx hb htx hown hK hP 3 (by decide) hg1 rfl ((hZ.1 (103, "count", "I") (List.mem_of_getElem? (i := 3) rfl)).use rfl) rfl dM_times_175 ?_
                          refine lv_if_le (tgt := 197) hx hb dM_times_178 (by decide) (fun hc => ?_) (fun hc => ?_)
                          · rw [if_pos hc] at hf
                            refine xm_aload_n hx hb (xvor _ _) dM_times_197 rfl (lv_at hl 1 rfl) ?_
                            refine xm_vget (v := .int ((xpi st 3) (c0 - 1))) hx hb htx hown hK hP 3 (by decide) hg1 rfl ((hZ.1 (103, "count", "I") (List.mem_of_getElem? (i := 3) rfl)).use rfl) rfl dM_times_198 ?_
                            refine lv_if_le (tgt := 225) hx hb dM_times_201 (by decide) (fun hc => ?_) (fun hc => ?_)
                            · rw [if_pos hc] at hf
                              refine lv_aload_n hx hb dM_times_225 rfl (lv_at hl 0 rfl) ?_
                              refine xm_get (v := .int (xsi st 4)) hx hb htx hown hK hP 4 (by decide) rfl (htx _ kw_5_91) rfl dM_times_226 ?_
                              refine lv_istore_n (lv' := [(3, .int (xsi st 4)), (0, .ref aM), (1, xv vad c0), (2, xv vad c1)]) hx hb dM_times_229 rfl hl (by decide) (by simp only [List.filter, xvcat, xrscat, xcI, xcL, xcR, xcN]; rfl) (fun ls hl => ?_)
                              refine lv_lconst (v := 0) hx hb dM_times_230 (by decide) ?_
                              refine lv_lstore (lv' := [(4, .long 0), (3, .int (xsi st 4)), (0, .ref aM), (1, xv vad c0), (2, xv vad c1)]) hx hb dM_times_231 hl (by decide) rfl (fun ls hl => ?_)
                              exact key n (1, (0 : Int64), (xsi st 4), c0, c1, st, 0, 0) _ _ ls (⟨ad, gd, vad, rfl, hf, hP, hD, hS, lv_sub hl [0, 1, 2, 3, 4] rfl, hE, hN⟩)
                            · rw [if_neg hc] at hf
                              refine xm_aload_n hx hb (xvor _ _) dM_times_204 rfl (lv_at hl 2 rfl) ?_
                              refine xm_vget (v := .long ((xpl st) (c1 - 1))) hx hb htx hown hK hP 1 (by decide) hg2 rfl ((hZ.1 (96, "n", "J") (List.mem_of_getElem? (i := 1) rfl)).use rfl) rfl dM_times_205 ?_
                              refine lv_ldc hx hb hown (htx _ kw_6_62) dM_times_208 ?_
                              refine xm_aload_n hx hb (xvor _ _) dM_times_210 rfl (lv_at hl 1 rfl) ?_
                              refine xm_vget (v := .int ((xpi st 3) (c0 - 1))) hx hb htx hown hK hP 3 (by decide) hg1 rfl ((hZ.1 (103, "count", "I") (List.mem_of_getElem? (i := 3) rfl)).use rfl) rfl dM_times_211 ?_
                              obtain ⟨hg3, hf⟩ := xifn hf
                              refine lv_idiv hx hb dM_times_214 hg3 ?_
                              refine lv_i2l hx hb dM_times_215 rfl ?_
                              refine W.lcmp hx hb dM_times_216 ?_
                              refine lv_if_le (tgt := 225) hx hb dM_times_217 (by decide) (fun hc => ?_) (fun hc => ?_)
                              · rw [if_pos hc] at hf
                                refine lv_aload_n hx hb dM_times_225 rfl (lv_at hl 0 rfl) ?_
                                refine xm_get (v := .int (xsi st 4)) hx hb htx hown hK hP 4 (by decide) rfl (htx _ kw_5_91) rfl dM_times_226 ?_
                                refine lv_istore_n (lv' := [(3, .int (xsi st 4)), (0, .ref aM), (1, xv vad c0), (2, xv vad c1)]) hx hb dM_times_229 rfl hl (by decide) (by simp only [List.filter, xvcat, xrscat, xcI, xcL, xcR, xcN]; rfl) (fun ls hl => ?_)
                                refine lv_lconst (v := 0) hx hb dM_times_230 (by decide) ?_
                                refine lv_lstore (lv' := [(4, .long 0), (3, .int (xsi st 4)), (0, .ref aM), (1, xv vad c0), (2, xv vad c1)]) hx hb dM_times_231 hl (by decide) rfl (fun ls hl => ?_)
                                exact key n (1, (0 : Int64), (xsi st 4), c0, c1, st, 0, 0) _ _ ls (⟨ad, gd, vad, rfl, hf, hP, hD, hS, lv_sub hl [0, 1, 2, 3, 4] rfl, hE, hN⟩)
                              · rw [if_neg hc] at hf
                                refine lv_aload_n hx hb dM_times_220 rfl (lv_at hl 0 rfl) ?_
                                obtain ⟨o4, hq5, hf⟩ := xbind hf
                                have hl := lv_sub (l' := [(0, .ref aM)]) hl [0] rfl
                                by_cases hk6 : o4.1 = 1
                                · rw [if_pos hk6] at hf
                                  obtain ⟨hm7, hf⟩ := xmoE hf
                                  have hFc := xm_free hD hS hA
                                  refine xx_thr (vx_runV (C := "ValueBenchModel") (As := []) (rest := []) ⟨hx, hb, hml, hown, htx⟩ (gM_limit_1 l hl9 D cT aK aV s.heap.size n aM ad rd gd vad st o4 hq5 hk6) ⟨callB_of 0 htx (xw_goodC kw_6_66) rfl rfl rfl (htx _ kw_1_5) (htx _ kw_6_63) ⟨by decide, by decide, by decide +kernel⟩ ⟨Nat.le_of_ble_eq_true rfl, Nat.le_of_ble_eq_true rfl⟩, (htx _ kw_6_65), (htx _ kp_M_limit)⟩ ⟨xPre_blind, va_recv hK hP (ci := 5) rfl (q0 := 0) rfl, (fun U hU hW => ⟨rfl, xPre_of hZ hS hFc hP hD hK U hU hW⟩)⟩ rfl rfl hl.1 rfl (xm_room (Nat.le_of_ble_eq_true rfl)) dM_times_221 ⟨hm7.1, hm7.2⟩) hS hFc (fun q _ h => hFc q h) (fun E ce q9 u9 t H1 locs ht hvm hr9 hB hz1 hk1 hS hce hcv hcl => ?_)
                                  obtain ⟨rfl, hP1, hK1, hD1⟩ := hB
                                  rw [ht] at hP1
                                  obtain ⟨ad9, gd10, vad11⟩ := u9
                                  obtain ⟨hv12, hn13⟩ := hr9
                                  have hP : va_P D xcl (xMw cT aM ad9 rd gd10 vad11 st []) H1 := hP1
                                  have hD : va_D A (xMw cT aM ad9 rd gd10 vad11 st []) := hD1.weaken (fun k q _ h => hFc q.1 h)
                                  generalize H1 = H at hP hS hce ⊢
                                  have hE9 : ∀ p, p < xct st → vad11 p = vad p := fun p h => (hv12 p (Nat.lt_of_lt_of_le h hN)).trans (hE p h)
                                  have hE := hE9
                                  have hN : xct st ≤ xct st := Nat.le_trans hN hn13
                                  obtain rfl := Option.some.inj hf
                                  exact vx_out (E := "java/lang/IndexOutOfBoundsException") (fun x h => (hne x h).elim) hlocks hce hcv hcl (fun t ht ha => ⟨(ad9, gd10, vad11), ⟨hE, hN⟩, ⟨rfl, by rw [ht]; exact hP, va_K.moved ha hK, hD⟩, hS.F ht⟩) hS.2.2 (Nat.le_refl _) (Nat.le_refl _)
                                rw [if_neg hk6] at hf
                                exact nomatch hf
                          · rw [if_neg hc] at hf
                            refine xm_aload_n hx hb (xvor _ _) dM_times_181 rfl (lv_at hl 2 rfl) ?_
                            refine xm_vget (v := .long ((xpl st) (c1 - 1))) hx hb htx hown hK hP 1 (by decide) hg2 rfl ((hZ.1 (96, "n", "J") (List.mem_of_getElem? (i := 1) rfl)).use rfl) rfl dM_times_182 ?_
                            refine lv_ldc2 hx hb hown (htx _ kw_6_108) dM_times_185 ?_
                            refine W.lcmp hx hb dM_times_188 ?_
                            refine lv_if_le (tgt := 197) hx hb dM_times_189 (by decide) (fun hc => ?_) (fun hc => ?_)
                            · rw [if_pos hc] at hf
                              refine xm_aload_n hx hb (xvor _ _) dM_times_197 rfl (lv_at hl 1 rfl) ?_
                              refine xm_vget (v := .int ((xpi st 3) (c0 - 1))) hx hb htx hown hK hP 3 (by decide) hg1 rfl ((hZ.1 (103, "count", "I") (List.mem_of_getElem? (i := 3) rfl)).use rfl) rfl dM_times_198 ?_
                              refine lv_if_le (tgt := 225) hx hb dM_times_201 (by decide) (fun hc => ?_) (fun hc => ?_)
                              · rw [if_pos hc] at hf
                                refine lv_aload_n hx hb dM_times_225 rfl (lv_at hl 0 rfl) ?_
                                refine xm_get (v := .int (xsi st 4)) hx hb htx hown hK hP 4 (by decide) rfl (htx _ kw_5_91) rfl dM_times_226 ?_
                                refine lv_istore_n (lv' := [(3, .int (xsi st 4)), (0, .ref aM), (1, xv vad c0), (2, xv vad c1)]) hx hb dM_times_229 rfl hl (by decide) (by simp only [List.filter, xvcat, xrscat, xcI, xcL, xcR, xcN]; rfl) (fun ls hl => ?_)
                                refine lv_lconst (v := 0) hx hb dM_times_230 (by decide) ?_
                                refine lv_lstore (lv' := [(4, .long 0), (3, .int (xsi st 4)), (0, .ref aM), (1, xv vad c0), (2, xv vad c1)]) hx hb dM_times_231 hl (by decide) rfl (fun ls hl => ?_)
                                exact key n (1, (0 : Int64), (xsi st 4), c0, c1, st, 0, 0) _ _ ls (⟨ad, gd, vad, rfl, hf, hP, hD, hS, lv_sub hl [0, 1, 2, 3, 4] rfl, hE, hN⟩)
                              · rw [if_neg hc] at hf
                                refine xm_aload_n hx hb (xvor _ _) dM_times_204 rfl (lv_at hl 2 rfl) ?_
                                refine xm_vget (v := .long ((xpl st) (c1 - 1))) hx hb htx hown hK hP 1 (by decide) hg2 rfl ((hZ.1 (96, "n", "J") (List.mem_of_getElem? (i := 1) rfl)).use rfl) rfl dM_times_205 ?_
                                refine lv_ldc hx hb hown (htx _ kw_6_62) dM_times_208 ?_
                                refine xm_aload_n hx hb (xvor _ _) dM_times_210 rfl (lv_at hl 1 rfl) ?_
                                refine xm_vget (v := .int ((xpi st 3) (c0 - 1))) hx hb htx hown hK hP 3 (by decide) hg1 rfl ((hZ.1 (103, "count", "I") (List.mem_of_getElem? (i := 3) rfl)).use rfl) rfl dM_times_211 ?_
                                obtain ⟨hg3, hf⟩ := xifn hf
                                refine lv_idiv hx hb dM_times_214 hg3 ?_
                                refine lv_i2l hx hb dM_times_215 rfl ?_
                                refine W.lcmp hx hb dM_times_216 ?_
                                refine lv_if_le (tgt := 225) hx hb dM_times_217 (by decide) (fun hc => ?_) (fun hc => ?_)
                                · rw [if_pos hc] at hf
                                  refine lv_aload_n hx hb dM_times_225 rfl (lv_at hl 0 rfl) ?_
                                  refine xm_get (v := .int (xsi st 4)) hx hb htx hown hK hP 4 (by decide) rfl (htx _ kw_5_91) rfl dM_times_226 ?_
                                  refine lv_istore_n (lv' := [(3, .int (xsi st 4)), (0, .ref aM), (1, xv vad c0), (2, xv vad c1)]) hx hb dM_times_229 rfl hl (by decide) (by simp only [List.filter, xvcat, xrscat, xcI, xcL, xcR, xcN]; rfl) (fun ls hl => ?_)
                                  refine lv_lconst (v := 0) hx hb dM_times_230 (by decide) ?_
                                  refine lv_lstore (lv' := [(4, .long 0), (3, .int (xsi st 4)), (0, .ref aM), (1, xv vad c0), (2, xv vad c1)]) hx hb dM_times_231 hl (by decide) rfl (fun ls hl => ?_)
                                  exact key n (1, (0 : Int64), (xsi st 4), c0, c1, st, 0, 0) _ _ ls (⟨ad, gd, vad, rfl, hf, hP, hD, hS, lv_sub hl [0, 1, 2, 3, 4] rfl, hE, hN⟩)
                                · rw [if_neg hc] at hf
                                  refine lv_aload_n hx hb dM_times_220 rfl (lv_at hl 0 rfl) ?_
                                  obtain ⟨o4, hq5, hf⟩ := xbind hf
                                  have hl := lv_sub (l' := [(0, .ref aM)]) hl [0] rfl
                                  by_cases hk6 : o4.1 = 1
                                  · rw [if_pos hk6] at hf
                                    obtain ⟨hm7, hf⟩ := xmoE hf
                                    have hFc := xm_free hD hS hA
                                    refine xx_thr (vx_runV (C := "ValueBenchModel") (As := []) (rest := []) ⟨hx, hb, hml, hown, htx⟩ (gM_limit_1 l hl9 D cT aK aV s.heap.size n aM ad rd gd vad st o4 hq5 hk6) ⟨callB_of 0 htx (xw_goodC kw_6_66) rfl rfl rfl (htx _ kw_1_5) (htx _ kw_6_63) ⟨by decide, by decide, by decide +kernel⟩ ⟨Nat.le_of_ble_eq_true rfl, Nat.le_of_ble_eq_true rfl⟩, (htx _ kw_6_65), (htx _ kp_M_limit)⟩ ⟨xPre_blind, va_recv hK hP (ci := 5) rfl (q0 := 0) rfl, (fun U hU hW => ⟨rfl, xPre_of hZ hS hFc hP hD hK U hU hW⟩)⟩ rfl rfl hl.1 rfl (xm_room (Nat.le_of_ble_eq_true rfl)) dM_times_221 ⟨hm7.1, hm7.2⟩) hS hFc (fun q _ h => hFc q h) (fun E ce q9 u9 t H1 locs ht hvm hr9 hB hz1 hk1 hS hce hcv hcl => ?_)
                                    obtain ⟨rfl, hP1, hK1, hD1⟩ := hB
                                    rw [ht] at hP1
                                    obtain ⟨ad9, gd10, vad11⟩ := u9
                                    obtain ⟨hv12, hn13⟩ := hr9
                                    have hP : va_P D xcl (xMw cT aM ad9 rd gd10 vad11 st []) H1 := hP1
                                    have hD : va_D A (xMw cT aM ad9 rd gd10 vad11 st []) := hD1.weaken (fun k q _ h => hFc q.1 h)
                                    generalize H1 = H at hP hS hce ⊢
                                    have hE9 : ∀ p, p < xct st → vad11 p = vad p := fun p h => (hv12 p (Nat.lt_of_lt_of_le h hN)).trans (hE p h)
                                    have hE := hE9
                                    have hN : xct st ≤ xct st := Nat.le_trans hN hn13
                                    obtain rfl := Option.some.inj hf
                                    exact vx_out (E := "java/lang/IndexOutOfBoundsException") (fun x h => (hne x h).elim) hlocks hce hcv hcl (fun t ht ha => ⟨(ad9, gd10, vad11), ⟨hE, hN⟩, ⟨rfl, by rw [ht]; exact hP, va_K.moved ha hK, hD⟩, hS.F ht⟩) hS.2.2 (Nat.le_refl _) (Nat.le_refl _)
                                  rw [if_neg hk6] at hf
                                  exact nomatch hf
                            · rw [if_neg hc] at hf
                              refine lv_aload_n hx hb dM_times_192 rfl (lv_at hl 0 rfl) ?_
                              obtain ⟨o3, hq4, hf⟩ := xbind hf
                              have hl := lv_sub (l' := [(0, .ref aM)]) hl [0] rfl
                              by_cases hk5 : o3.1 = 1
                              · rw [if_pos hk5] at hf
                                obtain ⟨hm6, hf⟩ := xmoE hf
                                have hFc := xm_free hD hS hA
                                refine xx_thr (vx_runV (C := "ValueBenchModel") (As := []) (rest := []) ⟨hx, hb, hml, hown, htx⟩ (gM_limit_1 l hl9 D cT aK aV s.heap.size n aM ad rd gd vad st o3 hq4 hk5) ⟨callB_of 0 htx (xw_goodC kw_6_66) rfl rfl rfl (htx _ kw_1_5) (htx _ kw_6_63) ⟨by decide, by decide, by decide +kernel⟩ ⟨Nat.le_of_ble_eq_true rfl, Nat.le_of_ble_eq_true rfl⟩, (htx _ kw_6_65), (htx _ kp_M_limit)⟩ ⟨xPre_blind, va_recv hK hP (ci := 5) rfl (q0 := 0) rfl, (fun U hU hW => ⟨rfl, xPre_of hZ hS hFc hP hD hK U hU hW⟩)⟩ rfl rfl hl.1 rfl (xm_room (Nat.le_of_ble_eq_true rfl)) dM_times_193 ⟨hm6.1, hm6.2⟩) hS hFc (fun q _ h => hFc q h) (fun E ce q9 u9 t H1 locs ht hvm hr9 hB hz1 hk1 hS hce hcv hcl => ?_)
                                obtain ⟨rfl, hP1, hK1, hD1⟩ := hB
                                rw [ht] at hP1
                                obtain ⟨ad8, gd9, vad10⟩ := u9
                                obtain ⟨hv11, hn12⟩ := hr9
                                have hP : va_P D xcl (xMw cT aM ad8 rd gd9 vad10 st []) H1 := hP1
                                have hD : va_D A (xMw cT aM ad8 rd gd9 vad10 st []) := hD1.weaken (fun k q _ h => hFc q.1 h)
                                generalize H1 = H at hP hS hce ⊢
                                have hE9 : ∀ p, p < xct st → vad10 p = vad p := fun p h => (hv11 p (Nat.lt_of_lt_of_le h hN)).trans (hE p h)
                                have hE := hE9
                                have hN : xct st ≤ xct st := Nat.le_trans hN hn12
                                obtain rfl := Option.some.inj hf
                                exact vx_out (E := "java/lang/IndexOutOfBoundsException") (fun x h => (hne x h).elim) hlocks hce hcv hcl (fun t ht ha => ⟨(ad8, gd9, vad10), ⟨hE, hN⟩, ⟨rfl, by rw [ht]; exact hP, va_K.moved ha hK, hD⟩, hS.F ht⟩) hS.2.2 (Nat.le_refl _) (Nat.le_refl _)
                              rw [if_neg hk5] at hf
                              exact nomatch hf
                      · rw [if_neg hc] at hf
                        refine lv_aload_n hx hb dM_times_149 rfl (lv_at hl 0 rfl) ?_
                        refine lv_iconst (v := 0) hx hb dM_times_150 (by decide) ?_
                        obtain ⟨o3, hq4, hf⟩ := xbind hf
                        have hl := lv_sub (l' := [(0, .ref aM)]) hl [0] rfl
                        obtain ⟨hm5, hf⟩ := xmoE hf
                        have hFc := xm_free hD hS hA
                        refine va_callq (va_runV (C := "ValueBenchModel") (As := [.int 0]) (rest := []) ⟨hx, hb, hml, hown, htx⟩ (gM_fresh l hl9 D cT aK aV s.heap.size n aM ad rd gd vad st (0 : Int32) o3 hq4) ⟨callB_of 1 htx (xw_goodC kw_6_16) rfl rfl rfl (htx _ kw_1_5) (htx _ kw_6_13) ⟨by decide, by decide, by decide +kernel⟩ ⟨Nat.le_of_ble_eq_true rfl, Nat.le_of_ble_eq_true rfl⟩, (htx _ kw_6_15), (htx _ kp_M_fresh)⟩ ⟨xPre_blind, va_recv hK hP (ci := 5) rfl (q0 := 0) rfl, (fun U hU hW => ⟨rfl, xPre_of hZ hS hFc hP hD hK U hU hW⟩)⟩ rfl rfl hl.1 rfl (xm_room (Nat.le_of_ble_eq_true rfl)) dM_times_151 ⟨hm5.1, hm5.2⟩) hS (fun q _ h => hFc q h) hFc (fun r6 u9 t H1 locs ht hvm hr9 hB hz1 hk1 hS => ?_)
                        obtain ⟨hP1, hK1, hD1⟩ := hB
                        rw [ht] at hP1
                        obtain ⟨ad7, gd8, vad9⟩ := u9
                        obtain ⟨hr9, hv10, hn11⟩ := hr9
                        have hP : va_P D xcl (xMw cT aM ad7 rd gd8 vad9 o3.2.2.2 []) H1 := hP1
                        have hD : va_D A (xMw cT aM ad7 rd gd8 vad9 o3.2.2.2 []) := hD1.weaken (fun k q _ h => hFc q.1 h)
                        generalize H1 = H at hP hS ⊢
                        have hE9 : ∀ p, p < xct st → vad9 p = vad p := fun p h => (hv10 p (Nat.lt_of_lt_of_le h hN)).trans (hE p h)
                        have hE := hE9
                        have hN : xct st ≤ xct o3.2.2.2 := Nat.le_trans hN hn11
                        rw [hr9]
                        refine W.eq (g2 := F0 m 154 ls [xv vad9 o3.2.2.1]) (by first | rfl | (skip; rfl)) ?_
                        obtain rfl := Option.some.inj hf
                        exact absurd (show (0 : Nat) = 2 from hkd) (by decide)
                    · rw [if_neg hc] at hf
                      refine lv_aload_n hx hb dM_times_134 rfl (lv_at hl 0 rfl) ?_
                      refine lv_iconst (v := 1) hx hb dM_times_135 (by decide) ?_
                      obtain ⟨o3, hq4, hf⟩ := xbind hf
                      have hl := lv_sub (l' := [(0, .ref aM)]) hl [0] rfl
                      by_cases hk5 : o3.1 = 1
                      · rw [if_pos hk5] at hf
                        obtain ⟨hm6, hf⟩ := xmoE hf
                        obtain rfl := Option.some.inj hf
                        exact absurd (show (1 : Nat) = 2 from hkd) (by decide)
                      rw [if_neg hk5] at hf
                      exact nomatch hf
                · rw [if_pos hc] at hf
                  refine lv_aload_n hx hb dM_times_111 rfl (lv_at hl 0 rfl) ?_
                  refine xm_aload_n hx hb (xvor _ _) dM_times_112 rfl (lv_at hl 2 rfl) ?_
                  refine xm_aload_n hx hb (xvor _ _) dM_times_113 rfl (lv_at hl 1 rfl) ?_
                  obtain ⟨o3, hq4, hf⟩ := xbind hf
                  have hl := lv_sub (l' := [(0, .ref aM)]) hl [0] rfl
                  by_cases hk5 : o3.1 = 0
                  · rw [if_pos hk5] at hf
                    obtain ⟨hm6, hf⟩ := xmoE hf
                    have hFc := xm_free hD hS hA
                    refine va_callq (va_runV (C := "ValueBenchModel") (As := [xv vad c1, xv vad c0]) (rest := []) ⟨hx, hb, hml, hown, htx⟩ ((hrec s.heap.size aM ad rd gd vad st c1 c0 o3 hq4).1 hk5) ⟨callB_of 2 htx (xw_goodC kw_6_215) rfl rfl rfl (htx _ kw_1_5) (htx _ kw_6_212) ⟨by decide, by decide, by decide +kernel⟩ ⟨(by show (16 * d) + 1 ≤ 16 * (d + 1); omega), (by show 8 + (7 + 11) + (400 * d) ≤ 400 * (d + 1); omega)⟩, (htx _ kw_6_214), (htx _ kp_M_times)⟩ ⟨xPre_blind, va_recv hK hP (ci := 5) rfl (q0 := 0) rfl, (fun U hU hW => ⟨rfl, xPre_of hZ hS hFc hP hD hK U hU hW⟩)⟩ rfl rfl hl.1 rfl (xm_room (Nat.le_of_ble_eq_true rfl)) dM_times_114 ⟨hm6.1, hm6.2⟩) hS (fun q _ h => hFc q h) hFc (fun r7 u9 t H1 locs ht hvm hr9 hB hz1 hk1 hS => ?_)
                    obtain ⟨hP1, hK1, hD1⟩ := hB
                    rw [ht] at hP1
                    obtain ⟨ad8, gd9, vad10⟩ := u9
                    obtain ⟨hr9, hv11, hn12⟩ := hr9
                    have hP : va_P D xcl (xMw cT aM ad8 rd gd9 vad10 o3.2.2.2.2 []) H1 := hP1
                    have hD : va_D A (xMw cT aM ad8 rd gd9 vad10 o3.2.2.2.2 []) := hD1.weaken (fun k q _ h => hFc q.1 h)
                    generalize H1 = H at hP hS ⊢
                    have hE9 : ∀ p, p < xct st → vad10 p = vad p := fun p h => (hv11 p (Nat.lt_of_lt_of_le h hN)).trans (hE p h)
                    have hE := hE9
                    have hN : xct st ≤ xct o3.2.2.2.2 := Nat.le_trans hN hn12
                    rw [hr9]
                    refine W.eq (g2 := F0 m 117 ls [xv vad10 o3.2.2.2.1]) (by first | rfl | (skip; rfl)) ?_
                    obtain rfl := Option.some.inj hf
                    exact absurd (show (0 : Nat) = 2 from hkd) (by decide)
                  rw [if_neg hk5] at hf
                  by_cases hk13 : o3.1 = 1
                  · rw [if_pos hk13] at hf
                    obtain ⟨hm14, hf⟩ := xmoE hf
                    obtain rfl := Option.some.inj hf
                    exact absurd (show (1 : Nat) = 2 from hkd) (by decide)
                  rw [if_neg hk13] at hf
                  by_cases hk21 : o3.1 = 2
                  · rw [if_pos hk21] at hf
                    obtain ⟨hm22, hf⟩ := xmoE hf
                    have hFc := xm_free hD hS hA
                    refine xx_thr (vx_runV (C := "ValueBenchModel") (As := [xv vad c1, xv vad c0]) (rest := []) ⟨hx, hb, hml, hown, htx⟩ ((hrec s.heap.size aM ad rd gd vad st c1 c0 o3 hq4).2.2 hk21) ⟨callB_of 2 htx (xw_goodC kw_6_215) rfl rfl rfl (htx _ kw_1_5) (htx _ kw_6_212) ⟨by decide, by decide, by decide +kernel⟩ ⟨(by show (16 * d) + 1 ≤ 16 * (d + 1); omega), (by show 8 + (7 + 11) + (400 * d) ≤ 400 * (d + 1); omega)⟩, (htx _ kw_6_214), (htx _ kp_M_times)⟩ ⟨xPre_blind, va_recv hK hP (ci := 5) rfl (q0 := 0) rfl, (fun U hU hW => ⟨rfl, xPre_of hZ hS hFc hP hD hK U hU hW⟩)⟩ rfl rfl hl.1 rfl (xm_room (Nat.le_of_ble_eq_true rfl)) dM_times_114 ⟨hm22.1, hm22.2⟩) hS hFc (fun q _ h => hFc q h) (fun E ce q9 u9 t H1 locs ht hvm hr9 hB hz1 hk1 hS hce hcv hcl => ?_)
                    obtain ⟨rfl, hP1, hK1, hD1⟩ := hB
                    rw [ht] at hP1
                    obtain ⟨ad24, gd25, vad26⟩ := u9
                    obtain ⟨hv27, hn28⟩ := hr9
                    have hP : va_P D xcl (xMw cT aM ad24 rd gd25 vad26 o3.2.2.2.2 []) H1 := hP1
                    have hD : va_D A (xMw cT aM ad24 rd gd25 vad26 o3.2.2.2.2 []) := hD1.weaken (fun k q _ h => hFc q.1 h)
                    generalize H1 = H at hP hS hce ⊢
                    have hE9 : ∀ p, p < xct st → vad26 p = vad p := fun p h => (hv27 p (Nat.lt_of_lt_of_le h hN)).trans (hE p h)
                    have hE := hE9
                    have hN : xct st ≤ xct o3.2.2.2.2 := Nat.le_trans hN hn28
                    obtain rfl := Option.some.inj hf
                    exact vx_out (E := "java/lang/IndexOutOfBoundsException") (fun x h => (hne x h).elim) hlocks hce hcv hcl (fun t ht ha => ⟨(ad24, gd25, vad26), ⟨hE, hN⟩, ⟨rfl, by rw [ht]; exact hP, va_K.moved ha hK, hD⟩, hS.F ht⟩) hS.2.2 (Nat.le_refl _) (Nat.le_refl _)
                  rw [if_neg hk21] at hf
                  exact nomatch hf
            · rw [if_pos hc] at hf
              refine lv_aload_n hx hb dM_times_88 rfl (lv_at hl 0 rfl) ?_
              refine xm_aload_n hx hb (xvor _ _) dM_times_89 rfl (lv_at hl 1 rfl) ?_
              refine xm_aload_n hx hb (xvor _ _) dM_times_90 rfl (lv_at hl 2 rfl) ?_
              obtain ⟨o3, hq4, hf⟩ := xbind hf
              have hl := lv_sub (l' := [(0, .ref aM)]) hl [0] rfl
              by_cases hk5 : o3.1 = 0
              · rw [if_pos hk5] at hf
                obtain ⟨hm6, hf⟩ := xmoE hf
                have hFc := xm_free hD hS hA
                refine va_callq (va_runV (C := "ValueBenchModel") (As := [xv vad c0, xv vad c1]) (rest := []) ⟨hx, hb, hml, hown, htx⟩ ((gM_merged l hl9 D cT aK aV d s.heap.size n aM ad rd gd vad st c0 c1 o3 hq4).1 hk5) ⟨callB_of 2 htx (xw_goodC kw_6_220) rfl rfl rfl (htx _ kw_1_5) (htx _ kw_6_217) ⟨by decide, by decide, by decide +kernel⟩ ⟨(by show (16 * d) + 1 ≤ 16 * (d + 1); omega), (by show 8 + (8 + 11) + (400 * d) ≤ 400 * (d + 1); omega)⟩, (htx _ kw_6_219), (htx _ kp_M_merged)⟩ ⟨xPre_blind, va_recv hK hP (ci := 5) rfl (q0 := 0) rfl, (fun U hU hW => ⟨rfl, xPre_of hZ hS hFc hP hD hK U hU hW⟩)⟩ rfl rfl hl.1 rfl (xm_room (Nat.le_of_ble_eq_true rfl)) dM_times_91 ⟨hm6.1, hm6.2⟩) hS (fun q _ h => hFc q h) hFc (fun r7 u9 t H1 locs ht hvm hr9 hB hz1 hk1 hS => ?_)
                obtain ⟨hP1, hK1, hD1⟩ := hB
                rw [ht] at hP1
                obtain ⟨ad8, gd9, vad10⟩ := u9
                obtain ⟨hr9, hv11, hn12⟩ := hr9
                have hP : va_P D xcl (xMw cT aM ad8 rd gd9 vad10 o3.2.2.2.2 []) H1 := hP1
                have hD : va_D A (xMw cT aM ad8 rd gd9 vad10 o3.2.2.2.2 []) := hD1.weaken (fun k q _ h => hFc q.1 h)
                generalize H1 = H at hP hS ⊢
                have hE9 : ∀ p, p < xct st → vad10 p = vad p := fun p h => (hv11 p (Nat.lt_of_lt_of_le h hN)).trans (hE p h)
                have hE := hE9
                have hN : xct st ≤ xct o3.2.2.2.2 := Nat.le_trans hN hn12
                rw [hr9]
                refine W.eq (g2 := F0 m 94 ls [xv vad10 o3.2.2.2.1]) (by first | rfl | (skip; rfl)) ?_
                obtain rfl := Option.some.inj hf
                exact absurd (show (0 : Nat) = 2 from hkd) (by decide)
              rw [if_neg hk5] at hf
              by_cases hk13 : o3.1 = 1
              · rw [if_pos hk13] at hf
                obtain ⟨hm14, hf⟩ := xmoE hf
                have hFc := xm_free hD hS hA
                refine xx_thr (vx_runV (C := "ValueBenchModel") (As := [xv vad c0, xv vad c1]) (rest := []) ⟨hx, hb, hml, hown, htx⟩ ((gM_merged l hl9 D cT aK aV d s.heap.size n aM ad rd gd vad st c0 c1 o3 hq4).2 hk13) ⟨callB_of 2 htx (xw_goodC kw_6_220) rfl rfl rfl (htx _ kw_1_5) (htx _ kw_6_217) ⟨by decide, by decide, by decide +kernel⟩ ⟨(by show (16 * d) + 1 ≤ 16 * (d + 1); omega), (by show 8 + (8 + 11) + (400 * d) ≤ 400 * (d + 1); omega)⟩, (htx _ kw_6_219), (htx _ kp_M_merged)⟩ ⟨xPre_blind, va_recv hK hP (ci := 5) rfl (q0 := 0) rfl, (fun U hU hW => ⟨rfl, xPre_of hZ hS hFc hP hD hK U hU hW⟩)⟩ rfl rfl hl.1 rfl (xm_room (Nat.le_of_ble_eq_true rfl)) dM_times_91 ⟨hm14.1, hm14.2⟩) hS hFc (fun q _ h => hFc q h) (fun E ce q9 u9 t H1 locs ht hvm hr9 hB hz1 hk1 hS hce hcv hcl => ?_)
                obtain ⟨rfl, hP1, hK1, hD1⟩ := hB
                rw [ht] at hP1
                obtain ⟨ad16, gd17, vad18⟩ := u9
                obtain ⟨hv19, hn20⟩ := hr9
                have hP : va_P D xcl (xMw cT aM ad16 rd gd17 vad18 o3.2.2.2.2 []) H1 := hP1
                have hD : va_D A (xMw cT aM ad16 rd gd17 vad18 o3.2.2.2.2 []) := hD1.weaken (fun k q _ h => hFc q.1 h)
                generalize H1 = H at hP hS hce ⊢
                have hE9 : ∀ p, p < xct st → vad18 p = vad p := fun p h => (hv19 p (Nat.lt_of_lt_of_le h hN)).trans (hE p h)
                have hE := hE9
                have hN : xct st ≤ xct o3.2.2.2.2 := Nat.le_trans hN hn20
                obtain rfl := Option.some.inj hf
                exact vx_out (E := "java/lang/IndexOutOfBoundsException") (fun x h => (hne x h).elim) hlocks hce hcv hcl (fun t ht ha => ⟨(ad16, gd17, vad18), ⟨hE, hN⟩, ⟨rfl, by rw [ht]; exact hP, va_K.moved ha hK, hD⟩, hS.F ht⟩) hS.2.2 (Nat.le_refl _) (Nat.le_refl _)
              rw [if_neg hk13] at hf
              exact nomatch hf
        · rw [if_pos hc] at hf
          refine xm_aload_n hx hb (xvor _ _) dM_times_16 rfl (lv_at hl 1 rfl) ?_
          refine xm_vget (v := .long ((xpl st) (c0 - 1))) hx hb htx hown hK hP 1 (by decide) hg1 rfl ((hZ.1 (96, "n", "J") (List.mem_of_getElem? (i := 1) rfl)).use rfl) rfl dM_times_17 ?_
          refine va_mabs_long hx hb (hml.trans hl.1.symm) hown (htx _ kw_6_216) (htx _ kw_3_43) (htx _ kw_1_15) (htx _ kw_3_44) (Nat.le_of_ble_eq_true rfl) (Nat.le_of_ble_eq_true rfl) (Nat.zero_le _) (Nat.zero_le _) dM_times_20 ?_
          refine W.eq (g2 := F0 m 23 ls [.long (if 0 < ((xpl st) (c0 - 1)) then ((xpl st) (c0 - 1)) else -((xpl st) (c0 - 1)))]) rfl ?_
          refine lv_lstore_n (lv' := [(3, .long (if 0 < ((xpl st) (c0 - 1)) then ((xpl st) (c0 - 1)) else -((xpl st) (c0 - 1)))), (0, .ref aM), (1, xv vad c0), (2, xv vad c1)]) hx hb dM_times_23 rfl hl (by decide) (by simp only [List.filter, xvcat, xrscat, xcI, xcL, xcR, xcN]; rfl) (fun ls hl => ?_)
          refine xm_aload_n hx hb (xvor _ _) dM_times_24 rfl (lv_at hl 3 rfl) ?_
          refine xm_vget (v := .long ((xpl st) (c1 - 1))) hx hb htx hown hK hP 1 (by decide) hg2 rfl ((hZ.1 (96, "n", "J") (List.mem_of_getElem? (i := 1) rfl)).use rfl) rfl dM_times_25 ?_
          refine va_mabs_long hx hb (hml.trans hl.1.symm) hown (htx _ kw_6_216) (htx _ kw_3_43) (htx _ kw_1_15) (htx _ kw_3_44) (Nat.le_of_ble_eq_true rfl) (Nat.le_of_ble_eq_true rfl) (Nat.zero_le _) (Nat.zero_le _) dM_times_28 ?_
          refine W.eq (g2 := F0 m 31 ls [.long (if 0 < ((xpl st) (c1 - 1)) then ((xpl st) (c1 - 1)) else -((xpl st) (c1 - 1)))]) rfl ?_
          refine lv_lstore (lv' := [(5, .long (if 0 < ((xpl st) (c1 - 1)) then ((xpl st) (c1 - 1)) else -((xpl st) (c1 - 1)))), (3, .long (if 0 < ((xpl st) (c0 - 1)) then ((xpl st) (c0 - 1)) else -((xpl st) (c0 - 1)))), (0, .ref aM), (1, xv vad c0), (2, xv vad c1)]) hx hb dM_times_31 hl (by decide) rfl (fun ls hl => ?_)
          refine lv_lload_n hx hb dM_times_33 rfl (lv_at hl 1 rfl) ?_
          refine lv_lconst (v := 0) hx hb dM_times_34 (by decide) ?_
          refine W.lcmp hx hb dM_times_35 ?_
          refine lv_if_eq (tgt := 56) hx hb dM_times_36 (by decide) (fun hc => ?_) (fun hc => ?_)
          · rw [if_pos hc] at hf
            refine lv_aload_n hx hb dM_times_56 rfl (lv_at hl 2 rfl) ?_
            refine xm_aload_n hx hb (xvor _ _) dM_times_57 rfl (lv_at hl 3 rfl) ?_
            refine xm_vget (v := .long ((xpl st) (c0 - 1))) hx hb htx hown hK hP 1 (by decide) hg1 rfl ((hZ.1 (96, "n", "J") (List.mem_of_getElem? (i := 1) rfl)).use rfl) rfl dM_times_58 ?_
            refine xm_aload_n hx hb (xvor _ _) dM_times_61 rfl (lv_at hl 4 rfl) ?_
            refine xm_vget (v := .long ((xpl st) (c1 - 1))) hx hb htx hown hK hP 1 (by decide) hg2 rfl ((hZ.1 (96, "n", "J") (List.mem_of_getElem? (i := 1) rfl)).use rfl) rfl dM_times_62 ?_
            refine lv_lmul hx hb dM_times_65 ?_
            obtain ⟨o3, hq4, hf⟩ := xbind hf
            have hl := lv_sub (l' := [(5, .long (if 0 < ((xpl st) (c1 - 1)) then ((xpl st) (c1 - 1)) else -((xpl st) (c1 - 1)))), (3, .long (if 0 < ((xpl st) (c0 - 1)) then ((xpl st) (c0 - 1)) else -((xpl st) (c0 - 1)))), (0, .ref aM)]) hl [0, 1, 2] rfl
            by_cases hk5 : o3.1 = 0
            · rw [if_pos hk5] at hf
              obtain ⟨hm6, hf⟩ := xmoE hf
              have hFc := xm_free hD hS hA
              refine va_callq (va_runV (C := "ValueBenchModel") (As := [.long (((xpl st) (c0 - 1)) * ((xpl st) (c1 - 1)))]) (rest := []) ⟨hx, hb, hml, hown, htx⟩ (gM_number l hl9 D cT aK aV s.heap.size n aM ad rd gd vad st (((xpl st) (c0 - 1)) * ((xpl st) (c1 - 1))) o3 hq4 hk5) ⟨callB_of 1 htx (xw_goodC kw_6_88) rfl rfl rfl (htx _ kw_1_5) (htx _ kw_6_85) ⟨by decide, by decide, by decide +kernel⟩ ⟨Nat.le_of_ble_eq_true rfl, Nat.le_of_ble_eq_true rfl⟩, (htx _ kw_6_87), (htx _ kp_M_number)⟩ ⟨xPre_blind, va_recv hK hP (ci := 5) rfl (q0 := 0) rfl, (fun U hU hW => ⟨rfl, xPre_of hZ hS hFc hP hD hK U hU hW⟩)⟩ rfl rfl hl.1 rfl (xm_room (Nat.le_of_ble_eq_true rfl)) dM_times_66 ⟨hm6.1, hm6.2⟩) hS (fun q _ h => hFc q h) hFc (fun r7 u9 t H1 locs ht hvm hr9 hB hz1 hk1 hS => ?_)
              obtain ⟨hP1, hK1, hD1⟩ := hB
              rw [ht] at hP1
              obtain ⟨ad8, gd9, vad10⟩ := u9
              obtain ⟨hr9, hv11, hn12⟩ := hr9
              have hP : va_P D xcl (xMw cT aM ad8 rd gd9 vad10 o3.2.2.2.2 []) H1 := hP1
              have hD : va_D A (xMw cT aM ad8 rd gd9 vad10 o3.2.2.2.2 []) := hD1.weaken (fun k q _ h => hFc q.1 h)
              generalize H1 = H at hP hS ⊢
              have hE9 : ∀ p, p < xct st → vad10 p = vad p := fun p h => (hv11 p (Nat.lt_of_lt_of_le h hN)).trans (hE p h)
              have hE := hE9
              have hN : xct st ≤ xct o3.2.2.2.2 := Nat.le_trans hN hn12
              rw [hr9]
              refine W.eq (g2 := F0 m 69 ls [xv vad10 o3.2.2.2.1]) (by first | rfl | (skip; rfl)) ?_
              obtain rfl := Option.some.inj hf
              exact absurd (show (0 : Nat) = 2 from hkd) (by decide)
            rw [if_neg hk5] at hf
            by_cases hk13 : o3.1 = 1
            · rw [if_pos hk13] at hf
              obtain ⟨hm14, hf⟩ := xmoE hf
              obtain rfl := Option.some.inj hf
              exact absurd (show (1 : Nat) = 2 from hkd) (by decide)
            rw [if_neg hk13] at hf
            exact nomatch hf
          · rw [if_neg hc] at hf
            refine lv_lload hx hb dM_times_39 (lv_at hl 0 rfl) ?_
            refine lv_ldc2 hx hb hown (htx _ kw_6_84) dM_times_41 ?_
            refine lv_lload_n hx hb dM_times_44 rfl (lv_at hl 1 rfl) ?_
            obtain ⟨hg3, hf⟩ := xifn hf
            refine lv_ldiv hx hb dM_times_45 hg3 ?_
            refine W.lcmp hx hb dM_times_46 ?_
            refine lv_if_le (tgt := 56) hx hb dM_times_47 (by decide) (fun hc => ?_) (fun hc => ?_)
            · rw [if_pos hc] at hf
              refine lv_aload_n hx hb dM_times_56 rfl (lv_at hl 2 rfl) ?_
              refine xm_aload_n hx hb (xvor _ _) dM_times_57 rfl (lv_at hl 3 rfl) ?_
              refine xm_vget (v := .long ((xpl st) (c0 - 1))) hx hb htx hown hK hP 1 (by decide) hg1 rfl ((hZ.1 (96, "n", "J") (List.mem_of_getElem? (i := 1) rfl)).use rfl) rfl dM_times_58 ?_
              refine xm_aload_n hx hb (xvor _ _) dM_times_61 rfl (lv_at hl 4 rfl) ?_
              refine xm_vget (v := .long ((xpl st) (c1 - 1))) hx hb htx hown hK hP 1 (by decide) hg2 rfl ((hZ.1 (96, "n", "J") (List.mem_of_getElem? (i := 1) rfl)).use rfl) rfl dM_times_62 ?_
              refine lv_lmul hx hb dM_times_65 ?_
              obtain ⟨o4, hq5, hf⟩ := xbind hf
              have hl := lv_sub (l' := [(5, .long (if 0 < ((xpl st) (c1 - 1)) then ((xpl st) (c1 - 1)) else -((xpl st) (c1 - 1)))), (3, .long (if 0 < ((xpl st) (c0 - 1)) then ((xpl st) (c0 - 1)) else -((xpl st) (c0 - 1)))), (0, .ref aM)]) hl [0, 1, 2] rfl
              by_cases hk6 : o4.1 = 0
              · rw [if_pos hk6] at hf
                obtain ⟨hm7, hf⟩ := xmoE hf
                have hFc := xm_free hD hS hA
                refine va_callq (va_runV (C := "ValueBenchModel") (As := [.long (((xpl st) (c0 - 1)) * ((xpl st) (c1 - 1)))]) (rest := []) ⟨hx, hb, hml, hown, htx⟩ (gM_number l hl9 D cT aK aV s.heap.size n aM ad rd gd vad st (((xpl st) (c0 - 1)) * ((xpl st) (c1 - 1))) o4 hq5 hk6) ⟨callB_of 1 htx (xw_goodC kw_6_88) rfl rfl rfl (htx _ kw_1_5) (htx _ kw_6_85) ⟨by decide, by decide, by decide +kernel⟩ ⟨Nat.le_of_ble_eq_true rfl, Nat.le_of_ble_eq_true rfl⟩, (htx _ kw_6_87), (htx _ kp_M_number)⟩ ⟨xPre_blind, va_recv hK hP (ci := 5) rfl (q0 := 0) rfl, (fun U hU hW => ⟨rfl, xPre_of hZ hS hFc hP hD hK U hU hW⟩)⟩ rfl rfl hl.1 rfl (xm_room (Nat.le_of_ble_eq_true rfl)) dM_times_66 ⟨hm7.1, hm7.2⟩) hS (fun q _ h => hFc q h) hFc (fun r8 u9 t H1 locs ht hvm hr9 hB hz1 hk1 hS => ?_)
                obtain ⟨hP1, hK1, hD1⟩ := hB
                rw [ht] at hP1
                obtain ⟨ad9, gd10, vad11⟩ := u9
                obtain ⟨hr9, hv12, hn13⟩ := hr9
                have hP : va_P D xcl (xMw cT aM ad9 rd gd10 vad11 o4.2.2.2.2 []) H1 := hP1
                have hD : va_D A (xMw cT aM ad9 rd gd10 vad11 o4.2.2.2.2 []) := hD1.weaken (fun k q _ h => hFc q.1 h)
                generalize H1 = H at hP hS ⊢
                have hE9 : ∀ p, p < xct st → vad11 p = vad p := fun p h => (hv12 p (Nat.lt_of_lt_of_le h hN)).trans (hE p h)
                have hE := hE9
                have hN : xct st ≤ xct o4.2.2.2.2 := Nat.le_trans hN hn13
                rw [hr9]
                refine W.eq (g2 := F0 m 69 ls [xv vad11 o4.2.2.2.1]) (by first | rfl | (skip; rfl)) ?_
                obtain rfl := Option.some.inj hf
                exact absurd (show (0 : Nat) = 2 from hkd) (by decide)
              rw [if_neg hk6] at hf
              by_cases hk14 : o4.1 = 1
              · rw [if_pos hk14] at hf
                obtain ⟨hm15, hf⟩ := xmoE hf
                obtain rfl := Option.some.inj hf
                exact absurd (show (1 : Nat) = 2 from hkd) (by decide)
              rw [if_neg hk14] at hf
              exact nomatch hf
            · rw [if_neg hc] at hf
              refine lv_aload_n hx hb dM_times_50 rfl (lv_at hl 2 rfl) ?_
              refine lv_iconst (v := 2) hx hb dM_times_51 (by decide) ?_
              obtain ⟨o4, hq5, hf⟩ := xbind hf
              have hl := lv_sub (l' := [(5, .long (if 0 < ((xpl st) (c1 - 1)) then ((xpl st) (c1 - 1)) else -((xpl st) (c1 - 1)))), (3, .long (if 0 < ((xpl st) (c0 - 1)) then ((xpl st) (c0 - 1)) else -((xpl st) (c0 - 1)))), (0, .ref aM)]) hl [0, 1, 2] rfl
              by_cases hk6 : o4.1 = 1
              · rw [if_pos hk6] at hf
                obtain ⟨hm7, hf⟩ := xmoE hf
                obtain rfl := Option.some.inj hf
                exact absurd (show (1 : Nat) = 2 from hkd) (by decide)
              rw [if_neg hk6] at hf
              exact nomatch hf
