set_option maxHeartbeats 400000000 in
set_option maxRecDepth 100000 in
theorem gM_json (l : Launch) (hl9 : l.stackTraces = false) (D : va_G) (cT : Nat → ClassId) (aK aV : Nat → Nat) (sz d n : Nat) (aM : Nat) (ad rd gd vad : Nat → Nat) (st : xS) (c0 : Nat) (x1 : Int32) (x2 : Int32) (out : Nat × Nat × Nat × Nat × xS) (hf : fM_json d n st c0 x1 x2 = some out) (hkd : out.1 = 0) : xMet l yM_json wyM_json (16 * d + 7) out.2.1 out.2.2.1 (400 * d + 121) D cT aK aV sz [.ref aM, xrs ad rd gd c0, .int x1, .int x2] (xMw cT aM ad rd gd vad st []) (fun A => va_Qq (fun (r : Option Nat) (u : xU) => r = xca u.2.2 out.2.2.2.1 ∧ xE vad st out.2.2.2.2 u) (fun u t => xB D xcl cT A (xMw cT aM u.1 rd u.2.1 u.2.2 out.2.2.2.2 []) t) A) := by
  refine Met.ofW (cc := prog_13_method_32_code) (maxL := 5) (ret := (some (.object "ValueBenchModel$V"))) (by decide) rfl ?_
  intro p e s m args below meth c s₁ B hml hv
  obtain ⟨rfl, hsz, hZ, hP, hK, hD0⟩ := hv
  have hx := B.exec
  have hb := B.bytes
  have hr := B.returns
  have hts := atoms_spec (ws := wyM_json) B.pre
  have htx := fun w h => hts w (List.mem_cons_of_mem _ h)
  have hown : s.vm.findClass "ValueBenchModel" = some m.cls := findClass_of_methodNamed B.named
  have hlocks := B.notSynchronized
  subst hsz
  have hD := hD0.self (sz := s.heap.size)
  generalize hAe : va_A (xMw cT aM ad rd gd vad st []) s.heap.size = A at hD hZ ⊢
  have hA : ∀ q : Nat, s.heap.size ≤ q → A q := fun q h => by rw [← hAe]; exact Or.inr h
  have hS : va_S A s.heap s.heap [] := va_S.rf
  have hl := lv_entry ([.ref aM, xrs ad rd gd c0, .int x1, .int x2]) (n := 5) (by simp [lg_sl, xvcat, xrscat, xcI, xcL, xcR, xcN])
  rw [show lv_args 0 [.ref aM, xrs ad rd gd c0, .int x1, .int x2] = [(0, .ref aM), (1, xrs ad rd gd c0), (2, .int x1), (3, .int x2)] from by simp [lv_args, xvcat, xrscat, xcI, xcL, xcR, xcN]] at hl
  rw [lg_entry_eq]
  generalize (lg_sl ([.ref aM, xrs ad rd gd c0, .int x1, .int x2]) ++ List.replicate (5 - (lg_sl ([.ref aM, xrs ad rd gd c0, .int x1, .int x2])).length) Slot.unset).toArray = ls at hl ⊢
  have hl : lv_has ls 5 [(0, .ref aM), (1, xrs ad rd gd c0), (2, .int x1), (3, .int x2)] := hl
  have hE : ∀ p, p < xct st → vad p = vad p := fun _ _ => rfl
  have hN : xct st ≤ xct st := Nat.le_refl _
  unfold fM_json at hf
  refine lv_aload_n hx hb dM_json_0 rfl (lv_at hl 0 rfl) ?_
  refine xm_aload_n hx hb (xrsor _ _ _ _) dM_json_1 rfl (lv_at hl 1 rfl) ?_
  refine xm_put (v := xrs ad rd gd c0) (W' := (xMw cT aM ad rd gd vad (xsX st c0) [])) (ty := (.array .byte)) hx hb htx hown hK hP hD hS 15 (by decide) rfl (htx _ kw_5_102) rfl rfl (by decide +kernel) (xnar (xrsor _ _ _ _)) (xfit (xrsor _ _ _ _)) dM_json_2 (fun H locs hP hD hS => ?_)
  refine lv_aload_n hx hb dM_json_5 rfl (lv_at hl 0 rfl) ?_
  refine lv_iload_n hx hb dM_json_6 rfl (lv_at hl 2 rfl) ?_
  refine xm_put (v := .int x1) (W' := (xMw cT aM ad rd gd vad (xsI (xsX st c0) 16 x1) [])) (ty := .int) hx hb htx hown hK hP hD hS 16 (by decide) rfl (htx _ kw_5_103) rfl rfl (by decide +kernel) rfl rfl dM_json_7 (fun H locs hP hD hS => ?_)
  refine lv_aload_n hx hb dM_json_10 rfl (lv_at hl 0 rfl) ?_
  refine lv_iload_n hx hb dM_json_11 rfl (lv_at hl 3 rfl) ?_
  refine xm_put (v := .int x2) (W' := (xMw cT aM ad rd gd vad (xsI (xsI (xsX st c0) 16 x1) 17 x2) [])) (ty := .int) hx hb htx hown hK hP hD hS 17 (by decide) rfl (htx _ kw_5_104) rfl rfl (by decide +kernel) rfl rfl dM_json_12 (fun H locs hP hD hS => ?_)
  refine lv_aload_n hx hb dM_json_15 rfl (lv_at hl 0 rfl) ?_
  refine lv_iconst (v := 0) hx hb dM_json_16 (by decide) ?_
  refine xm_put (v := .int 0) (W' := (xMw cT aM ad rd gd vad (xsI (xsI (xsI (xsX st c0) 16 x1) 17 x2) 18 0) [])) (ty := .int) hx hb htx hown hK hP hD hS 18 (by decide) rfl (htx _ kw_5_105) rfl rfl (by decide +kernel) rfl rfl dM_json_17 (fun H locs hP hD hS => ?_)
  refine lv_aload_n hx hb dM_json_20 rfl (lv_at hl 0 rfl) ?_
  obtain ⟨o1, hq2, hf⟩ := xbind hf
  have hl := lv_sub (l' := [(0, .ref aM), (2, .int x1), (3, .int x2)]) hl [0, 2, 3] rfl
  by_cases hk3 : o1.1 = 0
  · rw [if_pos hk3] at hf
    obtain ⟨hm4, hf⟩ := xmoE hf
    have hFc := xm_free hD hS hA
    refine va_callq (va_runV (C := "ValueBenchModel") (As := []) (rest := []) ⟨hx, hb, hml, hown, htx⟩ ((gM_value l hl9 D cT aK aV d H.size n aM ad rd gd vad (xsI (xsI (xsI (xsX st c0) 16 x1) 17 x2) 18 0) o1 hq2).1 hk3) ⟨callB_of 0 htx (xw_goodC kw_5_225) rfl rfl rfl (htx _ kw_1_5) (htx _ kw_5_222) ⟨by decide, by decide, by decide +kernel⟩ ⟨(by show (16 * d) + 1 ≤ 16 * d + 7; omega), (by show 8 + (3 + 11) + (400 * d) ≤ 400 * d + 121; omega)⟩, (htx _ kw_5_224), (htx _ kp_M_value)⟩ ⟨xPre_blind, va_recv hK hP (ci := 5) rfl (q0 := 0) rfl, (fun U hU hW => ⟨rfl, xPre_of hZ hS hFc hP hD hK U hU hW⟩)⟩ rfl rfl hl.1 rfl (xm_room (Nat.le_of_ble_eq_true rfl)) dM_json_21 ⟨hm4.1, hm4.2⟩) hS (fun q _ h => hFc q h) hFc (fun r5 u9 t H1 locs ht hvm hr9 hB hz1 hk1 hS => ?_)
    obtain ⟨hP1, hK1, hD1⟩ := hB
    rw [ht] at hP1
    obtain ⟨ad6, gd7, vad8⟩ := u9
    obtain ⟨hr9, hv9, hn10⟩ := hr9
    have hP : va_P D xcl (xMw cT aM ad6 rd gd7 vad8 o1.2.2.2.2 []) H1 := hP1
    have hD : va_D A (xMw cT aM ad6 rd gd7 vad8 o1.2.2.2.2 []) := hD1.weaken (fun k q _ h => hFc q.1 h)
    generalize H1 = H at hP hS ⊢
    have hE9 : ∀ p, p < xct st → vad8 p = vad p := fun p h => (hv9 p (Nat.lt_of_lt_of_le h hN)).trans (hE p h)
    have hE := hE9
    have hN : xct st ≤ xct o1.2.2.2.2 := Nat.le_trans hN hn10
    rw [hr9]
    refine W.eq (g2 := F0 m 24 ls [xv vad8 o1.2.2.2.1]) (by first | rfl | (skip; rfl)) ?_
    refine xm_astore (lv' := [(4, xv vad8 o1.2.2.2.1), (0, .ref aM), (2, .int x1), (3, .int x2)]) hx hb (xvor _ _) dM_json_24 hl (by decide) rfl (fun ls hl => ?_)
    refine lv_aload_n hx hb dM_json_26 rfl (lv_at hl 1 rfl) ?_
    obtain ⟨o11, hq12, hf⟩ := xbind hf
    have hFc := xm_free hD hS hA
    refine va_callv (va_runV (C := "ValueBenchModel") (As := []) (rest := []) ⟨hx, hb, hml, hown, htx⟩ (gM_blanks l hl9 D cT aK aV H.size n aM ad6 rd gd7 vad8 o1.2.2.2.2 o11 hq12) ⟨callB_of 0 htx (xw_goodC kw_5_229) rfl rfl rfl (htx _ kw_1_5) (htx _ kw_5_226) ⟨by decide, by decide, by decide +kernel⟩ ⟨Nat.le_of_ble_eq_true rfl, Nat.le_of_ble_eq_true rfl⟩, (htx _ kw_5_228), (htx _ kp_M_blanks)⟩ ⟨xPre_blind, va_recv hK hP (ci := 5) rfl (q0 := 0) rfl, (fun U hU hW => ⟨rfl, xPre_of hZ hS hFc hP hD hK U hU hW⟩)⟩ rfl rfl hl.1 rfl (xm_room (Nat.le_of_ble_eq_true rfl)) dM_json_27 ⟨hm4.1, hm4.2⟩) hS (fun q _ h => hFc q h) hFc (fun u9 t H1 locs ht hvm hr9 hB hz1 hk1 hS => ?_)
    obtain ⟨hP1, hK1, hD1⟩ := hB
    rw [ht] at hP1
    have hn14 := hr9
    have hN : xct st ≤ xct o11 := Nat.le_trans hN hn14
    have hP : va_P D xcl (xMw cT aM ad6 rd gd7 vad8 o11 []) H1 := hP1
    have hD : va_D A (xMw cT aM ad6 rd gd7 vad8 o11 []) := hD1.weaken (fun k q _ h => hFc q.1 h)
    generalize H1 = H at hP hS ⊢
    refine W.eq (g2 := F0 m 30 ls []) (by first | rfl | (skip; rfl)) ?_
    refine lv_aload_n hx hb dM_json_30 rfl (lv_at hl 1 rfl) ?_
    refine xm_get (v := .int (xsi o11 16)) hx hb htx hown hK hP 16 (by decide) rfl (htx _ kw_5_103) rfl dM_json_31 ?_
    refine lv_aload_n hx hb dM_json_34 rfl (lv_at hl 1 rfl) ?_
    refine xm_get (v := .int (xsi o11 17)) hx hb htx hown hK hP 17 (by decide) rfl (htx _ kw_5_104) rfl dM_json_35 ?_
    refine lv_icmp_ge (tgt := 49) hx hb dM_json_38 (by decide) (fun hc => ?_) (fun hc => ?_)
    · rw [if_pos hc] at hf
      refine xm_aload hx hb (xvor _ _) dM_json_49 (lv_at hl 0 rfl) ?_
      obtain rfl := Option.some.inj hf
      exact W.aret (v := xv vad8 o1.2.2.2.1) hx hb hr (Or.inl ⟨_, rfl⟩) (xvor _ _) (fun t ht hW => ⟨⟨xca vad8 o1.2.2.2.1, (ad6, gd7, vad8), rfl, ⟨rfl, hE, hN⟩, by rw [ht]; exact hP, va_K.moved hW.alike hK, hD⟩, hS.F ht⟩) hS.2.2 dM_json_51
    · rw [if_neg hc] at hf
      refine lv_aload_n hx hb dM_json_41 rfl (lv_at hl 1 rfl) ?_
      refine lv_aload_n hx hb dM_json_42 rfl (lv_at hl 1 rfl) ?_
      refine xm_get (v := .int (xsi o11 16)) hx hb htx hown hK hP 16 (by decide) rfl (htx _ kw_5_103) rfl dM_json_43 ?_
      obtain ⟨o15, hq16, hf⟩ := xbind hf
      by_cases hk17 : o15.1 = 1
      · rw [if_pos hk17] at hf
        obtain ⟨hg18, hf⟩ := xifn hf
        obtain ⟨hm19, hf⟩ := xmoE hf
        obtain rfl := Option.some.inj hf
        exact absurd (show (1 : Nat) = 0 from hkd) (by decide)
      rw [if_neg hk17] at hf
      exact nomatch hf
  rw [if_neg hk3] at hf
  by_cases hk15 : o1.1 = 1
  · rw [if_pos hk15] at hf
    obtain ⟨hm16, hf⟩ := xmoE hf
    obtain rfl := Option.some.inj hf
    exact absurd (show (1 : Nat) = 0 from hkd) (by decide)
  rw [if_neg hk15] at hf
  by_cases hk23 : o1.1 = 2
  · rw [if_pos hk23] at hf
    obtain ⟨hm24, hf⟩ := xmoE hf
    obtain rfl := Option.some.inj hf
    exact absurd (show (2 : Nat) = 0 from hkd) (by decide)
  rw [if_neg hk23] at hf
  by_cases hk31 : o1.1 = 3
  · rw [if_pos hk31] at hf
    obtain ⟨hm32, hf⟩ := xmoE hf
    obtain rfl := Option.some.inj hf
    exact absurd (show (3 : Nat) = 0 from hkd) (by decide)
  rw [if_neg hk31] at hf
  exact nomatch hf
set_option maxHeartbeats 400000000 in
set_option maxRecDepth 100000 in
theorem gM_json_1 (l : Launch) (hl9 : l.stackTraces = false) (D : va_G) (cT : Nat → ClassId) (aK aV : Nat → Nat) (sz d n : Nat) (aM : Nat) (ad rd gd vad : Nat → Nat) (st : xS) (c0 : Nat) (x1 : Int32) (x2 : Int32) (out : Nat × Nat × Nat × Nat × xS) (hf : fM_json d n st c0 x1 x2 = some out) (hkd : out.1 = 1) : xMetY l yM_json wyM_json (16 * d + 7) out.2.1 out.2.2.1 (400 * d + 121) D cT aK aV sz [.ref aM, xrs ad rd gd c0, .int x1, .int x2] (xMw cT aM ad rd gd vad st []) "java/lang/UnsupportedOperationException" (fun u => xE vad st out.2.2.2.2 u) (fun A u t => xB D xcl cT A (xMw cT aM u.1 rd u.2.1 u.2.2 out.2.2.2.2 []) t) := by
  refine vx_ofW (cc := prog_13_method_32_code) (maxL := 5) (ret := (some (.object "ValueBenchModel$V"))) (by decide) rfl ?_
  intro p e s m args below meth c s₁ B hml hne hv
  obtain ⟨rfl, hsz, hZ, hP, hK, hD0⟩ := hv
  have hx := B.exec
  have hb := B.bytes
  have hr := B.returns
  have hts := atoms_spec (ws := wyM_json) B.pre
  have htx := fun w h => hts w (List.mem_cons_of_mem _ h)
  have hown : s.vm.findClass "ValueBenchModel" = some m.cls := findClass_of_methodNamed B.named
  have hlocks := B.notSynchronized
  subst hsz
  have hD := hD0.self (sz := s.heap.size)
  generalize hAe : va_A (xMw cT aM ad rd gd vad st []) s.heap.size = A at hD hZ ⊢
  have hA : ∀ q : Nat, s.heap.size ≤ q → A q := fun q h => by rw [← hAe]; exact Or.inr h
  have hS : va_S A s.heap s.heap [] := va_S.rf
  have hl := lv_entry ([.ref aM, xrs ad rd gd c0, .int x1, .int x2]) (n := 5) (by simp [lg_sl, xvcat, xrscat, xcI, xcL, xcR, xcN])
  rw [show lv_args 0 [.ref aM, xrs ad rd gd c0, .int x1, .int x2] = [(0, .ref aM), (1, xrs ad rd gd c0), (2, .int x1), (3, .int x2)] from by simp [lv_args, xvcat, xrscat, xcI, xcL, xcR, xcN]] at hl
  rw [lg_entry_eq]
  generalize (lg_sl ([.ref aM, xrs ad rd gd c0, .int x1, .int x2]) ++ List.replicate (5 - (lg_sl ([.ref aM, xrs ad rd gd c0, .int x1, .int x2])).length) Slot.unset).toArray = ls at hl ⊢
  have hl : lv_has ls 5 [(0, .ref aM), (1, xrs ad rd gd c0), (2, .int x1), (3, .int x2)] := hl
  have hE : ∀ p, p < xct st → vad p = vad p := fun _ _ => rfl
  have hN : xct st ≤ xct st := Nat.le_refl _
  unfold fM_json at hf
  refine lv_aload_n hx hb dM_json_0 rfl (lv_at hl 0 rfl) ?_
  refine xm_aload_n hx hb (xrsor _ _ _ _) dM_json_1 rfl (lv_at hl 1 rfl) ?_
  refine xm_put (v := xrs ad rd gd c0) (W' := (xMw cT aM ad rd gd vad (xsX st c0) [])) (ty := (.array .byte)) hx hb htx hown hK hP hD hS 15 (by decide) rfl (htx _ kw_5_102) rfl rfl (by decide +kernel) (xnar (xrsor _ _ _ _)) (xfit (xrsor _ _ _ _)) dM_json_2 (fun H locs hP hD hS => ?_)
  refine lv_aload_n hx hb dM_json_5 rfl (lv_at hl 0 rfl) ?_
  refine lv_iload_n hx hb dM_json_6 rfl (lv_at hl 2 rfl) ?_
  refine xm_put (v := .int x1) (W' := (xMw cT aM ad rd gd vad (xsI (xsX st c0) 16 x1) [])) (ty := .int) hx hb htx hown hK hP hD hS 16 (by decide) rfl (htx _ kw_5_103) rfl rfl (by decide +kernel) rfl rfl dM_json_7 (fun H locs hP hD hS => ?_)
  refine lv_aload_n hx hb dM_json_10 rfl (lv_at hl 0 rfl) ?_
  refine lv_iload_n hx hb dM_json_11 rfl (lv_at hl 3 rfl) ?_
  refine xm_put (v := .int x2) (W' := (xMw cT aM ad rd gd vad (xsI (xsI (xsX st c0) 16 x1) 17 x2) [])) (ty := .int) hx hb htx hown hK hP hD hS 17 (by decide) rfl (htx _ kw_5_104) rfl rfl (by decide +kernel) rfl rfl dM_json_12 (fun H locs hP hD hS => ?_)
  refine lv_aload_n hx hb dM_json_15 rfl (lv_at hl 0 rfl) ?_
  refine lv_iconst (v := 0) hx hb dM_json_16 (by decide) ?_
  refine xm_put (v := .int 0) (W' := (xMw cT aM ad rd gd vad (xsI (xsI (xsI (xsX st c0) 16 x1) 17 x2) 18 0) [])) (ty := .int) hx hb htx hown hK hP hD hS 18 (by decide) rfl (htx _ kw_5_105) rfl rfl (by decide +kernel) rfl rfl dM_json_17 (fun H locs hP hD hS => ?_)
  refine lv_aload_n hx hb dM_json_20 rfl (lv_at hl 0 rfl) ?_
  obtain ⟨o1, hq2, hf⟩ := xbind hf
  have hl := lv_sub (l' := [(0, .ref aM), (2, .int x1), (3, .int x2)]) hl [0, 2, 3] rfl
  by_cases hk3 : o1.1 = 0
  · rw [if_pos hk3] at hf
    obtain ⟨hm4, hf⟩ := xmoE hf
    have hFc := xm_free hD hS hA
    refine va_callq (va_runV (C := "ValueBenchModel") (As := []) (rest := []) ⟨hx, hb, hml, hown, htx⟩ ((gM_value l hl9 D cT aK aV d H.size n aM ad rd gd vad (xsI (xsI (xsI (xsX st c0) 16 x1) 17 x2) 18 0) o1 hq2).1 hk3) ⟨callB_of 0 htx (xw_goodC kw_5_225) rfl rfl rfl (htx _ kw_1_5) (htx _ kw_5_222) ⟨by decide, by decide, by decide +kernel⟩ ⟨(by show (16 * d) + 1 ≤ 16 * d + 7; omega), (by show 8 + (3 + 11) + (400 * d) ≤ 400 * d + 121; omega)⟩, (htx _ kw_5_224), (htx _ kp_M_value)⟩ ⟨xPre_blind, va_recv hK hP (ci := 5) rfl (q0 := 0) rfl, (fun U hU hW => ⟨rfl, xPre_of hZ hS hFc hP hD hK U hU hW⟩)⟩ rfl rfl hl.1 rfl (xm_room (Nat.le_of_ble_eq_true rfl)) dM_json_21 ⟨hm4.1, hm4.2⟩) hS (fun q _ h => hFc q h) hFc (fun r5 u9 t H1 locs ht hvm hr9 hB hz1 hk1 hS => ?_)
    obtain ⟨hP1, hK1, hD1⟩ := hB
    rw [ht] at hP1
    obtain ⟨ad6, gd7, vad8⟩ := u9
    obtain ⟨hr9, hv9, hn10⟩ := hr9
    have hP : va_P D xcl (xMw cT aM ad6 rd gd7 vad8 o1.2.2.2.2 []) H1 := hP1
    have hD : va_D A (xMw cT aM ad6 rd gd7 vad8 o1.2.2.2.2 []) := hD1.weaken (fun k q _ h => hFc q.1 h)
    generalize H1 = H at hP hS ⊢
    have hE9 : ∀ p, p < xct st → vad8 p = vad p := fun p h => (hv9 p (Nat.lt_of_lt_of_le h hN)).trans (hE p h)
    have hE := hE9
    have hN : xct st ≤ xct o1.2.2.2.2 := Nat.le_trans hN hn10
    rw [hr9]
    refine W.eq (g2 := F0 m 24 ls [xv vad8 o1.2.2.2.1]) (by first | rfl | (skip; rfl)) ?_
    refine xm_astore (lv' := [(4, xv vad8 o1.2.2.2.1), (0, .ref aM), (2, .int x1), (3, .int x2)]) hx hb (xvor _ _) dM_json_24 hl (by decide) rfl (fun ls hl => ?_)
    refine lv_aload_n hx hb dM_json_26 rfl (lv_at hl 1 rfl) ?_
    obtain ⟨o11, hq12, hf⟩ := xbind hf
    have hFc := xm_free hD hS hA
    refine va_callv (va_runV (C := "ValueBenchModel") (As := []) (rest := []) ⟨hx, hb, hml, hown, htx⟩ (gM_blanks l hl9 D cT aK aV H.size n aM ad6 rd gd7 vad8 o1.2.2.2.2 o11 hq12) ⟨callB_of 0 htx (xw_goodC kw_5_229) rfl rfl rfl (htx _ kw_1_5) (htx _ kw_5_226) ⟨by decide, by decide, by decide +kernel⟩ ⟨Nat.le_of_ble_eq_true rfl, Nat.le_of_ble_eq_true rfl⟩, (htx _ kw_5_228), (htx _ kp_M_blanks)⟩ ⟨xPre_blind, va_recv hK hP (ci := 5) rfl (q0 := 0) rfl, (fun U hU hW => ⟨rfl, xPre_of hZ hS hFc hP hD hK U hU hW⟩)⟩ rfl rfl hl.1 rfl (xm_room (Nat.le_of_ble_eq_true rfl)) dM_json_27 ⟨hm4.1, hm4.2⟩) hS (fun q _ h => hFc q h) hFc (fun u9 t H1 locs ht hvm hr9 hB hz1 hk1 hS => ?_)
    obtain ⟨hP1, hK1, hD1⟩ := hB
    rw [ht] at hP1
    have hn14 := hr9
    have hN : xct st ≤ xct o11 := Nat.le_trans hN hn14
    have hP : va_P D xcl (xMw cT aM ad6 rd gd7 vad8 o11 []) H1 := hP1
    have hD : va_D A (xMw cT aM ad6 rd gd7 vad8 o11 []) := hD1.weaken (fun k q _ h => hFc q.1 h)
    generalize H1 = H at hP hS ⊢
    refine W.eq (g2 := F0 m 30 ls []) (by first | rfl | (skip; rfl)) ?_
    refine lv_aload_n hx hb dM_json_30 rfl (lv_at hl 1 rfl) ?_
    refine xm_get (v := .int (xsi o11 16)) hx hb htx hown hK hP 16 (by decide) rfl (htx _ kw_5_103) rfl dM_json_31 ?_
    refine lv_aload_n hx hb dM_json_34 rfl (lv_at hl 1 rfl) ?_
    refine xm_get (v := .int (xsi o11 17)) hx hb htx hown hK hP 17 (by decide) rfl (htx _ kw_5_104) rfl dM_json_35 ?_
    refine lv_icmp_ge (tgt := 49) hx hb dM_json_38 (by decide) (fun hc => ?_) (fun hc => ?_)
    · rw [if_pos hc] at hf
      refine xm_aload hx hb (xvor _ _) dM_json_49 (lv_at hl 0 rfl) ?_
      obtain rfl := Option.some.inj hf
      exact absurd (show (0 : Nat) = 1 from hkd) (by decide)
    · rw [if_neg hc] at hf
      refine lv_aload_n hx hb dM_json_41 rfl (lv_at hl 1 rfl) ?_
      refine lv_aload_n hx hb dM_json_42 rfl (lv_at hl 1 rfl) ?_
      refine xm_get (v := .int (xsi o11 16)) hx hb htx hown hK hP 16 (by decide) rfl (htx _ kw_5_103) rfl dM_json_43 ?_
      obtain ⟨o15, hq16, hf⟩ := xbind hf
      by_cases hk17 : o15.1 = 1
      · rw [if_pos hk17] at hf
        obtain ⟨hg18, hf⟩ := xifn hf
        obtain ⟨hm19, hf⟩ := xmoE hf
        have hFc := xm_free hD hS hA
        refine xx_thr (vx_runV (C := "ValueBenchModel") (As := [.int (xsi o11 16)]) (rest := []) ⟨hx, hb, hml, hown, htx⟩ (gM_bad_1 l hl9 D cT aK aV H.size n aM ad6 rd gd7 vad8 o11 (xsi o11 16) o15 hq16 hk17) ⟨callB_of 1 htx (xw_goodC kw_6_2) rfl rfl rfl (htx _ kw_1_5) (htx _ kw_5_239) ⟨by decide, by decide, by decide +kernel⟩ ⟨Nat.le_of_ble_eq_true rfl, Nat.le_of_ble_eq_true rfl⟩, (htx _ kw_6_1), (htx _ kp_M_bad)⟩ ⟨xPre_blind, va_recv hK hP (ci := 5) rfl (q0 := 0) rfl, (fun U hU hW => ⟨rfl, xPre_of hZ hS hFc hP hD hK U hU hW⟩)⟩ rfl rfl hl.1 rfl (xm_room (Nat.le_of_ble_eq_true rfl)) dM_json_46 ⟨hm19.1, hm19.2⟩) hS hFc (fun q _ h => hFc q h) (fun E ce q9 u9 t H1 locs ht hvm hr9 hB hz1 hk1 hS hce hcv hcl => ?_)
        obtain ⟨rfl, hP1, hK1, hD1⟩ := hB
        rw [ht] at hP1
        obtain ⟨ad21, gd22, vad23⟩ := u9
        obtain ⟨hv24, hn25⟩ := hr9
        have hP : va_P D xcl (xMw cT aM ad21 rd gd22 vad23 o15.2.2.2 []) H1 := hP1
        have hD : va_D A (xMw cT aM ad21 rd gd22 vad23 o15.2.2.2 []) := hD1.weaken (fun k q _ h => hFc q.1 h)
        generalize H1 = H at hP hS hce ⊢
        have hE9 : ∀ p, p < xct st → vad23 p = vad p := fun p h => (hv24 p (Nat.lt_of_lt_of_le h hN)).trans (hE p h)
        have hE := hE9
        have hN : xct st ≤ xct o15.2.2.2 := Nat.le_trans hN hn25
        have ev26 : xv vad8 o1.2.2.2.1 = xv vad23 o1.2.2.2.1 := xvE hv24 hg18
        have hl : lv_has ls 5 [(4, xv vad23 o1.2.2.2.1), (0, .ref aM), (2, .int x1), (3, .int x2)] := by first | exact hl | ((try (rw [← ev26])); exact hl)
        obtain rfl := Option.some.inj hf
        exact vx_out (E := "java/lang/UnsupportedOperationException") (fun x h => (hne x h).elim) hlocks hce hcv hcl (fun t ht ha => ⟨(ad21, gd22, vad23), ⟨hE, hN⟩, ⟨rfl, by rw [ht]; exact hP, va_K.moved ha hK, hD⟩, hS.F ht⟩) hS.2.2 (Nat.le_refl _) (Nat.le_refl _)
      rw [if_neg hk17] at hf
      exact nomatch hf
  rw [if_neg hk3] at hf
  by_cases hk15 : o1.1 = 1
  · rw [if_pos hk15] at hf
    obtain ⟨hm16, hf⟩ := xmoE hf
    have hFc := xm_free hD hS hA
    refine xx_thr (vx_runV (C := "ValueBenchModel") (As := []) (rest := []) ⟨hx, hb, hml, hown, htx⟩ ((gM_value l hl9 D cT aK aV d H.size n aM ad rd gd vad (xsI (xsI (xsI (xsX st c0) 16 x1) 17 x2) 18 0) o1 hq2).2.1 hk15) ⟨callB_of 0 htx (xw_goodC kw_5_225) rfl rfl rfl (htx _ kw_1_5) (htx _ kw_5_222) ⟨by decide, by decide, by decide +kernel⟩ ⟨(by show (16 * d) + 1 ≤ 16 * d + 7; omega), (by show 8 + (3 + 11) + (400 * d) ≤ 400 * d + 121; omega)⟩, (htx _ kw_5_224), (htx _ kp_M_value)⟩ ⟨xPre_blind, va_recv hK hP (ci := 5) rfl (q0 := 0) rfl, (fun U hU hW => ⟨rfl, xPre_of hZ hS hFc hP hD hK U hU hW⟩)⟩ rfl rfl hl.1 rfl (xm_room (Nat.le_of_ble_eq_true rfl)) dM_json_21 ⟨hm16.1, hm16.2⟩) hS hFc (fun q _ h => hFc q h) (fun E ce q9 u9 t H1 locs ht hvm hr9 hB hz1 hk1 hS hce hcv hcl => ?_)
    obtain ⟨rfl, hP1, hK1, hD1⟩ := hB
    rw [ht] at hP1
    obtain ⟨ad18, gd19, vad20⟩ := u9
    obtain ⟨hv21, hn22⟩ := hr9
    have hP : va_P D xcl (xMw cT aM ad18 rd gd19 vad20 o1.2.2.2.2 []) H1 := hP1
    have hD : va_D A (xMw cT aM ad18 rd gd19 vad20 o1.2.2.2.2 []) := hD1.weaken (fun k q _ h => hFc q.1 h)
    generalize H1 = H at hP hS hce ⊢
    have hE9 : ∀ p, p < xct st → vad20 p = vad p := fun p h => (hv21 p (Nat.lt_of_lt_of_le h hN)).trans (hE p h)
    have hE := hE9
    have hN : xct st ≤ xct o1.2.2.2.2 := Nat.le_trans hN hn22
    obtain rfl := Option.some.inj hf
    exact vx_out (E := "java/lang/UnsupportedOperationException") (fun x h => (hne x h).elim) hlocks hce hcv hcl (fun t ht ha => ⟨(ad18, gd19, vad20), ⟨hE, hN⟩, ⟨rfl, by rw [ht]; exact hP, va_K.moved ha hK, hD⟩, hS.F ht⟩) hS.2.2 (Nat.le_refl _) (Nat.le_refl _)
  rw [if_neg hk15] at hf
  by_cases hk23 : o1.1 = 2
  · rw [if_pos hk23] at hf
    obtain ⟨hm24, hf⟩ := xmoE hf
    obtain rfl := Option.some.inj hf
    exact absurd (show (2 : Nat) = 1 from hkd) (by decide)
  rw [if_neg hk23] at hf
  by_cases hk31 : o1.1 = 3
  · rw [if_pos hk31] at hf
    obtain ⟨hm32, hf⟩ := xmoE hf
    obtain rfl := Option.some.inj hf
    exact absurd (show (3 : Nat) = 1 from hkd) (by decide)
  rw [if_neg hk31] at hf
  exact nomatch hf
set_option maxHeartbeats 400000000 in
set_option maxRecDepth 100000 in
theorem gM_json_2 (l : Launch) (hl9 : l.stackTraces = false) (D : va_G) (cT : Nat → ClassId) (aK aV : Nat → Nat) (sz d n : Nat) (aM : Nat) (ad rd gd vad : Nat → Nat) (st : xS) (c0 : Nat) (x1 : Int32) (x2 : Int32) (out : Nat × Nat × Nat × Nat × xS) (hf : fM_json d n st c0 x1 x2 = some out) (hkd : out.1 = 2) : xMetY l yM_json wyM_json (16 * d + 7) out.2.1 out.2.2.1 (400 * d + 121) D cT aK aV sz [.ref aM, xrs ad rd gd c0, .int x1, .int x2] (xMw cT aM ad rd gd vad st []) "java/lang/IndexOutOfBoundsException" (fun u => xE vad st out.2.2.2.2 u) (fun A u t => xB D xcl cT A (xMw cT aM u.1 rd u.2.1 u.2.2 out.2.2.2.2 []) t) := by
  refine vx_ofW (cc := prog_13_method_32_code) (maxL := 5) (ret := (some (.object "ValueBenchModel$V"))) (by decide) rfl ?_
  intro p e s m args below meth c s₁ B hml hne hv
  obtain ⟨rfl, hsz, hZ, hP, hK, hD0⟩ := hv
  have hx := B.exec
  have hb := B.bytes
  have hr := B.returns
  have hts := atoms_spec (ws := wyM_json) B.pre
  have htx := fun w h => hts w (List.mem_cons_of_mem _ h)
  have hown : s.vm.findClass "ValueBenchModel" = some m.cls := findClass_of_methodNamed B.named
  have hlocks := B.notSynchronized
  subst hsz
  have hD := hD0.self (sz := s.heap.size)
  generalize hAe : va_A (xMw cT aM ad rd gd vad st []) s.heap.size = A at hD hZ ⊢
  have hA : ∀ q : Nat, s.heap.size ≤ q → A q := fun q h => by rw [← hAe]; exact Or.inr h
  have hS : va_S A s.heap s.heap [] := va_S.rf
  have hl := lv_entry ([.ref aM, xrs ad rd gd c0, .int x1, .int x2]) (n := 5) (by simp [lg_sl, xvcat, xrscat, xcI, xcL, xcR, xcN])
  rw [show lv_args 0 [.ref aM, xrs ad rd gd c0, .int x1, .int x2] = [(0, .ref aM), (1, xrs ad rd gd c0), (2, .int x1), (3, .int x2)] from by simp [lv_args, xvcat, xrscat, xcI, xcL, xcR, xcN]] at hl
  rw [lg_entry_eq]
  generalize (lg_sl ([.ref aM, xrs ad rd gd c0, .int x1, .int x2]) ++ List.replicate (5 - (lg_sl ([.ref aM, xrs ad rd gd c0, .int x1, .int x2])).length) Slot.unset).toArray = ls at hl ⊢
  have hl : lv_has ls 5 [(0, .ref aM), (1, xrs ad rd gd c0), (2, .int x1), (3, .int x2)] := hl
  have hE : ∀ p, p < xct st → vad p = vad p := fun _ _ => rfl
  have hN : xct st ≤ xct st := Nat.le_refl _
  unfold fM_json at hf
  refine lv_aload_n hx hb dM_json_0 rfl (lv_at hl 0 rfl) ?_
  refine xm_aload_n hx hb (xrsor _ _ _ _) dM_json_1 rfl (lv_at hl 1 rfl) ?_
  refine xm_put (v := xrs ad rd gd c0) (W' := (xMw cT aM ad rd gd vad (xsX st c0) [])) (ty := (.array .byte)) hx hb htx hown hK hP hD hS 15 (by decide) rfl (htx _ kw_5_102) rfl rfl (by decide +kernel) (xnar (xrsor _ _ _ _)) (xfit (xrsor _ _ _ _)) dM_json_2 (fun H locs hP hD hS => ?_)
  refine lv_aload_n hx hb dM_json_5 rfl (lv_at hl 0 rfl) ?_
  refine lv_iload_n hx hb dM_json_6 rfl (lv_at hl 2 rfl) ?_
  refine xm_put (v := .int x1) (W' := (xMw cT aM ad rd gd vad (xsI (xsX st c0) 16 x1) [])) (ty := .int) hx hb htx hown hK hP hD hS 16 (by decide) rfl (htx _ kw_5_103) rfl rfl (by decide +kernel) rfl rfl dM_json_7 (fun H locs hP hD hS => ?_)
  refine lv_aload_n hx hb dM_json_10 rfl (lv_at hl 0 rfl) ?_
  refine lv_iload_n hx hb dM_json_11 rfl (lv_at hl 3 rfl) ?_
  refine xm_put (v := .int x2) (W' := (xMw cT aM ad rd gd vad (xsI (xsI (xsX st c0) 16 x1) 17 x2) [])) (ty := .int) hx hb htx hown hK hP hD hS 17 (by decide) rfl (htx _ kw_5_104) rfl rfl (by decide +kernel) rfl rfl dM_json_12 (fun H locs hP hD hS => ?_)
  refine lv_aload_n hx hb dM_json_15 rfl (lv_at hl 0 rfl) ?_
  refine lv_iconst (v := 0) hx hb dM_json_16 (by decide) ?_
  refine xm_put (v := .int 0) (W' := (xMw cT aM ad rd gd vad (xsI (xsI (xsI (xsX st c0) 16 x1) 17 x2) 18 0) [])) (ty := .int) hx hb htx hown hK hP hD hS 18 (by decide) rfl (htx _ kw_5_105) rfl rfl (by decide +kernel) rfl rfl dM_json_17 (fun H locs hP hD hS => ?_)
  refine lv_aload_n hx hb dM_json_20 rfl (lv_at hl 0 rfl) ?_
  obtain ⟨o1, hq2, hf⟩ := xbind hf
  have hl := lv_sub (l' := [(0, .ref aM), (2, .int x1), (3, .int x2)]) hl [0, 2, 3] rfl
  by_cases hk3 : o1.1 = 0
  · rw [if_pos hk3] at hf
    obtain ⟨hm4, hf⟩ := xmoE hf
    have hFc := xm_free hD hS hA
    refine va_callq (va_runV (C := "ValueBenchModel") (As := []) (rest := []) ⟨hx, hb, hml, hown, htx⟩ ((gM_value l hl9 D cT aK aV d H.size n aM ad rd gd vad (xsI (xsI (xsI (xsX st c0) 16 x1) 17 x2) 18 0) o1 hq2).1 hk3) ⟨callB_of 0 htx (xw_goodC kw_5_225) rfl rfl rfl (htx _ kw_1_5) (htx _ kw_5_222) ⟨by decide, by decide, by decide +kernel⟩ ⟨(by show (16 * d) + 1 ≤ 16 * d + 7; omega), (by show 8 + (3 + 11) + (400 * d) ≤ 400 * d + 121; omega)⟩, (htx _ kw_5_224), (htx _ kp_M_value)⟩ ⟨xPre_blind, va_recv hK hP (ci := 5) rfl (q0 := 0) rfl, (fun U hU hW => ⟨rfl, xPre_of hZ hS hFc hP hD hK U hU hW⟩)⟩ rfl rfl hl.1 rfl (xm_room (Nat.le_of_ble_eq_true rfl)) dM_json_21 ⟨hm4.1, hm4.2⟩) hS (fun q _ h => hFc q h) hFc (fun r5 u9 t H1 locs ht hvm hr9 hB hz1 hk1 hS => ?_)
    obtain ⟨hP1, hK1, hD1⟩ := hB
    rw [ht] at hP1
    obtain ⟨ad6, gd7, vad8⟩ := u9
    obtain ⟨hr9, hv9, hn10⟩ := hr9
    have hP : va_P D xcl (xMw cT aM ad6 rd gd7 vad8 o1.2.2.2.2 []) H1 := hP1
    have hD : va_D A (xMw cT aM ad6 rd gd7 vad8 o1.2.2.2.2 []) := hD1.weaken (fun k q _ h => hFc q.1 h)
    generalize H1 = H at hP hS ⊢
    have hE9 : ∀ p, p < xct st → vad8 p = vad p := fun p h => (hv9 p (Nat.lt_of_lt_of_le h hN)).trans (hE p h)
    have hE := hE9
    have hN : xct st ≤ xct o1.2.2.2.2 := Nat.le_trans hN hn10
    rw [hr9]
    refine W.eq (g2 := F0 m 24 ls [xv vad8 o1.2.2.2.1]) (by first | rfl | (skip; rfl)) ?_
    refine xm_astore (lv' := [(4, xv vad8 o1.2.2.2.1), (0, .ref aM), (2, .int x1), (3, .int x2)]) hx hb (xvor _ _) dM_json_24 hl (by decide) rfl (fun ls hl => ?_)
    refine lv_aload_n hx hb dM_json_26 rfl (lv_at hl 1 rfl) ?_
    obtain ⟨o11, hq12, hf⟩ := xbind hf
    have hFc := xm_free hD hS hA
    refine va_callv (va_runV (C := "ValueBenchModel") (As := []) (rest := []) ⟨hx, hb, hml, hown, htx⟩ (gM_blanks l hl9 D cT aK aV H.size n aM ad6 rd gd7 vad8 o1.2.2.2.2 o11 hq12) ⟨callB_of 0 htx (xw_goodC kw_5_229) rfl rfl rfl (htx _ kw_1_5) (htx _ kw_5_226) ⟨by decide, by decide, by decide +kernel⟩ ⟨Nat.le_of_ble_eq_true rfl, Nat.le_of_ble_eq_true rfl⟩, (htx _ kw_5_228), (htx _ kp_M_blanks)⟩ ⟨xPre_blind, va_recv hK hP (ci := 5) rfl (q0 := 0) rfl, (fun U hU hW => ⟨rfl, xPre_of hZ hS hFc hP hD hK U hU hW⟩)⟩ rfl rfl hl.1 rfl (xm_room (Nat.le_of_ble_eq_true rfl)) dM_json_27 ⟨hm4.1, hm4.2⟩) hS (fun q _ h => hFc q h) hFc (fun u9 t H1 locs ht hvm hr9 hB hz1 hk1 hS => ?_)
    obtain ⟨hP1, hK1, hD1⟩ := hB
    rw [ht] at hP1
    have hn14 := hr9
    have hN : xct st ≤ xct o11 := Nat.le_trans hN hn14
    have hP : va_P D xcl (xMw cT aM ad6 rd gd7 vad8 o11 []) H1 := hP1
    have hD : va_D A (xMw cT aM ad6 rd gd7 vad8 o11 []) := hD1.weaken (fun k q _ h => hFc q.1 h)
    generalize H1 = H at hP hS ⊢
    refine W.eq (g2 := F0 m 30 ls []) (by first | rfl | (skip; rfl)) ?_
    refine lv_aload_n hx hb dM_json_30 rfl (lv_at hl 1 rfl) ?_
    refine xm_get (v := .int (xsi o11 16)) hx hb htx hown hK hP 16 (by decide) rfl (htx _ kw_5_103) rfl dM_json_31 ?_
    refine lv_aload_n hx hb dM_json_34 rfl (lv_at hl 1 rfl) ?_
    refine xm_get (v := .int (xsi o11 17)) hx hb htx hown hK hP 17 (by decide) rfl (htx _ kw_5_104) rfl dM_json_35 ?_
    refine lv_icmp_ge (tgt := 49) hx hb dM_json_38 (by decide) (fun hc => ?_) (fun hc => ?_)
    · rw [if_pos hc] at hf
      refine xm_aload hx hb (xvor _ _) dM_json_49 (lv_at hl 0 rfl) ?_
      obtain rfl := Option.some.inj hf
      exact absurd (show (0 : Nat) = 2 from hkd) (by decide)
    · rw [if_neg hc] at hf
      refine lv_aload_n hx hb dM_json_41 rfl (lv_at hl 1 rfl) ?_
      refine lv_aload_n hx hb dM_json_42 rfl (lv_at hl 1 rfl) ?_
      refine xm_get (v := .int (xsi o11 16)) hx hb htx hown hK hP 16 (by decide) rfl (htx _ kw_5_103) rfl dM_json_43 ?_
      obtain ⟨o15, hq16, hf⟩ := xbind hf
      by_cases hk17 : o15.1 = 1
      · rw [if_pos hk17] at hf
        obtain ⟨hg18, hf⟩ := xifn hf
        obtain ⟨hm19, hf⟩ := xmoE hf
        obtain rfl := Option.some.inj hf
        exact absurd (show (1 : Nat) = 2 from hkd) (by decide)
      rw [if_neg hk17] at hf
      exact nomatch hf
  rw [if_neg hk3] at hf
  by_cases hk15 : o1.1 = 1
  · rw [if_pos hk15] at hf
    obtain ⟨hm16, hf⟩ := xmoE hf
    obtain rfl := Option.some.inj hf
    exact absurd (show (1 : Nat) = 2 from hkd) (by decide)
  rw [if_neg hk15] at hf
  by_cases hk23 : o1.1 = 2
  · rw [if_pos hk23] at hf
    obtain ⟨hm24, hf⟩ := xmoE hf
    have hFc := xm_free hD hS hA
    refine xx_thr (vx_runV (C := "ValueBenchModel") (As := []) (rest := []) ⟨hx, hb, hml, hown, htx⟩ ((gM_value l hl9 D cT aK aV d H.size n aM ad rd gd vad (xsI (xsI (xsI (xsX st c0) 16 x1) 17 x2) 18 0) o1 hq2).2.2.1 hk23) ⟨callB_of 0 htx (xw_goodC kw_5_225) rfl rfl rfl (htx _ kw_1_5) (htx _ kw_5_222) ⟨by decide, by decide, by decide +kernel⟩ ⟨(by show (16 * d) + 1 ≤ 16 * d + 7; omega), (by show 8 + (3 + 11) + (400 * d) ≤ 400 * d + 121; omega)⟩, (htx _ kw_5_224), (htx _ kp_M_value)⟩ ⟨xPre_blind, va_recv hK hP (ci := 5) rfl (q0 := 0) rfl, (fun U hU hW => ⟨rfl, xPre_of hZ hS hFc hP hD hK U hU hW⟩)⟩ rfl rfl hl.1 rfl (xm_room (Nat.le_of_ble_eq_true rfl)) dM_json_21 ⟨hm24.1, hm24.2⟩) hS hFc (fun q _ h => hFc q h) (fun E ce q9 u9 t H1 locs ht hvm hr9 hB hz1 hk1 hS hce hcv hcl => ?_)
    obtain ⟨rfl, hP1, hK1, hD1⟩ := hB
    rw [ht] at hP1
    obtain ⟨ad26, gd27, vad28⟩ := u9
    obtain ⟨hv29, hn30⟩ := hr9
    have hP : va_P D xcl (xMw cT aM ad26 rd gd27 vad28 o1.2.2.2.2 []) H1 := hP1
    have hD : va_D A (xMw cT aM ad26 rd gd27 vad28 o1.2.2.2.2 []) := hD1.weaken (fun k q _ h => hFc q.1 h)
    generalize H1 = H at hP hS hce ⊢
    have hE9 : ∀ p, p < xct st → vad28 p = vad p := fun p h => (hv29 p (Nat.lt_of_lt_of_le h hN)).trans (hE p h)
    have hE := hE9
    have hN : xct st ≤ xct o1.2.2.2.2 := Nat.le_trans hN hn30
    obtain rfl := Option.some.inj hf
    exact vx_out (E := "java/lang/IndexOutOfBoundsException") (fun x h => (hne x h).elim) hlocks hce hcv hcl (fun t ht ha => ⟨(ad26, gd27, vad28), ⟨hE, hN⟩, ⟨rfl, by rw [ht]; exact hP, va_K.moved ha hK, hD⟩, hS.F ht⟩) hS.2.2 (Nat.le_refl _) (Nat.le_refl _)
  rw [if_neg hk23] at hf
  by_cases hk31 : o1.1 = 3
  · rw [if_pos hk31] at hf
    obtain ⟨hm32, hf⟩ := xmoE hf
    obtain rfl := Option.some.inj hf
    exact absurd (show (3 : Nat) = 2 from hkd) (by decide)
  rw [if_neg hk31] at hf
  exact nomatch hf
set_option maxHeartbeats 400000000 in
set_option maxRecDepth 100000 in
theorem gM_json_3 (l : Launch) (hl9 : l.stackTraces = false) (D : va_G) (cT : Nat → ClassId) (aK aV : Nat → Nat) (sz d n : Nat) (aM : Nat) (ad rd gd vad : Nat → Nat) (st : xS) (c0 : Nat) (x1 : Int32) (x2 : Int32) (out : Nat × Nat × Nat × Nat × xS) (hf : fM_json d n st c0 x1 x2 = some out) (hkd : out.1 = 3) : xMetY l yM_json wyM_json (16 * d + 7) out.2.1 out.2.2.1 (400 * d + 121) D cT aK aV sz [.ref aM, xrs ad rd gd c0, .int x1, .int x2] (xMw cT aM ad rd gd vad st []) "java/lang/ArithmeticException" (fun u => xE vad st out.2.2.2.2 u) (fun A u t => xB D xcl cT A (xMw cT aM u.1 rd u.2.1 u.2.2 out.2.2.2.2 []) t) := by
  refine vx_ofW (cc := prog_13_method_32_code) (maxL := 5) (ret := (some (.object "ValueBenchModel$V"))) (by decide) rfl ?_
  intro p e s m args below meth c s₁ B hml hne hv
  obtain ⟨rfl, hsz, hZ, hP, hK, hD0⟩ := hv
  have hx := B.exec
  have hb := B.bytes
  have hr := B.returns
  have hts := atoms_spec (ws := wyM_json) B.pre
  have htx := fun w h => hts w (List.mem_cons_of_mem _ h)
  have hown : s.vm.findClass "ValueBenchModel" = some m.cls := findClass_of_methodNamed B.named
  have hlocks := B.notSynchronized
  subst hsz
  have hD := hD0.self (sz := s.heap.size)
  generalize hAe : va_A (xMw cT aM ad rd gd vad st []) s.heap.size = A at hD hZ ⊢
  have hA : ∀ q : Nat, s.heap.size ≤ q → A q := fun q h => by rw [← hAe]; exact Or.inr h
  have hS : va_S A s.heap s.heap [] := va_S.rf
  have hl := lv_entry ([.ref aM, xrs ad rd gd c0, .int x1, .int x2]) (n := 5) (by simp [lg_sl, xvcat, xrscat, xcI, xcL, xcR, xcN])
  rw [show lv_args 0 [.ref aM, xrs ad rd gd c0, .int x1, .int x2] = [(0, .ref aM), (1, xrs ad rd gd c0), (2, .int x1), (3, .int x2)] from by simp [lv_args, xvcat, xrscat, xcI, xcL, xcR, xcN]] at hl
  rw [lg_entry_eq]
  generalize (lg_sl ([.ref aM, xrs ad rd gd c0, .int x1, .int x2]) ++ List.replicate (5 - (lg_sl ([.ref aM, xrs ad rd gd c0, .int x1, .int x2])).length) Slot.unset).toArray = ls at hl ⊢
  have hl : lv_has ls 5 [(0, .ref aM), (1, xrs ad rd gd c0), (2, .int x1), (3, .int x2)] := hl
  have hE : ∀ p, p < xct st → vad p = vad p := fun _ _ => rfl
  have hN : xct st ≤ xct st := Nat.le_refl _
  unfold fM_json at hf
  refine lv_aload_n hx hb dM_json_0 rfl (lv_at hl 0 rfl) ?_
  refine xm_aload_n hx hb (xrsor _ _ _ _) dM_json_1 rfl (lv_at hl 1 rfl) ?_
  refine xm_put (v := xrs ad rd gd c0) (W' := (xMw cT aM ad rd gd vad (xsX st c0) [])) (ty := (.array .byte)) hx hb htx hown hK hP hD hS 15 (by decide) rfl (htx _ kw_5_102) rfl rfl (by decide +kernel) (xnar (xrsor _ _ _ _)) (xfit (xrsor _ _ _ _)) dM_json_2 (fun H locs hP hD hS => ?_)
  refine lv_aload_n hx hb dM_json_5 rfl (lv_at hl 0 rfl) ?_
  refine lv_iload_n hx hb dM_json_6 rfl (lv_at hl 2 rfl) ?_
  refine xm_put (v := .int x1) (W' := (xMw cT aM ad rd gd vad (xsI (xsX st c0) 16 x1) [])) (ty := .int) hx hb htx hown hK hP hD hS 16 (by decide) rfl (htx _ kw_5_103) rfl rfl (by decide +kernel) rfl rfl dM_json_7 (fun H locs hP hD hS => ?_)
  refine lv_aload_n hx hb dM_json_10 rfl (lv_at hl 0 rfl) ?_
  refine lv_iload_n hx hb dM_json_11 rfl (lv_at hl 3 rfl) ?_
  refine xm_put (v := .int x2) (W' := (xMw cT aM ad rd gd vad (xsI (xsI (xsX st c0) 16 x1) 17 x2) [])) (ty := .int) hx hb htx hown hK hP hD hS 17 (by decide) rfl (htx _ kw_5_104) rfl rfl (by decide +kernel) rfl rfl dM_json_12 (fun H locs hP hD hS => ?_)
  refine lv_aload_n hx hb dM_json_15 rfl (lv_at hl 0 rfl) ?_
  refine lv_iconst (v := 0) hx hb dM_json_16 (by decide) ?_
  refine xm_put (v := .int 0) (W' := (xMw cT aM ad rd gd vad (xsI (xsI (xsI (xsX st c0) 16 x1) 17 x2) 18 0) [])) (ty := .int) hx hb htx hown hK hP hD hS 18 (by decide) rfl (htx _ kw_5_105) rfl rfl (by decide +kernel) rfl rfl dM_json_17 (fun H locs hP hD hS => ?_)
  refine lv_aload_n hx hb dM_json_20 rfl (lv_at hl 0 rfl) ?_
  obtain ⟨o1, hq2, hf⟩ := xbind hf
  have hl := lv_sub (l' := [(0, .ref aM), (2, .int x1), (3, .int x2)]) hl [0, 2, 3] rfl
  by_cases hk3 : o1.1 = 0
  · rw [if_pos hk3] at hf
    obtain ⟨hm4, hf⟩ := xmoE hf
    have hFc := xm_free hD hS hA
    refine va_callq (va_runV (C := "ValueBenchModel") (As := []) (rest := []) ⟨hx, hb, hml, hown, htx⟩ ((gM_value l hl9 D cT aK aV d H.size n aM ad rd gd vad (xsI (xsI (xsI (xsX st c0) 16 x1) 17 x2) 18 0) o1 hq2).1 hk3) ⟨callB_of 0 htx (xw_goodC kw_5_225) rfl rfl rfl (htx _ kw_1_5) (htx _ kw_5_222) ⟨by decide, by decide, by decide +kernel⟩ ⟨(by show (16 * d) + 1 ≤ 16 * d + 7; omega), (by show 8 + (3 + 11) + (400 * d) ≤ 400 * d + 121; omega)⟩, (htx _ kw_5_224), (htx _ kp_M_value)⟩ ⟨xPre_blind, va_recv hK hP (ci := 5) rfl (q0 := 0) rfl, (fun U hU hW => ⟨rfl, xPre_of hZ hS hFc hP hD hK U hU hW⟩)⟩ rfl rfl hl.1 rfl (xm_room (Nat.le_of_ble_eq_true rfl)) dM_json_21 ⟨hm4.1, hm4.2⟩) hS (fun q _ h => hFc q h) hFc (fun r5 u9 t H1 locs ht hvm hr9 hB hz1 hk1 hS => ?_)
    obtain ⟨hP1, hK1, hD1⟩ := hB
    rw [ht] at hP1
    obtain ⟨ad6, gd7, vad8⟩ := u9
    obtain ⟨hr9, hv9, hn10⟩ := hr9
    have hP : va_P D xcl (xMw cT aM ad6 rd gd7 vad8 o1.2.2.2.2 []) H1 := hP1
    have hD : va_D A (xMw cT aM ad6 rd gd7 vad8 o1.2.2.2.2 []) := hD1.weaken (fun k q _ h => hFc q.1 h)
    generalize H1 = H at hP hS ⊢
    have hE9 : ∀ p, p < xct st → vad8 p = vad p := fun p h => (hv9 p (Nat.lt_of_lt_of_le h hN)).trans (hE p h)
    have hE := hE9
    have hN : xct st ≤ xct o1.2.2.2.2 := Nat.le_trans hN hn10
    rw [hr9]
    refine W.eq (g2 := F0 m 24 ls [xv vad8 o1.2.2.2.1]) (by first | rfl | (skip; rfl)) ?_
    refine xm_astore (lv' := [(4, xv vad8 o1.2.2.2.1), (0, .ref aM), (2, .int x1), (3, .int x2)]) hx hb (xvor _ _) dM_json_24 hl (by decide) rfl (fun ls hl => ?_)
    refine lv_aload_n hx hb dM_json_26 rfl (lv_at hl 1 rfl) ?_
    obtain ⟨o11, hq12, hf⟩ := xbind hf
    have hFc := xm_free hD hS hA
    refine va_callv (va_runV (C := "ValueBenchModel") (As := []) (rest := []) ⟨hx, hb, hml, hown, htx⟩ (gM_blanks l hl9 D cT aK aV H.size n aM ad6 rd gd7 vad8 o1.2.2.2.2 o11 hq12) ⟨callB_of 0 htx (xw_goodC kw_5_229) rfl rfl rfl (htx _ kw_1_5) (htx _ kw_5_226) ⟨by decide, by decide, by decide +kernel⟩ ⟨Nat.le_of_ble_eq_true rfl, Nat.le_of_ble_eq_true rfl⟩, (htx _ kw_5_228), (htx _ kp_M_blanks)⟩ ⟨xPre_blind, va_recv hK hP (ci := 5) rfl (q0 := 0) rfl, (fun U hU hW => ⟨rfl, xPre_of hZ hS hFc hP hD hK U hU hW⟩)⟩ rfl rfl hl.1 rfl (xm_room (Nat.le_of_ble_eq_true rfl)) dM_json_27 ⟨hm4.1, hm4.2⟩) hS (fun q _ h => hFc q h) hFc (fun u9 t H1 locs ht hvm hr9 hB hz1 hk1 hS => ?_)
    obtain ⟨hP1, hK1, hD1⟩ := hB
    rw [ht] at hP1
    have hn14 := hr9
    have hN : xct st ≤ xct o11 := Nat.le_trans hN hn14
    have hP : va_P D xcl (xMw cT aM ad6 rd gd7 vad8 o11 []) H1 := hP1
    have hD : va_D A (xMw cT aM ad6 rd gd7 vad8 o11 []) := hD1.weaken (fun k q _ h => hFc q.1 h)
    generalize H1 = H at hP hS ⊢
    refine W.eq (g2 := F0 m 30 ls []) (by first | rfl | (skip; rfl)) ?_
    refine lv_aload_n hx hb dM_json_30 rfl (lv_at hl 1 rfl) ?_
    refine xm_get (v := .int (xsi o11 16)) hx hb htx hown hK hP 16 (by decide) rfl (htx _ kw_5_103) rfl dM_json_31 ?_
    refine lv_aload_n hx hb dM_json_34 rfl (lv_at hl 1 rfl) ?_
    refine xm_get (v := .int (xsi o11 17)) hx hb htx hown hK hP 17 (by decide) rfl (htx _ kw_5_104) rfl dM_json_35 ?_
    refine lv_icmp_ge (tgt := 49) hx hb dM_json_38 (by decide) (fun hc => ?_) (fun hc => ?_)
    · rw [if_pos hc] at hf
      refine xm_aload hx hb (xvor _ _) dM_json_49 (lv_at hl 0 rfl) ?_
      obtain rfl := Option.some.inj hf
      exact absurd (show (0 : Nat) = 3 from hkd) (by decide)
    · rw [if_neg hc] at hf
      refine lv_aload_n hx hb dM_json_41 rfl (lv_at hl 1 rfl) ?_
      refine lv_aload_n hx hb dM_json_42 rfl (lv_at hl 1 rfl) ?_
      refine xm_get (v := .int (xsi o11 16)) hx hb htx hown hK hP 16 (by decide) rfl (htx _ kw_5_103) rfl dM_json_43 ?_
      obtain ⟨o15, hq16, hf⟩ := xbind hf
      by_cases hk17 : o15.1 = 1
      · rw [if_pos hk17] at hf
        obtain ⟨hg18, hf⟩ := xifn hf
        obtain ⟨hm19, hf⟩ := xmoE hf
        obtain rfl := Option.some.inj hf
        exact absurd (show (1 : Nat) = 3 from hkd) (by decide)
      rw [if_neg hk17] at hf
      exact nomatch hf
  rw [if_neg hk3] at hf
  by_cases hk15 : o1.1 = 1
  · rw [if_pos hk15] at hf
    obtain ⟨hm16, hf⟩ := xmoE hf
    obtain rfl := Option.some.inj hf
    exact absurd (show (1 : Nat) = 3 from hkd) (by decide)
  rw [if_neg hk15] at hf
  by_cases hk23 : o1.1 = 2
  · rw [if_pos hk23] at hf
    obtain ⟨hm24, hf⟩ := xmoE hf
    obtain rfl := Option.some.inj hf
    exact absurd (show (2 : Nat) = 3 from hkd) (by decide)
  rw [if_neg hk23] at hf
  by_cases hk31 : o1.1 = 3
  · rw [if_pos hk31] at hf
    obtain ⟨hm32, hf⟩ := xmoE hf
    have hFc := xm_free hD hS hA
    refine xx_thr (vx_runV (C := "ValueBenchModel") (As := []) (rest := []) ⟨hx, hb, hml, hown, htx⟩ ((gM_value l hl9 D cT aK aV d H.size n aM ad rd gd vad (xsI (xsI (xsI (xsX st c0) 16 x1) 17 x2) 18 0) o1 hq2).2.2.2 hk31) ⟨callB_of 0 htx (xw_goodC kw_5_225) rfl rfl rfl (htx _ kw_1_5) (htx _ kw_5_222) ⟨by decide, by decide, by decide +kernel⟩ ⟨(by show (16 * d) + 1 ≤ 16 * d + 7; omega), (by show 8 + (3 + 11) + (400 * d) ≤ 400 * d + 121; omega)⟩, (htx _ kw_5_224), (htx _ kp_M_value)⟩ ⟨xPre_blind, va_recv hK hP (ci := 5) rfl (q0 := 0) rfl, (fun U hU hW => ⟨rfl, xPre_of hZ hS hFc hP hD hK U hU hW⟩)⟩ rfl rfl hl.1 rfl (xm_room (Nat.le_of_ble_eq_true rfl)) dM_json_21 ⟨hm32.1, hm32.2⟩) hS hFc (fun q _ h => hFc q h) (fun E ce q9 u9 t H1 locs ht hvm hr9 hB hz1 hk1 hS hce hcv hcl => ?_)
    obtain ⟨rfl, hP1, hK1, hD1⟩ := hB
    rw [ht] at hP1
    obtain ⟨ad34, gd35, vad36⟩ := u9
    obtain ⟨hv37, hn38⟩ := hr9
    have hP : va_P D xcl (xMw cT aM ad34 rd gd35 vad36 o1.2.2.2.2 []) H1 := hP1
    have hD : va_D A (xMw cT aM ad34 rd gd35 vad36 o1.2.2.2.2 []) := hD1.weaken (fun k q _ h => hFc q.1 h)
    generalize H1 = H at hP hS hce ⊢
    have hE9 : ∀ p, p < xct st → vad36 p = vad p := fun p h => (hv37 p (Nat.lt_of_lt_of_le h hN)).trans (hE p h)
    have hE := hE9
    have hN : xct st ≤ xct o1.2.2.2.2 := Nat.le_trans hN hn38
    obtain rfl := Option.some.inj hf
    exact vx_out (E := "java/lang/ArithmeticException") (fun x h => (hne x h).elim) hlocks hce hcv hcl (fun t ht ha => ⟨(ad34, gd35, vad36), ⟨hE, hN⟩, ⟨rfl, by rw [ht]; exact hP, va_K.moved ha hK, hD⟩, hS.F ht⟩) hS.2.2 (Nat.le_refl _) (Nat.le_refl _)
  rw [if_neg hk31] at hf
  exact nomatch hf
set_option maxHeartbeats 400000000 in
set_option maxRecDepth 100000 in
theorem gM_register (l : Launch) (hl9 : l.stackTraces = false) (D : va_G) (cT : Nat → ClassId) (aK aV : Nat → Nat) (sz d n : Nat) (aM : Nat) (ad rd gd vad : Nat → Nat) (st : xS) (x0 : Int32) (out : Nat × Nat × Nat × Nat × xS) (hf : fM_register d n st x0 = some out) (hkd : out.1 = 0) : xMet l yM_register wyM_register (16 * d + 8) out.2.1 out.2.2.1 (400 * d + 145) D cT aK aV sz [.ref aM, .int x0] (xMw cT aM ad rd gd vad st []) (fun A => va_Qq (fun (r : Option Nat) (u : xU) => r = xca u.2.2 out.2.2.2.1 ∧ xE vad st out.2.2.2.2 u) (fun u t => xB D xcl cT A (xMw cT aM u.1 rd u.2.1 u.2.2 out.2.2.2.2 []) t) A) := by
  refine Met.ofW (cc := prog_13_method_79_code) (maxL := 2) (ret := (some (.object "ValueBenchModel$V"))) (by decide) rfl ?_
  intro p e s m args below meth c s₁ B hml hv
  obtain ⟨rfl, hsz, hZ, hP, hK, hD0⟩ := hv
  have hx := B.exec
  have hb := B.bytes
  have hr := B.returns
  have hts := atoms_spec (ws := wyM_register) B.pre
  have htx := fun w h => hts w (List.mem_cons_of_mem _ h)
  have hown : s.vm.findClass "ValueBenchModel" = some m.cls := findClass_of_methodNamed B.named
  have hlocks := B.notSynchronized
  subst hsz
  have hD := hD0.self (sz := s.heap.size)
  generalize hAe : va_A (xMw cT aM ad rd gd vad st []) s.heap.size = A at hD hZ ⊢
  have hA : ∀ q : Nat, s.heap.size ≤ q → A q := fun q h => by rw [← hAe]; exact Or.inr h
  have hS : va_S A s.heap s.heap [] := va_S.rf
  have hl := lv_entry ([.ref aM, .int x0]) (n := 2) (by simp [lg_sl, xvcat, xrscat, xcI, xcL, xcR, xcN])
  rw [show lv_args 0 [.ref aM, .int x0] = [(0, .ref aM), (1, .int x0)] from by simp [lv_args, xvcat, xrscat, xcI, xcL, xcR, xcN]] at hl
  rw [lg_entry_eq]
  generalize (lg_sl ([.ref aM, .int x0]) ++ List.replicate (2 - (lg_sl ([.ref aM, .int x0])).length) Slot.unset).toArray = ls at hl ⊢
  have hl : lv_has ls 2 [(0, .ref aM), (1, .int x0)] := hl
  have hE : ∀ p, p < xct st → vad p = vad p := fun _ _ => rfl
  have hN : xct st ≤ xct st := Nat.le_refl _
  unfold fM_register at hf
  refine lv_aload_n hx hb dM_register_0 rfl (lv_at hl 0 rfl) ?_
  refine lv_bipush (v := 100) hx hb dM_register_1 (by decide) ?_
  refine xm_put (v := .int 100) (W' := (xMw cT aM ad rd gd vad (xsI st 19 100) [])) (ty := .int) hx hb htx hown hK hP hD hS 19 (by decide) rfl (htx _ kw_5_106) rfl rfl (by decide +kernel) rfl rfl dM_register_3 (fun H locs hP hD hS => ?_)
  refine lv_aload_n hx hb dM_register_6 rfl (lv_at hl 0 rfl) ?_
  refine lv_aload_n hx hb dM_register_7 rfl (lv_at hl 0 rfl) ?_
  refine xm_get (v := .ref (ad 24)) hx hb htx hown hK hP 24 (by decide) rfl (htx _ kw_5_111) rfl dM_register_8 ?_
  refine lv_iload_n hx hb dM_register_11 rfl (lv_at hl 1 rfl) ?_
  obtain ⟨hg1, hf⟩ := xifn hf
  obtain ⟨hg2, hf⟩ := xifn hf
  refine xx_aldA hx hb hK hP 10 5 rfl rfl hg1 dM_register_12 ?_
  refine W.eq (g2 := F0 m 13 ls [xrs ad rd gd (32 + x0.toNatClampNeg), .ref aM]) (by show F0 m _ ls (va_rf (xrg rd x0.toNatClampNeg) :: _) = _; rw [xrgE (Nat.lt_of_not_le hg2)]) ?_
  refine lv_iconst (v := 0) hx hb dM_register_13 (by decide) ?_
  refine lv_aload_n hx hb dM_register_14 rfl (lv_at hl 0 rfl) ?_
  refine xm_get (v := .ref (ad 25)) hx hb htx hown hK hP 25 (by decide) rfl (htx _ kw_5_112) rfl dM_register_15 ?_
  refine lv_iload_n hx hb dM_register_18 rfl (lv_at hl 1 rfl) ?_
  obtain ⟨hg3, hf⟩ := xifn hf
  refine va_iald hx hb hK hP 11 1 rfl rfl hg3 dM_register_19 ?_
  refine W.eq (g2 := F0 m 20 ls [.int ((xba st 25) x0.toNatClampNeg), .int 0, xrs ad rd gd (32 + x0.toNatClampNeg), .ref aM]) rfl ?_
  obtain ⟨o4, hq5, hf⟩ := xbind hf
  by_cases hk6 : o4.1 = 0
  · rw [if_pos hk6] at hf
    obtain ⟨hm7, hf⟩ := xmoE hf
    have hFc := xm_free hD hS hA
    refine va_callq (va_runV (C := "ValueBenchModel") (As := [xrs ad rd gd (32 + x0.toNatClampNeg), .int 0, .int ((xba st 25) x0.toNatClampNeg)]) (rest := []) ⟨hx, hb, hml, hown, htx⟩ (gM_json l hl9 D cT aK aV H.size d n aM ad rd gd vad (xsI st 19 100) (32 + x0.toNatClampNeg) (0 : Int32) ((xba st 25) x0.toNatClampNeg) o4 hq5 hk6) ⟨callB_of 3 htx (xw_goodC kw_5_221) rfl rfl rfl (htx _ kw_1_5) (htx _ kw_5_218) ⟨by decide, by decide, by decide +kernel⟩ ⟨(by show (16 * d + 7) + 1 ≤ 16 * d + 8; omega), (by show 8 + (5 + 11) + (400 * d + 121) ≤ 400 * d + 145; omega)⟩, (htx _ kw_5_220), (htx _ kp_M_json)⟩ ⟨xPre_blind, va_recv hK hP (ci := 5) rfl (q0 := 0) rfl, (fun U hU hW => ⟨rfl, xPre_of hZ hS hFc hP hD hK U hU hW⟩)⟩ rfl rfl hl.1 rfl (xm_room (Nat.le_of_ble_eq_true rfl)) dM_register_20 ⟨hm7.1, hm7.2⟩) hS (fun q _ h => hFc q h) hFc (fun r8 u9 t H1 locs ht hvm hr9 hB hz1 hk1 hS => ?_)
    obtain ⟨hP1, hK1, hD1⟩ := hB
    rw [ht] at hP1
    obtain ⟨ad9, gd10, vad11⟩ := u9
    obtain ⟨hr9, hv12, hn13⟩ := hr9
    have hP : va_P D xcl (xMw cT aM ad9 rd gd10 vad11 o4.2.2.2.2 []) H1 := hP1
    have hD : va_D A (xMw cT aM ad9 rd gd10 vad11 o4.2.2.2.2 []) := hD1.weaken (fun k q _ h => hFc q.1 h)
    generalize H1 = H at hP hS ⊢
    have hE9 : ∀ p, p < xct st → vad11 p = vad p := fun p h => (hv12 p (Nat.lt_of_lt_of_le h hN)).trans (hE p h)
    have hE := hE9
    have hN : xct st ≤ xct o4.2.2.2.2 := Nat.le_trans hN hn13
    rw [hr9]
    refine W.eq (g2 := F0 m 23 ls [xv vad11 o4.2.2.2.1]) (by first | rfl | (skip; rfl)) ?_
    obtain rfl := Option.some.inj hf
    exact W.aret (v := xv vad11 o4.2.2.2.1) hx hb hr (Or.inl ⟨_, rfl⟩) (xvor _ _) (fun t ht hW => ⟨⟨xca vad11 o4.2.2.2.1, (ad9, gd10, vad11), rfl, ⟨rfl, hE, hN⟩, by rw [ht]; exact hP, va_K.moved hW.alike hK, hD⟩, hS.F ht⟩) hS.2.2 dM_register_23
  rw [if_neg hk6] at hf
  by_cases hk14 : o4.1 = 1
  · rw [if_pos hk14] at hf
    obtain ⟨hm15, hf⟩ := xmoE hf
    obtain rfl := Option.some.inj hf
    exact absurd (show (1 : Nat) = 0 from hkd) (by decide)
  rw [if_neg hk14] at hf
  by_cases hk22 : o4.1 = 2
  · rw [if_pos hk22] at hf
    obtain ⟨hm23, hf⟩ := xmoE hf
    obtain rfl := Option.some.inj hf
    exact absurd (show (2 : Nat) = 0 from hkd) (by decide)
  rw [if_neg hk22] at hf
  by_cases hk30 : o4.1 = 3
  · rw [if_pos hk30] at hf
    obtain ⟨hm31, hf⟩ := xmoE hf
    obtain rfl := Option.some.inj hf
    exact absurd (show (3 : Nat) = 0 from hkd) (by decide)
  rw [if_neg hk30] at hf
  exact nomatch hf
set_option maxHeartbeats 400000000 in
set_option maxRecDepth 100000 in
theorem gM_register_1 (l : Launch) (hl9 : l.stackTraces = false) (D : va_G) (cT : Nat → ClassId) (aK aV : Nat → Nat) (sz d n : Nat) (aM : Nat) (ad rd gd vad : Nat → Nat) (st : xS) (x0 : Int32) (out : Nat × Nat × Nat × Nat × xS) (hf : fM_register d n st x0 = some out) (hkd : out.1 = 1) : xMetY l yM_register wyM_register (16 * d + 8) out.2.1 out.2.2.1 (400 * d + 145) D cT aK aV sz [.ref aM, .int x0] (xMw cT aM ad rd gd vad st []) "java/lang/UnsupportedOperationException" (fun u => xE vad st out.2.2.2.2 u) (fun A u t => xB D xcl cT A (xMw cT aM u.1 rd u.2.1 u.2.2 out.2.2.2.2 []) t) := by
  refine vx_ofW (cc := prog_13_method_79_code) (maxL := 2) (ret := (some (.object "ValueBenchModel$V"))) (by decide) rfl ?_
  intro p e s m args below meth c s₁ B hml hne hv
  obtain ⟨rfl, hsz, hZ, hP, hK, hD0⟩ := hv
  have hx := B.exec
  have hb := B.bytes
  have hr := B.returns
  have hts := atoms_spec (ws := wyM_register) B.pre
  have htx := fun w h => hts w (List.mem_cons_of_mem _ h)
  have hown : s.vm.findClass "ValueBenchModel" = some m.cls := findClass_of_methodNamed B.named
  have hlocks := B.notSynchronized
  subst hsz
  have hD := hD0.self (sz := s.heap.size)
  generalize hAe : va_A (xMw cT aM ad rd gd vad st []) s.heap.size = A at hD hZ ⊢
  have hA : ∀ q : Nat, s.heap.size ≤ q → A q := fun q h => by rw [← hAe]; exact Or.inr h
  have hS : va_S A s.heap s.heap [] := va_S.rf
  have hl := lv_entry ([.ref aM, .int x0]) (n := 2) (by simp [lg_sl, xvcat, xrscat, xcI, xcL, xcR, xcN])
  rw [show lv_args 0 [.ref aM, .int x0] = [(0, .ref aM), (1, .int x0)] from by simp [lv_args, xvcat, xrscat, xcI, xcL, xcR, xcN]] at hl
  rw [lg_entry_eq]
  generalize (lg_sl ([.ref aM, .int x0]) ++ List.replicate (2 - (lg_sl ([.ref aM, .int x0])).length) Slot.unset).toArray = ls at hl ⊢
  have hl : lv_has ls 2 [(0, .ref aM), (1, .int x0)] := hl
  have hE : ∀ p, p < xct st → vad p = vad p := fun _ _ => rfl
  have hN : xct st ≤ xct st := Nat.le_refl _
  unfold fM_register at hf
  refine lv_aload_n hx hb dM_register_0 rfl (lv_at hl 0 rfl) ?_
  refine lv_bipush (v := 100) hx hb dM_register_1 (by decide) ?_
  refine xm_put (v := .int 100) (W' := (xMw cT aM ad rd gd vad (xsI st 19 100) [])) (ty := .int) hx hb htx hown hK hP hD hS 19 (by decide) rfl (htx _ kw_5_106) rfl rfl (by decide +kernel) rfl rfl dM_register_3 (fun H locs hP hD hS => ?_)
  refine lv_aload_n hx hb dM_register_6 rfl (lv_at hl 0 rfl) ?_
  refine lv_aload_n hx hb dM_register_7 rfl (lv_at hl 0 rfl) ?_
  refine xm_get (v := .ref (ad 24)) hx hb htx hown hK hP 24 (by decide) rfl (htx _ kw_5_111) rfl dM_register_8 ?_
  refine lv_iload_n hx hb dM_register_11 rfl (lv_at hl 1 rfl) ?_
  obtain ⟨hg1, hf⟩ := xifn hf
  obtain ⟨hg2, hf⟩ := xifn hf
  refine xx_aldA hx hb hK hP 10 5 rfl rfl hg1 dM_register_12 ?_
  refine W.eq (g2 := F0 m 13 ls [xrs ad rd gd (32 + x0.toNatClampNeg), .ref aM]) (by show F0 m _ ls (va_rf (xrg rd x0.toNatClampNeg) :: _) = _; rw [xrgE (Nat.lt_of_not_le hg2)]) ?_
  refine lv_iconst (v := 0) hx hb dM_register_13 (by decide) ?_
  refine lv_aload_n hx hb dM_register_14 rfl (lv_at hl 0 rfl) ?_
  refine xm_get (v := .ref (ad 25)) hx hb htx hown hK hP 25 (by decide) rfl (htx _ kw_5_112) rfl dM_register_15 ?_
  refine lv_iload_n hx hb dM_register_18 rfl (lv_at hl 1 rfl) ?_
  obtain ⟨hg3, hf⟩ := xifn hf
  refine va_iald hx hb hK hP 11 1 rfl rfl hg3 dM_register_19 ?_
  refine W.eq (g2 := F0 m 20 ls [.int ((xba st 25) x0.toNatClampNeg), .int 0, xrs ad rd gd (32 + x0.toNatClampNeg), .ref aM]) rfl ?_
  obtain ⟨o4, hq5, hf⟩ := xbind hf
  by_cases hk6 : o4.1 = 0
  · rw [if_pos hk6] at hf
    obtain ⟨hm7, hf⟩ := xmoE hf
    have hFc := xm_free hD hS hA
    refine va_callq (va_runV (C := "ValueBenchModel") (As := [xrs ad rd gd (32 + x0.toNatClampNeg), .int 0, .int ((xba st 25) x0.toNatClampNeg)]) (rest := []) ⟨hx, hb, hml, hown, htx⟩ (gM_json l hl9 D cT aK aV H.size d n aM ad rd gd vad (xsI st 19 100) (32 + x0.toNatClampNeg) (0 : Int32) ((xba st 25) x0.toNatClampNeg) o4 hq5 hk6) ⟨callB_of 3 htx (xw_goodC kw_5_221) rfl rfl rfl (htx _ kw_1_5) (htx _ kw_5_218) ⟨by decide, by decide, by decide +kernel⟩ ⟨(by show (16 * d + 7) + 1 ≤ 16 * d + 8; omega), (by show 8 + (5 + 11) + (400 * d + 121) ≤ 400 * d + 145; omega)⟩, (htx _ kw_5_220), (htx _ kp_M_json)⟩ ⟨xPre_blind, va_recv hK hP (ci := 5) rfl (q0 := 0) rfl, (fun U hU hW => ⟨rfl, xPre_of hZ hS hFc hP hD hK U hU hW⟩)⟩ rfl rfl hl.1 rfl (xm_room (Nat.le_of_ble_eq_true rfl)) dM_register_20 ⟨hm7.1, hm7.2⟩) hS (fun q _ h => hFc q h) hFc (fun r8 u9 t H1 locs ht hvm hr9 hB hz1 hk1 hS => ?_)
    obtain ⟨hP1, hK1, hD1⟩ := hB
    rw [ht] at hP1
    obtain ⟨ad9, gd10, vad11⟩ := u9
    obtain ⟨hr9, hv12, hn13⟩ := hr9
    have hP : va_P D xcl (xMw cT aM ad9 rd gd10 vad11 o4.2.2.2.2 []) H1 := hP1
    have hD : va_D A (xMw cT aM ad9 rd gd10 vad11 o4.2.2.2.2 []) := hD1.weaken (fun k q _ h => hFc q.1 h)
    generalize H1 = H at hP hS ⊢
    have hE9 : ∀ p, p < xct st → vad11 p = vad p := fun p h => (hv12 p (Nat.lt_of_lt_of_le h hN)).trans (hE p h)
    have hE := hE9
    have hN : xct st ≤ xct o4.2.2.2.2 := Nat.le_trans hN hn13
    rw [hr9]
    refine W.eq (g2 := F0 m 23 ls [xv vad11 o4.2.2.2.1]) (by first | rfl | (skip; rfl)) ?_
    obtain rfl := Option.some.inj hf
    exact absurd (show (0 : Nat) = 1 from hkd) (by decide)
  rw [if_neg hk6] at hf
  by_cases hk14 : o4.1 = 1
  · rw [if_pos hk14] at hf
    obtain ⟨hm15, hf⟩ := xmoE hf
    have hFc := xm_free hD hS hA
    refine xx_thr (vx_runV (C := "ValueBenchModel") (As := [xrs ad rd gd (32 + x0.toNatClampNeg), .int 0, .int ((xba st 25) x0.toNatClampNeg)]) (rest := []) ⟨hx, hb, hml, hown, htx⟩ (gM_json_1 l hl9 D cT aK aV H.size d n aM ad rd gd vad (xsI st 19 100) (32 + x0.toNatClampNeg) (0 : Int32) ((xba st 25) x0.toNatClampNeg) o4 hq5 hk14) ⟨callB_of 3 htx (xw_goodC kw_5_221) rfl rfl rfl (htx _ kw_1_5) (htx _ kw_5_218) ⟨by decide, by decide, by decide +kernel⟩ ⟨(by show (16 * d + 7) + 1 ≤ 16 * d + 8; omega), (by show 8 + (5 + 11) + (400 * d + 121) ≤ 400 * d + 145; omega)⟩, (htx _ kw_5_220), (htx _ kp_M_json)⟩ ⟨xPre_blind, va_recv hK hP (ci := 5) rfl (q0 := 0) rfl, (fun U hU hW => ⟨rfl, xPre_of hZ hS hFc hP hD hK U hU hW⟩)⟩ rfl rfl hl.1 rfl (xm_room (Nat.le_of_ble_eq_true rfl)) dM_register_20 ⟨hm15.1, hm15.2⟩) hS hFc (fun q _ h => hFc q h) (fun E ce q9 u9 t H1 locs ht hvm hr9 hB hz1 hk1 hS hce hcv hcl => ?_)
    obtain ⟨rfl, hP1, hK1, hD1⟩ := hB
    rw [ht] at hP1
    obtain ⟨ad17, gd18, vad19⟩ := u9
    obtain ⟨hv20, hn21⟩ := hr9
    have hP : va_P D xcl (xMw cT aM ad17 rd gd18 vad19 o4.2.2.2.2 []) H1 := hP1
    have hD : va_D A (xMw cT aM ad17 rd gd18 vad19 o4.2.2.2.2 []) := hD1.weaken (fun k q _ h => hFc q.1 h)
    generalize H1 = H at hP hS hce ⊢
    have hE9 : ∀ p, p < xct st → vad19 p = vad p := fun p h => (hv20 p (Nat.lt_of_lt_of_le h hN)).trans (hE p h)
    have hE := hE9
    have hN : xct st ≤ xct o4.2.2.2.2 := Nat.le_trans hN hn21
    obtain rfl := Option.some.inj hf
    exact vx_out (E := "java/lang/UnsupportedOperationException") (fun x h => (hne x h).elim) hlocks hce hcv hcl (fun t ht ha => ⟨(ad17, gd18, vad19), ⟨hE, hN⟩, ⟨rfl, by rw [ht]; exact hP, va_K.moved ha hK, hD⟩, hS.F ht⟩) hS.2.2 (Nat.le_refl _) (Nat.le_refl _)
  rw [if_neg hk14] at hf
  by_cases hk22 : o4.1 = 2
  · rw [if_pos hk22] at hf
    obtain ⟨hm23, hf⟩ := xmoE hf
    obtain rfl := Option.some.inj hf
    exact absurd (show (2 : Nat) = 1 from hkd) (by decide)
  rw [if_neg hk22] at hf
  by_cases hk30 : o4.1 = 3
  · rw [if_pos hk30] at hf
    obtain ⟨hm31, hf⟩ := xmoE hf
    obtain rfl := Option.some.inj hf
    exact absurd (show (3 : Nat) = 1 from hkd) (by decide)
  rw [if_neg hk30] at hf
  exact nomatch hf
set_option maxHeartbeats 400000000 in
set_option maxRecDepth 100000 in
theorem gM_register_2 (l : Launch) (hl9 : l.stackTraces = false) (D : va_G) (cT : Nat → ClassId) (aK aV : Nat → Nat) (sz d n : Nat) (aM : Nat) (ad rd gd vad : Nat → Nat) (st : xS) (x0 : Int32) (out : Nat × Nat × Nat × Nat × xS) (hf : fM_register d n st x0 = some out) (hkd : out.1 = 2) : xMetY l yM_register wyM_register (16 * d + 8) out.2.1 out.2.2.1 (400 * d + 145) D cT aK aV sz [.ref aM, .int x0] (xMw cT aM ad rd gd vad st []) "java/lang/IndexOutOfBoundsException" (fun u => xE vad st out.2.2.2.2 u) (fun A u t => xB D xcl cT A (xMw cT aM u.1 rd u.2.1 u.2.2 out.2.2.2.2 []) t) := by
  refine vx_ofW (cc := prog_13_method_79_code) (maxL := 2) (ret := (some (.object "ValueBenchModel$V"))) (by decide) rfl ?_
  intro p e s m args below meth c s₁ B hml hne hv
  obtain ⟨rfl, hsz, hZ, hP, hK, hD0⟩ := hv
  have hx := B.exec
  have hb := B.bytes
  have hr := B.returns
  have hts := atoms_spec (ws := wyM_register) B.pre
  have htx := fun w h => hts w (List.mem_cons_of_mem _ h)
  have hown : s.vm.findClass "ValueBenchModel" = some m.cls := findClass_of_methodNamed B.named
  have hlocks := B.notSynchronized
  subst hsz
  have hD := hD0.self (sz := s.heap.size)
  generalize hAe : va_A (xMw cT aM ad rd gd vad st []) s.heap.size = A at hD hZ ⊢
  have hA : ∀ q : Nat, s.heap.size ≤ q → A q := fun q h => by rw [← hAe]; exact Or.inr h
  have hS : va_S A s.heap s.heap [] := va_S.rf
  have hl := lv_entry ([.ref aM, .int x0]) (n := 2) (by simp [lg_sl, xvcat, xrscat, xcI, xcL, xcR, xcN])
  rw [show lv_args 0 [.ref aM, .int x0] = [(0, .ref aM), (1, .int x0)] from by simp [lv_args, xvcat, xrscat, xcI, xcL, xcR, xcN]] at hl
  rw [lg_entry_eq]
  generalize (lg_sl ([.ref aM, .int x0]) ++ List.replicate (2 - (lg_sl ([.ref aM, .int x0])).length) Slot.unset).toArray = ls at hl ⊢
  have hl : lv_has ls 2 [(0, .ref aM), (1, .int x0)] := hl
  have hE : ∀ p, p < xct st → vad p = vad p := fun _ _ => rfl
  have hN : xct st ≤ xct st := Nat.le_refl _
  unfold fM_register at hf
  refine lv_aload_n hx hb dM_register_0 rfl (lv_at hl 0 rfl) ?_
  refine lv_bipush (v := 100) hx hb dM_register_1 (by decide) ?_
  refine xm_put (v := .int 100) (W' := (xMw cT aM ad rd gd vad (xsI st 19 100) [])) (ty := .int) hx hb htx hown hK hP hD hS 19 (by decide) rfl (htx _ kw_5_106) rfl rfl (by decide +kernel) rfl rfl dM_register_3 (fun H locs hP hD hS => ?_)
  refine lv_aload_n hx hb dM_register_6 rfl (lv_at hl 0 rfl) ?_
  refine lv_aload_n hx hb dM_register_7 rfl (lv_at hl 0 rfl) ?_
  refine xm_get (v := .ref (ad 24)) hx hb htx hown hK hP 24 (by decide) rfl (htx _ kw_5_111) rfl dM_register_8 ?_
  refine lv_iload_n hx hb dM_register_11 rfl (lv_at hl 1 rfl) ?_
  obtain ⟨hg1, hf⟩ := xifn hf
  obtain ⟨hg2, hf⟩ := xifn hf
  refine xx_aldA hx hb hK hP 10 5 rfl rfl hg1 dM_register_12 ?_
  refine W.eq (g2 := F0 m 13 ls [xrs ad rd gd (32 + x0.toNatClampNeg), .ref aM]) (by show F0 m _ ls (va_rf (xrg rd x0.toNatClampNeg) :: _) = _; rw [xrgE (Nat.lt_of_not_le hg2)]) ?_
  refine lv_iconst (v := 0) hx hb dM_register_13 (by decide) ?_
  refine lv_aload_n hx hb dM_register_14 rfl (lv_at hl 0 rfl) ?_
  refine xm_get (v := .ref (ad 25)) hx hb htx hown hK hP 25 (by decide) rfl (htx _ kw_5_112) rfl dM_register_15 ?_
  refine lv_iload_n hx hb dM_register_18 rfl (lv_at hl 1 rfl) ?_
  obtain ⟨hg3, hf⟩ := xifn hf
  refine va_iald hx hb hK hP 11 1 rfl rfl hg3 dM_register_19 ?_
  refine W.eq (g2 := F0 m 20 ls [.int ((xba st 25) x0.toNatClampNeg), .int 0, xrs ad rd gd (32 + x0.toNatClampNeg), .ref aM]) rfl ?_
  obtain ⟨o4, hq5, hf⟩ := xbind hf
  by_cases hk6 : o4.1 = 0
  · rw [if_pos hk6] at hf
    obtain ⟨hm7, hf⟩ := xmoE hf
    have hFc := xm_free hD hS hA
    refine va_callq (va_runV (C := "ValueBenchModel") (As := [xrs ad rd gd (32 + x0.toNatClampNeg), .int 0, .int ((xba st 25) x0.toNatClampNeg)]) (rest := []) ⟨hx, hb, hml, hown, htx⟩ (gM_json l hl9 D cT aK aV H.size d n aM ad rd gd vad (xsI st 19 100) (32 + x0.toNatClampNeg) (0 : Int32) ((xba st 25) x0.toNatClampNeg) o4 hq5 hk6) ⟨callB_of 3 htx (xw_goodC kw_5_221) rfl rfl rfl (htx _ kw_1_5) (htx _ kw_5_218) ⟨by decide, by decide, by decide +kernel⟩ ⟨(by show (16 * d + 7) + 1 ≤ 16 * d + 8; omega), (by show 8 + (5 + 11) + (400 * d + 121) ≤ 400 * d + 145; omega)⟩, (htx _ kw_5_220), (htx _ kp_M_json)⟩ ⟨xPre_blind, va_recv hK hP (ci := 5) rfl (q0 := 0) rfl, (fun U hU hW => ⟨rfl, xPre_of hZ hS hFc hP hD hK U hU hW⟩)⟩ rfl rfl hl.1 rfl (xm_room (Nat.le_of_ble_eq_true rfl)) dM_register_20 ⟨hm7.1, hm7.2⟩) hS (fun q _ h => hFc q h) hFc (fun r8 u9 t H1 locs ht hvm hr9 hB hz1 hk1 hS => ?_)
    obtain ⟨hP1, hK1, hD1⟩ := hB
    rw [ht] at hP1
    obtain ⟨ad9, gd10, vad11⟩ := u9
    obtain ⟨hr9, hv12, hn13⟩ := hr9
    have hP : va_P D xcl (xMw cT aM ad9 rd gd10 vad11 o4.2.2.2.2 []) H1 := hP1
    have hD : va_D A (xMw cT aM ad9 rd gd10 vad11 o4.2.2.2.2 []) := hD1.weaken (fun k q _ h => hFc q.1 h)
    generalize H1 = H at hP hS ⊢
    have hE9 : ∀ p, p < xct st → vad11 p = vad p := fun p h => (hv12 p (Nat.lt_of_lt_of_le h hN)).trans (hE p h)
    have hE := hE9
    have hN : xct st ≤ xct o4.2.2.2.2 := Nat.le_trans hN hn13
    rw [hr9]
    refine W.eq (g2 := F0 m 23 ls [xv vad11 o4.2.2.2.1]) (by first | rfl | (skip; rfl)) ?_
    obtain rfl := Option.some.inj hf
    exact absurd (show (0 : Nat) = 2 from hkd) (by decide)
  rw [if_neg hk6] at hf
  by_cases hk14 : o4.1 = 1
  · rw [if_pos hk14] at hf
    obtain ⟨hm15, hf⟩ := xmoE hf
    obtain rfl := Option.some.inj hf
    exact absurd (show (1 : Nat) = 2 from hkd) (by decide)
  rw [if_neg hk14] at hf
  by_cases hk22 : o4.1 = 2
  · rw [if_pos hk22] at hf
    obtain ⟨hm23, hf⟩ := xmoE hf
    have hFc := xm_free hD hS hA
    refine xx_thr (vx_runV (C := "ValueBenchModel") (As := [xrs ad rd gd (32 + x0.toNatClampNeg), .int 0, .int ((xba st 25) x0.toNatClampNeg)]) (rest := []) ⟨hx, hb, hml, hown, htx⟩ (gM_json_2 l hl9 D cT aK aV H.size d n aM ad rd gd vad (xsI st 19 100) (32 + x0.toNatClampNeg) (0 : Int32) ((xba st 25) x0.toNatClampNeg) o4 hq5 hk22) ⟨callB_of 3 htx (xw_goodC kw_5_221) rfl rfl rfl (htx _ kw_1_5) (htx _ kw_5_218) ⟨by decide, by decide, by decide +kernel⟩ ⟨(by show (16 * d + 7) + 1 ≤ 16 * d + 8; omega), (by show 8 + (5 + 11) + (400 * d + 121) ≤ 400 * d + 145; omega)⟩, (htx _ kw_5_220), (htx _ kp_M_json)⟩ ⟨xPre_blind, va_recv hK hP (ci := 5) rfl (q0 := 0) rfl, (fun U hU hW => ⟨rfl, xPre_of hZ hS hFc hP hD hK U hU hW⟩)⟩ rfl rfl hl.1 rfl (xm_room (Nat.le_of_ble_eq_true rfl)) dM_register_20 ⟨hm23.1, hm23.2⟩) hS hFc (fun q _ h => hFc q h) (fun E ce q9 u9 t H1 locs ht hvm hr9 hB hz1 hk1 hS hce hcv hcl => ?_)
    obtain ⟨rfl, hP1, hK1, hD1⟩ := hB
    rw [ht] at hP1
    obtain ⟨ad25, gd26, vad27⟩ := u9
    obtain ⟨hv28, hn29⟩ := hr9
    have hP : va_P D xcl (xMw cT aM ad25 rd gd26 vad27 o4.2.2.2.2 []) H1 := hP1
    have hD : va_D A (xMw cT aM ad25 rd gd26 vad27 o4.2.2.2.2 []) := hD1.weaken (fun k q _ h => hFc q.1 h)
    generalize H1 = H at hP hS hce ⊢
    have hE9 : ∀ p, p < xct st → vad27 p = vad p := fun p h => (hv28 p (Nat.lt_of_lt_of_le h hN)).trans (hE p h)
    have hE := hE9
    have hN : xct st ≤ xct o4.2.2.2.2 := Nat.le_trans hN hn29
    obtain rfl := Option.some.inj hf
    exact vx_out (E := "java/lang/IndexOutOfBoundsException") (fun x h => (hne x h).elim) hlocks hce hcv hcl (fun t ht ha => ⟨(ad25, gd26, vad27), ⟨hE, hN⟩, ⟨rfl, by rw [ht]; exact hP, va_K.moved ha hK, hD⟩, hS.F ht⟩) hS.2.2 (Nat.le_refl _) (Nat.le_refl _)
  rw [if_neg hk22] at hf
  by_cases hk30 : o4.1 = 3
  · rw [if_pos hk30] at hf
    obtain ⟨hm31, hf⟩ := xmoE hf
    obtain rfl := Option.some.inj hf
    exact absurd (show (3 : Nat) = 2 from hkd) (by decide)
  rw [if_neg hk30] at hf
  exact nomatch hf
set_option maxHeartbeats 400000000 in
set_option maxRecDepth 100000 in
theorem gM_register_3 (l : Launch) (hl9 : l.stackTraces = false) (D : va_G) (cT : Nat → ClassId) (aK aV : Nat → Nat) (sz d n : Nat) (aM : Nat) (ad rd gd vad : Nat → Nat) (st : xS) (x0 : Int32) (out : Nat × Nat × Nat × Nat × xS) (hf : fM_register d n st x0 = some out) (hkd : out.1 = 3) : xMetY l yM_register wyM_register (16 * d + 8) out.2.1 out.2.2.1 (400 * d + 145) D cT aK aV sz [.ref aM, .int x0] (xMw cT aM ad rd gd vad st []) "java/lang/ArithmeticException" (fun u => xE vad st out.2.2.2.2 u) (fun A u t => xB D xcl cT A (xMw cT aM u.1 rd u.2.1 u.2.2 out.2.2.2.2 []) t) := by
  refine vx_ofW (cc := prog_13_method_79_code) (maxL := 2) (ret := (some (.object "ValueBenchModel$V"))) (by decide) rfl ?_
  intro p e s m args below meth c s₁ B hml hne hv
  obtain ⟨rfl, hsz, hZ, hP, hK, hD0⟩ := hv
  have hx := B.exec
  have hb := B.bytes
  have hr := B.returns
  have hts := atoms_spec (ws := wyM_register) B.pre
  have htx := fun w h => hts w (List.mem_cons_of_mem _ h)
  have hown : s.vm.findClass "ValueBenchModel" = some m.cls := findClass_of_methodNamed B.named
  have hlocks := B.notSynchronized
  subst hsz
  have hD := hD0.self (sz := s.heap.size)
  generalize hAe : va_A (xMw cT aM ad rd gd vad st []) s.heap.size = A at hD hZ ⊢
  have hA : ∀ q : Nat, s.heap.size ≤ q → A q := fun q h => by rw [← hAe]; exact Or.inr h
  have hS : va_S A s.heap s.heap [] := va_S.rf
  have hl := lv_entry ([.ref aM, .int x0]) (n := 2) (by simp [lg_sl, xvcat, xrscat, xcI, xcL, xcR, xcN])
  rw [show lv_args 0 [.ref aM, .int x0] = [(0, .ref aM), (1, .int x0)] from by simp [lv_args, xvcat, xrscat, xcI, xcL, xcR, xcN]] at hl
  rw [lg_entry_eq]
  generalize (lg_sl ([.ref aM, .int x0]) ++ List.replicate (2 - (lg_sl ([.ref aM, .int x0])).length) Slot.unset).toArray = ls at hl ⊢
  have hl : lv_has ls 2 [(0, .ref aM), (1, .int x0)] := hl
  have hE : ∀ p, p < xct st → vad p = vad p := fun _ _ => rfl
  have hN : xct st ≤ xct st := Nat.le_refl _
  unfold fM_register at hf
  refine lv_aload_n hx hb dM_register_0 rfl (lv_at hl 0 rfl) ?_
  refine lv_bipush (v := 100) hx hb dM_register_1 (by decide) ?_
  refine xm_put (v := .int 100) (W' := (xMw cT aM ad rd gd vad (xsI st 19 100) [])) (ty := .int) hx hb htx hown hK hP hD hS 19 (by decide) rfl (htx _ kw_5_106) rfl rfl (by decide +kernel) rfl rfl dM_register_3 (fun H locs hP hD hS => ?_)
  refine lv_aload_n hx hb dM_register_6 rfl (lv_at hl 0 rfl) ?_
  refine lv_aload_n hx hb dM_register_7 rfl (lv_at hl 0 rfl) ?_
  refine xm_get (v := .ref (ad 24)) hx hb htx hown hK hP 24 (by decide) rfl (htx _ kw_5_111) rfl dM_register_8 ?_
  refine lv_iload_n hx hb dM_register_11 rfl (lv_at hl 1 rfl) ?_
  obtain ⟨hg1, hf⟩ := xifn hf
  obtain ⟨hg2, hf⟩ := xifn hf
  refine xx_aldA hx hb hK hP 10 5 rfl rfl hg1 dM_register_12 ?_
  refine W.eq (g2 := F0 m 13 ls [xrs ad rd gd (32 + x0.toNatClampNeg), .ref aM]) (by show F0 m _ ls (va_rf (xrg rd x0.toNatClampNeg) :: _) = _; rw [xrgE (Nat.lt_of_not_le hg2)]) ?_
  refine lv_iconst (v := 0) hx hb dM_register_13 (by decide) ?_
  refine lv_aload_n hx hb dM_register_14 rfl (lv_at hl 0 rfl) ?_
  refine xm_get (v := .ref (ad 25)) hx hb htx hown hK hP 25 (by decide) rfl (htx _ kw_5_112) rfl dM_register_15 ?_
  refine lv_iload_n hx hb dM_register_18 rfl (lv_at hl 1 rfl) ?_
  obtain ⟨hg3, hf⟩ := xifn hf
  refine va_iald hx hb hK hP 11 1 rfl rfl hg3 dM_register_19 ?_
  refine W.eq (g2 := F0 m 20 ls [.int ((xba st 25) x0.toNatClampNeg), .int 0, xrs ad rd gd (32 + x0.toNatClampNeg), .ref aM]) rfl ?_
  obtain ⟨o4, hq5, hf⟩ := xbind hf
  by_cases hk6 : o4.1 = 0
  · rw [if_pos hk6] at hf
    obtain ⟨hm7, hf⟩ := xmoE hf
    have hFc := xm_free hD hS hA
    refine va_callq (va_runV (C := "ValueBenchModel") (As := [xrs ad rd gd (32 + x0.toNatClampNeg), .int 0, .int ((xba st 25) x0.toNatClampNeg)]) (rest := []) ⟨hx, hb, hml, hown, htx⟩ (gM_json l hl9 D cT aK aV H.size d n aM ad rd gd vad (xsI st 19 100) (32 + x0.toNatClampNeg) (0 : Int32) ((xba st 25) x0.toNatClampNeg) o4 hq5 hk6) ⟨callB_of 3 htx (xw_goodC kw_5_221) rfl rfl rfl (htx _ kw_1_5) (htx _ kw_5_218) ⟨by decide, by decide, by decide +kernel⟩ ⟨(by show (16 * d + 7) + 1 ≤ 16 * d + 8; omega), (by show 8 + (5 + 11) + (400 * d + 121) ≤ 400 * d + 145; omega)⟩, (htx _ kw_5_220), (htx _ kp_M_json)⟩ ⟨xPre_blind, va_recv hK hP (ci := 5) rfl (q0 := 0) rfl, (fun U hU hW => ⟨rfl, xPre_of hZ hS hFc hP hD hK U hU hW⟩)⟩ rfl rfl hl.1 rfl (xm_room (Nat.le_of_ble_eq_true rfl)) dM_register_20 ⟨hm7.1, hm7.2⟩) hS (fun q _ h => hFc q h) hFc (fun r8 u9 t H1 locs ht hvm hr9 hB hz1 hk1 hS => ?_)
    obtain ⟨hP1, hK1, hD1⟩ := hB
    rw [ht] at hP1
    obtain ⟨ad9, gd10, vad11⟩ := u9
    obtain ⟨hr9, hv12, hn13⟩ := hr9
    have hP : va_P D xcl (xMw cT aM ad9 rd gd10 vad11 o4.2.2.2.2 []) H1 := hP1
    have hD : va_D A (xMw cT aM ad9 rd gd10 vad11 o4.2.2.2.2 []) := hD1.weaken (fun k q _ h => hFc q.1 h)
    generalize H1 = H at hP hS ⊢
    have hE9 : ∀ p, p < xct st → vad11 p = vad p := fun p h => (hv12 p (Nat.lt_of_lt_of_le h hN)).trans (hE p h)
    have hE := hE9
    have hN : xct st ≤ xct o4.2.2.2.2 := Nat.le_trans hN hn13
    rw [hr9]
    refine W.eq (g2 := F0 m 23 ls [xv vad11 o4.2.2.2.1]) (by first | rfl | (skip; rfl)) ?_
    obtain rfl := Option.some.inj hf
    exact absurd (show (0 : Nat) = 3 from hkd) (by decide)
  rw [if_neg hk6] at hf
  by_cases hk14 : o4.1 = 1
  · rw [if_pos hk14] at hf
    obtain ⟨hm15, hf⟩ := xmoE hf
    obtain rfl := Option.some.inj hf
    exact absurd (show (1 : Nat) = 3 from hkd) (by decide)
  rw [if_neg hk14] at hf
  by_cases hk22 : o4.1 = 2
  · rw [if_pos hk22] at hf
    obtain ⟨hm23, hf⟩ := xmoE hf
    obtain rfl := Option.some.inj hf
    exact absurd (show (2 : Nat) = 3 from hkd) (by decide)
  rw [if_neg hk22] at hf
  by_cases hk30 : o4.1 = 3
  · rw [if_pos hk30] at hf
    obtain ⟨hm31, hf⟩ := xmoE hf
    have hFc := xm_free hD hS hA
    refine xx_thr (vx_runV (C := "ValueBenchModel") (As := [xrs ad rd gd (32 + x0.toNatClampNeg), .int 0, .int ((xba st 25) x0.toNatClampNeg)]) (rest := []) ⟨hx, hb, hml, hown, htx⟩ (gM_json_3 l hl9 D cT aK aV H.size d n aM ad rd gd vad (xsI st 19 100) (32 + x0.toNatClampNeg) (0 : Int32) ((xba st 25) x0.toNatClampNeg) o4 hq5 hk30) ⟨callB_of 3 htx (xw_goodC kw_5_221) rfl rfl rfl (htx _ kw_1_5) (htx _ kw_5_218) ⟨by decide, by decide, by decide +kernel⟩ ⟨(by show (16 * d + 7) + 1 ≤ 16 * d + 8; omega), (by show 8 + (5 + 11) + (400 * d + 121) ≤ 400 * d + 145; omega)⟩, (htx _ kw_5_220), (htx _ kp_M_json)⟩ ⟨xPre_blind, va_recv hK hP (ci := 5) rfl (q0 := 0) rfl, (fun U hU hW => ⟨rfl, xPre_of hZ hS hFc hP hD hK U hU hW⟩)⟩ rfl rfl hl.1 rfl (xm_room (Nat.le_of_ble_eq_true rfl)) dM_register_20 ⟨hm31.1, hm31.2⟩) hS hFc (fun q _ h => hFc q h) (fun E ce q9 u9 t H1 locs ht hvm hr9 hB hz1 hk1 hS hce hcv hcl => ?_)
    obtain ⟨rfl, hP1, hK1, hD1⟩ := hB
    rw [ht] at hP1
    obtain ⟨ad33, gd34, vad35⟩ := u9
    obtain ⟨hv36, hn37⟩ := hr9
    have hP : va_P D xcl (xMw cT aM ad33 rd gd34 vad35 o4.2.2.2.2 []) H1 := hP1
    have hD : va_D A (xMw cT aM ad33 rd gd34 vad35 o4.2.2.2.2 []) := hD1.weaken (fun k q _ h => hFc q.1 h)
    generalize H1 = H at hP hS hce ⊢
    have hE9 : ∀ p, p < xct st → vad35 p = vad p := fun p h => (hv36 p (Nat.lt_of_lt_of_le h hN)).trans (hE p h)
    have hE := hE9
    have hN : xct st ≤ xct o4.2.2.2.2 := Nat.le_trans hN hn37
    obtain rfl := Option.some.inj hf
    exact vx_out (E := "java/lang/ArithmeticException") (fun x h => (hne x h).elim) hlocks hce hcv hcl (fun t ht ha => ⟨(ad33, gd34, vad35), ⟨hE, hN⟩, ⟨rfl, by rw [ht]; exact hP, va_K.moved ha hK, hD⟩, hS.F ht⟩) hS.2.2 (Nat.le_refl _) (Nat.le_refl _)
  rw [if_neg hk30] at hf
  exact nomatch hf
set_option maxHeartbeats 400000000 in
set_option maxRecDepth 100000 in
theorem gM_following (l : Launch) (hl9 : l.stackTraces = false) (D : va_G) (cT : Nat → ClassId) (aK aV : Nat → Nat) (fr lo : Nat) (rec : xS → Nat → Nat → Option (Int32)) (hrec : ∀ (sz aM : Nat) (ad rd gd vad : Nat → Nat) (st : xS) (c0 : Nat) (c1 : Nat) (out : Int32), rec st c0 c1 = some out → xMet l yM_order wyM_order fr 0 0 lo D cT aK aV sz [.ref aM, xv vad c0, xv vad c1] (xMw cT aM ad rd gd vad st []) (fun A => va_Qi (fun (r : Int32) (_ : Unit) => r = out) (fun _ t => xB D xcl cT A (xMw cT aM ad rd gd vad st []) t) A)) (sz n : Nat) (aM : Nat) (ad rd gd vad : Nat → Nat) (st : xS) (c0 : Nat) (c1 : Nat) (out : Nat) (hf : fM_following rec n st c0 c1 = some out) : xMet l yM_following wyM_following (fr + 1) 0 0 (lo + 24) D cT aK aV sz [.ref aM, xv vad c0, xv vad c1] (xMw cT aM ad rd gd vad st []) (fun A => va_Qq (fun (r : Option Nat) (_ : Unit) => r = xca vad out) (fun _ t => xB D xcl cT A (xMw cT aM ad rd gd vad st []) t) A) := by
  refine Met.ofW (cc := prog_13_method_23_code) (maxL := 6) (ret := (some (.object "ValueBenchModel$V"))) (by decide) rfl ?_
  intro p e s m args below meth c s₁ B hml hv
  obtain ⟨rfl, hsz, hZ, hP, hK, hD0⟩ := hv
  have hx := B.exec
  have hb := B.bytes
  have hr := B.returns
  have hts := atoms_spec (ws := wyM_following) B.pre
  have htx := fun w h => hts w (List.mem_cons_of_mem _ h)
  have hown : s.vm.findClass "ValueBenchModel" = some m.cls := findClass_of_methodNamed B.named
  have hlocks := B.notSynchronized
  subst hsz
  have hD := hD0.self (sz := s.heap.size)
  generalize hAe : va_A (xMw cT aM ad rd gd vad st []) s.heap.size = A at hD hZ ⊢
  have hA : ∀ q : Nat, s.heap.size ≤ q → A q := fun q h => by rw [← hAe]; exact Or.inr h
  have hS : va_S A s.heap s.heap [] := va_S.rf
  have hl := lv_entry ([.ref aM, xv vad c0, xv vad c1]) (n := 6) (by simp [lg_sl, xvcat, xrscat, xcI, xcL, xcR, xcN])
  rw [show lv_args 0 [.ref aM, xv vad c0, xv vad c1] = [(0, .ref aM), (1, xv vad c0), (2, xv vad c1)] from by simp [lv_args, xvcat, xrscat, xcI, xcL, xcR, xcN]] at hl
  rw [lg_entry_eq]
  generalize (lg_sl ([.ref aM, xv vad c0, xv vad c1]) ++ List.replicate (6 - (lg_sl ([.ref aM, xv vad c0, xv vad c1])).length) Slot.unset).toArray = ls at hl ⊢
  have hl : lv_has ls 6 [(0, .ref aM), (1, xv vad c0), (2, xv vad c1)] := hl
  unfold fM_following at hf
  refine xloopM (σ := Nat × Int32 × Nat × Nat × Nat) (fun n x H locs ls => (x.1 = 1 ∧ fM_following_b rec st n x.1 x.2.1 x.2.2.1 x.2.2.2.1 x.2.2.2.2 = some out ∧ va_P D xcl (xMw cT aM ad rd gd vad st []) H ∧ va_D A (xMw cT aM ad rd gd vad st []) ∧ va_S A s.heap H locs ∧ lv_has ls 6 [(4, .int x.2.1), (3, xv vad x.2.2.1), (0, .ref aM), (1, xv vad x.2.2.2.1), (2, xv vad x.2.2.2.2)])) (fun x => 5) (fun x => 0) (fun x => 0) (fun x H locs ls h => by (exact absurd h.2.1 (by rw [fM_following_b]; exact fun h => nomatch h))) (fun n ih x H locs ls hv => ?_) (fun key => ?_)
  · obtain ⟨lb, y4, y3, y1, y2⟩ := x
    rcases hv with ⟨hj, hf, hP, hD, hS, hl⟩
    subst hj
    have hf : fM_following_b rec st (n + 1) 1 y4 y3 y1 y2 = some out := hf
    rw [fM_following_b] at hf
    obtain ⟨hP, hD⟩ : xPD D xcl A (xMw cT aM ad rd gd vad st []) H := ⟨hP, hD⟩
    have hl : lv_has ls 6 [(4, .int y4), (3, xv vad y3), (0, .ref aM), (1, xv vad y1), (2, xv vad y2)] := hl
    refine W.eq (g2 := F0 m 5 ls []) rfl ?_
    refine lv_iload hx hb dM_following_5 (lv_at hl 0 rfl) ?_
    refine xm_aload_n hx hb (xvor _ _) dM_following_7 rfl (lv_at hl 3 rfl) ?_
    obtain ⟨hg1, hf⟩ := xifn hf
    refine xm_vget (v := .int ((xpi st 3) (y1 - 1))) hx hb htx hown hK hP 3 (by decide) hg1 rfl ((hZ.1 (103, "count", "I") (List.mem_of_getElem? (i := 3) rfl)).use rfl) rfl dM_following_8 ?_
    refine lv_icmp_ge (tgt := 60) hx hb dM_following_11 (by decide) (fun hc => ?_) (fun hc => ?_)
    · rw [if_pos hc] at hf
      refine xm_aload_n hx hb (xvor _ _) dM_following_60 rfl (lv_at hl 1 rfl) ?_
      obtain rfl := Option.some.inj hf
      exact W.aret (v := xv vad y3) hx hb hr (Or.inl ⟨_, rfl⟩) (xvor _ _) (fun t ht hW => ⟨⟨xca vad y3, (), rfl, rfl, by rw [ht]; exact hP, va_K.moved hW.alike hK, hD⟩, hS.F ht⟩) hS.2.2 dM_following_61
    · rw [if_neg hc] at hf
      refine lv_aload_n hx hb dM_following_14 rfl (lv_at hl 2 rfl) ?_
      refine xm_aload_n hx hb (xvor _ _) dM_following_15 rfl (lv_at hl 3 rfl) ?_
      refine lv_iload hx hb dM_following_16 (lv_at hl 0 rfl) ?_
      obtain ⟨o2, hq3, hf⟩ := xbind hf
      have hFc := xm_free hD hS hA
      refine va_callq (va_runV (C := "ValueBenchModel") (As := [xv vad y1, .int y4]) (rest := []) ⟨hx, hb, hml, hown, htx⟩ (gM_name l hl9 D cT aK aV H.size n aM ad rd gd vad st y1 y4 o2 hq3) ⟨callB_of 2 htx (xw_goodC kw_6_154) rfl rfl rfl (htx _ kw_1_5) (htx _ kw_6_151) ⟨by decide, by decide, by decide +kernel⟩ ⟨Nat.le_of_ble_eq_true rfl, Nat.le_of_ble_eq_true rfl⟩, (htx _ kw_6_153), (htx _ kp_M_name)⟩ ⟨xPre_blind, va_recv hK hP (ci := 5) rfl (q0 := 0) rfl, (fun U hU hW => ⟨rfl, xPre_of hZ hS hFc hP hD hK U hU hW⟩)⟩ rfl rfl hl.1 rfl (xm_room (Nat.le_of_ble_eq_true rfl)) dM_following_18 ⟨Nat.le_of_ble_eq_true rfl, Nat.le_of_ble_eq_true rfl⟩) hS (fun q _ h => hFc q h) hFc (fun r4 u9 t H1 locs ht hvm hr9 hB hz1 hk1 hS => ?_)
      obtain ⟨hP1, hK1, hD1⟩ := hB
      rw [ht] at hP1
      have hP : va_P D xcl (xMw cT aM ad rd gd vad st []) H1 := hP1
      have hD : va_D A (xMw cT aM ad rd gd vad st []) := hD1.weaken (fun k q _ h => hFc q.1 h)
      generalize H1 = H at hP hS ⊢
      rw [hr9]
      refine W.eq (g2 := F0 m 21 ls [xv vad o2]) (by first | rfl | (skip; rfl)) ?_
      refine xm_astore (lv' := [(5, xv vad o2), (4, .int y4), (3, xv vad y3), (0, .ref aM), (1, xv vad y1), (2, xv vad y2)]) hx hb (xvor _ _) dM_following_21 hl (by decide) rfl (fun ls hl => ?_)
      refine xm_aload_n hx hb (xvor _ _) dM_following_23 rfl (lv_at hl 5 rfl) ?_
      refine xm_ifnull (tgt := 37) hx hb dM_following_24 (by decide) (fun hc => ?_) (fun hc => ?_)
      · rw [if_pos hc] at hf
        refine xm_aload_n hx hb (xvor _ _) dM_following_37 rfl (lv_at hl 2 rfl) ?_
        refine xm_ifnull (tgt := 51) hx hb dM_following_38 (by decide) (fun hc => ?_) (fun hc => ?_)
        · rw [if_pos hc] at hf
          refine xm_aload hx hb (xvor _ _) dM_following_51 (lv_at hl 0 rfl) ?_
          refine xm_astore_n (lv' := [(3, xv vad o2), (5, xv vad o2), (4, .int y4), (0, .ref aM), (1, xv vad y1), (2, xv vad y2)]) hx hb (xvor _ _) dM_following_53 rfl hl (by decide) (by simp only [List.filter, xvcat, xrscat, xcI, xcL, xcR, xcN]; rfl) (fun ls hl => ?_)
          refine lv_iinc (v := (y4 + 1)) (lv' := [(4, .int (y4 + 1)), (3, xv vad o2), (5, xv vad o2), (0, .ref aM), (1, xv vad y1), (2, xv vad y2)]) hx hb dM_following_54 hl (k := 2) rfl rfl (by decide) (by simp only [List.filter, xvcat, xrscat, xcI, xcL, xcR, xcN]; rfl) (fun ls hl => ?_)
          refine lv_goto (tgt := 5) hx hb dM_following_57 (by decide) ?_
          exact ih (1, (y4 + 1), o2, y1, y2) _ _ ls (⟨rfl, hf, hP, hD, hS, lv_sub hl [0, 1, 3, 4, 5] rfl⟩)
        · rw [if_neg hc] at hf
          refine lv_aload_n hx hb dM_following_41 rfl (lv_at hl 3 rfl) ?_
          refine xm_aload hx hb (xvor _ _) dM_following_42 (lv_at hl 0 rfl) ?_
          refine xm_aload_n hx hb (xvor _ _) dM_following_44 rfl (lv_at hl 2 rfl) ?_
          obtain ⟨o5, hq6, hf⟩ := xbind hf
          have hFc := xm_free hD hS hA
          refine va_calli (va_runV (C := "ValueBenchModel") (As := [xv vad o2, xv vad y3]) (rest := []) ⟨hx, hb, hml, hown, htx⟩ (hrec H.size aM ad rd gd vad st o2 y3 o5 hq6) ⟨callB_of 2 htx (xw_goodC kw_7_25) rfl rfl rfl (htx _ kw_1_5) (htx _ kw_7_22) ⟨by decide, by decide, by decide +kernel⟩ ⟨(by show (fr) + 1 ≤ fr + 1; omega), (by show 8 + (5 + 11) + (lo) ≤ lo + 24; omega)⟩, (htx _ kw_7_24), (htx _ kp_M_order)⟩ ⟨xPre_blind, va_recv hK hP (ci := 5) rfl (q0 := 0) rfl, (fun U hU hW => ⟨rfl, xPre_of hZ hS hFc hP hD hK U hU hW⟩)⟩ rfl rfl hl.1 rfl (xm_room (Nat.le_of_ble_eq_true rfl)) dM_following_45 ⟨Nat.le_of_ble_eq_true rfl, Nat.le_of_ble_eq_true rfl⟩) hS (fun q _ h => hFc q h) hFc (fun r7 u9 t H1 locs ht hvm hr9 hB hz1 hk1 hS => ?_)
          obtain ⟨hP1, hK1, hD1⟩ := hB
          rw [ht] at hP1
          have hP : va_P D xcl (xMw cT aM ad rd gd vad st []) H1 := hP1
          have hD : va_D A (xMw cT aM ad rd gd vad st []) := hD1.weaken (fun k q _ h => hFc q.1 h)
          generalize H1 = H at hP hS ⊢
          rw [hr9]
          refine W.eq (g2 := F0 m 48 ls [.int o5]) (by first | rfl | (skip; rfl)) ?_
          refine lv_if_ge (tgt := 54) hx hb dM_following_48 (by decide) (fun hc => ?_) (fun hc => ?_)
          · rw [if_pos hc] at hf
            refine lv_iinc (v := (y4 + 1)) (lv' := [(4, .int (y4 + 1)), (5, xv vad o2), (3, xv vad y3), (0, .ref aM), (1, xv vad y1), (2, xv vad y2)]) hx hb dM_following_54 hl (k := 1) rfl rfl (by decide) (by simp only [List.filter, xvcat, xrscat, xcI, xcL, xcR, xcN]; rfl) (fun ls hl => ?_)
            refine lv_goto (tgt := 5) hx hb dM_following_57 (by decide) ?_
            exact ih (1, (y4 + 1), y3, y1, y2) _ _ ls (⟨rfl, hf, hP, hD, hS, lv_sub hl [0, 2, 3, 4, 5] rfl⟩)
          · rw [if_neg hc] at hf
            refine xm_aload hx hb (xvor _ _) dM_following_51 (lv_at hl 0 rfl) ?_
            refine xm_astore_n (lv' := [(3, xv vad o2), (5, xv vad o2), (4, .int y4), (0, .ref aM), (1, xv vad y1), (2, xv vad y2)]) hx hb (xvor _ _) dM_following_53 rfl hl (by decide) (by simp only [List.filter, xvcat, xrscat, xcI, xcL, xcR, xcN]; rfl) (fun ls hl => ?_)
            refine lv_iinc (v := (y4 + 1)) (lv' := [(4, .int (y4 + 1)), (3, xv vad o2), (5, xv vad o2), (0, .ref aM), (1, xv vad y1), (2, xv vad y2)]) hx hb dM_following_54 hl (k := 2) rfl rfl (by decide) (by simp only [List.filter, xvcat, xrscat, xcI, xcL, xcR, xcN]; rfl) (fun ls hl => ?_)
            refine lv_goto (tgt := 5) hx hb dM_following_57 (by decide) ?_
            exact ih (1, (y4 + 1), o2, y1, y2) _ _ ls (⟨rfl, hf, hP, hD, hS, lv_sub hl [0, 1, 3, 4, 5] rfl⟩)
      · rw [if_neg hc] at hf
        refine lv_aload_n hx hb dM_following_27 rfl (lv_at hl 3 rfl) ?_
        refine xm_aload hx hb (xvor _ _) dM_following_28 (lv_at hl 0 rfl) ?_
        refine xm_aload_n hx hb (xvor _ _) dM_following_30 rfl (lv_at hl 5 rfl) ?_
        obtain ⟨o5, hq6, hf⟩ := xbind hf
        have hFc := xm_free hD hS hA
        refine va_calli (va_runV (C := "ValueBenchModel") (As := [xv vad o2, xv vad y2]) (rest := []) ⟨hx, hb, hml, hown, htx⟩ (hrec H.size aM ad rd gd vad st o2 y2 o5 hq6) ⟨callB_of 2 htx (xw_goodC kw_7_25) rfl rfl rfl (htx _ kw_1_5) (htx _ kw_7_22) ⟨by decide, by decide, by decide +kernel⟩ ⟨(by show (fr) + 1 ≤ fr + 1; omega), (by show 8 + (5 + 11) + (lo) ≤ lo + 24; omega)⟩, (htx _ kw_7_24), (htx _ kp_M_order)⟩ ⟨xPre_blind, va_recv hK hP (ci := 5) rfl (q0 := 0) rfl, (fun U hU hW => ⟨rfl, xPre_of hZ hS hFc hP hD hK U hU hW⟩)⟩ rfl rfl hl.1 rfl (xm_room (Nat.le_of_ble_eq_true rfl)) dM_following_31 ⟨Nat.le_of_ble_eq_true rfl, Nat.le_of_ble_eq_true rfl⟩) hS (fun q _ h => hFc q h) hFc (fun r7 u9 t H1 locs ht hvm hr9 hB hz1 hk1 hS => ?_)
        obtain ⟨hP1, hK1, hD1⟩ := hB
        rw [ht] at hP1
        have hP : va_P D xcl (xMw cT aM ad rd gd vad st []) H1 := hP1
        have hD : va_D A (xMw cT aM ad rd gd vad st []) := hD1.weaken (fun k q _ h => hFc q.1 h)
        generalize H1 = H at hP hS ⊢
        rw [hr9]
        refine W.eq (g2 := F0 m 34 ls [.int o5]) (by first | rfl | (skip; rfl)) ?_
        refine lv_if_le (tgt := 54) hx hb dM_following_34 (by decide) (fun hc => ?_) (fun hc => ?_)
        · rw [if_pos hc] at hf
          refine lv_iinc (v := (y4 + 1)) (lv' := [(4, .int (y4 + 1)), (5, xv vad o2), (3, xv vad y3), (0, .ref aM), (1, xv vad y1), (2, xv vad y2)]) hx hb dM_following_54 hl (k := 1) rfl rfl (by decide) (by simp only [List.filter, xvcat, xrscat, xcI, xcL, xcR, xcN]; rfl) (fun ls hl => ?_)
          refine lv_goto (tgt := 5) hx hb dM_following_57 (by decide) ?_
          exact ih (1, (y4 + 1), y3, y1, y2) _ _ ls (⟨rfl, hf, hP, hD, hS, lv_sub hl [0, 2, 3, 4, 5] rfl⟩)
        · rw [if_neg hc] at hf
          refine xm_aload_n hx hb (xvor _ _) dM_following_37 rfl (lv_at hl 2 rfl) ?_
          refine xm_ifnull (tgt := 51) hx hb dM_following_38 (by decide) (fun hc => ?_) (fun hc => ?_)
          · rw [if_pos hc] at hf
            refine xm_aload hx hb (xvor _ _) dM_following_51 (lv_at hl 0 rfl) ?_
            refine xm_astore_n (lv' := [(3, xv vad o2), (5, xv vad o2), (4, .int y4), (0, .ref aM), (1, xv vad y1), (2, xv vad y2)]) hx hb (xvor _ _) dM_following_53 rfl hl (by decide) (by simp only [List.filter, xvcat, xrscat, xcI, xcL, xcR, xcN]; rfl) (fun ls hl => ?_)
            refine lv_iinc (v := (y4 + 1)) (lv' := [(4, .int (y4 + 1)), (3, xv vad o2), (5, xv vad o2), (0, .ref aM), (1, xv vad y1), (2, xv vad y2)]) hx hb dM_following_54 hl (k := 2) rfl rfl (by decide) (by simp only [List.filter, xvcat, xrscat, xcI, xcL, xcR, xcN]; rfl) (fun ls hl => ?_)
            refine lv_goto (tgt := 5) hx hb dM_following_57 (by decide) ?_
            exact ih (1, (y4 + 1), o2, y1, y2) _ _ ls (⟨rfl, hf, hP, hD, hS, lv_sub hl [0, 1, 3, 4, 5] rfl⟩)
          · rw [if_neg hc] at hf
            refine lv_aload_n hx hb dM_following_41 rfl (lv_at hl 3 rfl) ?_
            refine xm_aload hx hb (xvor _ _) dM_following_42 (lv_at hl 0 rfl) ?_
            refine xm_aload_n hx hb (xvor _ _) dM_following_44 rfl (lv_at hl 2 rfl) ?_
            obtain ⟨o8, hq9, hf⟩ := xbind hf
            have hFc := xm_free hD hS hA
            refine va_calli (va_runV (C := "ValueBenchModel") (As := [xv vad o2, xv vad y3]) (rest := []) ⟨hx, hb, hml, hown, htx⟩ (hrec H.size aM ad rd gd vad st o2 y3 o8 hq9) ⟨callB_of 2 htx (xw_goodC kw_7_25) rfl rfl rfl (htx _ kw_1_5) (htx _ kw_7_22) ⟨by decide, by decide, by decide +kernel⟩ ⟨(by show (fr) + 1 ≤ fr + 1; omega), (by show 8 + (5 + 11) + (lo) ≤ lo + 24; omega)⟩, (htx _ kw_7_24), (htx _ kp_M_order)⟩ ⟨xPre_blind, va_recv hK hP (ci := 5) rfl (q0 := 0) rfl, (fun U hU hW => ⟨rfl, xPre_of hZ hS hFc hP hD hK U hU hW⟩)⟩ rfl rfl hl.1 rfl (xm_room (Nat.le_of_ble_eq_true rfl)) dM_following_45 ⟨Nat.le_of_ble_eq_true rfl, Nat.le_of_ble_eq_true rfl⟩) hS (fun q _ h => hFc q h) hFc (fun r10 u9 t H1 locs ht hvm hr9 hB hz1 hk1 hS => ?_)
            obtain ⟨hP1, hK1, hD1⟩ := hB
            rw [ht] at hP1
            have hP : va_P D xcl (xMw cT aM ad rd gd vad st []) H1 := hP1
            have hD : va_D A (xMw cT aM ad rd gd vad st []) := hD1.weaken (fun k q _ h => hFc q.1 h)
            generalize H1 = H at hP hS ⊢
            rw [hr9]
            refine W.eq (g2 := F0 m 48 ls [.int o8]) (by first | rfl | (skip; rfl)) ?_
            refine lv_if_ge (tgt := 54) hx hb dM_following_48 (by decide) (fun hc => ?_) (fun hc => ?_)
            · rw [if_pos hc] at hf
              refine lv_iinc (v := (y4 + 1)) (lv' := [(4, .int (y4 + 1)), (5, xv vad o2), (3, xv vad y3), (0, .ref aM), (1, xv vad y1), (2, xv vad y2)]) hx hb dM_following_54 hl (k := 1) rfl rfl (by decide) (by simp only [List.filter, xvcat, xrscat, xcI, xcL, xcR, xcN]; rfl) (fun ls hl => ?_)
              refine lv_goto (tgt := 5) hx hb dM_following_57 (by decide) ?_
              exact ih (1, (y4 + 1), y3, y1, y2) _ _ ls (⟨rfl, hf, hP, hD, hS, lv_sub hl [0, 2, 3, 4, 5] rfl⟩)
            · rw [if_neg hc] at hf
              refine xm_aload hx hb (xvor _ _) dM_following_51 (lv_at hl 0 rfl) ?_
              refine xm_astore_n (lv' := [(3, xv vad o2), (5, xv vad o2), (4, .int y4), (0, .ref aM), (1, xv vad y1), (2, xv vad y2)]) hx hb (xvor _ _) dM_following_53 rfl hl (by decide) (by simp only [List.filter, xvcat, xrscat, xcI, xcL, xcR, xcN]; rfl) (fun ls hl => ?_)
              refine lv_iinc (v := (y4 + 1)) (lv' := [(4, .int (y4 + 1)), (3, xv vad o2), (5, xv vad o2), (0, .ref aM), (1, xv vad y1), (2, xv vad y2)]) hx hb dM_following_54 hl (k := 2) rfl rfl (by decide) (by simp only [List.filter, xvcat, xrscat, xcI, xcL, xcR, xcN]; rfl) (fun ls hl => ?_)
              refine lv_goto (tgt := 5) hx hb dM_following_57 (by decide) ?_
              exact ih (1, (y4 + 1), o2, y1, y2) _ _ ls (⟨rfl, hf, hP, hD, hS, lv_sub hl [0, 1, 3, 4, 5] rfl⟩)
  refine lv_null hx hb dM_following_0 ?_
  refine lv_astore_nN (lv' := [(3, .null), (0, .ref aM), (1, xv vad c0), (2, xv vad c1)]) hx hb dM_following_1 rfl hl (by decide) (by simp only [List.filter, xvcat, xrscat, xcI, xcL, xcR, xcN]; rfl) (fun ls hl => ?_)
  refine lv_iconst (v := 0) hx hb dM_following_2 (by decide) ?_
  refine lv_istore (lv' := [(4, .int 0), (3, .null), (0, .ref aM), (1, xv vad c0), (2, xv vad c1)]) hx hb dM_following_3 hl (by decide) rfl (fun ls hl => ?_)
  exact key n (1, (0 : Int32), 0, c0, c1) _ _ ls (⟨rfl, hf, hP, hD, hS, lv_sub hl [0, 1, 2, 3, 4] rfl⟩)
set_option maxHeartbeats 400000000 in
set_option maxRecDepth 100000 in
theorem gM_objects (l : Launch) (hl9 : l.stackTraces = false) (D : va_G) (cT : Nat → ClassId) (aK aV : Nat → Nat) (fr lo : Nat) (rec : xS → Nat → Nat → Option (Int32)) (hrec : ∀ (sz aM : Nat) (ad rd gd vad : Nat → Nat) (st : xS) (c0 : Nat) (c1 : Nat) (out : Int32), rec st c0 c1 = some out → xMet l yM_order wyM_order fr 0 0 lo D cT aK aV sz [.ref aM, xv vad c0, xv vad c1] (xMw cT aM ad rd gd vad st []) (fun A => va_Qi (fun (r : Int32) (_ : Unit) => r = out) (fun _ t => xB D xcl cT A (xMw cT aM ad rd gd vad st []) t) A)) (sz n : Nat) (aM : Nat) (ad rd gd vad : Nat → Nat) (st : xS) (c0 : Nat) (c1 : Nat) (out : Int32) (hf : fM_objects rec n st c0 c1 = some out) : xMet l yM_objects wyM_objects (fr + 2) 0 0 (lo + 49) D cT aK aV sz [.ref aM, xv vad c0, xv vad c1] (xMw cT aM ad rd gd vad st []) (fun A => va_Qi (fun (r : Int32) (_ : Unit) => r = out) (fun _ t => xB D xcl cT A (xMw cT aM ad rd gd vad st []) t) A) := by
  refine Met.ofW (cc := prog_13_method_24_code) (maxL := 7) (ret := (some .int)) (by decide) rfl ?_
  intro p e s m args below meth c s₁ B hml hv
  obtain ⟨rfl, hsz, hZ, hP, hK, hD0⟩ := hv
  have hx := B.exec
  have hb := B.bytes
  have hr := B.returns
  have hts := atoms_spec (ws := wyM_objects) B.pre
  have htx := fun w h => hts w (List.mem_cons_of_mem _ h)
  have hown : s.vm.findClass "ValueBenchModel" = some m.cls := findClass_of_methodNamed B.named
  have hlocks := B.notSynchronized
  subst hsz
  have hD := hD0.self (sz := s.heap.size)
  generalize hAe : va_A (xMw cT aM ad rd gd vad st []) s.heap.size = A at hD hZ ⊢
  have hA : ∀ q : Nat, s.heap.size ≤ q → A q := fun q h => by rw [← hAe]; exact Or.inr h
  have hS : va_S A s.heap s.heap [] := va_S.rf
  have hl := lv_entry ([.ref aM, xv vad c0, xv vad c1]) (n := 7) (by simp [lg_sl, xvcat, xrscat, xcI, xcL, xcR, xcN])
  rw [show lv_args 0 [.ref aM, xv vad c0, xv vad c1] = [(0, .ref aM), (1, xv vad c0), (2, xv vad c1)] from by simp [lv_args, xvcat, xrscat, xcI, xcL, xcR, xcN]] at hl
  rw [lg_entry_eq]
  generalize (lg_sl ([.ref aM, xv vad c0, xv vad c1]) ++ List.replicate (7 - (lg_sl ([.ref aM, xv vad c0, xv vad c1])).length) Slot.unset).toArray = ls at hl ⊢
  have hl : lv_has ls 7 [(0, .ref aM), (1, xv vad c0), (2, xv vad c1)] := hl
  unfold fM_objects at hf
  refine xloopM (σ := Nat × Int32 × Nat × Nat × Nat × Nat) (fun n x H locs ls => (x.1 = 1 ∧ fM_objects_b rec st n x.1 x.2.1 x.2.2.1 x.2.2.2.1 x.2.2.2.2.1 x.2.2.2.2.2 = some out ∧ va_P D xcl (xMw cT aM ad rd gd vad st []) H ∧ va_D A (xMw cT aM ad rd gd vad st []) ∧ va_S A s.heap H locs ∧ lv_has ls 7 [(5, .int x.2.1), (4, xv vad x.2.2.1), (3, xv vad x.2.2.2.1), (0, .ref aM), (1, xv vad x.2.2.2.2.1), (2, xv vad x.2.2.2.2.2)]) ∨ (x.1 = 2 ∧ fM_objects_b rec st n x.1 x.2.1 x.2.2.1 x.2.2.2.1 x.2.2.2.2.1 x.2.2.2.2.2 = some out ∧ va_P D xcl (xMw cT aM ad rd gd vad st []) H ∧ va_D A (xMw cT aM ad rd gd vad st []) ∧ va_S A s.heap H locs ∧ lv_has ls 7 [(5, .int x.2.1), (3, xv vad x.2.2.2.1), (0, .ref aM), (1, xv vad x.2.2.2.2.1), (2, xv vad x.2.2.2.2.2)])) (fun x => if x.1 = 1 then 8 else 91) (fun x => 0) (fun x => 0) (fun x H locs ls h => by rcases h with h | h; (exact absurd h.2.1 (by rw [fM_objects_b]; exact fun h => nomatch h)); (exact absurd h.2.1 (by rw [fM_objects_b]; exact fun h => nomatch h))) (fun n ih x H locs ls hv => ?_) (fun key => ?_)
  · obtain ⟨lb, y5, y4, y3, y1, y2⟩ := x
    rcases hv with ⟨hj, hf, hP, hD, hS, hl⟩ | ⟨hj, hf, hP, hD, hS, hl⟩
    · subst hj
      have hf : fM_objects_b rec st (n + 1) 1 y5 y4 y3 y1 y2 = some out := hf
      rw [fM_objects_b, if_pos rfl] at hf
      obtain ⟨hP, hD⟩ : xPD D xcl A (xMw cT aM ad rd gd vad st []) H := ⟨hP, hD⟩
      have hl : lv_has ls 7 [(5, .int y5), (4, xv vad y4), (3, xv vad y3), (0, .ref aM), (1, xv vad y1), (2, xv vad y2)] := hl
      refine W.eq (g2 := F0 m 8 ls []) rfl ?_
      refine lv_iload hx hb dM_objects_8 (lv_at hl 0 rfl) ?_
      refine xm_aload_n hx hb (xvor _ _) dM_objects_10 rfl (lv_at hl 4 rfl) ?_
      obtain ⟨hg1, hf⟩ := xifn hf
      refine xm_vget (v := .int ((xpi st 3) (y1 - 1))) hx hb htx hown hK hP 3 (by decide) hg1 rfl ((hZ.1 (103, "count", "I") (List.mem_of_getElem? (i := 3) rfl)).use rfl) rfl dM_objects_11 ?_
      refine lv_icmp_ge (tgt := 65) hx hb dM_objects_14 (by decide) (fun hc => ?_) (fun hc => ?_)
      · rw [if_pos hc] at hf
        refine xm_aload_n hx hb (xvor _ _) dM_objects_65 rfl (lv_at hl 4 rfl) ?_
        refine xm_vget (v := .int ((xpi st 3) (y1 - 1))) hx hb htx hown hK hP 3 (by decide) hg1 rfl ((hZ.1 (103, "count", "I") (List.mem_of_getElem? (i := 3) rfl)).use rfl) rfl dM_objects_66 ?_
        refine xm_aload_n hx hb (xvor _ _) dM_objects_69 rfl (lv_at hl 5 rfl) ?_
        obtain ⟨hg2, hf⟩ := xifn hf
        refine xm_vget (v := .int ((xpi st 3) (y2 - 1))) hx hb htx hown hK hP 3 (by decide) hg2 rfl ((hZ.1 (103, "count", "I") (List.mem_of_getElem? (i := 3) rfl)).use rfl) rfl dM_objects_70 ?_
        refine lv_icmp_eq (tgt := 86) hx hb dM_objects_73 (by decide) (fun hc => ?_) (fun hc => ?_)
        · rw [if_pos hc] at hf
          refine lv_null hx hb dM_objects_86 ?_
          refine lv_astore_nN (lv' := [(3, .null), (5, .int y5), (4, xv vad y4), (0, .ref aM), (1, xv vad y1), (2, xv vad y2)]) hx hb dM_objects_87 rfl hl (by decide) (by simp only [List.filter, xvcat, xrscat, xcI, xcL, xcR, xcN]; rfl) (fun ls hl => ?_)
          refine lv_iconst (v := 0) hx hb dM_objects_88 (by decide) ?_
          refine lv_istore (lv' := [(5, .int 0), (3, .null), (4, xv vad y4), (0, .ref aM), (1, xv vad y1), (2, xv vad y2)]) hx hb dM_objects_89 hl (by decide) (by simp only [List.filter, xvcat, xrscat, xcI, xcL, xcR, xcN]; rfl) (fun ls hl => ?_)
          have hl := lv_sub (l' := [(5, .int 0), (3, .null), (0, .ref aM), (1, xv vad y1), (2, xv vad y2)]) hl [0, 1, 3, 4, 5] rfl
          exact ih (2, (0 : Int32), 0, 0, y1, y2) _ _ ls (Or.inr (⟨rfl, hf, hP, hD, hS, lv_sub hl [0, 1, 2, 3, 4] rfl⟩))
        · rw [if_neg hc] at hf
          refine xm_aload_n hx hb (xvor _ _) dM_objects_76 rfl (lv_at hl 4 rfl) ?_
          refine xm_vget (v := .int ((xpi st 3) (y1 - 1))) hx hb htx hown hK hP 3 (by decide) hg1 rfl ((hZ.1 (103, "count", "I") (List.mem_of_getElem? (i := 3) rfl)).use rfl) rfl dM_objects_77 ?_
          refine xm_aload_n hx hb (xvor _ _) dM_objects_80 rfl (lv_at hl 5 rfl) ?_
          refine xm_vget (v := .int ((xpi st 3) (y2 - 1))) hx hb htx hown hK hP 3 (by decide) hg2 rfl ((hZ.1 (103, "count", "I") (List.mem_of_getElem? (i := 3) rfl)).use rfl) rfl dM_objects_81 ?_
          refine lv_isub hx hb dM_objects_84 ?_
          obtain rfl := Option.some.inj hf
          exact W.iret (v := (((xpi st 3) (y1 - 1)) - ((xpi st 3) (y2 - 1)))) hx hb hr (fun t ht hW => ⟨⟨(((xpi st 3) (y1 - 1)) - ((xpi st 3) (y2 - 1))), (), rfl, rfl, by rw [ht]; exact hP, va_K.moved hW.alike hK, hD⟩, hS.F ht⟩) hS.2.2 dM_objects_85
      · rw [if_neg hc] at hf
        refine lv_iload hx hb dM_objects_17 (lv_at hl 0 rfl) ?_
        refine xm_aload_n hx hb (xvor _ _) dM_objects_19 rfl (lv_at hl 5 rfl) ?_
        obtain ⟨hg2, hf⟩ := xifn hf
        refine xm_vget (v := .int ((xpi st 3) (y2 - 1))) hx hb htx hown hK hP 3 (by decide) hg2 rfl ((hZ.1 (103, "count", "I") (List.mem_of_getElem? (i := 3) rfl)).use rfl) rfl dM_objects_20 ?_
        refine lv_icmp_ge (tgt := 65) hx hb dM_objects_23 (by decide) (fun hc => ?_) (fun hc => ?_)
        · rw [if_pos hc] at hf
          refine xm_aload_n hx hb (xvor _ _) dM_objects_65 rfl (lv_at hl 4 rfl) ?_
          refine xm_vget (v := .int ((xpi st 3) (y1 - 1))) hx hb htx hown hK hP 3 (by decide) hg1 rfl ((hZ.1 (103, "count", "I") (List.mem_of_getElem? (i := 3) rfl)).use rfl) rfl dM_objects_66 ?_
          refine xm_aload_n hx hb (xvor _ _) dM_objects_69 rfl (lv_at hl 5 rfl) ?_
          refine xm_vget (v := .int ((xpi st 3) (y2 - 1))) hx hb htx hown hK hP 3 (by decide) hg2 rfl ((hZ.1 (103, "count", "I") (List.mem_of_getElem? (i := 3) rfl)).use rfl) rfl dM_objects_70 ?_
          refine lv_icmp_eq (tgt := 86) hx hb dM_objects_73 (by decide) (fun hc => ?_) (fun hc => ?_)
          · rw [if_pos hc] at hf
            refine lv_null hx hb dM_objects_86 ?_
            refine lv_astore_nN (lv' := [(3, .null), (5, .int y5), (4, xv vad y4), (0, .ref aM), (1, xv vad y1), (2, xv vad y2)]) hx hb dM_objects_87 rfl hl (by decide) (by simp only [List.filter, xvcat, xrscat, xcI, xcL, xcR, xcN]; rfl) (fun ls hl => ?_)
            refine lv_iconst (v := 0) hx hb dM_objects_88 (by decide) ?_
            refine lv_istore (lv' := [(5, .int 0), (3, .null), (4, xv vad y4), (0, .ref aM), (1, xv vad y1), (2, xv vad y2)]) hx hb dM_objects_89 hl (by decide) (by simp only [List.filter, xvcat, xrscat, xcI, xcL, xcR, xcN]; rfl) (fun ls hl => ?_)
            have hl := lv_sub (l' := [(5, .int 0), (3, .null), (0, .ref aM), (1, xv vad y1), (2, xv vad y2)]) hl [0, 1, 3, 4, 5] rfl
            exact ih (2, (0 : Int32), 0, 0, y1, y2) _ _ ls (Or.inr (⟨rfl, hf, hP, hD, hS, lv_sub hl [0, 1, 2, 3, 4] rfl⟩))
          · rw [if_neg hc] at hf
            refine xm_aload_n hx hb (xvor _ _) dM_objects_76 rfl (lv_at hl 4 rfl) ?_
            refine xm_vget (v := .int ((xpi st 3) (y1 - 1))) hx hb htx hown hK hP 3 (by decide) hg1 rfl ((hZ.1 (103, "count", "I") (List.mem_of_getElem? (i := 3) rfl)).use rfl) rfl dM_objects_77 ?_
            refine xm_aload_n hx hb (xvor _ _) dM_objects_80 rfl (lv_at hl 5 rfl) ?_
            refine xm_vget (v := .int ((xpi st 3) (y2 - 1))) hx hb htx hown hK hP 3 (by decide) hg2 rfl ((hZ.1 (103, "count", "I") (List.mem_of_getElem? (i := 3) rfl)).use rfl) rfl dM_objects_81 ?_
            refine lv_isub hx hb dM_objects_84 ?_
            obtain rfl := Option.some.inj hf
            exact W.iret (v := (((xpi st 3) (y1 - 1)) - ((xpi st 3) (y2 - 1)))) hx hb hr (fun t ht hW => ⟨⟨(((xpi st 3) (y1 - 1)) - ((xpi st 3) (y2 - 1))), (), rfl, rfl, by rw [ht]; exact hP, va_K.moved hW.alike hK, hD⟩, hS.F ht⟩) hS.2.2 dM_objects_85
        · rw [if_neg hc] at hf
          refine lv_aload_n hx hb dM_objects_26 rfl (lv_at hl 3 rfl) ?_
          refine xm_aload_n hx hb (xvor _ _) dM_objects_27 rfl (lv_at hl 4 rfl) ?_
          refine xm_aload_n hx hb (xvor _ _) dM_objects_28 rfl (lv_at hl 2 rfl) ?_
          obtain ⟨o3, hq4, hf⟩ := xbind hf
          have hFc := xm_free hD hS hA
          refine va_callq (va_runV (C := "ValueBenchModel") (As := [xv vad y1, xv vad y3]) (rest := []) ⟨hx, hb, hml, hown, htx⟩ (gM_following l hl9 D cT aK aV fr lo rec hrec H.size n aM ad rd gd vad st y1 y3 o3 hq4) ⟨callB_of 2 htx (xw_goodC kw_7_33) rfl rfl rfl (htx _ kw_1_5) (htx _ kw_7_30) ⟨by decide, by decide, by decide +kernel⟩ ⟨(by show (fr + 1) + 1 ≤ fr + 2; omega), (by show 8 + (6 + 11) + (lo + 24) ≤ lo + 49; omega)⟩, (htx _ kw_7_32), (htx _ kp_M_following)⟩ ⟨xPre_blind, va_recv hK hP (ci := 5) rfl (q0 := 0) rfl, (fun U hU hW => ⟨rfl, xPre_of hZ hS hFc hP hD hK U hU hW⟩)⟩ rfl rfl hl.1 rfl (xm_room (Nat.le_of_ble_eq_true rfl)) dM_objects_29 ⟨Nat.le_of_ble_eq_true rfl, Nat.le_of_ble_eq_true rfl⟩) hS (fun q _ h => hFc q h) hFc (fun r5 u9 t H1 locs ht hvm hr9 hB hz1 hk1 hS => ?_)
          obtain ⟨hP1, hK1, hD1⟩ := hB
          rw [ht] at hP1
          have hP : va_P D xcl (xMw cT aM ad rd gd vad st []) H1 := hP1
          have hD : va_D A (xMw cT aM ad rd gd vad st []) := hD1.weaken (fun k q _ h => hFc q.1 h)
          generalize H1 = H at hP hS ⊢
          rw [hr9]
          refine W.eq (g2 := F0 m 32 ls [xv vad o3]) (by first | rfl | (skip; rfl)) ?_
          refine xm_astore_n (lv' := [(3, xv vad o3), (5, .int y5), (4, xv vad y4), (0, .ref aM), (1, xv vad y1), (2, xv vad y2)]) hx hb (xvor _ _) dM_objects_32 rfl hl (by decide) (by simp only [List.filter, xvcat, xrscat, xcI, xcL, xcR, xcN]; rfl) (fun ls hl => ?_)
          refine lv_aload_n hx hb dM_objects_33 rfl (lv_at hl 3 rfl) ?_
          refine xm_aload_n hx hb (xvor _ _) dM_objects_34 rfl (lv_at hl 5 rfl) ?_
          refine xm_aload hx hb (xvor _ _) dM_objects_35 (lv_at hl 2 rfl) ?_
          obtain ⟨o6, hq7, hf⟩ := xbind hf
          have hFc := xm_free hD hS hA
          refine va_callq (va_runV (C := "ValueBenchModel") (As := [xv vad y2, xv vad y4]) (rest := []) ⟨hx, hb, hml, hown, htx⟩ (gM_following l hl9 D cT aK aV fr lo rec hrec H.size n aM ad rd gd vad st y2 y4 o6 hq7) ⟨callB_of 2 htx (xw_goodC kw_7_33) rfl rfl rfl (htx _ kw_1_5) (htx _ kw_7_30) ⟨by decide, by decide, by decide +kernel⟩ ⟨(by show (fr + 1) + 1 ≤ fr + 2; omega), (by show 8 + (6 + 11) + (lo + 24) ≤ lo + 49; omega)⟩, (htx _ kw_7_32), (htx _ kp_M_following)⟩ ⟨xPre_blind, va_recv hK hP (ci := 5) rfl (q0 := 0) rfl, (fun U hU hW => ⟨rfl, xPre_of hZ hS hFc hP hD hK U hU hW⟩)⟩ rfl rfl hl.1 rfl (xm_room (Nat.le_of_ble_eq_true rfl)) dM_objects_37 ⟨Nat.le_of_ble_eq_true rfl, Nat.le_of_ble_eq_true rfl⟩) hS (fun q _ h => hFc q h) hFc (fun r8 u9 t H1 locs ht hvm hr9 hB hz1 hk1 hS => ?_)
          obtain ⟨hP1, hK1, hD1⟩ := hB
          rw [ht] at hP1
          have hP : va_P D xcl (xMw cT aM ad rd gd vad st []) H1 := hP1
          have hD : va_D A (xMw cT aM ad rd gd vad st []) := hD1.weaken (fun k q _ h => hFc q.1 h)
          generalize H1 = H at hP hS ⊢
          rw [hr9]
          refine W.eq (g2 := F0 m 40 ls [xv vad o6]) (by first | rfl | (skip; rfl)) ?_
          refine xm_astore (lv' := [(4, xv vad o6), (3, xv vad o3), (5, .int y5), (0, .ref aM), (1, xv vad y1), (2, xv vad y2)]) hx hb (xvor _ _) dM_objects_40 hl (by decide) (by simp only [List.filter, xvcat, xrscat, xcI, xcL, xcR, xcN]; rfl) (fun ls hl => ?_)
          refine lv_aload_n hx hb dM_objects_42 rfl (lv_at hl 3 rfl) ?_
          refine xm_aload_n hx hb (xvor _ _) dM_objects_43 rfl (lv_at hl 1 rfl) ?_
          refine xm_aload hx hb (xvor _ _) dM_objects_44 (lv_at hl 0 rfl) ?_
          obtain ⟨o9, hq10, hf⟩ := xbind hf
          have hFc := xm_free hD hS hA
          refine va_calli (va_runV (C := "ValueBenchModel") (As := [xv vad o3, xv vad o6]) (rest := []) ⟨hx, hb, hml, hown, htx⟩ (hrec H.size aM ad rd gd vad st o3 o6 o9 hq10) ⟨callB_of 2 htx (xw_goodC kw_7_25) rfl rfl rfl (htx _ kw_1_5) (htx _ kw_7_22) ⟨by decide, by decide, by decide +kernel⟩ ⟨(by show (fr) + 1 ≤ fr + 2; omega), (by show 8 + (5 + 11) + (lo) ≤ lo + 49; omega)⟩, (htx _ kw_7_24), (htx _ kp_M_order)⟩ ⟨xPre_blind, va_recv hK hP (ci := 5) rfl (q0 := 0) rfl, (fun U hU hW => ⟨rfl, xPre_of hZ hS hFc hP hD hK U hU hW⟩)⟩ rfl rfl hl.1 rfl (xm_room (Nat.le_of_ble_eq_true rfl)) dM_objects_46 ⟨Nat.le_of_ble_eq_true rfl, Nat.le_of_ble_eq_true rfl⟩) hS (fun q _ h => hFc q h) hFc (fun r11 u9 t H1 locs ht hvm hr9 hB hz1 hk1 hS => ?_)
          obtain ⟨hP1, hK1, hD1⟩ := hB
          rw [ht] at hP1
          have hP : va_P D xcl (xMw cT aM ad rd gd vad st []) H1 := hP1
          have hD : va_D A (xMw cT aM ad rd gd vad st []) := hD1.weaken (fun k q _ h => hFc q.1 h)
          generalize H1 = H at hP hS ⊢
          rw [hr9]
          refine W.eq (g2 := F0 m 49 ls [.int o9]) (by first | rfl | (skip; rfl)) ?_
          refine lv_istore (lv' := [(6, .int o9), (4, xv vad o6), (3, xv vad o3), (5, .int y5), (0, .ref aM), (1, xv vad y1), (2, xv vad y2)]) hx hb dM_objects_49 hl (by decide) rfl (fun ls hl => ?_)
          refine lv_iload hx hb dM_objects_51 (lv_at hl 0 rfl) ?_
          refine lv_if_eq (tgt := 59) hx hb dM_objects_53 (by decide) (fun hc => ?_) (fun hc => ?_)
          · rw [if_pos hc] at hf
            refine lv_iinc (v := (y5 + 1)) (lv' := [(5, .int (y5 + 1)), (6, .int o9), (4, xv vad o6), (3, xv vad o3), (0, .ref aM), (1, xv vad y1), (2, xv vad y2)]) hx hb dM_objects_59 hl (k := 3) rfl rfl (by decide) (by simp only [List.filter, xvcat, xrscat, xcI, xcL, xcR, xcN]; rfl) (fun ls hl => ?_)
            refine lv_goto (tgt := 8) hx hb dM_objects_62 (by decide) ?_
            exact ih (1, (y5 + 1), o6, o3, y1, y2) _ _ ls (Or.inl ⟨rfl, hf, hP, hD, hS, lv_sub hl [0, 2, 3, 4, 5, 6] rfl⟩)
          · rw [if_neg hc] at hf
            refine lv_iload hx hb dM_objects_56 (lv_at hl 0 rfl) ?_
            obtain rfl := Option.some.inj hf
            exact W.iret (v := o9) hx hb hr (fun t ht hW => ⟨⟨o9, (), rfl, rfl, by rw [ht]; exact hP, va_K.moved hW.alike hK, hD⟩, hS.F ht⟩) hS.2.2 dM_objects_58
    · subst hj
      have hf : fM_objects_b rec st (n + 1) 2 y5 y4 y3 y1 y2 = some out := hf
      rw [fM_objects_b, if_neg (by decide)] at hf
      obtain ⟨hP, hD⟩ : xPD D xcl A (xMw cT aM ad rd gd vad st []) H := ⟨hP, hD⟩
      have hl : lv_has ls 7 [(5, .int y5), (3, xv vad y3), (0, .ref aM), (1, xv vad y1), (2, xv vad y2)] := hl
      refine W.eq (g2 := F0 m 91 ls []) rfl ?_
      refine lv_iload hx hb dM_objects_91 (lv_at hl 0 rfl) ?_
      refine xm_aload_n hx hb (xvor _ _) dM_objects_93 rfl (lv_at hl 3 rfl) ?_
      obtain ⟨hg1, hf⟩ := xifn hf
      refine xm_vget (v := .int ((xpi st 3) (y1 - 1))) hx hb htx hown hK hP 3 (by decide) hg1 rfl ((hZ.1 (103, "count", "I") (List.mem_of_getElem? (i := 3) rfl)).use rfl) rfl dM_objects_94 ?_
      refine lv_icmp_ge (tgt := 149) hx hb dM_objects_97 (by decide) (fun hc => ?_) (fun hc => ?_)
      · rw [if_pos hc] at hf
        refine lv_iconst (v := 0) hx hb dM_objects_149 (by decide) ?_
        obtain rfl := Option.some.inj hf
        exact W.iret (v := (0 : Int32)) hx hb hr (fun t ht hW => ⟨⟨(0 : Int32), (), rfl, rfl, by rw [ht]; exact hP, va_K.moved hW.alike hK, hD⟩, hS.F ht⟩) hS.2.2 dM_objects_150
      · rw [if_neg hc] at hf
        refine lv_aload_n hx hb dM_objects_100 rfl (lv_at hl 2 rfl) ?_
        refine xm_aload_n hx hb (xvor _ _) dM_objects_101 rfl (lv_at hl 3 rfl) ?_
        refine xm_aload_n hx hb (xvor _ _) dM_objects_102 rfl (lv_at hl 1 rfl) ?_
        obtain ⟨o2, hq3, hf⟩ := xbind hf
        have hFc := xm_free hD hS hA
        refine va_callq (va_runV (C := "ValueBenchModel") (As := [xv vad y1, xv vad y3]) (rest := []) ⟨hx, hb, hml, hown, htx⟩ (gM_following l hl9 D cT aK aV fr lo rec hrec H.size n aM ad rd gd vad st y1 y3 o2 hq3) ⟨callB_of 2 htx (xw_goodC kw_7_33) rfl rfl rfl (htx _ kw_1_5) (htx _ kw_7_30) ⟨by decide, by decide, by decide +kernel⟩ ⟨(by show (fr + 1) + 1 ≤ fr + 2; omega), (by show 8 + (6 + 11) + (lo + 24) ≤ lo + 49; omega)⟩, (htx _ kw_7_32), (htx _ kp_M_following)⟩ ⟨xPre_blind, va_recv hK hP (ci := 5) rfl (q0 := 0) rfl, (fun U hU hW => ⟨rfl, xPre_of hZ hS hFc hP hD hK U hU hW⟩)⟩ rfl rfl hl.1 rfl (xm_room (Nat.le_of_ble_eq_true rfl)) dM_objects_103 ⟨Nat.le_of_ble_eq_true rfl, Nat.le_of_ble_eq_true rfl⟩) hS (fun q _ h => hFc q h) hFc (fun r4 u9 t H1 locs ht hvm hr9 hB hz1 hk1 hS => ?_)
        obtain ⟨hP1, hK1, hD1⟩ := hB
        rw [ht] at hP1
        have hP : va_P D xcl (xMw cT aM ad rd gd vad st []) H1 := hP1
        have hD : va_D A (xMw cT aM ad rd gd vad st []) := hD1.weaken (fun k q _ h => hFc q.1 h)
        generalize H1 = H at hP hS ⊢
        rw [hr9]
        refine W.eq (g2 := F0 m 106 ls [xv vad o2]) (by first | rfl | (skip; rfl)) ?_
        refine xm_astore_n (lv' := [(3, xv vad o2), (5, .int y5), (0, .ref aM), (1, xv vad y1), (2, xv vad y2)]) hx hb (xvor _ _) dM_objects_106 rfl hl (by decide) (by simp only [List.filter, xvcat, xrscat, xcI, xcL, xcR, xcN]; rfl) (fun ls hl => ?_)
        refine lv_aload_n hx hb dM_objects_107 rfl (lv_at hl 2 rfl) ?_
        refine lv_aload_n hx hb dM_objects_108 rfl (lv_at hl 2 rfl) ?_
        refine xm_aload_n hx hb (xvor _ _) dM_objects_109 rfl (lv_at hl 3 rfl) ?_
        refine lv_aload_n hx hb dM_objects_110 rfl (lv_at hl 2 rfl) ?_
        refine xm_aload_n hx hb (xvor _ _) dM_objects_111 rfl (lv_at hl 3 rfl) ?_
        refine xm_aload_n hx hb (xvor _ _) dM_objects_112 rfl (lv_at hl 0 rfl) ?_
        obtain ⟨o5, hq6, hf⟩ := xbind hf
        have hFc := xm_free hD hS hA
        refine va_calli (va_runV (C := "ValueBenchModel") (As := [xv vad y1, xv vad o2]) (rest := [xv vad y1, .ref aM, .ref aM]) ⟨hx, hb, hml, hown, htx⟩ (gM_place l hl9 D cT aK aV H.size n aM ad rd gd vad st y1 o2 o5 hq6) ⟨callB_of 2 htx (xw_goodC kw_6_178) rfl rfl rfl (htx _ kw_1_5) (htx _ kw_6_175) ⟨by decide, by decide, by decide +kernel⟩ ⟨Nat.le_of_ble_eq_true rfl, Nat.le_of_ble_eq_true rfl⟩, (htx _ kw_6_177), (htx _ kp_M_place)⟩ ⟨xPre_blind, va_recv hK hP (ci := 5) rfl (q0 := 0) rfl, (fun U hU hW => ⟨rfl, xPre_of hZ hS hFc hP hD hK U hU hW⟩)⟩ rfl rfl hl.1 rfl (xm_room (by simp [xvcat, xrscat, xcI, xcL, xcR, xcN])) dM_objects_113 ⟨Nat.le_of_ble_eq_true rfl, Nat.le_of_ble_eq_true rfl⟩) hS (fun q _ h => hFc q h) hFc (fun r7 u9 t H1 locs ht hvm hr9 hB hz1 hk1 hS => ?_)
        obtain ⟨hP1, hK1, hD1⟩ := hB
        rw [ht] at hP1
        have hP : va_P D xcl (xMw cT aM ad rd gd vad st []) H1 := hP1
        have hD : va_D A (xMw cT aM ad rd gd vad st []) := hD1.weaken (fun k q _ h => hFc q.1 h)
        generalize H1 = H at hP hS ⊢
        rw [hr9]
        refine W.eq (g2 := F0 m 116 ls [.int o5, xv vad y1, .ref aM, .ref aM]) (by first | rfl | (skip; rfl)) ?_
        obtain ⟨o8, hq9, hf⟩ := xbind hf
        have hFc := xm_free hD hS hA
        refine va_callq (va_runV (C := "ValueBenchModel") (As := [xv vad y1, .int o5]) (rest := [.ref aM]) ⟨hx, hb, hml, hown, htx⟩ (gM_kid l hl9 D cT aK aV H.size n aM ad rd gd vad st y1 o5 o8 hq9) ⟨callB_of 2 htx (xw_goodC kw_6_158) rfl rfl rfl (htx _ kw_1_5) (htx _ kw_6_155) ⟨by decide, by decide, by decide +kernel⟩ ⟨Nat.le_of_ble_eq_true rfl, Nat.le_of_ble_eq_true rfl⟩, (htx _ kw_6_157), (htx _ kp_M_kid)⟩ ⟨xPre_blind, va_recv hK hP (ci := 5) rfl (q0 := 0) rfl, (fun U hU hW => ⟨rfl, xPre_of hZ hS hFc hP hD hK U hU hW⟩)⟩ rfl rfl hl.1 rfl (xm_room (Nat.le_of_ble_eq_true rfl)) dM_objects_116 ⟨Nat.le_of_ble_eq_true rfl, Nat.le_of_ble_eq_true rfl⟩) hS (fun q _ h => hFc q h) hFc (fun r10 u9 t H1 locs ht hvm hr9 hB hz1 hk1 hS => ?_)
        obtain ⟨hP1, hK1, hD1⟩ := hB
        rw [ht] at hP1
        have hP : va_P D xcl (xMw cT aM ad rd gd vad st []) H1 := hP1
        have hD : va_D A (xMw cT aM ad rd gd vad st []) := hD1.weaken (fun k q _ h => hFc q.1 h)
        generalize H1 = H at hP hS ⊢
        rw [hr9]
        refine W.eq (g2 := F0 m 119 ls [xv vad o8, .ref aM]) (by first | rfl | (skip; rfl)) ?_
        refine lv_aload_n hx hb dM_objects_119 rfl (lv_at hl 2 rfl) ?_
        refine xm_aload_n hx hb (xvor _ _) dM_objects_120 rfl (lv_at hl 4 rfl) ?_
        refine lv_aload_n hx hb dM_objects_121 rfl (lv_at hl 2 rfl) ?_
        refine xm_aload_n hx hb (xvor _ _) dM_objects_122 rfl (lv_at hl 4 rfl) ?_
        refine xm_aload_n hx hb (xvor _ _) dM_objects_123 rfl (lv_at hl 0 rfl) ?_
        obtain ⟨o11, hq12, hf⟩ := xbind hf
        have hFc := xm_free hD hS hA
        refine va_calli (va_runV (C := "ValueBenchModel") (As := [xv vad y2, xv vad o2]) (rest := [xv vad y2, .ref aM, xv vad o8, .ref aM]) ⟨hx, hb, hml, hown, htx⟩ (gM_place l hl9 D cT aK aV H.size n aM ad rd gd vad st y2 o2 o11 hq12) ⟨callB_of 2 htx (xw_goodC kw_6_178) rfl rfl rfl (htx _ kw_1_5) (htx _ kw_6_175) ⟨by decide, by decide, by decide +kernel⟩ ⟨Nat.le_of_ble_eq_true rfl, Nat.le_of_ble_eq_true rfl⟩, (htx _ kw_6_177), (htx _ kp_M_place)⟩ ⟨xPre_blind, va_recv hK hP (ci := 5) rfl (q0 := 0) rfl, (fun U hU hW => ⟨rfl, xPre_of hZ hS hFc hP hD hK U hU hW⟩)⟩ rfl rfl hl.1 rfl (xm_room (by simp [xvcat, xrscat, xcI, xcL, xcR, xcN])) dM_objects_124 ⟨Nat.le_of_ble_eq_true rfl, Nat.le_of_ble_eq_true rfl⟩) hS (fun q _ h => hFc q h) hFc (fun r13 u9 t H1 locs ht hvm hr9 hB hz1 hk1 hS => ?_)
        obtain ⟨hP1, hK1, hD1⟩ := hB
        rw [ht] at hP1
        have hP : va_P D xcl (xMw cT aM ad rd gd vad st []) H1 := hP1
        have hD : va_D A (xMw cT aM ad rd gd vad st []) := hD1.weaken (fun k q _ h => hFc q.1 h)
        generalize H1 = H at hP hS ⊢
        rw [hr9]
        refine W.eq (g2 := F0 m 127 ls [.int o11, xv vad y2, .ref aM, xv vad o8, .ref aM]) (by first | rfl | (skip; rfl)) ?_
        obtain ⟨o14, hq15, hf⟩ := xbind hf
        have hFc := xm_free hD hS hA
        refine va_callq (va_runV (C := "ValueBenchModel") (As := [xv vad y2, .int o11]) (rest := [xv vad o8, .ref aM]) ⟨hx, hb, hml, hown, htx⟩ (gM_kid l hl9 D cT aK aV H.size n aM ad rd gd vad st y2 o11 o14 hq15) ⟨callB_of 2 htx (xw_goodC kw_6_158) rfl rfl rfl (htx _ kw_1_5) (htx _ kw_6_155) ⟨by decide, by decide, by decide +kernel⟩ ⟨Nat.le_of_ble_eq_true rfl, Nat.le_of_ble_eq_true rfl⟩, (htx _ kw_6_157), (htx _ kp_M_kid)⟩ ⟨xPre_blind, va_recv hK hP (ci := 5) rfl (q0 := 0) rfl, (fun U hU hW => ⟨rfl, xPre_of hZ hS hFc hP hD hK U hU hW⟩)⟩ rfl rfl hl.1 rfl (xm_room (by simp [xvcat, xrscat, xcI, xcL, xcR, xcN])) dM_objects_127 ⟨Nat.le_of_ble_eq_true rfl, Nat.le_of_ble_eq_true rfl⟩) hS (fun q _ h => hFc q h) hFc (fun r16 u9 t H1 locs ht hvm hr9 hB hz1 hk1 hS => ?_)
        obtain ⟨hP1, hK1, hD1⟩ := hB
        rw [ht] at hP1
        have hP : va_P D xcl (xMw cT aM ad rd gd vad st []) H1 := hP1
        have hD : va_D A (xMw cT aM ad rd gd vad st []) := hD1.weaken (fun k q _ h => hFc q.1 h)
        generalize H1 = H at hP hS ⊢
        rw [hr9]
        refine W.eq (g2 := F0 m 130 ls [xv vad o14, xv vad o8, .ref aM]) (by first | rfl | (skip; rfl)) ?_
        obtain ⟨o17, hq18, hf⟩ := xbind hf
        have hFc := xm_free hD hS hA
        refine va_calli (va_runV (C := "ValueBenchModel") (As := [xv vad o8, xv vad o14]) (rest := []) ⟨hx, hb, hml, hown, htx⟩ (hrec H.size aM ad rd gd vad st o8 o14 o17 hq18) ⟨callB_of 2 htx (xw_goodC kw_7_25) rfl rfl rfl (htx _ kw_1_5) (htx _ kw_7_22) ⟨by decide, by decide, by decide +kernel⟩ ⟨(by show (fr) + 1 ≤ fr + 2; omega), (by show 8 + (5 + 11) + (lo) ≤ lo + 49; omega)⟩, (htx _ kw_7_24), (htx _ kp_M_order)⟩ ⟨xPre_blind, va_recv hK hP (ci := 5) rfl (q0 := 0) rfl, (fun U hU hW => ⟨rfl, xPre_of hZ hS hFc hP hD hK U hU hW⟩)⟩ rfl rfl hl.1 rfl (xm_room (Nat.le_of_ble_eq_true rfl)) dM_objects_130 ⟨Nat.le_of_ble_eq_true rfl, Nat.le_of_ble_eq_true rfl⟩) hS (fun q _ h => hFc q h) hFc (fun r19 u9 t H1 locs ht hvm hr9 hB hz1 hk1 hS => ?_)
        obtain ⟨hP1, hK1, hD1⟩ := hB
        rw [ht] at hP1
        have hP : va_P D xcl (xMw cT aM ad rd gd vad st []) H1 := hP1
        have hD : va_D A (xMw cT aM ad rd gd vad st []) := hD1.weaken (fun k q _ h => hFc q.1 h)
        generalize H1 = H at hP hS ⊢
        rw [hr9]
        refine W.eq (g2 := F0 m 133 ls [.int o17]) (by first | rfl | (skip; rfl)) ?_
        refine lv_istore (lv' := [(6, .int o17), (3, xv vad o2), (5, .int y5), (0, .ref aM), (1, xv vad y1), (2, xv vad y2)]) hx hb dM_objects_133 hl (by decide) rfl (fun ls hl => ?_)
        refine lv_iload hx hb dM_objects_135 (lv_at hl 0 rfl) ?_
        refine lv_if_eq (tgt := 143) hx hb dM_objects_137 (by decide) (fun hc => ?_) (fun hc => ?_)
        · rw [if_pos hc] at hf
          refine lv_iinc (v := (y5 + 1)) (lv' := [(5, .int (y5 + 1)), (6, .int o17), (3, xv vad o2), (0, .ref aM), (1, xv vad y1), (2, xv vad y2)]) hx hb dM_objects_143 hl (k := 2) rfl rfl (by decide) rfl (fun ls hl => ?_)
          refine lv_goto (tgt := 91) hx hb dM_objects_146 (by decide) ?_
          exact ih (2, (y5 + 1), 0, o2, y1, y2) _ _ ls (Or.inr (⟨rfl, hf, hP, hD, hS, lv_sub hl [0, 2, 3, 4, 5] rfl⟩))
        · rw [if_neg hc] at hf
          refine lv_iload hx hb dM_objects_140 (lv_at hl 0 rfl) ?_
          obtain rfl := Option.some.inj hf
          exact W.iret (v := o17) hx hb hr (fun t ht hW => ⟨⟨o17, (), rfl, rfl, by rw [ht]; exact hP, va_K.moved hW.alike hK, hD⟩, hS.F ht⟩) hS.2.2 dM_objects_142
  refine lv_null hx hb dM_objects_0 ?_
  refine lv_astore_nN (lv' := [(3, .null), (0, .ref aM), (1, xv vad c0), (2, xv vad c1)]) hx hb dM_objects_1 rfl hl (by decide) (by simp only [List.filter, xvcat, xrscat, xcI, xcL, xcR, xcN]; rfl) (fun ls hl => ?_)
  refine lv_null hx hb dM_objects_2 ?_
  refine lv_astoreN (lv' := [(4, .null), (3, .null), (0, .ref aM), (1, xv vad c0), (2, xv vad c1)]) hx hb dM_objects_3 hl (by decide) rfl (fun ls hl => ?_)
  refine lv_iconst (v := 0) hx hb dM_objects_5 (by decide) ?_
  refine lv_istore (lv' := [(5, .int 0), (4, .null), (3, .null), (0, .ref aM), (1, xv vad c0), (2, xv vad c1)]) hx hb dM_objects_6 hl (by decide) rfl (fun ls hl => ?_)
  exact key n (1, (0 : Int32), 0, 0, c0, c1) _ _ ls (Or.inl ⟨rfl, hf, hP, hD, hS, lv_sub hl [0, 1, 2, 3, 4, 5] rfl⟩)
set_option maxHeartbeats 400000000 in
set_option maxRecDepth 100000 in
theorem gM_order (l : Launch) (hl9 : l.stackTraces = false) (D : va_G) (cT : Nat → ClassId) (aK aV : Nat → Nat) : ∀ (d sz n : Nat) (aM : Nat) (ad rd gd vad : Nat → Nat) (st : xS) (c0 : Nat) (c1 : Nat) (out : Int32) (hf : fM_order d n st c0 c1 = some out), xMet l yM_order wyM_order ((16 * d)) 0 0 ((400 * d)) D cT aK aV sz [.ref aM, xv vad c0, xv vad c1] (xMw cT aM ad rd gd vad st []) (fun A => va_Qi (fun (r : Int32) (_ : Unit) => r = out) (fun _ t => xB D xcl cT A (xMw cT aM ad rd gd vad st []) t) A) := by
  intro d
  induction d with
  | zero =>
    intro sz n aM ad rd gd vad st c0 c1 out hf
    rw [fM_order] at hf
    exact nomatch hf
  | succ d ih =>
    intro sz n aM ad rd gd vad st c0 c1 out hf
    rw [fM_order] at hf
    obtain ⟨rec, hrec, hf⟩ : ∃ rec : xS → Nat → Nat → Option (Int32), (∀ (sz aM : Nat) (ad rd gd vad : Nat → Nat) (st : xS) (c0 : Nat) (c1 : Nat) (out : Int32), rec st c0 c1 = some out → xMet l yM_order wyM_order (16 * d) 0 0 (400 * d) D cT aK aV sz [.ref aM, xv vad c0, xv vad c1] (xMw cT aM ad rd gd vad st []) (fun A => va_Qi (fun (r : Int32) (_ : Unit) => r = out) (fun _ t => xB D xcl cT A (xMw cT aM ad rd gd vad st []) t) A)) ∧ (if c0 = 0 ∨ (xct st) < c0 then none else if c1 = 0 ∨ (xct st) < c1 then none else (if ((xpi st 0) (c0 - 1)) = ((xpi st 0) (c1 - 1)) then (if ((xpi st 0) (c0 - 1)) = 3 then (if 0 ≤ (lg_cmp ((xpl st) (c0 - 1)) ((xpl st) (c1 - 1))) then (if (lg_cmp ((xpl st) (c0 - 1)) ((xpl st) (c1 - 1))) ≤ 0 then some ((0 : Int32)) else some ((1 : Int32))) else some (((-1) : Int32))) else (if ((xpi st 0) (c0 - 1)) = 4 then fM_order_b rec st n 1 (0 : Int32) c0 c1 else (if ((xpi st 0) (c0 - 1)) = 5 then fM_order_b rec st n 2 (0 : Int32) c0 c1 else (if ((xpi st 0) (c0 - 1)) = 6 then (fM_objects rec n st c0 c1).bind fun o3 => (some (o3)) else some ((0 : Int32)))))) else some ((((xpi st 0) (c0 - 1)) - ((xpi st 0) (c1 - 1)))))) = some out := ⟨fM_order d n, fun sz => ih sz n, hf⟩
    refine Met.ofW (cc := prog_13_method_22_code) (maxL := 5) (ret := (some .int)) (by decide) rfl ?_
    intro p e s m args below meth c s₁ B hml hv
    obtain ⟨rfl, hsz, hZ, hP, hK, hD0⟩ := hv
    have hx := B.exec
    have hb := B.bytes
    have hr := B.returns
    have hts := atoms_spec (ws := wyM_order) B.pre
    have htx := fun w h => hts w (List.mem_cons_of_mem _ h)
    have hown : s.vm.findClass "ValueBenchModel" = some m.cls := findClass_of_methodNamed B.named
    have hlocks := B.notSynchronized
    subst hsz
    have hD := hD0.self (sz := s.heap.size)
    generalize hAe : va_A (xMw cT aM ad rd gd vad st []) s.heap.size = A at hD hZ ⊢
    have hA : ∀ q : Nat, s.heap.size ≤ q → A q := fun q h => by rw [← hAe]; exact Or.inr h
    have hS : va_S A s.heap s.heap [] := va_S.rf
    have hl := lv_entry ([.ref aM, xv vad c0, xv vad c1]) (n := 5) (by simp [lg_sl, xvcat, xrscat, xcI, xcL, xcR, xcN])
    rw [show lv_args 0 [.ref aM, xv vad c0, xv vad c1] = [(0, .ref aM), (1, xv vad c0), (2, xv vad c1)] from by simp [lv_args, xvcat, xrscat, xcI, xcL, xcR, xcN]] at hl
    rw [lg_entry_eq]
    generalize (lg_sl ([.ref aM, xv vad c0, xv vad c1]) ++ List.replicate (5 - (lg_sl ([.ref aM, xv vad c0, xv vad c1])).length) Slot.unset).toArray = ls at hl ⊢
    have hl : lv_has ls 5 [(0, .ref aM), (1, xv vad c0), (2, xv vad c1)] := hl
    refine xloopM (σ := Nat × Int32 × Nat × Nat) (fun n x H locs ls => (x.1 = 1 ∧ fM_order_b rec st n x.1 x.2.1 x.2.2.1 x.2.2.2 = some out ∧ va_P D xcl (xMw cT aM ad rd gd vad st []) H ∧ va_D A (xMw cT aM ad rd gd vad st []) ∧ va_S A s.heap H locs ∧ lv_has ls 5 [(3, .int x.2.1), (0, .ref aM), (1, xv vad x.2.2.1), (2, xv vad x.2.2.2)]) ∨ (x.1 = 2 ∧ fM_order_b rec st n x.1 x.2.1 x.2.2.1 x.2.2.2 = some out ∧ va_P D xcl (xMw cT aM ad rd gd vad st []) H ∧ va_D A (xMw cT aM ad rd gd vad st []) ∧ va_S A s.heap H locs ∧ lv_has ls 5 [(3, .int x.2.1), (0, .ref aM), (1, xv vad x.2.2.1), (2, xv vad x.2.2.2)])) (fun x => if x.1 = 1 then 73 else 164) (fun x => 0) (fun x => 0) (fun x H locs ls h => by rcases h with h | h; (exact absurd h.2.1 (by rw [fM_order_b]; exact fun h => nomatch h)); (exact absurd h.2.1 (by rw [fM_order_b]; exact fun h => nomatch h))) (fun n ih x H locs ls hv => ?_) (fun key => ?_)
    · obtain ⟨lb, y3, y1, y2⟩ := x
      rcases hv with ⟨hj, hf, hP, hD, hS, hl⟩ | ⟨hj, hf, hP, hD, hS, hl⟩
      · subst hj
        have hf : fM_order_b rec st (n + 1) 1 y3 y1 y2 = some out := hf
        rw [fM_order_b, if_pos rfl] at hf
        obtain ⟨hP, hD⟩ : xPD D xcl A (xMw cT aM ad rd gd vad st []) H := ⟨hP, hD⟩
        have hl : lv_has ls 5 [(3, .int y3), (0, .ref aM), (1, xv vad y1), (2, xv vad y2)] := hl
        refine W.eq (g2 := F0 m 73 ls []) rfl ?_
        refine lv_iload_n hx hb dM_order_73 rfl (lv_at hl 0 rfl) ?_
        refine xm_aload_n hx hb (xvor _ _) dM_order_74 rfl (lv_at hl 2 rfl) ?_
        obtain ⟨hg1, hf⟩ := xifn hf
        refine xm_vget (v := .int ((xpi st 3) (y1 - 1))) hx hb htx hown hK hP 3 (by decide) hg1 rfl ((hZ.1 (103, "count", "I") (List.mem_of_getElem? (i := 3) rfl)).use rfl) rfl dM_order_75 ?_
        refine lv_icmp_ge (tgt := 144) hx hb dM_order_78 (by decide) (fun hc => ?_) (fun hc => ?_)
        · rw [if_pos hc] at hf
          refine xm_aload_n hx hb (xvor _ _) dM_order_144 rfl (lv_at hl 2 rfl) ?_
          refine xm_vget (v := .int ((xpi st 3) (y1 - 1))) hx hb htx hown hK hP 3 (by decide) hg1 rfl ((hZ.1 (103, "count", "I") (List.mem_of_getElem? (i := 3) rfl)).use rfl) rfl dM_order_145 ?_
          refine xm_aload_n hx hb (xvor _ _) dM_order_148 rfl (lv_at hl 3 rfl) ?_
          obtain ⟨hg2, hf⟩ := xifn hf
          refine xm_vget (v := .int ((xpi st 3) (y2 - 1))) hx hb htx hown hK hP 3 (by decide) hg2 rfl ((hZ.1 (103, "count", "I") (List.mem_of_getElem? (i := 3) rfl)).use rfl) rfl dM_order_149 ?_
          refine lv_isub hx hb dM_order_152 ?_
          obtain rfl := Option.some.inj hf
          exact W.iret (v := (((xpi st 3) (y1 - 1)) - ((xpi st 3) (y2 - 1)))) hx hb hr (fun t ht hW => ⟨⟨(((xpi st 3) (y1 - 1)) - ((xpi st 3) (y2 - 1))), (), rfl, rfl, by rw [ht]; exact hP, va_K.moved hW.alike hK, hD⟩, hS.F ht⟩) hS.2.2 dM_order_153
        · rw [if_neg hc] at hf
          refine lv_iload_n hx hb dM_order_81 rfl (lv_at hl 0 rfl) ?_
          refine xm_aload_n hx hb (xvor _ _) dM_order_82 rfl (lv_at hl 3 rfl) ?_
          obtain ⟨hg2, hf⟩ := xifn hf
          refine xm_vget (v := .int ((xpi st 3) (y2 - 1))) hx hb htx hown hK hP 3 (by decide) hg2 rfl ((hZ.1 (103, "count", "I") (List.mem_of_getElem? (i := 3) rfl)).use rfl) rfl dM_order_83 ?_
          refine lv_icmp_ge (tgt := 144) hx hb dM_order_86 (by decide) (fun hc => ?_) (fun hc => ?_)
          · rw [if_pos hc] at hf
            refine xm_aload_n hx hb (xvor _ _) dM_order_144 rfl (lv_at hl 2 rfl) ?_
            refine xm_vget (v := .int ((xpi st 3) (y1 - 1))) hx hb htx hown hK hP 3 (by decide) hg1 rfl ((hZ.1 (103, "count", "I") (List.mem_of_getElem? (i := 3) rfl)).use rfl) rfl dM_order_145 ?_
            refine xm_aload_n hx hb (xvor _ _) dM_order_148 rfl (lv_at hl 3 rfl) ?_
            refine xm_vget (v := .int ((xpi st 3) (y2 - 1))) hx hb htx hown hK hP 3 (by decide) hg2 rfl ((hZ.1 (103, "count", "I") (List.mem_of_getElem? (i := 3) rfl)).use rfl) rfl dM_order_149 ?_
            refine lv_isub hx hb dM_order_152 ?_
            obtain rfl := Option.some.inj hf
            exact W.iret (v := (((xpi st 3) (y1 - 1)) - ((xpi st 3) (y2 - 1)))) hx hb hr (fun t ht hW => ⟨⟨(((xpi st 3) (y1 - 1)) - ((xpi st 3) (y2 - 1))), (), rfl, rfl, by rw [ht]; exact hP, va_K.moved hW.alike hK, hD⟩, hS.F ht⟩) hS.2.2 dM_order_153
          · rw [if_neg hc] at hf
            refine lv_aload_n hx hb dM_order_89 rfl (lv_at hl 1 rfl) ?_
            refine xm_get (v := .ref (ad 3)) hx hb htx hown hK hP 3 (by decide) rfl (htx _ kw_5_90) rfl dM_order_90 ?_
            refine xm_aload_n hx hb (xvor _ _) dM_order_93 rfl (lv_at hl 2 rfl) ?_
            refine xm_vget (v := .int ((xpi st 2) (y1 - 1))) hx hb htx hown hK hP 2 (by decide) hg1 rfl ((hZ.1 (100, "off", "I") (List.mem_of_getElem? (i := 2) rfl)).use rfl) rfl dM_order_94 ?_
            refine lv_iload_n hx hb dM_order_97 rfl (lv_at hl 0 rfl) ?_
            refine lv_iadd hx hb dM_order_98 ?_
            obtain ⟨hg3, hf⟩ := xifn hf
            refine va_bald hx hb hK hP 2 0 rfl rfl hg3 dM_order_99 ?_
            refine W.eq (g2 := F0 m 100 ls [.int ((xba st 3) (((xpi st 2) (y1 - 1)) + y3).toNatClampNeg)]) rfl ?_
            refine lv_aload_n hx hb dM_order_100 rfl (lv_at hl 1 rfl) ?_
            refine xm_get (v := .ref (ad 3)) hx hb htx hown hK hP 3 (by decide) rfl (htx _ kw_5_90) rfl dM_order_101 ?_
            refine xm_aload_n hx hb (xvor _ _) dM_order_104 rfl (lv_at hl 3 rfl) ?_
            refine xm_vget (v := .int ((xpi st 2) (y2 - 1))) hx hb htx hown hK hP 2 (by decide) hg2 rfl ((hZ.1 (100, "off", "I") (List.mem_of_getElem? (i := 2) rfl)).use rfl) rfl dM_order_105 ?_
            refine lv_iload_n hx hb dM_order_108 rfl (lv_at hl 0 rfl) ?_
            refine lv_iadd hx hb dM_order_109 ?_
            obtain ⟨hg4, hf⟩ := xifn hf
            refine va_bald hx hb hK hP 2 0 rfl rfl hg4 dM_order_110 ?_
            refine W.eq (g2 := F0 m 111 ls [.int ((xba st 3) (((xpi st 2) (y2 - 1)) + y3).toNatClampNeg), .int ((xba st 3) (((xpi st 2) (y1 - 1)) + y3).toNatClampNeg)]) rfl ?_
            refine lv_icmp_eq (tgt := 138) hx hb dM_order_111 (by decide) (fun hc => ?_) (fun hc => ?_)
            · rw [if_pos hc] at hf
              refine lv_iinc (v := (y3 + 1)) (lv' := [(3, .int (y3 + 1)), (0, .ref aM), (1, xv vad y1), (2, xv vad y2)]) hx hb dM_order_138 hl (k := 0) rfl rfl (by decide) (by simp only [List.filter, xvcat, xrscat, xcI, xcL, xcR, xcN]; rfl) (fun ls hl => ?_)
              refine lv_goto (tgt := 73) hx hb dM_order_141 (by decide) ?_
              exact ih (1, (y3 + 1), y1, y2) _ _ ls (Or.inl ⟨rfl, hf, hP, hD, hS, lv_sub hl [0, 1, 2, 3] rfl⟩)
            · rw [if_neg hc] at hf
              refine lv_aload_n hx hb dM_order_114 rfl (lv_at hl 1 rfl) ?_
              refine xm_get (v := .ref (ad 3)) hx hb htx hown hK hP 3 (by decide) rfl (htx _ kw_5_90) rfl dM_order_115 ?_
              refine xm_aload_n hx hb (xvor _ _) dM_order_118 rfl (lv_at hl 2 rfl) ?_
              refine xm_vget (v := .int ((xpi st 2) (y1 - 1))) hx hb htx hown hK hP 2 (by decide) hg1 rfl ((hZ.1 (100, "off", "I") (List.mem_of_getElem? (i := 2) rfl)).use rfl) rfl dM_order_119 ?_
              refine lv_iload_n hx hb dM_order_122 rfl (lv_at hl 0 rfl) ?_
              refine lv_iadd hx hb dM_order_123 ?_
              obtain ⟨hg5, hf⟩ := xifn hf
              refine va_bald hx hb hK hP 2 0 rfl rfl hg5 dM_order_124 ?_
              refine W.eq (g2 := F0 m 125 ls [.int ((xba st 3) (((xpi st 2) (y1 - 1)) + y3).toNatClampNeg)]) rfl ?_
              refine lv_aload_n hx hb dM_order_125 rfl (lv_at hl 1 rfl) ?_
              refine xm_get (v := .ref (ad 3)) hx hb htx hown hK hP 3 (by decide) rfl (htx _ kw_5_90) rfl dM_order_126 ?_
              refine xm_aload_n hx hb (xvor _ _) dM_order_129 rfl (lv_at hl 3 rfl) ?_
              refine xm_vget (v := .int ((xpi st 2) (y2 - 1))) hx hb htx hown hK hP 2 (by decide) hg2 rfl ((hZ.1 (100, "off", "I") (List.mem_of_getElem? (i := 2) rfl)).use rfl) rfl dM_order_130 ?_
              refine lv_iload_n hx hb dM_order_133 rfl (lv_at hl 0 rfl) ?_
              refine lv_iadd hx hb dM_order_134 ?_
              obtain ⟨hg6, hf⟩ := xifn hf
              refine va_bald hx hb hK hP 2 0 rfl rfl hg6 dM_order_135 ?_
              refine W.eq (g2 := F0 m 136 ls [.int ((xba st 3) (((xpi st 2) (y2 - 1)) + y3).toNatClampNeg), .int ((xba st 3) (((xpi st 2) (y1 - 1)) + y3).toNatClampNeg)]) rfl ?_
              refine lv_isub hx hb dM_order_136 ?_
              obtain rfl := Option.some.inj hf
              exact W.iret (v := (((xba st 3) (((xpi st 2) (y1 - 1)) + y3).toNatClampNeg) - ((xba st 3) (((xpi st 2) (y2 - 1)) + y3).toNatClampNeg))) hx hb hr (fun t ht hW => ⟨⟨(((xba st 3) (((xpi st 2) (y1 - 1)) + y3).toNatClampNeg) - ((xba st 3) (((xpi st 2) (y2 - 1)) + y3).toNatClampNeg)), (), rfl, rfl, by rw [ht]; exact hP, va_K.moved hW.alike hK, hD⟩, hS.F ht⟩) hS.2.2 dM_order_137
      · subst hj
        have hf : fM_order_b rec st (n + 1) 2 y3 y1 y2 = some out := hf
        rw [fM_order_b, if_neg (by decide)] at hf
        obtain ⟨hP, hD⟩ : xPD D xcl A (xMw cT aM ad rd gd vad st []) H := ⟨hP, hD⟩
        have hl : lv_has ls 5 [(3, .int y3), (0, .ref aM), (1, xv vad y1), (2, xv vad y2)] := hl
        refine W.eq (g2 := F0 m 164 ls []) rfl ?_
        refine lv_iload_n hx hb dM_order_164 rfl (lv_at hl 0 rfl) ?_
        refine xm_aload_n hx hb (xvor _ _) dM_order_165 rfl (lv_at hl 2 rfl) ?_
        obtain ⟨hg1, hf⟩ := xifn hf
        refine xm_vget (v := .int ((xpi st 3) (y1 - 1))) hx hb htx hown hK hP 3 (by decide) hg1 rfl ((hZ.1 (103, "count", "I") (List.mem_of_getElem? (i := 3) rfl)).use rfl) rfl dM_order_166 ?_
        refine lv_icmp_ge (tgt := 212) hx hb dM_order_169 (by decide) (fun hc => ?_) (fun hc => ?_)
        · rw [if_pos hc] at hf
          refine xm_aload_n hx hb (xvor _ _) dM_order_212 rfl (lv_at hl 2 rfl) ?_
          refine xm_vget (v := .int ((xpi st 3) (y1 - 1))) hx hb htx hown hK hP 3 (by decide) hg1 rfl ((hZ.1 (103, "count", "I") (List.mem_of_getElem? (i := 3) rfl)).use rfl) rfl dM_order_213 ?_
          refine xm_aload_n hx hb (xvor _ _) dM_order_216 rfl (lv_at hl 3 rfl) ?_
          obtain ⟨hg2, hf⟩ := xifn hf
          refine xm_vget (v := .int ((xpi st 3) (y2 - 1))) hx hb htx hown hK hP 3 (by decide) hg2 rfl ((hZ.1 (103, "count", "I") (List.mem_of_getElem? (i := 3) rfl)).use rfl) rfl dM_order_217 ?_
          refine lv_isub hx hb dM_order_220 ?_
          obtain rfl := Option.some.inj hf
          exact W.iret (v := (((xpi st 3) (y1 - 1)) - ((xpi st 3) (y2 - 1)))) hx hb hr (fun t ht hW => ⟨⟨(((xpi st 3) (y1 - 1)) - ((xpi st 3) (y2 - 1))), (), rfl, rfl, by rw [ht]; exact hP, va_K.moved hW.alike hK, hD⟩, hS.F ht⟩) hS.2.2 dM_order_221
        · rw [if_neg hc] at hf
          refine lv_iload_n hx hb dM_order_172 rfl (lv_at hl 0 rfl) ?_
          refine xm_aload_n hx hb (xvor _ _) dM_order_173 rfl (lv_at hl 3 rfl) ?_
          obtain ⟨hg2, hf⟩ := xifn hf
          refine xm_vget (v := .int ((xpi st 3) (y2 - 1))) hx hb htx hown hK hP 3 (by decide) hg2 rfl ((hZ.1 (103, "count", "I") (List.mem_of_getElem? (i := 3) rfl)).use rfl) rfl dM_order_174 ?_
          refine lv_icmp_ge (tgt := 212) hx hb dM_order_177 (by decide) (fun hc => ?_) (fun hc => ?_)
          · rw [if_pos hc] at hf
            refine xm_aload_n hx hb (xvor _ _) dM_order_212 rfl (lv_at hl 2 rfl) ?_
            refine xm_vget (v := .int ((xpi st 3) (y1 - 1))) hx hb htx hown hK hP 3 (by decide) hg1 rfl ((hZ.1 (103, "count", "I") (List.mem_of_getElem? (i := 3) rfl)).use rfl) rfl dM_order_213 ?_
            refine xm_aload_n hx hb (xvor _ _) dM_order_216 rfl (lv_at hl 3 rfl) ?_
            refine xm_vget (v := .int ((xpi st 3) (y2 - 1))) hx hb htx hown hK hP 3 (by decide) hg2 rfl ((hZ.1 (103, "count", "I") (List.mem_of_getElem? (i := 3) rfl)).use rfl) rfl dM_order_217 ?_
            refine lv_isub hx hb dM_order_220 ?_
            obtain rfl := Option.some.inj hf
            exact W.iret (v := (((xpi st 3) (y1 - 1)) - ((xpi st 3) (y2 - 1)))) hx hb hr (fun t ht hW => ⟨⟨(((xpi st 3) (y1 - 1)) - ((xpi st 3) (y2 - 1))), (), rfl, rfl, by rw [ht]; exact hP, va_K.moved hW.alike hK, hD⟩, hS.F ht⟩) hS.2.2 dM_order_221
          · rw [if_neg hc] at hf
            refine lv_aload_n hx hb dM_order_180 rfl (lv_at hl 1 rfl) ?_
            refine lv_aload_n hx hb dM_order_181 rfl (lv_at hl 1 rfl) ?_
            refine xm_aload_n hx hb (xvor _ _) dM_order_182 rfl (lv_at hl 2 rfl) ?_
            refine lv_iload_n hx hb dM_order_183 rfl (lv_at hl 0 rfl) ?_
            obtain ⟨o3, hq4, hf⟩ := xbind hf
            have hFc := xm_free hD hS hA
            refine va_callq (va_runV (C := "ValueBenchModel") (As := [xv vad y1, .int y3]) (rest := [.ref aM]) ⟨hx, hb, hml, hown, htx⟩ (gM_kid l hl9 D cT aK aV H.size n aM ad rd gd vad st y1 y3 o3 hq4) ⟨callB_of 2 htx (xw_goodC kw_6_158) rfl rfl rfl (htx _ kw_1_5) (htx _ kw_6_155) ⟨by decide, by decide, by decide +kernel⟩ ⟨Nat.le_of_ble_eq_true rfl, Nat.le_of_ble_eq_true rfl⟩, (htx _ kw_6_157), (htx _ kp_M_kid)⟩ ⟨xPre_blind, va_recv hK hP (ci := 5) rfl (q0 := 0) rfl, (fun U hU hW => ⟨rfl, xPre_of hZ hS hFc hP hD hK U hU hW⟩)⟩ rfl rfl hl.1 rfl (xm_room (Nat.le_of_ble_eq_true rfl)) dM_order_184 ⟨Nat.le_of_ble_eq_true rfl, Nat.le_of_ble_eq_true rfl⟩) hS (fun q _ h => hFc q h) hFc (fun r5 u9 t H1 locs ht hvm hr9 hB hz1 hk1 hS => ?_)
            obtain ⟨hP1, hK1, hD1⟩ := hB
            rw [ht] at hP1
            have hP : va_P D xcl (xMw cT aM ad rd gd vad st []) H1 := hP1
            have hD : va_D A (xMw cT aM ad rd gd vad st []) := hD1.weaken (fun k q _ h => hFc q.1 h)
            generalize H1 = H at hP hS ⊢
            rw [hr9]
            refine W.eq (g2 := F0 m 187 ls [xv vad o3, .ref aM]) (by first | rfl | (skip; rfl)) ?_
            refine lv_aload_n hx hb dM_order_187 rfl (lv_at hl 1 rfl) ?_
            refine xm_aload_n hx hb (xvor _ _) dM_order_188 rfl (lv_at hl 3 rfl) ?_
            refine lv_iload_n hx hb dM_order_189 rfl (lv_at hl 0 rfl) ?_
            obtain ⟨o6, hq7, hf⟩ := xbind hf
            have hFc := xm_free hD hS hA
            refine va_callq (va_runV (C := "ValueBenchModel") (As := [xv vad y2, .int y3]) (rest := [xv vad o3, .ref aM]) ⟨hx, hb, hml, hown, htx⟩ (gM_kid l hl9 D cT aK aV H.size n aM ad rd gd vad st y2 y3 o6 hq7) ⟨callB_of 2 htx (xw_goodC kw_6_158) rfl rfl rfl (htx _ kw_1_5) (htx _ kw_6_155) ⟨by decide, by decide, by decide +kernel⟩ ⟨Nat.le_of_ble_eq_true rfl, Nat.le_of_ble_eq_true rfl⟩, (htx _ kw_6_157), (htx _ kp_M_kid)⟩ ⟨xPre_blind, va_recv hK hP (ci := 5) rfl (q0 := 0) rfl, (fun U hU hW => ⟨rfl, xPre_of hZ hS hFc hP hD hK U hU hW⟩)⟩ rfl rfl hl.1 rfl (xm_room (by simp [xvcat, xrscat, xcI, xcL, xcR, xcN])) dM_order_190 ⟨Nat.le_of_ble_eq_true rfl, Nat.le_of_ble_eq_true rfl⟩) hS (fun q _ h => hFc q h) hFc (fun r8 u9 t H1 locs ht hvm hr9 hB hz1 hk1 hS => ?_)
            obtain ⟨hP1, hK1, hD1⟩ := hB
            rw [ht] at hP1
            have hP : va_P D xcl (xMw cT aM ad rd gd vad st []) H1 := hP1
            have hD : va_D A (xMw cT aM ad rd gd vad st []) := hD1.weaken (fun k q _ h => hFc q.1 h)
            generalize H1 = H at hP hS ⊢
            rw [hr9]
            refine W.eq (g2 := F0 m 193 ls [xv vad o6, xv vad o3, .ref aM]) (by first | rfl | (skip; rfl)) ?_
            obtain ⟨o9, hq10, hf⟩ := xbind hf
            have hFc := xm_free hD hS hA
            refine va_calli (va_runV (C := "ValueBenchModel") (As := [xv vad o3, xv vad o6]) (rest := []) ⟨hx, hb, hml, hown, htx⟩ (hrec H.size aM ad rd gd vad st o3 o6 o9 hq10) ⟨callB_of 2 htx (xw_goodC kw_7_25) rfl rfl rfl (htx _ kw_1_5) (htx _ kw_7_22) ⟨by decide, by decide, by decide +kernel⟩ ⟨(by show (16 * d) + 1 ≤ 16 * (d + 1); omega), (by show 8 + (5 + 11) + (400 * d) ≤ 400 * (d + 1); omega)⟩, (htx _ kw_7_24), (htx _ kp_M_order)⟩ ⟨xPre_blind, va_recv hK hP (ci := 5) rfl (q0 := 0) rfl, (fun U hU hW => ⟨rfl, xPre_of hZ hS hFc hP hD hK U hU hW⟩)⟩ rfl rfl hl.1 rfl (xm_room (Nat.le_of_ble_eq_true rfl)) dM_order_193 ⟨Nat.le_of_ble_eq_true rfl, Nat.le_of_ble_eq_true rfl⟩) hS (fun q _ h => hFc q h) hFc (fun r11 u9 t H1 locs ht hvm hr9 hB hz1 hk1 hS => ?_)
            obtain ⟨hP1, hK1, hD1⟩ := hB
            rw [ht] at hP1
            have hP : va_P D xcl (xMw cT aM ad rd gd vad st []) H1 := hP1
            have hD : va_D A (xMw cT aM ad rd gd vad st []) := hD1.weaken (fun k q _ h => hFc q.1 h)
            generalize H1 = H at hP hS ⊢
            rw [hr9]
            refine W.eq (g2 := F0 m 196 ls [.int o9]) (by first | rfl | (skip; rfl)) ?_
            refine lv_istore (lv' := [(4, .int o9), (3, .int y3), (0, .ref aM), (1, xv vad y1), (2, xv vad y2)]) hx hb dM_order_196 hl (by decide) rfl (fun ls hl => ?_)
            refine lv_iload hx hb dM_order_198 (lv_at hl 0 rfl) ?_
            refine lv_if_eq (tgt := 206) hx hb dM_order_200 (by decide) (fun hc => ?_) (fun hc => ?_)
            · rw [if_pos hc] at hf
              refine lv_iinc (v := (y3 + 1)) (lv' := [(3, .int (y3 + 1)), (4, .int o9), (0, .ref aM), (1, xv vad y1), (2, xv vad y2)]) hx hb dM_order_206 hl (k := 1) rfl rfl (by decide) (by simp only [List.filter, xvcat, xrscat, xcI, xcL, xcR, xcN]; rfl) (fun ls hl => ?_)
              refine lv_goto (tgt := 164) hx hb dM_order_209 (by decide) ?_
              exact ih (2, (y3 + 1), y1, y2) _ _ ls (Or.inr (⟨rfl, hf, hP, hD, hS, lv_sub hl [0, 2, 3, 4] rfl⟩))
            · rw [if_neg hc] at hf
              refine lv_iload hx hb dM_order_203 (lv_at hl 0 rfl) ?_
              obtain rfl := Option.some.inj hf
              exact W.iret (v := o9) hx hb hr (fun t ht hW => ⟨⟨o9, (), rfl, rfl, by rw [ht]; exact hP, va_K.moved hW.alike hK, hD⟩, hS.F ht⟩) hS.2.2 dM_order_205
    refine xm_aload_n hx hb (xvor _ _) dM_order_0 rfl (lv_at hl 1 rfl) ?_
    obtain ⟨hg1, hf⟩ := xifn hf
    refine xm_vget (v := .int ((xpi st 0) (c0 - 1))) hx hb htx hown hK hP 0 (by decide) hg1 rfl ((hZ.1 (93, "kind", "I") (List.mem_of_getElem? (i := 0) rfl)).use rfl) rfl dM_order_1 ?_
    refine xm_aload_n hx hb (xvor _ _) dM_order_4 rfl (lv_at hl 2 rfl) ?_
    obtain ⟨hg2, hf⟩ := xifn hf
    refine xm_vget (v := .int ((xpi st 0) (c1 - 1))) hx hb htx hown hK hP 0 (by decide) hg2 rfl ((hZ.1 (93, "kind", "I") (List.mem_of_getElem? (i := 0) rfl)).use rfl) rfl dM_order_5 ?_
    refine lv_icmp_eq (tgt := 21) hx hb dM_order_8 (by decide) (fun hc => ?_) (fun hc => ?_)
    · rw [if_pos hc] at hf
      refine xm_aload_n hx hb (xvor _ _) dM_order_21 rfl (lv_at hl 1 rfl) ?_
      refine xm_vget (v := .int ((xpi st 0) (c0 - 1))) hx hb htx hown hK hP 0 (by decide) hg1 rfl ((hZ.1 (93, "kind", "I") (List.mem_of_getElem? (i := 0) rfl)).use rfl) rfl dM_order_22 ?_
      refine lv_iconst (v := 3) hx hb dM_order_25 (by decide) ?_
      refine lv_icmp_ne (tgt := 63) hx hb dM_order_26 (by decide) (fun hc => ?_) (fun hc => ?_)
      · rw [if_neg hc] at hf
        refine xm_aload_n hx hb (xvor _ _) dM_order_63 rfl (lv_at hl 1 rfl) ?_
        refine xm_vget (v := .int ((xpi st 0) (c0 - 1))) hx hb htx hown hK hP 0 (by decide) hg1 rfl ((hZ.1 (93, "kind", "I") (List.mem_of_getElem? (i := 0) rfl)).use rfl) rfl dM_order_64 ?_
        refine lv_iconst (v := 4) hx hb dM_order_67 (by decide) ?_
        refine lv_icmp_ne (tgt := 154) hx hb dM_order_68 (by decide) (fun hc => ?_) (fun hc => ?_)
        · rw [if_neg hc] at hf
          refine xm_aload_n hx hb (xvor _ _) dM_order_154 rfl (lv_at hl 1 rfl) ?_
          refine xm_vget (v := .int ((xpi st 0) (c0 - 1))) hx hb htx hown hK hP 0 (by decide) hg1 rfl ((hZ.1 (93, "kind", "I") (List.mem_of_getElem? (i := 0) rfl)).use rfl) rfl dM_order_155 ?_
          refine lv_iconst (v := 5) hx hb dM_order_158 (by decide) ?_
          refine lv_icmp_ne (tgt := 222) hx hb dM_order_159 (by decide) (fun hc => ?_) (fun hc => ?_)
          · rw [if_neg hc] at hf
            refine xm_aload_n hx hb (xvor _ _) dM_order_222 rfl (lv_at hl 1 rfl) ?_
            refine xm_vget (v := .int ((xpi st 0) (c0 - 1))) hx hb htx hown hK hP 0 (by decide) hg1 rfl ((hZ.1 (93, "kind", "I") (List.mem_of_getElem? (i := 0) rfl)).use rfl) rfl dM_order_223 ?_
            refine lv_bipush (v := 6) hx hb dM_order_226 (by decide) ?_
            refine lv_icmp_ne (tgt := 240) hx hb dM_order_228 (by decide) (fun hc => ?_) (fun hc => ?_)
            · rw [if_neg hc] at hf
              refine lv_iconst (v := 0) hx hb dM_order_240 (by decide) ?_
              obtain rfl := Option.some.inj hf
              exact W.iret (v := (0 : Int32)) hx hb hr (fun t ht hW => ⟨⟨(0 : Int32), (), rfl, rfl, by rw [ht]; exact hP, va_K.moved hW.alike hK, hD⟩, hS.F ht⟩) hS.2.2 dM_order_241
            · rw [if_pos hc] at hf
              refine lv_aload_n hx hb dM_order_231 rfl (lv_at hl 0 rfl) ?_
              refine xm_aload_n hx hb (xvor _ _) dM_order_232 rfl (lv_at hl 1 rfl) ?_
              refine xm_aload_n hx hb (xvor _ _) dM_order_233 rfl (lv_at hl 2 rfl) ?_
              obtain ⟨o3, hq4, hf⟩ := xbind hf
              have hl := lv_sub (l' := [(0, .ref aM)]) hl [0] rfl
              have hFc := xm_free hD hS hA
              refine va_calli (va_runV (C := "ValueBenchModel") (As := [xv vad c0, xv vad c1]) (rest := []) ⟨hx, hb, hml, hown, htx⟩ (gM_objects l hl9 D cT aK aV (16 * d) (400 * d) rec hrec s.heap.size n aM ad rd gd vad st c0 c1 o3 hq4) ⟨callB_of 2 htx (xw_goodC kw_7_29) rfl rfl rfl (htx _ kw_1_5) (htx _ kw_7_26) ⟨by decide, by decide, by decide +kernel⟩ ⟨(by show (16 * d + 2) + 1 ≤ 16 * (d + 1); omega), (by show 8 + (7 + 11) + (400 * d + 49) ≤ 400 * (d + 1); omega)⟩, (htx _ kw_7_28), (htx _ kp_M_objects)⟩ ⟨xPre_blind, va_recv hK hP (ci := 5) rfl (q0 := 0) rfl, (fun U hU hW => ⟨rfl, xPre_of hZ hS hFc hP hD hK U hU hW⟩)⟩ rfl rfl hl.1 rfl (xm_room (Nat.le_of_ble_eq_true rfl)) dM_order_234 ⟨Nat.le_of_ble_eq_true rfl, Nat.le_of_ble_eq_true rfl⟩) hS (fun q _ h => hFc q h) hFc (fun r5 u9 t H1 locs ht hvm hr9 hB hz1 hk1 hS => ?_)
              obtain ⟨hP1, hK1, hD1⟩ := hB
              rw [ht] at hP1
              have hP : va_P D xcl (xMw cT aM ad rd gd vad st []) H1 := hP1
              have hD : va_D A (xMw cT aM ad rd gd vad st []) := hD1.weaken (fun k q _ h => hFc q.1 h)
              generalize H1 = H at hP hS ⊢
              rw [hr9]
              refine W.eq (g2 := F0 m 237 ls [.int o3]) (by first | rfl | (skip; rfl)) ?_
              refine lv_goto (tgt := 241) hx hb dM_order_237 (by decide) ?_
              obtain rfl := Option.some.inj hf
              exact W.iret (v := o3) hx hb hr (fun t ht hW => ⟨⟨o3, (), rfl, rfl, by rw [ht]; exact hP, va_K.moved hW.alike hK, hD⟩, hS.F ht⟩) hS.2.2 dM_order_241
          · rw [if_pos hc] at hf
            refine lv_iconst (v := 0) hx hb dM_order_162 (by decide) ?_
            refine lv_istore_n (lv' := [(3, .int 0), (0, .ref aM), (1, xv vad c0), (2, xv vad c1)]) hx hb dM_order_163 rfl hl (by decide) (by simp only [List.filter, xvcat, xrscat, xcI, xcL, xcR, xcN]; rfl) (fun ls hl => ?_)
            exact key n (2, (0 : Int32), c0, c1) _ _ ls (Or.inr (⟨rfl, hf, hP, hD, hS, lv_sub hl [0, 1, 2, 3] rfl⟩))
        · rw [if_pos hc] at hf
          refine lv_iconst (v := 0) hx hb dM_order_71 (by decide) ?_
          refine lv_istore_n (lv' := [(3, .int 0), (0, .ref aM), (1, xv vad c0), (2, xv vad c1)]) hx hb dM_order_72 rfl hl (by decide) (by simp only [List.filter, xvcat, xrscat, xcI, xcL, xcR, xcN]; rfl) (fun ls hl => ?_)
          exact key n (1, (0 : Int32), c0, c1) _ _ ls (Or.inl ⟨rfl, hf, hP, hD, hS, lv_sub hl [0, 1, 2, 3] rfl⟩)
      · rw [if_pos hc] at hf
        refine xm_aload_n hx hb (xvor _ _) dM_order_29 rfl (lv_at hl 1 rfl) ?_
        refine xm_vget (v := .long ((xpl st) (c0 - 1))) hx hb htx hown hK hP 1 (by decide) hg1 rfl ((hZ.1 (96, "n", "J") (List.mem_of_getElem? (i := 1) rfl)).use rfl) rfl dM_order_30 ?_
        refine xm_aload_n hx hb (xvor _ _) dM_order_33 rfl (lv_at hl 2 rfl) ?_
        refine xm_vget (v := .long ((xpl st) (c1 - 1))) hx hb htx hown hK hP 1 (by decide) hg2 rfl ((hZ.1 (96, "n", "J") (List.mem_of_getElem? (i := 1) rfl)).use rfl) rfl dM_order_34 ?_
        refine W.lcmp hx hb dM_order_37 ?_
        refine lv_if_ge (tgt := 45) hx hb dM_order_38 (by decide) (fun hc => ?_) (fun hc => ?_)
        · rw [if_pos hc] at hf
          refine xm_aload_n hx hb (xvor _ _) dM_order_45 rfl (lv_at hl 1 rfl) ?_
          refine xm_vget (v := .long ((xpl st) (c0 - 1))) hx hb htx hown hK hP 1 (by decide) hg1 rfl ((hZ.1 (96, "n", "J") (List.mem_of_getElem? (i := 1) rfl)).use rfl) rfl dM_order_46 ?_
          refine xm_aload_n hx hb (xvor _ _) dM_order_49 rfl (lv_at hl 2 rfl) ?_
          refine xm_vget (v := .long ((xpl st) (c1 - 1))) hx hb htx hown hK hP 1 (by decide) hg2 rfl ((hZ.1 (96, "n", "J") (List.mem_of_getElem? (i := 1) rfl)).use rfl) rfl dM_order_50 ?_
          refine W.lcmp hx hb dM_order_53 ?_
          refine lv_if_le (tgt := 61) hx hb dM_order_54 (by decide) (fun hc => ?_) (fun hc => ?_)
          · rw [if_pos hc] at hf
            refine lv_iconst (v := 0) hx hb dM_order_61 (by decide) ?_
            obtain rfl := Option.some.inj hf
            exact W.iret (v := (0 : Int32)) hx hb hr (fun t ht hW => ⟨⟨(0 : Int32), (), rfl, rfl, by rw [ht]; exact hP, va_K.moved hW.alike hK, hD⟩, hS.F ht⟩) hS.2.2 dM_order_62
          · rw [if_neg hc] at hf
            refine lv_iconst (v := 1) hx hb dM_order_57 (by decide) ?_
            refine lv_goto (tgt := 62) hx hb dM_order_58 (by decide) ?_
            obtain rfl := Option.some.inj hf
            exact W.iret (v := (1 : Int32)) hx hb hr (fun t ht hW => ⟨⟨(1 : Int32), (), rfl, rfl, by rw [ht]; exact hP, va_K.moved hW.alike hK, hD⟩, hS.F ht⟩) hS.2.2 dM_order_62
        · rw [if_neg hc] at hf
          refine lv_iconst (v := (-1)) hx hb dM_order_41 (by decide) ?_
          refine lv_goto (tgt := 62) hx hb dM_order_42 (by decide) ?_
          obtain rfl := Option.some.inj hf
          exact W.iret (v := ((-1) : Int32)) hx hb hr (fun t ht hW => ⟨⟨((-1) : Int32), (), rfl, rfl, by rw [ht]; exact hP, va_K.moved hW.alike hK, hD⟩, hS.F ht⟩) hS.2.2 dM_order_62
    · rw [if_neg hc] at hf
      refine xm_aload_n hx hb (xvor _ _) dM_order_11 rfl (lv_at hl 1 rfl) ?_
      refine xm_vget (v := .int ((xpi st 0) (c0 - 1))) hx hb htx hown hK hP 0 (by decide) hg1 rfl ((hZ.1 (93, "kind", "I") (List.mem_of_getElem? (i := 0) rfl)).use rfl) rfl dM_order_12 ?_
      refine xm_aload_n hx hb (xvor _ _) dM_order_15 rfl (lv_at hl 2 rfl) ?_
      refine xm_vget (v := .int ((xpi st 0) (c1 - 1))) hx hb htx hown hK hP 0 (by decide) hg2 rfl ((hZ.1 (93, "kind", "I") (List.mem_of_getElem? (i := 0) rfl)).use rfl) rfl dM_order_16 ?_
      refine lv_isub hx hb dM_order_19 ?_
      obtain rfl := Option.some.inj hf
      exact W.iret (v := (((xpi st 0) (c0 - 1)) - ((xpi st 0) (c1 - 1)))) hx hb hr (fun t ht hW => ⟨⟨(((xpi st 0) (c0 - 1)) - ((xpi st 0) (c1 - 1))), (), rfl, rfl, by rw [ht]; exact hP, va_K.moved hW.alike hK, hD⟩, hS.F ht⟩) hS.2.2 dM_order_20
set_option maxHeartbeats 400000000 in
set_option maxRecDepth 100000 in
theorem gM_ranked (l : Launch) (hl9 : l.stackTraces = false) (D : va_G) (cT : Nat → ClassId) (aK aV : Nat → Nat) (sz d n : Nat) (aM : Nat) (ad rd gd vad : Nat → Nat) (st : xS) (c0 : Nat) (out : Nat × Nat × xS) (hf : fM_ranked d n st c0 = some out) : xMet l yM_ranked wyM_ranked (16 * d + 1) out.1 out.2.1 (400 * d + 40) D cT aK aV sz [.ref aM, xv vad c0] (xMw cT aM ad rd gd vad st []) (fun A => va_Qv (fun u : xU => xE vad st out.2.2 u) (fun u t => xB D xcl cT A (xMw cT aM u.1 rd u.2.1 u.2.2 out.2.2 []) t) A) := by
  refine Met.ofW (cc := prog_13_method_26_code) (maxL := 11) (ret := none) (by decide) rfl ?_
  intro p e s m args below meth c s₁ B hml hv
  obtain ⟨rfl, hsz, hZ, hP, hK, hD0⟩ := hv
  have hx := B.exec
  have hb := B.bytes
  have hr := B.returns
  have hts := atoms_spec (ws := wyM_ranked) B.pre
  have htx := fun w h => hts w (List.mem_cons_of_mem _ h)
  have hown : s.vm.findClass "ValueBenchModel" = some m.cls := findClass_of_methodNamed B.named
  have hlocks := B.notSynchronized
  subst hsz
  have hD := hD0.self (sz := s.heap.size)
  generalize hAe : va_A (xMw cT aM ad rd gd vad st []) s.heap.size = A at hD hZ ⊢
  have hA : ∀ q : Nat, s.heap.size ≤ q → A q := fun q h => by rw [← hAe]; exact Or.inr h
  have hS : va_S A s.heap s.heap [] := va_S.rf
  have hl := lv_entry ([.ref aM, xv vad c0]) (n := 11) (by simp [lg_sl, xvcat, xrscat, xcI, xcL, xcR, xcN])
  rw [show lv_args 0 [.ref aM, xv vad c0] = [(0, .ref aM), (1, xv vad c0)] from by simp [lv_args, xvcat, xrscat, xcI, xcL, xcR, xcN]] at hl
  rw [lg_entry_eq]
  generalize (lg_sl ([.ref aM, xv vad c0]) ++ List.replicate (11 - (lg_sl ([.ref aM, xv vad c0])).length) Slot.unset).toArray = ls at hl ⊢
  have hl : lv_has ls 11 [(0, .ref aM), (1, xv vad c0)] := hl
  have hE : ∀ p, p < xct st → vad p = vad p := fun _ _ => rfl
  have hN : xct st ≤ xct st := Nat.le_refl _
  unfold fM_ranked at hf
  refine xloopM (σ := Nat × Int32 × Int32 × Nat × Int32 × Int32 × Int32 × Int32 × Int32 × Int32 × xS × Nat × Nat) (fun n x H locs ls => (∃ (adL gdL vadL : Nat → Nat), x.1 = 1 ∧ fM_ranked_b d n x.1 x.2.1 x.2.2.1 x.2.2.2.1 x.2.2.2.2.1 x.2.2.2.2.2.1 x.2.2.2.2.2.2.1 x.2.2.2.2.2.2.2.1 x.2.2.2.2.2.2.2.2.1 x.2.2.2.2.2.2.2.2.2.1 x.2.2.2.2.2.2.2.2.2.2.1 x.2.2.2.2.2.2.2.2.2.2.2.1 x.2.2.2.2.2.2.2.2.2.2.2.2 = some out ∧ va_P D xcl (xMw cT aM adL rd gdL vadL x.2.2.2.2.2.2.2.2.2.2.1 []) H ∧ va_D A (xMw cT aM adL rd gdL vadL x.2.2.2.2.2.2.2.2.2.2.1 []) ∧ va_S A s.heap H locs ∧ lv_has ls 11 [(3, .int x.2.1), (2, .int x.2.2.1), (0, .ref aM), (1, xv vadL x.2.2.2.1)] ∧ (∀ p, p < xct st → vadL p = vad p) ∧ xct st ≤ xct x.2.2.2.2.2.2.2.2.2.2.1) ∨ (∃ (adL gdL vadL : Nat → Nat), x.1 = 2 ∧ fM_ranked_b d n x.1 x.2.1 x.2.2.1 x.2.2.2.1 x.2.2.2.2.1 x.2.2.2.2.2.1 x.2.2.2.2.2.2.1 x.2.2.2.2.2.2.2.1 x.2.2.2.2.2.2.2.2.1 x.2.2.2.2.2.2.2.2.2.1 x.2.2.2.2.2.2.2.2.2.2.1 x.2.2.2.2.2.2.2.2.2.2.2.1 x.2.2.2.2.2.2.2.2.2.2.2.2 = some out ∧ va_P D xcl (xMw cT aM adL rd gdL vadL x.2.2.2.2.2.2.2.2.2.2.1 []) H ∧ va_D A (xMw cT aM adL rd gdL vadL x.2.2.2.2.2.2.2.2.2.2.1 []) ∧ va_S A s.heap H locs ∧ lv_has ls 11 [(3, .int x.2.1), (2, .int x.2.2.1), (0, .ref aM), (1, xv vadL x.2.2.2.1)] ∧ (∀ p, p < xct st → vadL p = vad p) ∧ xct st ≤ xct x.2.2.2.2.2.2.2.2.2.2.1) ∨ (∃ (adL gdL vadL : Nat → Nat), x.1 = 3 ∧ fM_ranked_b d n x.1 x.2.1 x.2.2.1 x.2.2.2.1 x.2.2.2.2.1 x.2.2.2.2.2.1 x.2.2.2.2.2.2.1 x.2.2.2.2.2.2.2.1 x.2.2.2.2.2.2.2.2.1 x.2.2.2.2.2.2.2.2.2.1 x.2.2.2.2.2.2.2.2.2.2.1 x.2.2.2.2.2.2.2.2.2.2.2.1 x.2.2.2.2.2.2.2.2.2.2.2.2 = some out ∧ va_P D xcl (xMw cT aM adL rd gdL vadL x.2.2.2.2.2.2.2.2.2.2.1 []) H ∧ va_D A (xMw cT aM adL rd gdL vadL x.2.2.2.2.2.2.2.2.2.2.1 []) ∧ va_S A s.heap H locs ∧ lv_has ls 11 [(4, .int x.2.2.2.2.1), (3, .int x.2.1), (2, .int x.2.2.1), (0, .ref aM), (1, xv vadL x.2.2.2.1)] ∧ (∀ p, p < xct st → vadL p = vad p) ∧ xct st ≤ xct x.2.2.2.2.2.2.2.2.2.2.1) ∨ (∃ (adL gdL vadL : Nat → Nat), x.1 = 4 ∧ fM_ranked_b d n x.1 x.2.1 x.2.2.1 x.2.2.2.1 x.2.2.2.2.1 x.2.2.2.2.2.1 x.2.2.2.2.2.2.1 x.2.2.2.2.2.2.2.1 x.2.2.2.2.2.2.2.2.1 x.2.2.2.2.2.2.2.2.2.1 x.2.2.2.2.2.2.2.2.2.2.1 x.2.2.2.2.2.2.2.2.2.2.2.1 x.2.2.2.2.2.2.2.2.2.2.2.2 = some out ∧ va_P D xcl (xMw cT aM adL rd gdL vadL x.2.2.2.2.2.2.2.2.2.2.1 []) H ∧ va_D A (xMw cT aM adL rd gdL vadL x.2.2.2.2.2.2.2.2.2.2.1 []) ∧ va_S A s.heap H locs ∧ lv_has ls 11 [(9, .int x.2.2.2.2.2.1), (8, .int x.2.2.2.2.2.2.1), (7, .int x.2.2.2.2.2.2.2.1), (6, .int x.2.2.2.2.2.2.2.2.1), (5, .int x.2.2.2.2.2.2.2.2.2.1), (4, .int x.2.2.2.2.1), (3, .int x.2.1), (2, .int x.2.2.1), (0, .ref aM), (1, xv vadL x.2.2.2.1)] ∧ (∀ p, p < xct st → vadL p = vad p) ∧ xct st ≤ xct x.2.2.2.2.2.2.2.2.2.2.1) ∨ (∃ (adL gdL vadL : Nat → Nat), x.1 = 5 ∧ fM_ranked_b d n x.1 x.2.1 x.2.2.1 x.2.2.2.1 x.2.2.2.2.1 x.2.2.2.2.2.1 x.2.2.2.2.2.2.1 x.2.2.2.2.2.2.2.1 x.2.2.2.2.2.2.2.2.1 x.2.2.2.2.2.2.2.2.2.1 x.2.2.2.2.2.2.2.2.2.2.1 x.2.2.2.2.2.2.2.2.2.2.2.1 x.2.2.2.2.2.2.2.2.2.2.2.2 = some out ∧ va_P D xcl (xMw cT aM adL rd gdL vadL x.2.2.2.2.2.2.2.2.2.2.1 []) H ∧ va_D A (xMw cT aM adL rd gdL vadL x.2.2.2.2.2.2.2.2.2.2.1 []) ∧ va_S A s.heap H locs ∧ lv_has ls 11 [(4, .int x.2.2.2.2.1), (3, .int x.2.1), (2, .int x.2.2.1), (0, .ref aM), (1, xv vadL x.2.2.2.1)] ∧ (∀ p, p < xct st → vadL p = vad p) ∧ xct st ≤ xct x.2.2.2.2.2.2.2.2.2.2.1)) (fun x => if x.1 = 1 then 43 else if x.1 = 2 then 63 else if x.1 = 3 then 71 else if x.1 = 4 then 111 else 225) (fun x => x.2.2.2.2.2.2.2.2.2.2.2.1) (fun x => x.2.2.2.2.2.2.2.2.2.2.2.2) (fun x H locs ls h => by rcases h with h | h | h | h | h; (obtain ⟨_, _, _, h⟩ := h; exact absurd h.2.1 (by rw [fM_ranked_b]; exact fun h => nomatch h)); (obtain ⟨_, _, _, h⟩ := h; exact absurd h.2.1 (by rw [fM_ranked_b]; exact fun h => nomatch h)); (obtain ⟨_, _, _, h⟩ := h; exact absurd h.2.1 (by rw [fM_ranked_b]; exact fun h => nomatch h)); (obtain ⟨_, _, _, h⟩ := h; exact absurd h.2.1 (by rw [fM_ranked_b]; exact fun h => nomatch h)); (obtain ⟨_, _, _, h⟩ := h; exact absurd h.2.1 (by rw [fM_ranked_b]; exact fun h => nomatch h))) (fun n ih x H locs ls hv => ?_) (fun key => ?_)
  · obtain ⟨lb, y3, y2, y1, y4, y9, y8, y7, y6, y5, ws9, wc, wn⟩ := x
    rcases hv with ⟨adL, gdL, vadL, hj, hf, hP, hD, hS, hl, hE, hN⟩ | ⟨adL, gdL, vadL, hj, hf, hP, hD, hS, hl, hE, hN⟩ | ⟨adL, gdL, vadL, hj, hf, hP, hD, hS, hl, hE, hN⟩ | ⟨adL, gdL, vadL, hj, hf, hP, hD, hS, hl, hE, hN⟩ | ⟨adL, gdL, vadL, hj, hf, hP, hD, hS, hl, hE, hN⟩
    · subst hj
      have hf : fM_ranked_b d (n + 1) 1 y3 y2 y1 y4 y9 y8 y7 y6 y5 ws9 wc wn = some out := hf
      rw [fM_ranked_b, if_pos rfl] at hf
      obtain ⟨hP, hD⟩ : xPD D xcl A (xMw cT aM adL rd gdL vadL ws9 []) H := ⟨hP, hD⟩
      have hl : lv_has ls 11 [(3, .int y3), (2, .int y2), (0, .ref aM), (1, xv vadL y1)] := hl
      refine W.eq (g2 := F0 m 43 ls []) rfl ?_
      show W p l e _ s m _ below meth c H locs wc wn _ _
      obtain ⟨hm0, hf⟩ := xmoE hf
      refine lv_iload_n hx hb dM_ranked_43 rfl (lv_at hl 0 rfl) ?_
      refine lv_iload_n hx hb dM_ranked_44 rfl (lv_at hl 1 rfl) ?_
      refine lv_icmp_ge (tgt := 61) hx hb dM_ranked_45 (by decide) (fun hc => ?_) (fun hc => ?_)
      · rw [if_pos hc] at hf
        refine lv_iconst (v := 1) hx hb dM_ranked_61 (by decide) ?_
        refine lv_istore_n (lv' := [(3, .int 1), (2, .int y2), (0, .ref aM), (1, xv vadL y1)]) hx hb dM_ranked_62 rfl hl (by decide) rfl (fun ls hl => ?_)
        exact ih (2, (1 : Int32), y2, y1, 0, 0, 0, 0, 0, 0, ws9, wc, wn) _ _ ls (Or.inr (Or.inl ⟨adL, gdL, vadL, rfl, hf, hP, hD, hS, lv_sub hl [0, 1, 2, 3] rfl, hE, hN⟩))
      · rw [if_neg hc] at hf
        refine lv_aload_n hx hb dM_ranked_48 rfl (lv_at hl 2 rfl) ?_
        refine xm_get (v := .ref (adL 13)) hx hb htx hown hK hP 13 (by decide) rfl (htx _ kw_5_100) rfl dM_ranked_49 ?_
        refine lv_iload_n hx hb dM_ranked_52 rfl (lv_at hl 0 rfl) ?_
        refine lv_iload_n hx hb dM_ranked_53 rfl (lv_at hl 0 rfl) ?_
        obtain ⟨hg1, hf⟩ := xifn hf
        refine va_iast hx hb hK hP hD hS 7 1 rfl rfl hg1 dM_ranked_54 (fun H locs hP hD hS => ?_)
        obtain ⟨hP, hD⟩ : xPD D xcl A (xMw cT aM adL rd gdL vadL (xsB ws9 13 y3.toNatClampNeg y3) []) H := ⟨hP, hD⟩
        refine lv_iinc (v := (y3 + 1)) (lv' := [(3, .int (y3 + 1)), (2, .int y2), (0, .ref aM), (1, xv vadL y1)]) hx hb dM_ranked_55 hl (k := 0) rfl rfl (by decide) rfl (fun ls hl => ?_)
        refine lv_goto (tgt := 43) hx hb dM_ranked_58 (by decide) ?_
        exact ih (1, (y3 + 1), y2, y1, 0, 0, 0, 0, 0, 0, (xsB ws9 13 y3.toNatClampNeg y3), wc, wn) _ _ ls (Or.inl ⟨adL, gdL, vadL, rfl, hf, hP, hD, hS, lv_sub hl [0, 1, 2, 3] rfl, hE, hN⟩)
    · subst hj
      have hf : fM_ranked_b d (n + 1) 2 y3 y2 y1 y4 y9 y8 y7 y6 y5 ws9 wc wn = some out := hf
      rw [fM_ranked_b, if_neg (by decide), if_pos rfl] at hf
      obtain ⟨hP, hD⟩ : xPD D xcl A (xMw cT aM adL rd gdL vadL ws9 []) H := ⟨hP, hD⟩
      have hl : lv_has ls 11 [(3, .int y3), (2, .int y2), (0, .ref aM), (1, xv vadL y1)] := hl
      refine W.eq (g2 := F0 m 63 ls []) rfl ?_
      show W p l e _ s m _ below meth c H locs wc wn _ _
      obtain ⟨hm0, hf⟩ := xmoE hf
      refine lv_iload_n hx hb dM_ranked_63 rfl (lv_at hl 0 rfl) ?_
      refine lv_iload_n hx hb dM_ranked_64 rfl (lv_at hl 1 rfl) ?_
      refine lv_icmp_ge (tgt := 258) hx hb dM_ranked_65 (by decide) (fun hc => ?_) (fun hc => ?_)
      · rw [if_pos hc] at hf
        obtain rfl := Option.some.inj hf
        exact W.vret hx hb hr (fun t ht hW => ⟨⟨(adL, gdL, vadL), rfl, ⟨hE, hN⟩, by rw [ht]; exact hP, va_K.moved hW.alike hK, hD⟩, hS.F ht⟩) hS.2.2 dM_ranked_258
      · rw [if_neg hc] at hf
        refine lv_iconst (v := 0) hx hb dM_ranked_68 (by decide) ?_
        refine lv_istore (lv' := [(4, .int 0), (3, .int y3), (2, .int y2), (0, .ref aM), (1, xv vadL y1)]) hx hb dM_ranked_69 hl (by decide) rfl (fun ls hl => ?_)
        exact ih (3, y3, y2, y1, (0 : Int32), 0, 0, 0, 0, 0, ws9, wc, wn) _ _ ls (Or.inr (Or.inr (Or.inl ⟨adL, gdL, vadL, rfl, hf, hP, hD, hS, lv_sub hl [0, 1, 2, 3, 4] rfl, hE, hN⟩)))
    · subst hj
      have hf : fM_ranked_b d (n + 1) 3 y3 y2 y1 y4 y9 y8 y7 y6 y5 ws9 wc wn = some out := hf
      rw [fM_ranked_b, if_neg (by decide), if_neg (by decide), if_pos rfl] at hf
      obtain ⟨hP, hD⟩ : xPD D xcl A (xMw cT aM adL rd gdL vadL ws9 []) H := ⟨hP, hD⟩
      have hl : lv_has ls 11 [(4, .int y4), (3, .int y3), (2, .int y2), (0, .ref aM), (1, xv vadL y1)] := hl
      refine W.eq (g2 := F0 m 71 ls []) rfl ?_
      show W p l e _ s m _ below meth c H locs wc wn _ _
      obtain ⟨hm0, hf⟩ := xmoE hf
      refine lv_iload hx hb dM_ranked_71 (lv_at hl 0 rfl) ?_
      refine lv_iload_n hx hb dM_ranked_73 rfl (lv_at hl 2 rfl) ?_
      refine lv_icmp_ge (tgt := 222) hx hb dM_ranked_74 (by decide) (fun hc => ?_) (fun hc => ?_)
      · rw [if_pos hc] at hf
        refine lv_iconst (v := 0) hx hb dM_ranked_222 (by decide) ?_
        refine lv_istore (lv' := [(4, .int 0), (3, .int y3), (2, .int y2), (0, .ref aM), (1, xv vadL y1)]) hx hb dM_ranked_223 hl (by decide) rfl (fun ls hl => ?_)
        exact ih (5, y3, y2, y1, (0 : Int32), 0, 0, 0, 0, 0, ws9, wc, wn) _ _ ls (Or.inr (Or.inr (Or.inr (Or.inr (⟨adL, gdL, vadL, rfl, hf, hP, hD, hS, lv_sub hl [0, 1, 2, 3, 4] rfl, hE, hN⟩)))))
      · rw [if_neg hc] at hf
        refine lv_iload hx hb dM_ranked_77 (lv_at hl 0 rfl) ?_
        refine lv_istore (lv' := [(5, .int y4), (4, .int y4), (3, .int y3), (2, .int y2), (0, .ref aM), (1, xv vadL y1)]) hx hb dM_ranked_79 hl (by decide) rfl (fun ls hl => ?_)
        refine lv_iload hx hb dM_ranked_81 (lv_at hl 1 rfl) ?_
        refine lv_iload_n hx hb dM_ranked_83 rfl (lv_at hl 2 rfl) ?_
        refine lv_iadd hx hb dM_ranked_84 ?_
        refine lv_iload_n hx hb dM_ranked_85 rfl (lv_at hl 3 rfl) ?_
        refine va_mmin hx hb (hml.trans hl.1.symm) hown (htx _ kw_7_38) (htx _ kw_2_3) (htx _ kw_1_15) (htx _ kw_2_4) (Nat.le_of_ble_eq_true rfl) (Nat.le_of_ble_eq_true rfl) (hm0.1) (hm0.2) dM_ranked_86 ?_
        refine W.eq (g2 := F0 m 89 ls [.int (if y2 < (y4 + y3) then y2 else (y4 + y3))]) rfl ?_
        refine lv_istore (lv' := [(6, .int (if y2 < (y4 + y3) then y2 else (y4 + y3))), (5, .int y4), (4, .int y4), (3, .int y3), (2, .int y2), (0, .ref aM), (1, xv vadL y1)]) hx hb dM_ranked_89 hl (by decide) rfl (fun ls hl => ?_)
        refine lv_iload hx hb dM_ranked_91 (lv_at hl 0 rfl) ?_
        refine lv_istore (lv' := [(7, .int (if y2 < (y4 + y3) then y2 else (y4 + y3))), (6, .int (if y2 < (y4 + y3) then y2 else (y4 + y3))), (5, .int y4), (4, .int y4), (3, .int y3), (2, .int y2), (0, .ref aM), (1, xv vadL y1)]) hx hb dM_ranked_93 hl (by decide) rfl (fun ls hl => ?_)
        refine lv_iload hx hb dM_ranked_95 (lv_at hl 3 rfl) ?_
        refine lv_iconst (v := 2) hx hb dM_ranked_97 (by decide) ?_
        refine lv_iload_n hx hb dM_ranked_98 rfl (lv_at hl 4 rfl) ?_
        refine lv_imul hx hb dM_ranked_99 ?_
        refine lv_iadd hx hb dM_ranked_100 ?_
        refine lv_iload_n hx hb dM_ranked_101 rfl (lv_at hl 5 rfl) ?_
        refine va_mmin hx hb (hml.trans hl.1.symm) hown (htx _ kw_7_38) (htx _ kw_2_3) (htx _ kw_1_15) (htx _ kw_2_4) (Nat.le_of_ble_eq_true rfl) (Nat.le_of_ble_eq_true rfl) (hm0.1) (hm0.2) dM_ranked_102 ?_
        refine W.eq (g2 := F0 m 105 ls [.int (if y2 < (y4 + ((2 : Int32) * y3)) then y2 else (y4 + ((2 : Int32) * y3)))]) rfl ?_
        refine lv_istore (lv' := [(8, .int (if y2 < (y4 + ((2 : Int32) * y3)) then y2 else (y4 + ((2 : Int32) * y3)))), (7, .int (if y2 < (y4 + y3) then y2 else (y4 + y3))), (6, .int (if y2 < (y4 + y3) then y2 else (y4 + y3))), (5, .int y4), (4, .int y4), (3, .int y3), (2, .int y2), (0, .ref aM), (1, xv vadL y1)]) hx hb dM_ranked_105 hl (by decide) rfl (fun ls hl => ?_)
        refine lv_iload hx hb dM_ranked_107 (lv_at hl 4 rfl) ?_
        refine lv_istore (lv' := [(9, .int y4), (8, .int (if y2 < (y4 + ((2 : Int32) * y3)) then y2 else (y4 + ((2 : Int32) * y3)))), (7, .int (if y2 < (y4 + y3) then y2 else (y4 + y3))), (6, .int (if y2 < (y4 + y3) then y2 else (y4 + y3))), (5, .int y4), (4, .int y4), (3, .int y3), (2, .int y2), (0, .ref aM), (1, xv vadL y1)]) hx hb dM_ranked_109 hl (by decide) rfl (fun ls hl => ?_)
        exact ih (4, y3, y2, y1, y4, y4, (if y2 < (y4 + ((2 : Int32) * y3)) then y2 else (y4 + ((2 : Int32) * y3))), (if y2 < (y4 + y3) then y2 else (y4 + y3)), (if y2 < (y4 + y3) then y2 else (y4 + y3)), y4, ws9, wc, wn) _ _ ls (Or.inr (Or.inr (Or.inr (Or.inl ⟨adL, gdL, vadL, rfl, hf, hP, hD, hS, lv_sub hl [0, 1, 2, 3, 4, 5, 6, 7, 8, 9] rfl, hE, hN⟩))))
    · subst hj
      have hf : fM_ranked_b d (n + 1) 4 y3 y2 y1 y4 y9 y8 y7 y6 y5 ws9 wc wn = some out := hf
      rw [fM_ranked_b, if_neg (by decide), if_neg (by decide), if_neg (by decide), if_pos rfl] at hf
      obtain ⟨hP, hD⟩ : xPD D xcl A (xMw cT aM adL rd gdL vadL ws9 []) H := ⟨hP, hD⟩
      have hl : lv_has ls 11 [(9, .int y9), (8, .int y8), (7, .int y7), (6, .int y6), (5, .int y5), (4, .int y4), (3, .int y3), (2, .int y2), (0, .ref aM), (1, xv vadL y1)] := hl
      refine W.eq (g2 := F0 m 111 ls []) rfl ?_
      show W p l e _ s m _ below meth c H locs wc wn _ _
      obtain ⟨hm0, hf⟩ := xmoE hf
      refine lv_iload hx hb dM_ranked_111 (lv_at hl 0 rfl) ?_
      refine lv_iload hx hb dM_ranked_113 (lv_at hl 1 rfl) ?_
      refine lv_icmp_ge (tgt := 211) hx hb dM_ranked_115 (by decide) (fun hc => ?_) (fun hc => ?_)
      · rw [if_pos hc] at hf
        refine lv_iload hx hb dM_ranked_211 (lv_at hl 5 rfl) ?_
        refine lv_iconst (v := 2) hx hb dM_ranked_213 (by decide) ?_
        refine lv_iload_n hx hb dM_ranked_214 rfl (lv_at hl 6 rfl) ?_
        refine lv_imul hx hb dM_ranked_215 ?_
        refine lv_iadd hx hb dM_ranked_216 ?_
        refine lv_istore (lv' := [(4, .int (y4 + ((2 : Int32) * y3))), (9, .int y9), (8, .int y8), (7, .int y7), (6, .int y6), (5, .int y5), (3, .int y3), (2, .int y2), (0, .ref aM), (1, xv vadL y1)]) hx hb dM_ranked_217 hl (by decide) rfl (fun ls hl => ?_)
        refine lv_goto (tgt := 71) hx hb dM_ranked_219 (by decide) ?_
        exact ih (3, y3, y2, y1, (y4 + ((2 : Int32) * y3)), y9, y8, y7, y6, y5, ws9, wc, wn) _ _ ls (Or.inr (Or.inr (Or.inl ⟨adL, gdL, vadL, rfl, hf, hP, hD, hS, lv_sub hl [0, 6, 7, 8, 9] rfl, hE, hN⟩)))
      · rw [if_neg hc] at hf
        refine lv_iload hx hb dM_ranked_118 (lv_at hl 4 rfl) ?_
        refine lv_iload hx hb dM_ranked_120 (lv_at hl 2 rfl) ?_
        refine lv_icmp_ge (tgt := 167) hx hb dM_ranked_122 (by decide) (fun hc => ?_) (fun hc => ?_)
        · rw [if_pos hc] at hf
          refine lv_iconst (v := 0) hx hb dM_ranked_167 (by decide) ?_
          refine lv_istore (lv' := [(10, .int 0), (9, .int y9), (8, .int y8), (7, .int y7), (6, .int y6), (5, .int y5), (4, .int y4), (3, .int y3), (2, .int y2), (0, .ref aM), (1, xv vadL y1)]) hx hb dM_ranked_168 hl (by decide) rfl (fun ls hl => ?_)
          refine lv_aload_n hx hb dM_ranked_170 rfl (lv_at hl 9 rfl) ?_
          refine xm_get (v := .ref (adL 14)) hx hb htx hown hK hP 14 (by decide) rfl (htx _ kw_5_101) rfl dM_ranked_171 ?_
          refine lv_iload hx hb dM_ranked_174 (lv_at hl 1 rfl) ?_
          refine lv_iload hx hb dM_ranked_176 (lv_at hl 0 rfl) ?_
          refine lv_if_eq (tgt := 194) hx hb dM_ranked_178 (by decide) (fun _ => ?_) (fun h => ((by revert h; decide : False)).elim)
          refine lv_aload_n hx hb dM_ranked_194 rfl (lv_at hl 9 rfl) ?_
          refine xm_get (v := .ref (adL 13)) hx hb htx hown hK hP 13 (by decide) rfl (htx _ kw_5_100) rfl dM_ranked_195 ?_
          refine lv_iload hx hb dM_ranked_198 (lv_at hl 4 rfl) ?_
          refine lv_iinc (v := (y6 + 1)) (lv' := [(6, .int (y6 + 1)), (10, .int 0), (9, .int y9), (8, .int y8), (7, .int y7), (5, .int y5), (4, .int y4), (3, .int y3), (2, .int y2), (0, .ref aM), (1, xv vadL y1)]) hx hb dM_ranked_200 hl (k := 4) rfl rfl (by decide) rfl (fun ls hl => ?_)
          obtain ⟨hg1, hf⟩ := xifn hf
          refine va_iald hx hb hK hP 7 1 rfl rfl hg1 dM_ranked_203 ?_
          refine W.eq (g2 := F0 m 204 ls [.int ((xba ws9 13) y6.toNatClampNeg), .int y9, .ref (adL 14)]) rfl ?_
          obtain ⟨hg2, hf⟩ := xifn hf
          refine va_iast hx hb hK hP hD hS 8 1 rfl rfl hg2 dM_ranked_204 (fun H locs hP hD hS => ?_)
          obtain ⟨hP, hD⟩ : xPD D xcl A (xMw cT aM adL rd gdL vadL (xsB ws9 14 y9.toNatClampNeg ((xba ws9 13) y6.toNatClampNeg)) []) H := ⟨hP, hD⟩
          refine lv_iinc (v := (y9 + 1)) (lv' := [(9, .int (y9 + 1)), (6, .int (y6 + 1)), (10, .int 0), (8, .int y8), (7, .int y7), (5, .int y5), (4, .int y4), (3, .int y3), (2, .int y2), (0, .ref aM), (1, xv vadL y1)]) hx hb dM_ranked_205 hl (k := 2) rfl rfl (by decide) rfl (fun ls hl => ?_)
          refine lv_goto (tgt := 111) hx hb dM_ranked_208 (by decide) ?_
          exact ih (4, y3, y2, y1, y4, (y9 + 1), y8, y7, (y6 + 1), y5, (xsB ws9 14 y9.toNatClampNeg ((xba ws9 13) y6.toNatClampNeg)), wc, wn) _ _ ls (Or.inr (Or.inr (Or.inr (Or.inl ⟨adL, gdL, vadL, rfl, hf, hP, hD, hS, lv_sub hl [0, 3, 4, 1, 5, 6, 7, 8, 9, 10] rfl, hE, hN⟩))))
        · rw [if_neg hc] at hf
          refine lv_iload hx hb dM_ranked_125 (lv_at hl 3 rfl) ?_
          refine lv_iload hx hb dM_ranked_127 (lv_at hl 1 rfl) ?_
          refine lv_icmp_ge (tgt := 163) hx hb dM_ranked_129 (by decide) (fun hc => ?_) (fun hc => ?_)
          · rw [if_pos hc] at hf
            refine lv_iconst (v := 1) hx hb dM_ranked_163 (by decide) ?_
            refine lv_goto (tgt := 168) hx hb dM_ranked_164 (by decide) ?_
            refine lv_istore (lv' := [(10, .int 1), (9, .int y9), (8, .int y8), (7, .int y7), (6, .int y6), (5, .int y5), (4, .int y4), (3, .int y3), (2, .int y2), (0, .ref aM), (1, xv vadL y1)]) hx hb dM_ranked_168 hl (by decide) rfl (fun ls hl => ?_)
            refine lv_aload_n hx hb dM_ranked_170 rfl (lv_at hl 9 rfl) ?_
            refine xm_get (v := .ref (adL 14)) hx hb htx hown hK hP 14 (by decide) rfl (htx _ kw_5_101) rfl dM_ranked_171 ?_
            refine lv_iload hx hb dM_ranked_174 (lv_at hl 1 rfl) ?_
            refine lv_iload hx hb dM_ranked_176 (lv_at hl 0 rfl) ?_
            refine lv_if_eq (tgt := 194) hx hb dM_ranked_178 (by decide) (fun h => ((by revert h; decide : False)).elim) (fun _ => ?_)
            refine lv_aload_n hx hb dM_ranked_181 rfl (lv_at hl 9 rfl) ?_
            refine xm_get (v := .ref (adL 13)) hx hb htx hown hK hP 13 (by decide) rfl (htx _ kw_5_100) rfl dM_ranked_182 ?_
            refine lv_iload hx hb dM_ranked_185 (lv_at hl 5 rfl) ?_
            refine lv_iinc (v := (y5 + 1)) (lv' := [(5, .int (y5 + 1)), (10, .int 1), (9, .int y9), (8, .int y8), (7, .int y7), (6, .int y6), (4, .int y4), (3, .int y3), (2, .int y2), (0, .ref aM), (1, xv vadL y1)]) hx hb dM_ranked_187 hl (k := 5) rfl rfl (by decide) rfl (fun ls hl => ?_)
            obtain ⟨hg1, hf⟩ := xifn hf
            refine va_iald hx hb hK hP 7 1 rfl rfl hg1 dM_ranked_190 ?_
            refine W.eq (g2 := F0 m 191 ls [.int ((xba ws9 13) y5.toNatClampNeg), .int y9, .ref (adL 14)]) rfl ?_
            refine lv_goto (tgt := 204) hx hb dM_ranked_191 (by decide) ?_
            obtain ⟨hg2, hf⟩ := xifn hf
            refine va_iast hx hb hK hP hD hS 8 1 rfl rfl hg2 dM_ranked_204 (fun H locs hP hD hS => ?_)
            obtain ⟨hP, hD⟩ : xPD D xcl A (xMw cT aM adL rd gdL vadL (xsB ws9 14 y9.toNatClampNeg ((xba ws9 13) y5.toNatClampNeg)) []) H := ⟨hP, hD⟩
            refine lv_iinc (v := (y9 + 1)) (lv' := [(9, .int (y9 + 1)), (5, .int (y5 + 1)), (10, .int 1), (8, .int y8), (7, .int y7), (6, .int y6), (4, .int y4), (3, .int y3), (2, .int y2), (0, .ref aM), (1, xv vadL y1)]) hx hb dM_ranked_205 hl (k := 2) rfl rfl (by decide) rfl (fun ls hl => ?_)
            refine lv_goto (tgt := 111) hx hb dM_ranked_208 (by decide) ?_
            exact ih (4, y3, y2, y1, y4, (y9 + 1), y8, y7, y6, (y5 + 1), (xsB ws9 14 y9.toNatClampNeg ((xba ws9 13) y5.toNatClampNeg)), wc, wn) _ _ ls (Or.inr (Or.inr (Or.inr (Or.inl ⟨adL, gdL, vadL, rfl, hf, hP, hD, hS, lv_sub hl [0, 3, 4, 5, 1, 6, 7, 8, 9, 10] rfl, hE, hN⟩))))
          · rw [if_neg hc] at hf
            refine lv_aload_n hx hb dM_ranked_132 rfl (lv_at hl 8 rfl) ?_
            refine lv_aload_n hx hb dM_ranked_133 rfl (lv_at hl 8 rfl) ?_
            refine xm_aload_n hx hb (xvor _ _) dM_ranked_134 rfl (lv_at hl 9 rfl) ?_
            refine lv_aload_n hx hb dM_ranked_135 rfl (lv_at hl 8 rfl) ?_
            refine xm_get (v := .ref (adL 13)) hx hb htx hown hK hP 13 (by decide) rfl (htx _ kw_5_100) rfl dM_ranked_136 ?_
            refine lv_iload hx hb dM_ranked_139 (lv_at hl 4 rfl) ?_
            obtain ⟨hg1, hf⟩ := xifn hf
            refine va_iald hx hb hK hP 7 1 rfl rfl hg1 dM_ranked_141 ?_
            refine W.eq (g2 := F0 m 142 ls [.int ((xba ws9 13) y5.toNatClampNeg), xv vadL y1, .ref aM, .ref aM]) rfl ?_
            obtain ⟨o2, hq3, hf⟩ := xbind hf
            have hFc := xm_free hD hS hA
            refine va_callq (va_runV (C := "ValueBenchModel") (As := [xv vadL y1, .int ((xba ws9 13) y5.toNatClampNeg)]) (rest := [.ref aM]) ⟨hx, hb, hml, hown, htx⟩ (gM_kid l hl9 D cT aK aV H.size n aM adL rd gdL vadL ws9 y1 ((xba ws9 13) y5.toNatClampNeg) o2 hq3) ⟨callB_of 2 htx (xw_goodC kw_6_158) rfl rfl rfl (htx _ kw_1_5) (htx _ kw_6_155) ⟨by decide, by decide, by decide +kernel⟩ ⟨Nat.le_of_ble_eq_true rfl, Nat.le_of_ble_eq_true rfl⟩, (htx _ kw_6_157), (htx _ kp_M_kid)⟩ ⟨xPre_blind, va_recv hK hP (ci := 5) rfl (q0 := 0) rfl, (fun U hU hW => ⟨rfl, xPre_of hZ hS hFc hP hD hK U hU hW⟩)⟩ rfl rfl hl.1 rfl (xm_room (Nat.le_of_ble_eq_true rfl)) dM_ranked_142 ⟨hm0.1, hm0.2⟩) hS (fun q _ h => hFc q h) hFc (fun r4 u9 t H1 locs ht hvm hr9 hB hz1 hk1 hS => ?_)
            obtain ⟨hP1, hK1, hD1⟩ := hB
            rw [ht] at hP1
            have hP : va_P D xcl (xMw cT aM adL rd gdL vadL ws9 []) H1 := hP1
            have hD : va_D A (xMw cT aM adL rd gdL vadL ws9 []) := hD1.weaken (fun k q _ h => hFc q.1 h)
            generalize H1 = H at hP hS ⊢
            rw [hr9]
            refine W.eq (g2 := F0 m 145 ls [xv vadL o2, .ref aM]) (by first | rfl | (skip; rfl)) ?_
            refine lv_aload_n hx hb dM_ranked_145 rfl (lv_at hl 8 rfl) ?_
            refine xm_aload_n hx hb (xvor _ _) dM_ranked_146 rfl (lv_at hl 9 rfl) ?_
            refine lv_aload_n hx hb dM_ranked_147 rfl (lv_at hl 8 rfl) ?_
            refine xm_get (v := .ref (adL 13)) hx hb htx hown hK hP 13 (by decide) rfl (htx _ kw_5_100) rfl dM_ranked_148 ?_
            refine lv_iload hx hb dM_ranked_151 (lv_at hl 3 rfl) ?_
            obtain ⟨hg5, hf⟩ := xifn hf
            refine va_iald hx hb hK hP 7 1 rfl rfl hg5 dM_ranked_153 ?_
            refine W.eq (g2 := F0 m 154 ls [.int ((xba ws9 13) y6.toNatClampNeg), xv vadL y1, .ref aM, xv vadL o2, .ref aM]) rfl ?_
            obtain ⟨o6, hq7, hf⟩ := xbind hf
            have hFc := xm_free hD hS hA
            refine va_callq (va_runV (C := "ValueBenchModel") (As := [xv vadL y1, .int ((xba ws9 13) y6.toNatClampNeg)]) (rest := [xv vadL o2, .ref aM]) ⟨hx, hb, hml, hown, htx⟩ (gM_kid l hl9 D cT aK aV H.size n aM adL rd gdL vadL ws9 y1 ((xba ws9 13) y6.toNatClampNeg) o6 hq7) ⟨callB_of 2 htx (xw_goodC kw_6_158) rfl rfl rfl (htx _ kw_1_5) (htx _ kw_6_155) ⟨by decide, by decide, by decide +kernel⟩ ⟨Nat.le_of_ble_eq_true rfl, Nat.le_of_ble_eq_true rfl⟩, (htx _ kw_6_157), (htx _ kp_M_kid)⟩ ⟨xPre_blind, va_recv hK hP (ci := 5) rfl (q0 := 0) rfl, (fun U hU hW => ⟨rfl, xPre_of hZ hS hFc hP hD hK U hU hW⟩)⟩ rfl rfl hl.1 rfl (xm_room (by simp [xvcat, xrscat, xcI, xcL, xcR, xcN])) dM_ranked_154 ⟨hm0.1, hm0.2⟩) hS (fun q _ h => hFc q h) hFc (fun r8 u9 t H1 locs ht hvm hr9 hB hz1 hk1 hS => ?_)
            obtain ⟨hP1, hK1, hD1⟩ := hB
            rw [ht] at hP1
            have hP : va_P D xcl (xMw cT aM adL rd gdL vadL ws9 []) H1 := hP1
            have hD : va_D A (xMw cT aM adL rd gdL vadL ws9 []) := hD1.weaken (fun k q _ h => hFc q.1 h)
            generalize H1 = H at hP hS ⊢
            rw [hr9]
            refine W.eq (g2 := F0 m 157 ls [xv vadL o6, xv vadL o2, .ref aM]) (by first | rfl | (skip; rfl)) ?_
            obtain ⟨o9, hq10, hf⟩ := xbind hf
            have hFc := xm_free hD hS hA
            refine va_calli (va_runV (C := "ValueBenchModel") (As := [xv vadL o2, xv vadL o6]) (rest := []) ⟨hx, hb, hml, hown, htx⟩ (gM_order l hl9 D cT aK aV d H.size n aM adL rd gdL vadL ws9 o2 o6 o9 hq10) ⟨callB_of 2 htx (xw_goodC kw_7_25) rfl rfl rfl (htx _ kw_1_5) (htx _ kw_7_22) ⟨by decide, by decide, by decide +kernel⟩ ⟨(by show (16 * d) + 1 ≤ 16 * d + 1; omega), (by show 8 + (5 + 11) + (400 * d) ≤ 400 * d + 40; omega)⟩, (htx _ kw_7_24), (htx _ kp_M_order)⟩ ⟨xPre_blind, va_recv hK hP (ci := 5) rfl (q0 := 0) rfl, (fun U hU hW => ⟨rfl, xPre_of hZ hS hFc hP hD hK U hU hW⟩)⟩ rfl rfl hl.1 rfl (xm_room (Nat.le_of_ble_eq_true rfl)) dM_ranked_157 ⟨hm0.1, hm0.2⟩) hS (fun q _ h => hFc q h) hFc (fun r11 u9 t H1 locs ht hvm hr9 hB hz1 hk1 hS => ?_)
            obtain ⟨hP1, hK1, hD1⟩ := hB
            rw [ht] at hP1
            have hP : va_P D xcl (xMw cT aM adL rd gdL vadL ws9 []) H1 := hP1
            have hD : va_D A (xMw cT aM adL rd gdL vadL ws9 []) := hD1.weaken (fun k q _ h => hFc q.1 h)
            generalize H1 = H at hP hS ⊢
            rw [hr9]
            refine W.eq (g2 := F0 m 160 ls [.int o9]) (by first | rfl | (skip; rfl)) ?_
            refine lv_if_gt (tgt := 167) hx hb dM_ranked_160 (by decide) (fun hc => ?_) (fun hc => ?_)
            · rw [if_pos hc] at hf
              refine lv_iconst (v := 0) hx hb dM_ranked_167 (by decide) ?_
              refine lv_istore (lv' := [(10, .int 0), (9, .int y9), (8, .int y8), (7, .int y7), (6, .int y6), (5, .int y5), (4, .int y4), (3, .int y3), (2, .int y2), (0, .ref aM), (1, xv vadL y1)]) hx hb dM_ranked_168 hl (by decide) rfl (fun ls hl => ?_)
              refine lv_aload_n hx hb dM_ranked_170 rfl (lv_at hl 9 rfl) ?_
              refine xm_get (v := .ref (adL 14)) hx hb htx hown hK hP 14 (by decide) rfl (htx _ kw_5_101) rfl dM_ranked_171 ?_
              refine lv_iload hx hb dM_ranked_174 (lv_at hl 1 rfl) ?_
              refine lv_iload hx hb dM_ranked_176 (lv_at hl 0 rfl) ?_
              refine lv_if_eq (tgt := 194) hx hb dM_ranked_178 (by decide) (fun _ => ?_) (fun h => ((by revert h; decide : False)).elim)
              refine lv_aload_n hx hb dM_ranked_194 rfl (lv_at hl 9 rfl) ?_
              refine xm_get (v := .ref (adL 13)) hx hb htx hown hK hP 13 (by decide) rfl (htx _ kw_5_100) rfl dM_ranked_195 ?_
              refine lv_iload hx hb dM_ranked_198 (lv_at hl 4 rfl) ?_
              refine lv_iinc (v := (y6 + 1)) (lv' := [(6, .int (y6 + 1)), (10, .int 0), (9, .int y9), (8, .int y8), (7, .int y7), (5, .int y5), (4, .int y4), (3, .int y3), (2, .int y2), (0, .ref aM), (1, xv vadL y1)]) hx hb dM_ranked_200 hl (k := 4) rfl rfl (by decide) rfl (fun ls hl => ?_)
              obtain ⟨hg12, hf⟩ := xifn hf
              refine va_iald hx hb hK hP 7 1 rfl rfl hg12 dM_ranked_203 ?_
              refine W.eq (g2 := F0 m 204 ls [.int ((xba ws9 13) y6.toNatClampNeg), .int y9, .ref (adL 14)]) rfl ?_
              obtain ⟨hg13, hf⟩ := xifn hf
              refine va_iast hx hb hK hP hD hS 8 1 rfl rfl hg13 dM_ranked_204 (fun H locs hP hD hS => ?_)
              obtain ⟨hP, hD⟩ : xPD D xcl A (xMw cT aM adL rd gdL vadL (xsB ws9 14 y9.toNatClampNeg ((xba ws9 13) y6.toNatClampNeg)) []) H := ⟨hP, hD⟩
              refine lv_iinc (v := (y9 + 1)) (lv' := [(9, .int (y9 + 1)), (6, .int (y6 + 1)), (10, .int 0), (8, .int y8), (7, .int y7), (5, .int y5), (4, .int y4), (3, .int y3), (2, .int y2), (0, .ref aM), (1, xv vadL y1)]) hx hb dM_ranked_205 hl (k := 2) rfl rfl (by decide) rfl (fun ls hl => ?_)
              refine lv_goto (tgt := 111) hx hb dM_ranked_208 (by decide) ?_
              exact ih (4, y3, y2, y1, y4, (y9 + 1), y8, y7, (y6 + 1), y5, (xsB ws9 14 y9.toNatClampNeg ((xba ws9 13) y6.toNatClampNeg)), wc, wn) _ _ ls (Or.inr (Or.inr (Or.inr (Or.inl ⟨adL, gdL, vadL, rfl, hf, hP, hD, hS, lv_sub hl [0, 3, 4, 1, 5, 6, 7, 8, 9, 10] rfl, hE, hN⟩))))
            · rw [if_neg hc] at hf
              refine lv_iconst (v := 1) hx hb dM_ranked_163 (by decide) ?_
              refine lv_goto (tgt := 168) hx hb dM_ranked_164 (by decide) ?_
              refine lv_istore (lv' := [(10, .int 1), (9, .int y9), (8, .int y8), (7, .int y7), (6, .int y6), (5, .int y5), (4, .int y4), (3, .int y3), (2, .int y2), (0, .ref aM), (1, xv vadL y1)]) hx hb dM_ranked_168 hl (by decide) rfl (fun ls hl => ?_)
              refine lv_aload_n hx hb dM_ranked_170 rfl (lv_at hl 9 rfl) ?_
              refine xm_get (v := .ref (adL 14)) hx hb htx hown hK hP 14 (by decide) rfl (htx _ kw_5_101) rfl dM_ranked_171 ?_
              refine lv_iload hx hb dM_ranked_174 (lv_at hl 1 rfl) ?_
              refine lv_iload hx hb dM_ranked_176 (lv_at hl 0 rfl) ?_
              refine lv_if_eq (tgt := 194) hx hb dM_ranked_178 (by decide) (fun h => ((by revert h; decide : False)).elim) (fun _ => ?_)
              refine lv_aload_n hx hb dM_ranked_181 rfl (lv_at hl 9 rfl) ?_
              refine xm_get (v := .ref (adL 13)) hx hb htx hown hK hP 13 (by decide) rfl (htx _ kw_5_100) rfl dM_ranked_182 ?_
              refine lv_iload hx hb dM_ranked_185 (lv_at hl 5 rfl) ?_
              refine lv_iinc (v := (y5 + 1)) (lv' := [(5, .int (y5 + 1)), (10, .int 1), (9, .int y9), (8, .int y8), (7, .int y7), (6, .int y6), (4, .int y4), (3, .int y3), (2, .int y2), (0, .ref aM), (1, xv vadL y1)]) hx hb dM_ranked_187 hl (k := 5) rfl rfl (by decide) rfl (fun ls hl => ?_)
              obtain ⟨hg12, hf⟩ := xifn hf
              refine va_iald hx hb hK hP 7 1 rfl rfl hg12 dM_ranked_190 ?_
              refine W.eq (g2 := F0 m 191 ls [.int ((xba ws9 13) y5.toNatClampNeg), .int y9, .ref (adL 14)]) rfl ?_
              refine lv_goto (tgt := 204) hx hb dM_ranked_191 (by decide) ?_
              obtain ⟨hg13, hf⟩ := xifn hf
              refine va_iast hx hb hK hP hD hS 8 1 rfl rfl hg13 dM_ranked_204 (fun H locs hP hD hS => ?_)
              obtain ⟨hP, hD⟩ : xPD D xcl A (xMw cT aM adL rd gdL vadL (xsB ws9 14 y9.toNatClampNeg ((xba ws9 13) y5.toNatClampNeg)) []) H := ⟨hP, hD⟩
              refine lv_iinc (v := (y9 + 1)) (lv' := [(9, .int (y9 + 1)), (5, .int (y5 + 1)), (10, .int 1), (8, .int y8), (7, .int y7), (6, .int y6), (4, .int y4), (3, .int y3), (2, .int y2), (0, .ref aM), (1, xv vadL y1)]) hx hb dM_ranked_205 hl (k := 2) rfl rfl (by decide) rfl (fun ls hl => ?_)
              refine lv_goto (tgt := 111) hx hb dM_ranked_208 (by decide) ?_
              exact ih (4, y3, y2, y1, y4, (y9 + 1), y8, y7, y6, (y5 + 1), (xsB ws9 14 y9.toNatClampNeg ((xba ws9 13) y5.toNatClampNeg)), wc, wn) _ _ ls (Or.inr (Or.inr (Or.inr (Or.inl ⟨adL, gdL, vadL, rfl, hf, hP, hD, hS, lv_sub hl [0, 3, 4, 5, 1, 6, 7, 8, 9, 10] rfl, hE, hN⟩))))
    · subst hj
      have hf : fM_ranked_b d (n + 1) 5 y3 y2 y1 y4 y9 y8 y7 y6 y5 ws9 wc wn = some out := hf
      rw [fM_ranked_b, if_neg (by decide), if_neg (by decide), if_neg (by decide), if_neg (by decide)] at hf
      obtain ⟨hP, hD⟩ : xPD D xcl A (xMw cT aM adL rd gdL vadL ws9 []) H := ⟨hP, hD⟩
      have hl : lv_has ls 11 [(4, .int y4), (3, .int y3), (2, .int y2), (0, .ref aM), (1, xv vadL y1)] := hl
      refine W.eq (g2 := F0 m 225 ls []) rfl ?_
      show W p l e _ s m _ below meth c H locs wc wn _ _
      obtain ⟨hm0, hf⟩ := xmoE hf
      refine lv_iload hx hb dM_ranked_225 (lv_at hl 0 rfl) ?_
      refine lv_iload_n hx hb dM_ranked_227 rfl (lv_at hl 2 rfl) ?_
      refine lv_icmp_ge (tgt := 251) hx hb dM_ranked_228 (by decide) (fun hc => ?_) (fun hc => ?_)
      · rw [if_pos hc] at hf
        refine lv_iload_n hx hb dM_ranked_251 rfl (lv_at hl 1 rfl) ?_
        refine lv_iconst (v := 2) hx hb dM_ranked_252 (by decide) ?_
        refine lv_imul hx hb dM_ranked_253 ?_
        refine lv_istore_n (lv' := [(3, .int (y3 * (2 : Int32))), (4, .int y4), (2, .int y2), (0, .ref aM), (1, xv vadL y1)]) hx hb dM_ranked_254 rfl hl (by decide) rfl (fun ls hl => ?_)
        refine lv_goto (tgt := 63) hx hb dM_ranked_255 (by decide) ?_
        exact ih (2, (y3 * (2 : Int32)), y2, y1, y4, 0, 0, 0, 0, 0, ws9, wc, wn) _ _ ls (Or.inr (Or.inl ⟨adL, gdL, vadL, rfl, hf, hP, hD, hS, lv_sub hl [0, 2, 3, 4] rfl, hE, hN⟩))
      · rw [if_neg hc] at hf
        refine lv_aload_n hx hb dM_ranked_231 rfl (lv_at hl 3 rfl) ?_
        refine xm_get (v := .ref (adL 13)) hx hb htx hown hK hP 13 (by decide) rfl (htx _ kw_5_100) rfl dM_ranked_232 ?_
        refine lv_iload hx hb dM_ranked_235 (lv_at hl 0 rfl) ?_
        refine lv_aload_n hx hb dM_ranked_237 rfl (lv_at hl 3 rfl) ?_
        refine xm_get (v := .ref (adL 14)) hx hb htx hown hK hP 14 (by decide) rfl (htx _ kw_5_101) rfl dM_ranked_238 ?_
        refine lv_iload hx hb dM_ranked_241 (lv_at hl 0 rfl) ?_
        obtain ⟨hg1, hf⟩ := xifn hf
        refine va_iald hx hb hK hP 8 1 rfl rfl hg1 dM_ranked_243 ?_
        refine W.eq (g2 := F0 m 244 ls [.int ((xba ws9 14) y4.toNatClampNeg), .int y4, .ref (adL 13)]) rfl ?_
        obtain ⟨hg2, hf⟩ := xifn hf
        refine va_iast hx hb hK hP hD hS 7 1 rfl rfl hg2 dM_ranked_244 (fun H locs hP hD hS => ?_)
        obtain ⟨hP, hD⟩ : xPD D xcl A (xMw cT aM adL rd gdL vadL (xsB ws9 13 y4.toNatClampNeg ((xba ws9 14) y4.toNatClampNeg)) []) H := ⟨hP, hD⟩
        refine lv_iinc (v := (y4 + 1)) (lv' := [(4, .int (y4 + 1)), (3, .int y3), (2, .int y2), (0, .ref aM), (1, xv vadL y1)]) hx hb dM_ranked_245 hl (k := 0) rfl rfl (by decide) rfl (fun ls hl => ?_)
        refine lv_goto (tgt := 225) hx hb dM_ranked_248 (by decide) ?_
        exact ih (5, y3, y2, y1, (y4 + 1), 0, 0, 0, 0, 0, (xsB ws9 13 y4.toNatClampNeg ((xba ws9 14) y4.toNatClampNeg)), wc, wn) _ _ ls (Or.inr (Or.inr (Or.inr (Or.inr (⟨adL, gdL, vadL, rfl, hf, hP, hD, hS, lv_sub hl [0, 1, 2, 3, 4] rfl, hE, hN⟩)))))
  refine lv_aload_n hx hb dM_ranked_0 rfl (lv_at hl 0 rfl) ?_
  refine xm_get (v := .ref (ad 13)) hx hb htx hown hK hP 13 (by decide) rfl (htx _ kw_5_100) rfl dM_ranked_1 ?_
  refine va_alen (v := Int32.ofNat (xln st 13)) hx hb hK hP 7 1 rfl rfl rfl dM_ranked_4 ?_
  refine xm_aload_n hx hb (xvor _ _) dM_ranked_5 rfl (lv_at hl 1 rfl) ?_
  obtain ⟨hg1, hf⟩ := xifn hf
  refine xm_vget (v := .int ((xpi st 3) (c0 - 1))) hx hb htx hown hK hP 3 (by decide) hg1 rfl ((hZ.1 (103, "count", "I") (List.mem_of_getElem? (i := 3) rfl)).use rfl) rfl dM_ranked_6 ?_
  refine lv_icmp_ge (tgt := 36) hx hb dM_ranked_9 (by decide) (fun hc => ?_) (fun hc => ?_)
  · rw [if_pos hc] at hf
    refine xm_aload_n hx hb (xvor _ _) dM_ranked_36 rfl (lv_at hl 1 rfl) ?_
    refine xm_vget (v := .int ((xpi st 3) (c0 - 1))) hx hb htx hown hK hP 3 (by decide) hg1 rfl ((hZ.1 (103, "count", "I") (List.mem_of_getElem? (i := 3) rfl)).use rfl) rfl dM_ranked_37 ?_
    refine lv_istore_n (lv' := [(2, .int ((xpi st 3) (c0 - 1))), (0, .ref aM), (1, xv vad c0)]) hx hb dM_ranked_40 rfl hl (by decide) (by simp only [List.filter, xvcat, xrscat, xcI, xcL, xcR, xcN]; rfl) (fun ls hl => ?_)
    refine lv_iconst (v := 0) hx hb dM_ranked_41 (by decide) ?_
    refine lv_istore_n (lv' := [(3, .int 0), (2, .int ((xpi st 3) (c0 - 1))), (0, .ref aM), (1, xv vad c0)]) hx hb dM_ranked_42 rfl hl (by decide) rfl (fun ls hl => ?_)
    exact key n (1, (0 : Int32), ((xpi st 3) (c0 - 1)), c0, 0, 0, 0, 0, 0, 0, st, 0, 0) _ _ ls (Or.inl ⟨ad, gd, vad, rfl, hf, hP, hD, hS, lv_sub hl [0, 1, 2, 3] rfl, hE, hN⟩)
  · rw [if_neg hc] at hf
    refine lv_aload_n hx hb dM_ranked_12 rfl (lv_at hl 0 rfl) ?_
    refine lv_iconst (v := 2) hx hb dM_ranked_13 (by decide) ?_
    refine xm_aload_n hx hb (xvor _ _) dM_ranked_14 rfl (lv_at hl 1 rfl) ?_
    refine xm_vget (v := .int ((xpi st 3) (c0 - 1))) hx hb htx hown hK hP 3 (by decide) hg1 rfl ((hZ.1 (103, "count", "I") (List.mem_of_getElem? (i := 3) rfl)).use rfl) rfl dM_ranked_15 ?_
    refine lv_imul hx hb dM_ranked_18 ?_
    obtain ⟨hg2, hf⟩ := xifn hf
    obtain ⟨hm3, hf⟩ := xmoE hf
    refine va_newa (atype := .int) (N' := ((2 : Int32) * ((xpi st 3) (c0 - 1))).toNatClampNeg) (a0 := (((2 : Int32) * ((xpi st 3) (c0 - 1))).toNatClampNeg, .inl (fun _ => 0))) (ty := .int) (n := ((2 : Int32) * ((xpi st 3) (c0 - 1)))) hx hb (htx _ kw_1_78) rfl hK hP hD hS hA (fun _ => rfl) (fun h => hg2 (Or.inl h)) rfl (by have := fun h => hg2 (Or.inr h); show _ * 4 ≤ _; omega) hm3.1 hm3.2 dM_ranked_19 (fun qz4 cA9 H hK9 hP hD hS => ?_)
    obtain rfl := xk_eq hK9 1 rfl
    replace hP := xm_tmpP hP
    replace hD := xm_tmpD hD
    obtain ⟨hP, hD⟩ : xPD D xcl A (xMw cT aM ad rd gd vad st [(qz4, .inl (cT 1, ((2 : Int32) * ((xpi st 3) (c0 - 1))).toNatClampNeg, .inl (fun _ => 0)))]) H := ⟨hP, hD⟩
    refine xm_put (v := .ref qz4) (W' := ((aM, Sum.inr (5, (xMf ad rd gd st).set 13 (.ref qz4))) :: (xMa cT ad rd vad st ++ ([(qz4, .inl (cT 1, ((2 : Int32) * ((xpi st 3) (c0 - 1))).toNatClampNeg, .inl (fun _ => 0)))] ++ (xMg cT gd st ++ xMt vad st))))) (ty := (.array .int)) hx hb htx hown hK hP hD hS 13 (by decide) rfl (htx _ kw_5_100) rfl rfl (by decide +kernel) rfl rfl dM_ranked_21 (fun H locs hP hD hS => ?_)
    obtain ⟨hP, hD⟩ := xm_part (X := ((aM, Sum.inr (5, (xMf ad rd gd st).set 13 (.ref qz4))) :: (xMa cT ad rd vad st ++ [(qz4, .inl (cT 1, ((2 : Int32) * ((xpi st 3) (c0 - 1))).toNatClampNeg, .inl (fun _ => 0)))]))) (cx := xMe cT aM (va_up ad 13 qz4) rd gd vad (xsG st 13 (((2 : Int32) * ((xpi st 3) (c0 - 1))).toNatClampNeg) (fun _ => 0)) ++ []) (G := xMg cT gd st ++ xMt vad st) (W2 := (xMw cT aM (va_up ad 13 qz4) rd gd vad (xsG st 13 (((2 : Int32) * ((xpi st 3) (c0 - 1))).toNatClampNeg) (fun _ => 0)) [])) hP hD rfl [0, 1, 2, 3, 4, 5, 6, 22, 8, 9, 10, 11, 12, 13, 14, 15, 16, 17, 18, 19, 20, 21] rfl (by decide) rfl
    have hl : lv_has ls 11 [(0, .ref aM), (1, xv vad c0)] := lv_sub hl [0, 1] rfl
    generalize (va_up ad 13 qz4) = ad5 at hP hD
    refine lv_aload_n hx hb dM_ranked_24 rfl (lv_at hl 0 rfl) ?_
    refine lv_iconst (v := 2) hx hb dM_ranked_25 (by decide) ?_
    refine xm_aload_n hx hb (xvor _ _) dM_ranked_26 rfl (lv_at hl 1 rfl) ?_
    refine xm_vget (v := .int ((xpi st 3) (c0 - 1))) hx hb htx hown hK hP 3 (by decide) hg1 rfl ((hZ.1 (103, "count", "I") (List.mem_of_getElem? (i := 3) rfl)).use rfl) rfl dM_ranked_27 ?_
    refine lv_imul hx hb dM_ranked_30 ?_
    obtain ⟨hg7, hf⟩ := xifn hf
    obtain ⟨hm8, hf⟩ := xmoE hf
    refine va_newa (atype := .int) (N' := ((2 : Int32) * ((xpi st 3) (c0 - 1))).toNatClampNeg) (a0 := (((2 : Int32) * ((xpi st 3) (c0 - 1))).toNatClampNeg, .inl (fun _ => 0))) (ty := .int) (n := ((2 : Int32) * ((xpi st 3) (c0 - 1)))) hx hb (htx _ kw_1_78) rfl hK hP hD hS hA (fun _ => rfl) (fun h => hg7 (Or.inl h)) rfl (by have := fun h => hg7 (Or.inr h); show _ * 4 ≤ _; omega) hm8.1 hm8.2 dM_ranked_31 (fun qz9 cA9 H hK9 hP hD hS => ?_)
    obtain rfl := xk_eq hK9 1 rfl
    replace hP := xm_tmpP hP
    replace hD := xm_tmpD hD
    obtain ⟨hP, hD⟩ : xPD D xcl A (xMw cT aM ad5 rd gd vad (xsG st 13 (((2 : Int32) * ((xpi st 3) (c0 - 1))).toNatClampNeg) (fun _ => 0)) [(qz9, .inl (cT 1, ((2 : Int32) * ((xpi st 3) (c0 - 1))).toNatClampNeg, .inl (fun _ => 0)))]) H := ⟨hP, hD⟩
    refine xm_put (v := .ref qz9) (W' := ((aM, Sum.inr (5, (xMf ad5 rd gd (xsG st 13 (((2 : Int32) * ((xpi st 3) (c0 - 1))).toNatClampNeg) (fun _ => 0))).set 14 (.ref qz9))) :: (xMa cT ad5 rd vad (xsG st 13 (((2 : Int32) * ((xpi st 3) (c0 - 1))).toNatClampNeg) (fun _ => 0)) ++ ([(qz9, .inl (cT 1, ((2 : Int32) * ((xpi st 3) (c0 - 1))).toNatClampNeg, .inl (fun _ => 0)))] ++ (xMg cT gd (xsG st 13 (((2 : Int32) * ((xpi st 3) (c0 - 1))).toNatClampNeg) (fun _ => 0)) ++ xMt vad (xsG st 13 (((2 : Int32) * ((xpi st 3) (c0 - 1))).toNatClampNeg) (fun _ => 0))))))) (ty := (.array .int)) hx hb htx hown hK hP hD hS 14 (by decide) rfl (htx _ kw_5_101) rfl rfl (by decide +kernel) rfl rfl dM_ranked_33 (fun H locs hP hD hS => ?_)
    obtain ⟨hP, hD⟩ := xm_part (X := ((aM, Sum.inr (5, (xMf ad5 rd gd (xsG st 13 (((2 : Int32) * ((xpi st 3) (c0 - 1))).toNatClampNeg) (fun _ => 0))).set 14 (.ref qz9))) :: (xMa cT ad5 rd vad (xsG st 13 (((2 : Int32) * ((xpi st 3) (c0 - 1))).toNatClampNeg) (fun _ => 0)) ++ [(qz9, .inl (cT 1, ((2 : Int32) * ((xpi st 3) (c0 - 1))).toNatClampNeg, .inl (fun _ => 0)))]))) (cx := xMe cT aM (va_up ad5 14 qz9) rd gd vad (xsG (xsG st 13 (((2 : Int32) * ((xpi st 3) (c0 - 1))).toNatClampNeg) (fun _ => 0)) 14 (((2 : Int32) * ((xpi st 3) (c0 - 1))).toNatClampNeg) (fun _ => 0)) ++ []) (G := xMg cT gd (xsG st 13 (((2 : Int32) * ((xpi st 3) (c0 - 1))).toNatClampNeg) (fun _ => 0)) ++ xMt vad (xsG st 13 (((2 : Int32) * ((xpi st 3) (c0 - 1))).toNatClampNeg) (fun _ => 0))) (W2 := (xMw cT aM (va_up ad5 14 qz9) rd gd vad (xsG (xsG st 13 (((2 : Int32) * ((xpi st 3) (c0 - 1))).toNatClampNeg) (fun _ => 0)) 14 (((2 : Int32) * ((xpi st 3) (c0 - 1))).toNatClampNeg) (fun _ => 0)) [])) hP hD rfl [0, 1, 2, 3, 4, 5, 6, 7, 22, 9, 10, 11, 12, 13, 14, 15, 16, 17, 18, 19, 20, 21] rfl (by decide) rfl
    have hl : lv_has ls 11 [(0, .ref aM), (1, xv vad c0)] := lv_sub hl [0, 1] rfl
    generalize (va_up ad5 14 qz9) = ad10 at hP hD
    refine xm_aload_n hx hb (xvor _ _) dM_ranked_36 rfl (lv_at hl 1 rfl) ?_
    refine xm_vget (v := .int ((xpi st 3) (c0 - 1))) hx hb htx hown hK hP 3 (by decide) hg1 rfl ((hZ.1 (103, "count", "I") (List.mem_of_getElem? (i := 3) rfl)).use rfl) rfl dM_ranked_37 ?_
    refine lv_istore_n (lv' := [(2, .int ((xpi st 3) (c0 - 1))), (0, .ref aM), (1, xv vad c0)]) hx hb dM_ranked_40 rfl hl (by decide) (by simp only [List.filter, xvcat, xrscat, xcI, xcL, xcR, xcN]; rfl) (fun ls hl => ?_)
    refine lv_iconst (v := 0) hx hb dM_ranked_41 (by decide) ?_
    refine lv_istore_n (lv' := [(3, .int 0), (2, .int ((xpi st 3) (c0 - 1))), (0, .ref aM), (1, xv vad c0)]) hx hb dM_ranked_42 rfl hl (by decide) rfl (fun ls hl => ?_)
    exact key n (1, (0 : Int32), ((xpi st 3) (c0 - 1)), c0, 0, 0, 0, 0, 0, 0, (xsG (xsG st 13 (((2 : Int32) * ((xpi st 3) (c0 - 1))).toNatClampNeg) (fun _ => 0)) 14 (((2 : Int32) * ((xpi st 3) (c0 - 1))).toNatClampNeg) (fun _ => 0)), ((0 + 1) + 1), ((0 + ((2 : Int32) * ((xpi st 3) (c0 - 1))).toNatClampNeg) + ((2 : Int32) * ((xpi st 3) (c0 - 1))).toNatClampNeg)) _ _ ls (Or.inl ⟨ad10, gd, vad, rfl, hf, hP, hD, hS, lv_sub hl [0, 1, 2, 3] rfl, hE, hN⟩)
set_option maxHeartbeats 400000000 in
set_option maxRecDepth 100000 in
theorem gM_sort1 (l : Launch) (hl9 : l.stackTraces = false) (D : va_G) (cT : Nat → ClassId) (aK aV : Nat → Nat) (sz d n : Nat) (aM : Nat) (ad rd gd vad : Nat → Nat) (st : xS) (c0 : Nat) (c1 : Nat) (x2 : Int32) (out : Nat × Nat × Nat × Nat × xS) (hf : fM_sort1 d n st c0 c1 x2 = some out) (hkd : out.1 = 0) : xMet l yM_sort1 wyM_sort1 (16 * d + 8) out.2.1 out.2.2.1 (400 * d + 147) D cT aK aV sz [.ref aM, xv vad c0, xv vad c1, .int x2] (xMw cT aM ad rd gd vad st []) (fun A => va_Qq (fun (r : Option Nat) (u : xU) => r = xca u.2.2 out.2.2.2.1 ∧ xE vad st out.2.2.2.2 u) (fun u t => xB D xcl cT A (xMw cT aM u.1 rd u.2.1 u.2.2 out.2.2.2.2 []) t) A) := by
  refine Met.ofW (cc := prog_13_method_27_code) (maxL := 10) (ret := (some (.object "ValueBenchModel$V"))) (by decide) rfl ?_
  intro p e s m args below meth c s₁ B hml hv
  obtain ⟨rfl, hsz, hZ, hP, hK, hD0⟩ := hv
  have hx := B.exec
  have hb := B.bytes
  have hr := B.returns
  have hts := atoms_spec (ws := wyM_sort1) B.pre
  have htx := fun w h => hts w (List.mem_cons_of_mem _ h)
  have hown : s.vm.findClass "ValueBenchModel" = some m.cls := findClass_of_methodNamed B.named
  have hlocks := B.notSynchronized
  subst hsz
  have hD := hD0.self (sz := s.heap.size)
  generalize hAe : va_A (xMw cT aM ad rd gd vad st []) s.heap.size = A at hD hZ ⊢
  have hA : ∀ q : Nat, s.heap.size ≤ q → A q := fun q h => by rw [← hAe]; exact Or.inr h
  have hS : va_S A s.heap s.heap [] := va_S.rf
  have hl := lv_entry ([.ref aM, xv vad c0, xv vad c1, .int x2]) (n := 10) (by simp [lg_sl, xvcat, xrscat, xcI, xcL, xcR, xcN])
  rw [show lv_args 0 [.ref aM, xv vad c0, xv vad c1, .int x2] = [(0, .ref aM), (1, xv vad c0), (2, xv vad c1), (3, .int x2)] from by simp [lv_args, xvcat, xrscat, xcI, xcL, xcR, xcN]] at hl
  rw [lg_entry_eq]
  generalize (lg_sl ([.ref aM, xv vad c0, xv vad c1, .int x2]) ++ List.replicate (10 - (lg_sl ([.ref aM, xv vad c0, xv vad c1, .int x2])).length) Slot.unset).toArray = ls at hl ⊢
  have hl : lv_has ls 10 [(0, .ref aM), (1, xv vad c0), (2, xv vad c1), (3, .int x2)] := hl
  have hE : ∀ p, p < xct st → vad p = vad p := fun _ _ => rfl
  have hN : xct st ≤ xct st := Nat.le_refl _
  unfold fM_sort1 at hf
  refine xloopM (σ := Nat × Int32 × Int32 × Int32 × Nat × Nat × Int32 × Int32 × Int32 × Int32 × xS × Nat × Nat) (fun n x H locs ls => (∃ (adL gdL vadL : Nat → Nat), x.1 = 1 ∧ fM_sort1_b d n x.1 x.2.1 x.2.2.1 x.2.2.2.1 x.2.2.2.2.1 x.2.2.2.2.2.1 x.2.2.2.2.2.2.1 x.2.2.2.2.2.2.2.1 x.2.2.2.2.2.2.2.2.1 x.2.2.2.2.2.2.2.2.2.1 x.2.2.2.2.2.2.2.2.2.2.1 x.2.2.2.2.2.2.2.2.2.2.2.1 x.2.2.2.2.2.2.2.2.2.2.2.2 = some out ∧ va_P D xcl (xMw cT aM adL rd gdL vadL x.2.2.2.2.2.2.2.2.2.2.1 []) H ∧ va_D A (xMw cT aM adL rd gdL vadL x.2.2.2.2.2.2.2.2.2.2.1 []) ∧ va_S A s.heap H locs ∧ lv_has ls 10 [(6, .int x.2.1), (5, .int x.2.2.1), (4, .int x.2.2.2.1), (0, .ref aM), (1, xv vadL x.2.2.2.2.1), (2, xv vadL x.2.2.2.2.2.1), (3, .int x.2.2.2.2.2.2.1)] ∧ (∀ p, p < xct st → vadL p = vad p) ∧ xct st ≤ xct x.2.2.2.2.2.2.2.2.2.2.1) ∨ (∃ (adL gdL vadL : Nat → Nat), x.1 = 2 ∧ fM_sort1_b d n x.1 x.2.1 x.2.2.1 x.2.2.2.1 x.2.2.2.2.1 x.2.2.2.2.2.1 x.2.2.2.2.2.2.1 x.2.2.2.2.2.2.2.1 x.2.2.2.2.2.2.2.2.1 x.2.2.2.2.2.2.2.2.2.1 x.2.2.2.2.2.2.2.2.2.2.1 x.2.2.2.2.2.2.2.2.2.2.2.1 x.2.2.2.2.2.2.2.2.2.2.2.2 = some out ∧ va_P D xcl (xMw cT aM adL rd gdL vadL x.2.2.2.2.2.2.2.2.2.2.1 []) H ∧ va_D A (xMw cT aM adL rd gdL vadL x.2.2.2.2.2.2.2.2.2.2.1 []) ∧ va_S A s.heap H locs ∧ lv_has ls 10 [(6, .int x.2.1), (5, .int x.2.2.1), (4, .int x.2.2.2.1), (0, .ref aM), (1, xv vadL x.2.2.2.2.1), (2, xv vadL x.2.2.2.2.2.1), (3, .int x.2.2.2.2.2.2.1)] ∧ (∀ p, p < xct st → vadL p = vad p) ∧ xct st ≤ xct x.2.2.2.2.2.2.2.2.2.2.1) ∨ (∃ (adL gdL vadL : Nat → Nat), x.1 = 3 ∧ fM_sort1_b d n x.1 x.2.1 x.2.2.1 x.2.2.2.1 x.2.2.2.2.1 x.2.2.2.2.2.1 x.2.2.2.2.2.2.1 x.2.2.2.2.2.2.2.1 x.2.2.2.2.2.2.2.2.1 x.2.2.2.2.2.2.2.2.2.1 x.2.2.2.2.2.2.2.2.2.2.1 x.2.2.2.2.2.2.2.2.2.2.2.1 x.2.2.2.2.2.2.2.2.2.2.2.2 = some out ∧ va_P D xcl (xMw cT aM adL rd gdL vadL x.2.2.2.2.2.2.2.2.2.2.1 []) H ∧ va_D A (xMw cT aM adL rd gdL vadL x.2.2.2.2.2.2.2.2.2.2.1 []) ∧ va_S A s.heap H locs ∧ lv_has ls 10 [(9, .int x.2.2.2.2.2.2.2.1), (8, .int x.2.2.2.2.2.2.2.2.1), (7, .int x.2.2.2.2.2.2.2.2.2.1), (6, .int x.2.1), (5, .int x.2.2.1), (4, .int x.2.2.2.1), (0, .ref aM), (1, xv vadL x.2.2.2.2.1), (2, xv vadL x.2.2.2.2.2.1), (3, .int x.2.2.2.2.2.2.1)] ∧ (∀ p, p < xct st → vadL p = vad p) ∧ xct st ≤ xct x.2.2.2.2.2.2.2.2.2.2.1)) (fun x => if x.1 = 1 then 17 else if x.1 = 2 then 121 else 169) (fun x => x.2.2.2.2.2.2.2.2.2.2.2.1) (fun x => x.2.2.2.2.2.2.2.2.2.2.2.2) (fun x H locs ls h => by rcases h with h | h | h; (obtain ⟨_, _, _, h⟩ := h; exact absurd h.2.1 (by rw [fM_sort1_b]; exact fun h => nomatch h)); (obtain ⟨_, _, _, h⟩ := h; exact absurd h.2.1 (by rw [fM_sort1_b]; exact fun h => nomatch h)); (obtain ⟨_, _, _, h⟩ := h; exact absurd h.2.1 (by rw [fM_sort1_b]; exact fun h => nomatch h))) (fun n ih x H locs ls hv => ?_) (fun key => ?_)
  · obtain ⟨lb, y6, y5, y4, y1, y2, y3, y9, y8, y7, ws9, wc, wn⟩ := x
    rcases hv with ⟨adL, gdL, vadL, hj, hf, hP, hD, hS, hl, hE, hN⟩ | ⟨adL, gdL, vadL, hj, hf, hP, hD, hS, hl, hE, hN⟩ | ⟨adL, gdL, vadL, hj, hf, hP, hD, hS, hl, hE, hN⟩
    · subst hj
      have hf : fM_sort1_b d (n + 1) 1 y6 y5 y4 y1 y2 y3 y9 y8 y7 ws9 wc wn = some out := hf
      rw [fM_sort1_b, if_pos rfl] at hf
      obtain ⟨hP, hD⟩ : xPD D xcl A (xMw cT aM adL rd gdL vadL ws9 []) H := ⟨hP, hD⟩
      have hl : lv_has ls 10 [(6, .int y6), (5, .int y5), (4, .int y4), (0, .ref aM), (1, xv vadL y1), (2, xv vadL y2), (3, .int y3)] := hl
      refine W.eq (g2 := F0 m 17 ls []) rfl ?_
      show W p l e _ s m _ below meth c H locs wc wn _ _
      obtain ⟨hm0, hf⟩ := xmoE hf
      refine lv_iload hx hb dM_sort1_17 (lv_at hl 0 rfl) ?_
      refine lv_iload hx hb dM_sort1_19 (lv_at hl 2 rfl) ?_
      refine lv_icmp_ge (tgt := 86) hx hb dM_sort1_21 (by decide) (fun hc => ?_) (fun hc => ?_)
      · rw [if_pos hc] at hf
        refine lv_iload hx hb dM_sort1_86 (lv_at hl 1 rfl) ?_
        refine lv_if_ge (tgt := 99) hx hb dM_sort1_88 (by decide) (fun hc => ?_) (fun hc => ?_)
        · rw [if_pos hc] at hf
          refine lv_aload_n hx hb dM_sort1_99 rfl (lv_at hl 3 rfl) ?_
          refine xm_aload_n hx hb (xvor _ _) dM_sort1_100 rfl (lv_at hl 4 rfl) ?_
          refine lv_iload hx hb dM_sort1_101 (lv_at hl 1 rfl) ?_
          obtain ⟨o1, hq2, hf⟩ := xbind hf
          have hl := lv_sub (l' := [(6, .int y6), (5, .int y5), (4, .int y4), (0, .ref aM), (3, .int y3)]) hl [0, 1, 2, 3, 6] rfl
          have hFc := xm_free hD hS hA
          refine va_callq (va_runV (C := "ValueBenchModel") (As := [xv vadL y1, .int y5]) (rest := []) ⟨hx, hb, hml, hown, htx⟩ (gM_kid l hl9 D cT aK aV H.size n aM adL rd gdL vadL ws9 y1 y5 o1 hq2) ⟨callB_of 2 htx (xw_goodC kw_6_158) rfl rfl rfl (htx _ kw_1_5) (htx _ kw_6_155) ⟨by decide, by decide, by decide +kernel⟩ ⟨Nat.le_of_ble_eq_true rfl, Nat.le_of_ble_eq_true rfl⟩, (htx _ kw_6_157), (htx _ kp_M_kid)⟩ ⟨xPre_blind, va_recv hK hP (ci := 5) rfl (q0 := 0) rfl, (fun U hU hW => ⟨rfl, xPre_of hZ hS hFc hP hD hK U hU hW⟩)⟩ rfl rfl hl.1 rfl (xm_room (Nat.le_of_ble_eq_true rfl)) dM_sort1_103 ⟨hm0.1, hm0.2⟩) hS (fun q _ h => hFc q h) hFc (fun r3 u9 t H1 locs ht hvm hr9 hB hz1 hk1 hS => ?_)
          obtain ⟨hP1, hK1, hD1⟩ := hB
          rw [ht] at hP1
          have hP : va_P D xcl (xMw cT aM adL rd gdL vadL ws9 []) H1 := hP1
          have hD : va_D A (xMw cT aM adL rd gdL vadL ws9 []) := hD1.weaken (fun k q _ h => hFc q.1 h)
          generalize H1 = H at hP hS ⊢
          rw [hr9]
          refine W.eq (g2 := F0 m 106 ls [xv vadL o1]) (by first | rfl | (skip; rfl)) ?_
          obtain rfl := Option.some.inj hf
          exact W.aret (v := xv vadL o1) hx hb hr (Or.inl ⟨_, rfl⟩) (xvor _ _) (fun t ht hW => ⟨⟨xca vadL o1, (adL, gdL, vadL), rfl, ⟨rfl, hE, hN⟩, by rw [ht]; exact hP, va_K.moved hW.alike hK, hD⟩, hS.F ht⟩) hS.2.2 dM_sort1_106
        · rw [if_neg hc] at hf
          refine lv_aload_n hx hb dM_sort1_91 rfl (lv_at hl 3 rfl) ?_
          refine lv_iconst (v := 0) hx hb dM_sort1_92 (by decide) ?_
          obtain ⟨o1, hq2, hf⟩ := xbind hf
          have hl := lv_sub (l' := [(6, .int y6), (5, .int y5), (4, .int y4), (0, .ref aM), (3, .int y3)]) hl [0, 1, 2, 3, 6] rfl
          obtain ⟨hm3, hf⟩ := xmoE hf
          have hFc := xm_free hD hS hA
          refine va_callq (va_runV (C := "ValueBenchModel") (As := [.int 0]) (rest := []) ⟨hx, hb, hml, hown, htx⟩ (gM_fresh l hl9 D cT aK aV H.size n aM adL rd gdL vadL ws9 (0 : Int32) o1 hq2) ⟨callB_of 1 htx (xw_goodC kw_6_16) rfl rfl rfl (htx _ kw_1_5) (htx _ kw_6_13) ⟨by decide, by decide, by decide +kernel⟩ ⟨Nat.le_of_ble_eq_true rfl, Nat.le_of_ble_eq_true rfl⟩, (htx _ kw_6_15), (htx _ kp_M_fresh)⟩ ⟨xPre_blind, va_recv hK hP (ci := 5) rfl (q0 := 0) rfl, (fun U hU hW => ⟨rfl, xPre_of hZ hS hFc hP hD hK U hU hW⟩)⟩ rfl rfl hl.1 rfl (xm_room (Nat.le_of_ble_eq_true rfl)) dM_sort1_93 ⟨hm3.1, hm3.2⟩) hS (fun q _ h => hFc q h) hFc (fun r4 u9 t H1 locs ht hvm hr9 hB hz1 hk1 hS => ?_)
          obtain ⟨hP1, hK1, hD1⟩ := hB
          rw [ht] at hP1
          obtain ⟨ad5, gd6, vad7⟩ := u9
          obtain ⟨hr9, hv8, hn9⟩ := hr9
          have hP : va_P D xcl (xMw cT aM ad5 rd gd6 vad7 o1.2.2.2 []) H1 := hP1
          have hD : va_D A (xMw cT aM ad5 rd gd6 vad7 o1.2.2.2 []) := hD1.weaken (fun k q _ h => hFc q.1 h)
          generalize H1 = H at hP hS ⊢
          have hE9 : ∀ p, p < xct st → vad7 p = vad p := fun p h => (hv8 p (Nat.lt_of_lt_of_le h hN)).trans (hE p h)
          have hE := hE9
          have hN : xct st ≤ xct o1.2.2.2 := Nat.le_trans hN hn9
          rw [hr9]
          refine W.eq (g2 := F0 m 96 ls [xv vad7 o1.2.2.1]) (by first | rfl | (skip; rfl)) ?_
          refine lv_goto (tgt := 106) hx hb dM_sort1_96 (by decide) ?_
          obtain rfl := Option.some.inj hf
          exact W.aret (v := xv vad7 o1.2.2.1) hx hb hr (Or.inl ⟨_, rfl⟩) (xvor _ _) (fun t ht hW => ⟨⟨xca vad7 o1.2.2.1, (ad5, gd6, vad7), rfl, ⟨rfl, hE, hN⟩, by rw [ht]; exact hP, va_K.moved hW.alike hK, hD⟩, hS.F ht⟩) hS.2.2 dM_sort1_106
      · rw [if_neg hc] at hf
        refine lv_iload hx hb dM_sort1_24 (lv_at hl 1 rfl) ?_
        refine lv_if_ge (tgt := 33) hx hb dM_sort1_26 (by decide) (fun hc => ?_) (fun hc => ?_)
        · rw [if_pos hc] at hf
          refine lv_aload_n hx hb dM_sort1_33 rfl (lv_at hl 3 rfl) ?_
          refine lv_aload_n hx hb dM_sort1_34 rfl (lv_at hl 3 rfl) ?_
          refine xm_aload_n hx hb (xvor _ _) dM_sort1_35 rfl (lv_at hl 5 rfl) ?_
          refine lv_iload hx hb dM_sort1_36 (lv_at hl 0 rfl) ?_
          obtain ⟨o1, hq2, hf⟩ := xbind hf
          have hFc := xm_free hD hS hA
          refine va_callq (va_runV (C := "ValueBenchModel") (As := [xv vadL y2, .int y6]) (rest := [.ref aM]) ⟨hx, hb, hml, hown, htx⟩ (gM_kid l hl9 D cT aK aV H.size n aM adL rd gdL vadL ws9 y2 y6 o1 hq2) ⟨callB_of 2 htx (xw_goodC kw_6_158) rfl rfl rfl (htx _ kw_1_5) (htx _ kw_6_155) ⟨by decide, by decide, by decide +kernel⟩ ⟨Nat.le_of_ble_eq_true rfl, Nat.le_of_ble_eq_true rfl⟩, (htx _ kw_6_157), (htx _ kp_M_kid)⟩ ⟨xPre_blind, va_recv hK hP (ci := 5) rfl (q0 := 0) rfl, (fun U hU hW => ⟨rfl, xPre_of hZ hS hFc hP hD hK U hU hW⟩)⟩ rfl rfl hl.1 rfl (xm_room (Nat.le_of_ble_eq_true rfl)) dM_sort1_38 ⟨hm0.1, hm0.2⟩) hS (fun q _ h => hFc q h) hFc (fun r3 u9 t H1 locs ht hvm hr9 hB hz1 hk1 hS => ?_)
          obtain ⟨hP1, hK1, hD1⟩ := hB
          rw [ht] at hP1
          have hP : va_P D xcl (xMw cT aM adL rd gdL vadL ws9 []) H1 := hP1
          have hD : va_D A (xMw cT aM adL rd gdL vadL ws9 []) := hD1.weaken (fun k q _ h => hFc q.1 h)
          generalize H1 = H at hP hS ⊢
          rw [hr9]
          refine W.eq (g2 := F0 m 41 ls [xv vadL o1, .ref aM]) (by first | rfl | (skip; rfl)) ?_
          refine lv_aload_n hx hb dM_sort1_41 rfl (lv_at hl 3 rfl) ?_
          refine xm_aload_n hx hb (xvor _ _) dM_sort1_42 rfl (lv_at hl 5 rfl) ?_
          refine lv_iload hx hb dM_sort1_43 (lv_at hl 1 rfl) ?_
          obtain ⟨o4, hq5, hf⟩ := xbind hf
          have hFc := xm_free hD hS hA
          refine va_callq (va_runV (C := "ValueBenchModel") (As := [xv vadL y2, .int y5]) (rest := [xv vadL o1, .ref aM]) ⟨hx, hb, hml, hown, htx⟩ (gM_kid l hl9 D cT aK aV H.size n aM adL rd gdL vadL ws9 y2 y5 o4 hq5) ⟨callB_of 2 htx (xw_goodC kw_6_158) rfl rfl rfl (htx _ kw_1_5) (htx _ kw_6_155) ⟨by decide, by decide, by decide +kernel⟩ ⟨Nat.le_of_ble_eq_true rfl, Nat.le_of_ble_eq_true rfl⟩, (htx _ kw_6_157), (htx _ kp_M_kid)⟩ ⟨xPre_blind, va_recv hK hP (ci := 5) rfl (q0 := 0) rfl, (fun U hU hW => ⟨rfl, xPre_of hZ hS hFc hP hD hK U hU hW⟩)⟩ rfl rfl hl.1 rfl (xm_room (by simp [xvcat, xrscat, xcI, xcL, xcR, xcN])) dM_sort1_45 ⟨hm0.1, hm0.2⟩) hS (fun q _ h => hFc q h) hFc (fun r6 u9 t H1 locs ht hvm hr9 hB hz1 hk1 hS => ?_)
          obtain ⟨hP1, hK1, hD1⟩ := hB
          rw [ht] at hP1
          have hP : va_P D xcl (xMw cT aM adL rd gdL vadL ws9 []) H1 := hP1
          have hD : va_D A (xMw cT aM adL rd gdL vadL ws9 []) := hD1.weaken (fun k q _ h => hFc q.1 h)
          generalize H1 = H at hP hS ⊢
          rw [hr9]
          refine W.eq (g2 := F0 m 48 ls [xv vadL o4, xv vadL o1, .ref aM]) (by first | rfl | (skip; rfl)) ?_
          obtain ⟨o7, hq8, hf⟩ := xbind hf
          have hFc := xm_free hD hS hA
          refine va_calli (va_runV (C := "ValueBenchModel") (As := [xv vadL o1, xv vadL o4]) (rest := []) ⟨hx, hb, hml, hown, htx⟩ (gM_order l hl9 D cT aK aV d H.size n aM adL rd gdL vadL ws9 o1 o4 o7 hq8) ⟨callB_of 2 htx (xw_goodC kw_7_25) rfl rfl rfl (htx _ kw_1_5) (htx _ kw_7_22) ⟨by decide, by decide, by decide +kernel⟩ ⟨(by show (16 * d) + 1 ≤ 16 * d + 8; omega), (by show 8 + (5 + 11) + (400 * d) ≤ 400 * d + 147; omega)⟩, (htx _ kw_7_24), (htx _ kp_M_order)⟩ ⟨xPre_blind, va_recv hK hP (ci := 5) rfl (q0 := 0) rfl, (fun U hU hW => ⟨rfl, xPre_of hZ hS hFc hP hD hK U hU hW⟩)⟩ rfl rfl hl.1 rfl (xm_room (Nat.le_of_ble_eq_true rfl)) dM_sort1_48 ⟨hm0.1, hm0.2⟩) hS (fun q _ h => hFc q h) hFc (fun r9 u9 t H1 locs ht hvm hr9 hB hz1 hk1 hS => ?_)
          obtain ⟨hP1, hK1, hD1⟩ := hB
          rw [ht] at hP1
          have hP : va_P D xcl (xMw cT aM adL rd gdL vadL ws9 []) H1 := hP1
          have hD : va_D A (xMw cT aM adL rd gdL vadL ws9 []) := hD1.weaken (fun k q _ h => hFc q.1 h)
          generalize H1 = H at hP hS ⊢
          rw [hr9]
          refine W.eq (g2 := F0 m 51 ls [.int o7]) (by first | rfl | (skip; rfl)) ?_
          refine lv_istore (lv' := [(7, .int o7), (6, .int y6), (5, .int y5), (4, .int y4), (0, .ref aM), (1, xv vadL y1), (2, xv vadL y2), (3, .int y3)]) hx hb dM_sort1_51 hl (by decide) rfl (fun ls hl => ?_)
          refine lv_iload hx hb dM_sort1_53 (lv_at hl 2 rfl) ?_
          refine lv_if_lt (tgt := 76) hx hb dM_sort1_55 (by decide) (fun hc => ?_) (fun hc => ?_)
          · rw [if_pos hc] at hf
            refine lv_iload hx hb dM_sort1_76 (lv_at hl 1 rfl) ?_
            refine lv_istore (lv' := [(5, .int y6), (7, .int o7), (6, .int y6), (4, .int y4), (0, .ref aM), (1, xv vadL y1), (2, xv vadL y2), (3, .int y3)]) hx hb dM_sort1_78 hl (by decide) rfl (fun ls hl => ?_)
            refine lv_iinc (v := (y6 + 1)) (lv' := [(6, .int (y6 + 1)), (5, .int y6), (7, .int o7), (4, .int y4), (0, .ref aM), (1, xv vadL y1), (2, xv vadL y2), (3, .int y3)]) hx hb dM_sort1_80 hl (k := 2) rfl rfl (by decide) rfl (fun ls hl => ?_)
            refine lv_goto (tgt := 17) hx hb dM_sort1_83 (by decide) ?_
            exact ih (1, (y6 + 1), y6, y4, y1, y2, y3, 0, 0, o7, ws9, wc, wn) _ _ ls (Or.inl ⟨adL, gdL, vadL, rfl, hf, hP, hD, hS, lv_sub hl [0, 1, 3, 4, 5, 6, 7] rfl, hE, hN⟩)
          · rw [if_neg hc] at hf
            refine lv_iload_n hx hb dM_sort1_58 rfl (lv_at hl 7 rfl) ?_
            refine lv_iconst (v := 3) hx hb dM_sort1_59 (by decide) ?_
            refine lv_icmp_ne (tgt := 71) hx hb dM_sort1_60 (by decide) (fun hc => ?_) (fun hc => ?_)
            · rw [if_neg hc] at hf
              refine lv_iload hx hb dM_sort1_71 (lv_at hl 0 rfl) ?_
              refine lv_if_lt (tgt := 80) hx hb dM_sort1_73 (by decide) (fun hc => ?_) (fun hc => ?_)
              · rw [if_pos hc] at hf
                refine lv_iinc (v := (y6 + 1)) (lv' := [(6, .int (y6 + 1)), (7, .int o7), (5, .int y5), (4, .int y4), (0, .ref aM), (1, xv vadL y1), (2, xv vadL y2), (3, .int y3)]) hx hb dM_sort1_80 hl (k := 1) rfl rfl (by decide) rfl (fun ls hl => ?_)
                refine lv_goto (tgt := 17) hx hb dM_sort1_83 (by decide) ?_
                exact ih (1, (y6 + 1), y5, y4, y1, y2, y3, 0, 0, o7, ws9, wc, wn) _ _ ls (Or.inl ⟨adL, gdL, vadL, rfl, hf, hP, hD, hS, lv_sub hl [0, 2, 3, 4, 5, 6, 7] rfl, hE, hN⟩)
              · rw [if_neg hc] at hf
                refine lv_iload hx hb dM_sort1_76 (lv_at hl 1 rfl) ?_
                refine lv_istore (lv' := [(5, .int y6), (7, .int o7), (6, .int y6), (4, .int y4), (0, .ref aM), (1, xv vadL y1), (2, xv vadL y2), (3, .int y3)]) hx hb dM_sort1_78 hl (by decide) rfl (fun ls hl => ?_)
                refine lv_iinc (v := (y6 + 1)) (lv' := [(6, .int (y6 + 1)), (5, .int y6), (7, .int o7), (4, .int y4), (0, .ref aM), (1, xv vadL y1), (2, xv vadL y2), (3, .int y3)]) hx hb dM_sort1_80 hl (k := 2) rfl rfl (by decide) rfl (fun ls hl => ?_)
                refine lv_goto (tgt := 17) hx hb dM_sort1_83 (by decide) ?_
                exact ih (1, (y6 + 1), y6, y4, y1, y2, y3, 0, 0, o7, ws9, wc, wn) _ _ ls (Or.inl ⟨adL, gdL, vadL, rfl, hf, hP, hD, hS, lv_sub hl [0, 1, 3, 4, 5, 6, 7] rfl, hE, hN⟩)
            · rw [if_pos hc] at hf
              refine lv_iload hx hb dM_sort1_63 (lv_at hl 0 rfl) ?_
              refine lv_if_ge (tgt := 80) hx hb dM_sort1_65 (by decide) (fun hc => ?_) (fun hc => ?_)
              · rw [if_pos hc] at hf
                refine lv_iinc (v := (y6 + 1)) (lv' := [(6, .int (y6 + 1)), (7, .int o7), (5, .int y5), (4, .int y4), (0, .ref aM), (1, xv vadL y1), (2, xv vadL y2), (3, .int y3)]) hx hb dM_sort1_80 hl (k := 1) rfl rfl (by decide) rfl (fun ls hl => ?_)
                refine lv_goto (tgt := 17) hx hb dM_sort1_83 (by decide) ?_
                exact ih (1, (y6 + 1), y5, y4, y1, y2, y3, 0, 0, o7, ws9, wc, wn) _ _ ls (Or.inl ⟨adL, gdL, vadL, rfl, hf, hP, hD, hS, lv_sub hl [0, 2, 3, 4, 5, 6, 7] rfl, hE, hN⟩)
              · rw [if_neg hc] at hf
                refine lv_goto (tgt := 76) hx hb dM_sort1_68 (by decide) ?_
                refine lv_iload hx hb dM_sort1_76 (lv_at hl 1 rfl) ?_
                refine lv_istore (lv' := [(5, .int y6), (7, .int o7), (6, .int y6), (4, .int y4), (0, .ref aM), (1, xv vadL y1), (2, xv vadL y2), (3, .int y3)]) hx hb dM_sort1_78 hl (by decide) rfl (fun ls hl => ?_)
                refine lv_iinc (v := (y6 + 1)) (lv' := [(6, .int (y6 + 1)), (5, .int y6), (7, .int o7), (4, .int y4), (0, .ref aM), (1, xv vadL y1), (2, xv vadL y2), (3, .int y3)]) hx hb dM_sort1_80 hl (k := 2) rfl rfl (by decide) rfl (fun ls hl => ?_)
                refine lv_goto (tgt := 17) hx hb dM_sort1_83 (by decide) ?_
                exact ih (1, (y6 + 1), y6, y4, y1, y2, y3, 0, 0, o7, ws9, wc, wn) _ _ ls (Or.inl ⟨adL, gdL, vadL, rfl, hf, hP, hD, hS, lv_sub hl [0, 1, 3, 4, 5, 6, 7] rfl, hE, hN⟩)
        · rw [if_neg hc] at hf
          refine lv_iconst (v := (-1)) hx hb dM_sort1_29 (by decide) ?_
          refine lv_goto (tgt := 51) hx hb dM_sort1_30 (by decide) ?_
          refine lv_istore (lv' := [(7, .int (-1)), (6, .int y6), (5, .int y5), (4, .int y4), (0, .ref aM), (1, xv vadL y1), (2, xv vadL y2), (3, .int y3)]) hx hb dM_sort1_51 hl (by decide) rfl (fun ls hl => ?_)
          refine lv_iload hx hb dM_sort1_53 (lv_at hl 2 rfl) ?_
          refine lv_if_lt (tgt := 76) hx hb dM_sort1_55 (by decide) (fun hc => ?_) (fun hc => ?_)
          · rw [if_pos hc] at hf
            refine lv_iload hx hb dM_sort1_76 (lv_at hl 1 rfl) ?_
            refine lv_istore (lv' := [(5, .int y6), (7, .int (-1)), (6, .int y6), (4, .int y4), (0, .ref aM), (1, xv vadL y1), (2, xv vadL y2), (3, .int y3)]) hx hb dM_sort1_78 hl (by decide) rfl (fun ls hl => ?_)
            refine lv_iinc (v := (y6 + 1)) (lv' := [(6, .int (y6 + 1)), (5, .int y6), (7, .int (-1)), (4, .int y4), (0, .ref aM), (1, xv vadL y1), (2, xv vadL y2), (3, .int y3)]) hx hb dM_sort1_80 hl (k := 2) rfl rfl (by decide) rfl (fun ls hl => ?_)
            refine lv_goto (tgt := 17) hx hb dM_sort1_83 (by decide) ?_
            exact ih (1, (y6 + 1), y6, y4, y1, y2, y3, 0, 0, ((-1) : Int32), ws9, wc, wn) _ _ ls (Or.inl ⟨adL, gdL, vadL, rfl, hf, hP, hD, hS, lv_sub hl [0, 1, 3, 4, 5, 6, 7] rfl, hE, hN⟩)
          · rw [if_neg hc] at hf
            refine lv_iload_n hx hb dM_sort1_58 rfl (lv_at hl 7 rfl) ?_
            refine lv_iconst (v := 3) hx hb dM_sort1_59 (by decide) ?_
            refine lv_icmp_ne (tgt := 71) hx hb dM_sort1_60 (by decide) (fun hc => ?_) (fun hc => ?_)
            · rw [if_neg hc] at hf
              refine lv_iload hx hb dM_sort1_71 (lv_at hl 0 rfl) ?_
              refine lv_if_lt (tgt := 80) hx hb dM_sort1_73 (by decide) (fun _ => ?_) (fun h => ((by revert h; decide : False)).elim)
              refine lv_iinc (v := (y6 + 1)) (lv' := [(6, .int (y6 + 1)), (7, .int (-1)), (5, .int y5), (4, .int y4), (0, .ref aM), (1, xv vadL y1), (2, xv vadL y2), (3, .int y3)]) hx hb dM_sort1_80 hl (k := 1) rfl rfl (by decide) rfl (fun ls hl => ?_)
              refine lv_goto (tgt := 17) hx hb dM_sort1_83 (by decide) ?_
              exact ih (1, (y6 + 1), y5, y4, y1, y2, y3, 0, 0, ((-1) : Int32), ws9, wc, wn) _ _ ls (Or.inl ⟨adL, gdL, vadL, rfl, hf, hP, hD, hS, lv_sub hl [0, 2, 3, 4, 5, 6, 7] rfl, hE, hN⟩)
            · rw [if_pos hc] at hf
              refine lv_iload hx hb dM_sort1_63 (lv_at hl 0 rfl) ?_
              refine lv_if_ge (tgt := 80) hx hb dM_sort1_65 (by decide) (fun h => ((by revert h; decide : False)).elim) (fun _ => ?_)
              refine lv_goto (tgt := 76) hx hb dM_sort1_68 (by decide) ?_
              refine lv_iload hx hb dM_sort1_76 (lv_at hl 1 rfl) ?_
              refine lv_istore (lv' := [(5, .int y6), (7, .int (-1)), (6, .int y6), (4, .int y4), (0, .ref aM), (1, xv vadL y1), (2, xv vadL y2), (3, .int y3)]) hx hb dM_sort1_78 hl (by decide) rfl (fun ls hl => ?_)
              refine lv_iinc (v := (y6 + 1)) (lv' := [(6, .int (y6 + 1)), (5, .int y6), (7, .int (-1)), (4, .int y4), (0, .ref aM), (1, xv vadL y1), (2, xv vadL y2), (3, .int y3)]) hx hb dM_sort1_80 hl (k := 2) rfl rfl (by decide) rfl (fun ls hl => ?_)
              refine lv_goto (tgt := 17) hx hb dM_sort1_83 (by decide) ?_
              exact ih (1, (y6 + 1), y6, y4, y1, y2, y3, 0, 0, ((-1) : Int32), ws9, wc, wn) _ _ ls (Or.inl ⟨adL, gdL, vadL, rfl, hf, hP, hD, hS, lv_sub hl [0, 1, 3, 4, 5, 6, 7] rfl, hE, hN⟩)
    · subst hj
      have hf : fM_sort1_b d (n + 1) 2 y6 y5 y4 y1 y2 y3 y9 y8 y7 ws9 wc wn = some out := hf
      rw [fM_sort1_b, if_neg (by decide), if_pos rfl] at hf
      obtain ⟨hP, hD⟩ : xPD D xcl A (xMw cT aM adL rd gdL vadL ws9 []) H := ⟨hP, hD⟩
      have hl : lv_has ls 10 [(6, .int y6), (5, .int y5), (4, .int y4), (0, .ref aM), (1, xv vadL y1), (2, xv vadL y2), (3, .int y3)] := hl
      refine W.eq (g2 := F0 m 121 ls []) rfl ?_
      show W p l e _ s m _ below meth c H locs wc wn _ _
      obtain ⟨hm0, hf⟩ := xmoE hf
      refine lv_iload hx hb dM_sort1_121 (lv_at hl 0 rfl) ?_
      refine lv_iload hx hb dM_sort1_123 (lv_at hl 2 rfl) ?_
      refine lv_icmp_ge (tgt := 275) hx hb dM_sort1_125 (by decide) (fun hc => ?_) (fun hc => ?_)
      · rw [if_pos hc] at hf
        refine lv_aload_n hx hb dM_sort1_275 rfl (lv_at hl 3 rfl) ?_
        refine lv_iconst (v := 5) hx hb dM_sort1_276 (by decide) ?_
        refine lv_iload hx hb dM_sort1_277 (lv_at hl 1 rfl) ?_
        obtain ⟨o1, hq2, hf⟩ := xbind hf
        have hl := lv_sub (l' := [(6, .int y6), (5, .int y5), (4, .int y4), (0, .ref aM), (3, .int y3)]) hl [0, 1, 2, 3, 6] rfl
        by_cases hk3 : o1.1 = 0
        · rw [if_pos hk3] at hf
          obtain ⟨hm4, hf⟩ := xmoE hf
          have hFc := xm_free hD hS hA
          refine va_callq (va_runV (C := "ValueBenchModel") (As := [.int 5, .int y5]) (rest := []) ⟨hx, hb, hml, hown, htx⟩ (gM_whole l hl9 D cT aK aV H.size n aM adL rd gdL vadL ws9 (5 : Int32) y5 o1 hq2 hk3) ⟨callB_of 2 htx (xw_goodC kw_6_106) rfl rfl rfl (htx _ kw_1_5) (htx _ kw_6_103) ⟨by decide, by decide, by decide +kernel⟩ ⟨Nat.le_of_ble_eq_true rfl, Nat.le_of_ble_eq_true rfl⟩, (htx _ kw_6_105), (htx _ kp_M_whole)⟩ ⟨xPre_blind, va_recv hK hP (ci := 5) rfl (q0 := 0) rfl, (fun U hU hW => ⟨rfl, xPre_of hZ hS hFc hP hD hK U hU hW⟩)⟩ rfl rfl hl.1 rfl (xm_room (Nat.le_of_ble_eq_true rfl)) dM_sort1_279 ⟨hm4.1, hm4.2⟩) hS (fun q _ h => hFc q h) hFc (fun r5 u9 t H1 locs ht hvm hr9 hB hz1 hk1 hS => ?_)
          obtain ⟨hP1, hK1, hD1⟩ := hB
          rw [ht] at hP1
          obtain ⟨ad6, gd7, vad8⟩ := u9
          obtain ⟨hr9, hv9, hn10⟩ := hr9
          have hP : va_P D xcl (xMw cT aM ad6 rd gd7 vad8 o1.2.2.2.2 []) H1 := hP1
          have hD : va_D A (xMw cT aM ad6 rd gd7 vad8 o1.2.2.2.2 []) := hD1.weaken (fun k q _ h => hFc q.1 h)
          generalize H1 = H at hP hS ⊢
          have hE9 : ∀ p, p < xct st → vad8 p = vad p := fun p h => (hv9 p (Nat.lt_of_lt_of_le h hN)).trans (hE p h)
          have hE := hE9
          have hN : xct st ≤ xct o1.2.2.2.2 := Nat.le_trans hN hn10
          rw [hr9]
          refine W.eq (g2 := F0 m 282 ls [xv vad8 o1.2.2.2.1]) (by first | rfl | (skip; rfl)) ?_
          obtain rfl := Option.some.inj hf
          exact W.aret (v := xv vad8 o1.2.2.2.1) hx hb hr (Or.inl ⟨_, rfl⟩) (xvor _ _) (fun t ht hW => ⟨⟨xca vad8 o1.2.2.2.1, (ad6, gd7, vad8), rfl, ⟨rfl, hE, hN⟩, by rw [ht]; exact hP, va_K.moved hW.alike hK, hD⟩, hS.F ht⟩) hS.2.2 dM_sort1_282
        rw [if_neg hk3] at hf
        by_cases hk11 : o1.1 = 1
        · rw [if_pos hk11] at hf
          obtain ⟨hm12, hf⟩ := xmoE hf
          obtain rfl := Option.some.inj hf
          exact absurd (show (1 : Nat) = 0 from hkd) (by decide)
        rw [if_neg hk11] at hf
        exact nomatch hf
      · rw [if_neg hc] at hf
        refine lv_aload_n hx hb dM_sort1_128 rfl (lv_at hl 3 rfl) ?_
        refine xm_get (v := .ref (adL 13)) hx hb htx hown hK hP 13 (by decide) rfl (htx _ kw_5_100) rfl dM_sort1_129 ?_
        refine lv_iload hx hb dM_sort1_132 (lv_at hl 0 rfl) ?_
        obtain ⟨hg1, hf⟩ := xifn hf
        refine va_iald hx hb hK hP 7 1 rfl rfl hg1 dM_sort1_134 ?_
        refine W.eq (g2 := F0 m 135 ls [.int ((xba ws9 13) y6.toNatClampNeg)]) rfl ?_
        refine lv_istore (lv' := [(7, .int ((xba ws9 13) y6.toNatClampNeg)), (6, .int y6), (5, .int y5), (4, .int y4), (0, .ref aM), (1, xv vadL y1), (2, xv vadL y2), (3, .int y3)]) hx hb dM_sort1_135 hl (by decide) rfl (fun ls hl => ?_)
        refine lv_iload_n hx hb dM_sort1_137 rfl (lv_at hl 7 rfl) ?_
        refine lv_if_ne (tgt := 159) hx hb dM_sort1_138 (by decide) (fun hc => ?_) (fun hc => ?_)
        · rw [if_neg hc] at hf
          refine lv_iload hx hb dM_sort1_159 (lv_at hl 1 rfl) ?_
          refine lv_istore (lv' := [(8, .int y6), (7, .int ((xba ws9 13) y6.toNatClampNeg)), (6, .int y6), (5, .int y5), (4, .int y4), (0, .ref aM), (1, xv vadL y1), (2, xv vadL y2), (3, .int y3)]) hx hb dM_sort1_161 hl (by decide) rfl (fun ls hl => ?_)
          refine lv_aload_n hx hb dM_sort1_163 rfl (lv_at hl 5 rfl) ?_
          refine xm_get (v := .int (xsi ws9 12)) hx hb htx hown hK hP 12 (by decide) rfl (htx _ kw_5_99) rfl dM_sort1_164 ?_
          refine lv_istore (lv' := [(9, .int (xsi ws9 12)), (8, .int y6), (7, .int ((xba ws9 13) y6.toNatClampNeg)), (6, .int y6), (5, .int y5), (4, .int y4), (0, .ref aM), (1, xv vadL y1), (2, xv vadL y2), (3, .int y3)]) hx hb dM_sort1_167 hl (by decide) rfl (fun ls hl => ?_)
          exact ih (3, y6, y5, y4, y1, y2, y3, (xsi ws9 12), y6, ((xba ws9 13) y6.toNatClampNeg), ws9, wc, wn) _ _ ls (Or.inr (Or.inr (⟨adL, gdL, vadL, rfl, hf, hP, hD, hS, lv_sub hl [0, 1, 2, 3, 4, 5, 6, 7, 8, 9] rfl, hE, hN⟩)))
        · rw [if_pos hc] at hf
          refine lv_aload_n hx hb dM_sort1_141 rfl (lv_at hl 4 rfl) ?_
          refine lv_null hx hb dM_sort1_142 ?_
          refine lv_aload_n hx hb dM_sort1_143 rfl (lv_at hl 4 rfl) ?_
          refine xm_aload_n hx hb (xvor _ _) dM_sort1_144 rfl (lv_at hl 5 rfl) ?_
          refine lv_iload hx hb dM_sort1_145 (lv_at hl 0 rfl) ?_
          obtain ⟨o2, hq3, hf⟩ := xbind hf
          have hFc := xm_free hD hS hA
          refine va_callq (va_runV (C := "ValueBenchModel") (As := [xv vadL y1, .int ((xba ws9 13) y6.toNatClampNeg)]) (rest := [.null, .ref aM]) ⟨hx, hb, hml, hown, htx⟩ (gM_kid l hl9 D cT aK aV H.size n aM adL rd gdL vadL ws9 y1 ((xba ws9 13) y6.toNatClampNeg) o2 hq3) ⟨callB_of 2 htx (xw_goodC kw_6_158) rfl rfl rfl (htx _ kw_1_5) (htx _ kw_6_155) ⟨by decide, by decide, by decide +kernel⟩ ⟨Nat.le_of_ble_eq_true rfl, Nat.le_of_ble_eq_true rfl⟩, (htx _ kw_6_157), (htx _ kp_M_kid)⟩ ⟨xPre_blind, va_recv hK hP (ci := 5) rfl (q0 := 0) rfl, (fun U hU hW => ⟨rfl, xPre_of hZ hS hFc hP hD hK U hU hW⟩)⟩ rfl rfl hl.1 rfl (xm_room (Nat.le_of_ble_eq_true rfl)) dM_sort1_147 ⟨hm0.1, hm0.2⟩) hS (fun q _ h => hFc q h) hFc (fun r4 u9 t H1 locs ht hvm hr9 hB hz1 hk1 hS => ?_)
          obtain ⟨hP1, hK1, hD1⟩ := hB
          rw [ht] at hP1
          have hP : va_P D xcl (xMw cT aM adL rd gdL vadL ws9 []) H1 := hP1
          have hD : va_D A (xMw cT aM adL rd gdL vadL ws9 []) := hD1.weaken (fun k q _ h => hFc q.1 h)
          generalize H1 = H at hP hS ⊢
          rw [hr9]
          refine W.eq (g2 := F0 m 150 ls [xv vadL o2, .null, .ref aM]) (by first | rfl | (skip; rfl)) ?_
          obtain ⟨o5, hq6, hf⟩ := xbind hf
          obtain ⟨hg7, hf⟩ := xifn hf
          obtain ⟨hg8, hf⟩ := xifn hf
          obtain ⟨hm9, hf⟩ := xmoE hf
          have hFc := xm_free hD hS hA
          refine va_callv (va_runV (C := "ValueBenchModel") (As := [.null, xv vadL o2]) (rest := []) ⟨hx, hb, hml, hown, htx⟩ (gM_wait l hl9 D cT aK aV H.size n aM adL rd gdL vadL ws9 0 o2 o5 hq6) ⟨callB_of 2 htx (xw_goodC kw_6_112) rfl rfl rfl (htx _ kw_1_5) (htx _ kw_6_109) ⟨by decide, by decide, by decide +kernel⟩ ⟨Nat.le_of_ble_eq_true rfl, Nat.le_of_ble_eq_true rfl⟩, (htx _ kw_6_111), (htx _ kp_M_wait)⟩ ⟨xPre_blind, va_recv hK hP (ci := 5) rfl (q0 := 0) rfl, (fun U hU hW => ⟨rfl, xPre_of hZ hS hFc hP hD hK U hU hW⟩)⟩ rfl rfl hl.1 rfl (xm_room (Nat.le_of_ble_eq_true rfl)) dM_sort1_150 ⟨hm9.1, hm9.2⟩) hS (fun q _ h => hFc q h) hFc (fun u9 t H1 locs ht hvm hr9 hB hz1 hk1 hS => ?_)
          obtain ⟨hP1, hK1, hD1⟩ := hB
          rw [ht] at hP1
          obtain ⟨ad11, gd12, vad13⟩ := u9
          obtain ⟨hv14, hn15⟩ := hr9
          have hP : va_P D xcl (xMw cT aM ad11 rd gd12 vad13 o5.2.2 []) H1 := hP1
          have hD : va_D A (xMw cT aM ad11 rd gd12 vad13 o5.2.2 []) := hD1.weaken (fun k q _ h => hFc q.1 h)
          generalize H1 = H at hP hS ⊢
          have hE9 : ∀ p, p < xct st → vad13 p = vad p := fun p h => (hv14 p (Nat.lt_of_lt_of_le h hN)).trans (hE p h)
          have hE := hE9
          have hN : xct st ≤ xct o5.2.2 := Nat.le_trans hN hn15
          have ev16 : xv vadL y1 = xv vad13 y1 := xvE hv14 hg7
          have ev17 : xv vadL y2 = xv vad13 y2 := xvE hv14 hg8
          have hl : lv_has ls 10 [(7, .int ((xba ws9 13) y6.toNatClampNeg)), (6, .int y6), (5, .int y5), (4, .int y4), (0, .ref aM), (1, xv vad13 y1), (2, xv vad13 y2), (3, .int y3)] := by first | exact hl | ((try (rw [← ev16])); (try (rw [← ev17])); exact hl)
          refine W.eq (g2 := F0 m 153 ls []) (by first | rfl | ((try (rw [ev16])); (try (rw [ev17])); rfl)) ?_
          refine lv_iinc (v := (y6 + 1)) (lv' := [(6, .int (y6 + 1)), (7, .int ((xba ws9 13) y6.toNatClampNeg)), (5, .int y5), (4, .int y4), (0, .ref aM), (1, xv vad13 y1), (2, xv vad13 y2), (3, .int y3)]) hx hb dM_sort1_153 hl (k := 1) rfl rfl (by decide) rfl (fun ls hl => ?_)
          refine lv_goto (tgt := 121) hx hb dM_sort1_156 (by decide) ?_
          exact ih (2, (y6 + 1), y5, y4, y1, y2, y3, 0, 0, ((xba ws9 13) y6.toNatClampNeg), o5.2.2, (wc + o5.1), (wn + o5.2.1)) _ _ ls (Or.inr (Or.inl ⟨ad11, gd12, vad13, rfl, hf, hP, hD, hS, lv_sub hl [0, 2, 3, 4, 5, 6, 7] rfl, hE, hN⟩))
    · subst hj
      have hf : fM_sort1_b d (n + 1) 3 y6 y5 y4 y1 y2 y3 y9 y8 y7 ws9 wc wn = some out := hf
      rw [fM_sort1_b, if_neg (by decide), if_neg (by decide)] at hf
      obtain ⟨hP, hD⟩ : xPD D xcl A (xMw cT aM adL rd gdL vadL ws9 []) H := ⟨hP, hD⟩
      have hl : lv_has ls 10 [(9, .int y9), (8, .int y8), (7, .int y7), (6, .int y6), (5, .int y5), (4, .int y4), (0, .ref aM), (1, xv vadL y1), (2, xv vadL y2), (3, .int y3)] := hl
      refine W.eq (g2 := F0 m 169 ls []) rfl ?_
      show W p l e _ s m _ below meth c H locs wc wn _ _
      obtain ⟨hm0, hf⟩ := xmoE hf
      refine lv_iload hx hb dM_sort1_169 (lv_at hl 1 rfl) ?_
      refine lv_iload hx hb dM_sort1_171 (lv_at hl 5 rfl) ?_
      refine lv_icmp_ge (tgt := 237) hx hb dM_sort1_173 (by decide) (fun hc => ?_) (fun hc => ?_)
      · rw [if_pos hc] at hf
        refine lv_iload_n hx hb dM_sort1_237 rfl (lv_at hl 9 rfl) ?_
        refine lv_iconst (v := 1) hx hb dM_sort1_238 (by decide) ?_
        refine lv_icmp_ne (tgt := 268) hx hb dM_sort1_239 (by decide) (fun hc => ?_) (fun hc => ?_)
        · rw [if_neg hc] at hf
          refine lv_iload hx hb dM_sort1_268 (lv_at hl 1 rfl) ?_
          refine lv_istore (lv' := [(6, .int y8), (9, .int y9), (8, .int y8), (7, .int y7), (5, .int y5), (4, .int y4), (0, .ref aM), (1, xv vadL y1), (2, xv vadL y2), (3, .int y3)]) hx hb dM_sort1_270 hl (by decide) rfl (fun ls hl => ?_)
          refine lv_goto (tgt := 121) hx hb dM_sort1_272 (by decide) ?_
          exact ih (2, y8, y5, y4, y1, y2, y3, y9, y8, y7, ws9, wc, wn) _ _ ls (Or.inr (Or.inl ⟨adL, gdL, vadL, rfl, hf, hP, hD, hS, lv_sub hl [0, 4, 5, 6, 7, 8, 9] rfl, hE, hN⟩))
        · rw [if_pos hc] at hf
          refine lv_aload_n hx hb dM_sort1_242 rfl (lv_at hl 6 rfl) ?_
          refine lv_dup hx hb dM_sort1_243 rfl ?_
          refine xm_get (v := .int (xsi ws9 9)) hx hb htx hown hK hP 9 (by decide) rfl (htx _ kw_5_96) rfl dM_sort1_244 ?_
          refine lv_iload hx hb dM_sort1_247 (lv_at hl 1 rfl) ?_
          refine lv_iload hx hb dM_sort1_249 (lv_at hl 3 rfl) ?_
          refine lv_isub hx hb dM_sort1_251 ?_
          refine lv_iadd hx hb dM_sort1_252 ?_
          refine xm_put (v := .int ((xsi ws9 9) + (y8 - y6))) (W' := (xMw cT aM adL rd gdL vadL (xsI ws9 9 ((xsi ws9 9) + (y8 - y6))) [])) (ty := .int) hx hb htx hown hK hP hD hS 9 (by decide) rfl (htx _ kw_5_96) rfl rfl (by decide +kernel) rfl rfl dM_sort1_253 (fun H locs hP hD hS => ?_)
          refine lv_aload_n hx hb dM_sort1_256 rfl (lv_at hl 6 rfl) ?_
          refine lv_null hx hb dM_sort1_257 ?_
          refine lv_aload_n hx hb dM_sort1_258 rfl (lv_at hl 6 rfl) ?_
          refine lv_iconst (v := 5) hx hb dM_sort1_259 (by decide) ?_
          refine lv_iload hx hb dM_sort1_260 (lv_at hl 0 rfl) ?_
          obtain ⟨o1, hq2, hf⟩ := xbind hf
          by_cases hk3 : o1.1 = 0
          · rw [if_pos hk3] at hf
            obtain ⟨hg4, hf⟩ := xifn hf
            obtain ⟨hg5, hf⟩ := xifn hf
            obtain ⟨hm6, hf⟩ := xmoE hf
            have hFc := xm_free hD hS hA
            refine va_callq (va_runV (C := "ValueBenchModel") (As := [.int 5, .int y9]) (rest := [.null, .ref aM]) ⟨hx, hb, hml, hown, htx⟩ (gM_whole l hl9 D cT aK aV H.size n aM adL rd gdL vadL (xsI ws9 9 ((xsi ws9 9) + (y8 - y6))) (5 : Int32) y9 o1 hq2 hk3) ⟨callB_of 2 htx (xw_goodC kw_6_106) rfl rfl rfl (htx _ kw_1_5) (htx _ kw_6_103) ⟨by decide, by decide, by decide +kernel⟩ ⟨Nat.le_of_ble_eq_true rfl, Nat.le_of_ble_eq_true rfl⟩, (htx _ kw_6_105), (htx _ kp_M_whole)⟩ ⟨xPre_blind, va_recv hK hP (ci := 5) rfl (q0 := 0) rfl, (fun U hU hW => ⟨rfl, xPre_of hZ hS hFc hP hD hK U hU hW⟩)⟩ rfl rfl hl.1 rfl (xm_room (Nat.le_of_ble_eq_true rfl)) dM_sort1_262 ⟨hm6.1, hm6.2⟩) hS (fun q _ h => hFc q h) hFc (fun r7 u9 t H1 locs ht hvm hr9 hB hz1 hk1 hS => ?_)
            obtain ⟨hP1, hK1, hD1⟩ := hB
            rw [ht] at hP1
            obtain ⟨ad8, gd9, vad10⟩ := u9
            obtain ⟨hr9, hv11, hn12⟩ := hr9
            have hP : va_P D xcl (xMw cT aM ad8 rd gd9 vad10 o1.2.2.2.2 []) H1 := hP1
            have hD : va_D A (xMw cT aM ad8 rd gd9 vad10 o1.2.2.2.2 []) := hD1.weaken (fun k q _ h => hFc q.1 h)
            generalize H1 = H at hP hS ⊢
            have hE9 : ∀ p, p < xct st → vad10 p = vad p := fun p h => (hv11 p (Nat.lt_of_lt_of_le h hN)).trans (hE p h)
            have hE := hE9
            have hN : xct st ≤ xct o1.2.2.2.2 := Nat.le_trans hN hn12
            have ev13 : xv vadL y1 = xv vad10 y1 := xvE hv11 hg4
            have ev14 : xv vadL y2 = xv vad10 y2 := xvE hv11 hg5
            have hl : lv_has ls 10 [(9, .int y9), (8, .int y8), (7, .int y7), (6, .int y6), (5, .int y5), (4, .int y4), (0, .ref aM), (1, xv vad10 y1), (2, xv vad10 y2), (3, .int y3)] := by first | exact hl | ((try (rw [← ev13])); (try (rw [← ev14])); exact hl)
            rw [hr9]
            refine W.eq (g2 := F0 m 265 ls [xv vad10 o1.2.2.2.1, .null, .ref aM]) (by first | rfl | ((try (rw [ev13])); (try (rw [ev14])); rfl)) ?_
            obtain ⟨o15, hq16, hf⟩ := xbind hf
            obtain ⟨hg17, hf⟩ := xifn hf
            obtain ⟨hg18, hf⟩ := xifn hf
            obtain ⟨hm19, hf⟩ := xmoE hf
            have hFc := xm_free hD hS hA
            refine va_callv (va_runV (C := "ValueBenchModel") (As := [.null, xv vad10 o1.2.2.2.1]) (rest := []) ⟨hx, hb, hml, hown, htx⟩ (gM_wait l hl9 D cT aK aV H.size n aM ad8 rd gd9 vad10 o1.2.2.2.2 0 o1.2.2.2.1 o15 hq16) ⟨callB_of 2 htx (xw_goodC kw_6_112) rfl rfl rfl (htx _ kw_1_5) (htx _ kw_6_109) ⟨by decide, by decide, by decide +kernel⟩ ⟨Nat.le_of_ble_eq_true rfl, Nat.le_of_ble_eq_true rfl⟩, (htx _ kw_6_111), (htx _ kp_M_wait)⟩ ⟨xPre_blind, va_recv hK hP (ci := 5) rfl (q0 := 0) rfl, (fun U hU hW => ⟨rfl, xPre_of hZ hS hFc hP hD hK U hU hW⟩)⟩ rfl rfl hl.1 rfl (xm_room (Nat.le_of_ble_eq_true rfl)) dM_sort1_265 ⟨hm19.1, hm19.2⟩) hS (fun q _ h => hFc q h) hFc (fun u9 t H1 locs ht hvm hr9 hB hz1 hk1 hS => ?_)
            obtain ⟨hP1, hK1, hD1⟩ := hB
            rw [ht] at hP1
            obtain ⟨ad21, gd22, vad23⟩ := u9
            obtain ⟨hv24, hn25⟩ := hr9
            have hP : va_P D xcl (xMw cT aM ad21 rd gd22 vad23 o15.2.2 []) H1 := hP1
            have hD : va_D A (xMw cT aM ad21 rd gd22 vad23 o15.2.2 []) := hD1.weaken (fun k q _ h => hFc q.1 h)
            generalize H1 = H at hP hS ⊢
            have hE9 : ∀ p, p < xct st → vad23 p = vad p := fun p h => (hv24 p (Nat.lt_of_lt_of_le h hN)).trans (hE p h)
            have hE := hE9
            have hN : xct st ≤ xct o15.2.2 := Nat.le_trans hN hn25
            have ev26 : xv vad10 y1 = xv vad23 y1 := xvE hv24 hg17
            have ev27 : xv vad10 y2 = xv vad23 y2 := xvE hv24 hg18
            have hl : lv_has ls 10 [(9, .int y9), (8, .int y8), (7, .int y7), (6, .int y6), (5, .int y5), (4, .int y4), (0, .ref aM), (1, xv vad23 y1), (2, xv vad23 y2), (3, .int y3)] := by first | exact hl | ((try (rw [← ev26])); (try (rw [← ev27])); exact hl)
            refine W.eq (g2 := F0 m 268 ls []) (by first | rfl | ((try (rw [ev26])); (try (rw [ev27])); rfl)) ?_
            refine lv_iload hx hb dM_sort1_268 (lv_at hl 1 rfl) ?_
            refine lv_istore (lv' := [(6, .int y8), (9, .int y9), (8, .int y8), (7, .int y7), (5, .int y5), (4, .int y4), (0, .ref aM), (1, xv vad23 y1), (2, xv vad23 y2), (3, .int y3)]) hx hb dM_sort1_270 hl (by decide) rfl (fun ls hl => ?_)
            refine lv_goto (tgt := 121) hx hb dM_sort1_272 (by decide) ?_
            exact ih (2, y8, y5, y4, y1, y2, y3, y9, y8, y7, o15.2.2, ((wc + o1.2.1) + o15.1), ((wn + o1.2.2.1) + o15.2.1)) _ _ ls (Or.inr (Or.inl ⟨ad21, gd22, vad23, rfl, hf, hP, hD, hS, lv_sub hl [0, 4, 5, 6, 7, 8, 9] rfl, hE, hN⟩))
          rw [if_neg hk3] at hf
          by_cases hk28 : o1.1 = 1
          · rw [if_pos hk28] at hf
            obtain ⟨hg29, hf⟩ := xifn hf
            obtain ⟨hg30, hf⟩ := xifn hf
            obtain ⟨hm31, hf⟩ := xmoE hf
            obtain rfl := Option.some.inj hf
            exact absurd (show (1 : Nat) = 0 from hkd) (by decide)
          rw [if_neg hk28] at hf
          exact nomatch hf
      · rw [if_neg hc] at hf
        refine lv_aload_n hx hb dM_sort1_176 rfl (lv_at hl 6 rfl) ?_
        refine lv_aload_n hx hb dM_sort1_177 rfl (lv_at hl 6 rfl) ?_
        refine xm_aload_n hx hb (xvor _ _) dM_sort1_178 rfl (lv_at hl 8 rfl) ?_
        refine lv_aload_n hx hb dM_sort1_179 rfl (lv_at hl 6 rfl) ?_
        refine xm_get (v := .ref (adL 13)) hx hb htx hown hK hP 13 (by decide) rfl (htx _ kw_5_100) rfl dM_sort1_180 ?_
        refine lv_iload hx hb dM_sort1_183 (lv_at hl 1 rfl) ?_
        obtain ⟨hg1, hf⟩ := xifn hf
        refine va_iald hx hb hK hP 7 1 rfl rfl hg1 dM_sort1_185 ?_
        refine W.eq (g2 := F0 m 186 ls [.int ((xba ws9 13) y8.toNatClampNeg), xv vadL y2, .ref aM, .ref aM]) rfl ?_
        obtain ⟨o2, hq3, hf⟩ := xbind hf
        have hFc := xm_free hD hS hA
        refine va_callq (va_runV (C := "ValueBenchModel") (As := [xv vadL y2, .int ((xba ws9 13) y8.toNatClampNeg)]) (rest := [.ref aM]) ⟨hx, hb, hml, hown, htx⟩ (gM_kid l hl9 D cT aK aV H.size n aM adL rd gdL vadL ws9 y2 ((xba ws9 13) y8.toNatClampNeg) o2 hq3) ⟨callB_of 2 htx (xw_goodC kw_6_158) rfl rfl rfl (htx _ kw_1_5) (htx _ kw_6_155) ⟨by decide, by decide, by decide +kernel⟩ ⟨Nat.le_of_ble_eq_true rfl, Nat.le_of_ble_eq_true rfl⟩, (htx _ kw_6_157), (htx _ kp_M_kid)⟩ ⟨xPre_blind, va_recv hK hP (ci := 5) rfl (q0 := 0) rfl, (fun U hU hW => ⟨rfl, xPre_of hZ hS hFc hP hD hK U hU hW⟩)⟩ rfl rfl hl.1 rfl (xm_room (Nat.le_of_ble_eq_true rfl)) dM_sort1_186 ⟨hm0.1, hm0.2⟩) hS (fun q _ h => hFc q h) hFc (fun r4 u9 t H1 locs ht hvm hr9 hB hz1 hk1 hS => ?_)
        obtain ⟨hP1, hK1, hD1⟩ := hB
        rw [ht] at hP1
        have hP : va_P D xcl (xMw cT aM adL rd gdL vadL ws9 []) H1 := hP1
        have hD : va_D A (xMw cT aM adL rd gdL vadL ws9 []) := hD1.weaken (fun k q _ h => hFc q.1 h)
        generalize H1 = H at hP hS ⊢
        rw [hr9]
        refine W.eq (g2 := F0 m 189 ls [xv vadL o2, .ref aM]) (by first | rfl | (skip; rfl)) ?_
        refine lv_aload_n hx hb dM_sort1_189 rfl (lv_at hl 6 rfl) ?_
        refine xm_aload_n hx hb (xvor _ _) dM_sort1_190 rfl (lv_at hl 8 rfl) ?_
        refine lv_iload hx hb dM_sort1_191 (lv_at hl 2 rfl) ?_
        obtain ⟨o5, hq6, hf⟩ := xbind hf
        have hFc := xm_free hD hS hA
        refine va_callq (va_runV (C := "ValueBenchModel") (As := [xv vadL y2, .int y7]) (rest := [xv vadL o2, .ref aM]) ⟨hx, hb, hml, hown, htx⟩ (gM_kid l hl9 D cT aK aV H.size n aM adL rd gdL vadL ws9 y2 y7 o5 hq6) ⟨callB_of 2 htx (xw_goodC kw_6_158) rfl rfl rfl (htx _ kw_1_5) (htx _ kw_6_155) ⟨by decide, by decide, by decide +kernel⟩ ⟨Nat.le_of_ble_eq_true rfl, Nat.le_of_ble_eq_true rfl⟩, (htx _ kw_6_157), (htx _ kp_M_kid)⟩ ⟨xPre_blind, va_recv hK hP (ci := 5) rfl (q0 := 0) rfl, (fun U hU hW => ⟨rfl, xPre_of hZ hS hFc hP hD hK U hU hW⟩)⟩ rfl rfl hl.1 rfl (xm_room (by simp [xvcat, xrscat, xcI, xcL, xcR, xcN])) dM_sort1_193 ⟨hm0.1, hm0.2⟩) hS (fun q _ h => hFc q h) hFc (fun r7 u9 t H1 locs ht hvm hr9 hB hz1 hk1 hS => ?_)
        obtain ⟨hP1, hK1, hD1⟩ := hB
        rw [ht] at hP1
        have hP : va_P D xcl (xMw cT aM adL rd gdL vadL ws9 []) H1 := hP1
        have hD : va_D A (xMw cT aM adL rd gdL vadL ws9 []) := hD1.weaken (fun k q _ h => hFc q.1 h)
        generalize H1 = H at hP hS ⊢
        rw [hr9]
        refine W.eq (g2 := F0 m 196 ls [xv vadL o5, xv vadL o2, .ref aM]) (by first | rfl | (skip; rfl)) ?_
        obtain ⟨o8, hq9, hf⟩ := xbind hf
        have hFc := xm_free hD hS hA
        refine va_calli (va_runV (C := "ValueBenchModel") (As := [xv vadL o2, xv vadL o5]) (rest := []) ⟨hx, hb, hml, hown, htx⟩ (gM_order l hl9 D cT aK aV d H.size n aM adL rd gdL vadL ws9 o2 o5 o8 hq9) ⟨callB_of 2 htx (xw_goodC kw_7_25) rfl rfl rfl (htx _ kw_1_5) (htx _ kw_7_22) ⟨by decide, by decide, by decide +kernel⟩ ⟨(by show (16 * d) + 1 ≤ 16 * d + 8; omega), (by show 8 + (5 + 11) + (400 * d) ≤ 400 * d + 147; omega)⟩, (htx _ kw_7_24), (htx _ kp_M_order)⟩ ⟨xPre_blind, va_recv hK hP (ci := 5) rfl (q0 := 0) rfl, (fun U hU hW => ⟨rfl, xPre_of hZ hS hFc hP hD hK U hU hW⟩)⟩ rfl rfl hl.1 rfl (xm_room (Nat.le_of_ble_eq_true rfl)) dM_sort1_196 ⟨hm0.1, hm0.2⟩) hS (fun q _ h => hFc q h) hFc (fun r10 u9 t H1 locs ht hvm hr9 hB hz1 hk1 hS => ?_)
        obtain ⟨hP1, hK1, hD1⟩ := hB
        rw [ht] at hP1
        have hP : va_P D xcl (xMw cT aM adL rd gdL vadL ws9 []) H1 := hP1
        have hD : va_D A (xMw cT aM adL rd gdL vadL ws9 []) := hD1.weaken (fun k q _ h => hFc q.1 h)
        generalize H1 = H at hP hS ⊢
        rw [hr9]
        refine W.eq (g2 := F0 m 199 ls [.int o8]) (by first | rfl | (skip; rfl)) ?_
        refine lv_if_ne (tgt := 237) hx hb dM_sort1_199 (by decide) (fun hc => ?_) (fun hc => ?_)
        · rw [if_neg hc] at hf
          refine lv_iload_n hx hb dM_sort1_237 rfl (lv_at hl 9 rfl) ?_
          refine lv_iconst (v := 1) hx hb dM_sort1_238 (by decide) ?_
          refine lv_icmp_ne (tgt := 268) hx hb dM_sort1_239 (by decide) (fun hc => ?_) (fun hc => ?_)
          · rw [if_neg hc] at hf
            refine lv_iload hx hb dM_sort1_268 (lv_at hl 1 rfl) ?_
            refine lv_istore (lv' := [(6, .int y8), (9, .int y9), (8, .int y8), (7, .int y7), (5, .int y5), (4, .int y4), (0, .ref aM), (1, xv vadL y1), (2, xv vadL y2), (3, .int y3)]) hx hb dM_sort1_270 hl (by decide) rfl (fun ls hl => ?_)
            refine lv_goto (tgt := 121) hx hb dM_sort1_272 (by decide) ?_
            exact ih (2, y8, y5, y4, y1, y2, y3, y9, y8, y7, ws9, wc, wn) _ _ ls (Or.inr (Or.inl ⟨adL, gdL, vadL, rfl, hf, hP, hD, hS, lv_sub hl [0, 4, 5, 6, 7, 8, 9] rfl, hE, hN⟩))
          · rw [if_pos hc] at hf
            refine lv_aload_n hx hb dM_sort1_242 rfl (lv_at hl 6 rfl) ?_
            refine lv_dup hx hb dM_sort1_243 rfl ?_
            refine xm_get (v := .int (xsi ws9 9)) hx hb htx hown hK hP 9 (by decide) rfl (htx _ kw_5_96) rfl dM_sort1_244 ?_
            refine lv_iload hx hb dM_sort1_247 (lv_at hl 1 rfl) ?_
            refine lv_iload hx hb dM_sort1_249 (lv_at hl 3 rfl) ?_
            refine lv_isub hx hb dM_sort1_251 ?_
            refine lv_iadd hx hb dM_sort1_252 ?_
            refine xm_put (v := .int ((xsi ws9 9) + (y8 - y6))) (W' := (xMw cT aM adL rd gdL vadL (xsI ws9 9 ((xsi ws9 9) + (y8 - y6))) [])) (ty := .int) hx hb htx hown hK hP hD hS 9 (by decide) rfl (htx _ kw_5_96) rfl rfl (by decide +kernel) rfl rfl dM_sort1_253 (fun H locs hP hD hS => ?_)
            refine lv_aload_n hx hb dM_sort1_256 rfl (lv_at hl 6 rfl) ?_
            refine lv_null hx hb dM_sort1_257 ?_
            refine lv_aload_n hx hb dM_sort1_258 rfl (lv_at hl 6 rfl) ?_
            refine lv_iconst (v := 5) hx hb dM_sort1_259 (by decide) ?_
            refine lv_iload hx hb dM_sort1_260 (lv_at hl 0 rfl) ?_
            obtain ⟨o11, hq12, hf⟩ := xbind hf
            by_cases hk13 : o11.1 = 0
            · rw [if_pos hk13] at hf
              obtain ⟨hg14, hf⟩ := xifn hf
              obtain ⟨hg15, hf⟩ := xifn hf
              obtain ⟨hm16, hf⟩ := xmoE hf
              have hFc := xm_free hD hS hA
              refine va_callq (va_runV (C := "ValueBenchModel") (As := [.int 5, .int y9]) (rest := [.null, .ref aM]) ⟨hx, hb, hml, hown, htx⟩ (gM_whole l hl9 D cT aK aV H.size n aM adL rd gdL vadL (xsI ws9 9 ((xsi ws9 9) + (y8 - y6))) (5 : Int32) y9 o11 hq12 hk13) ⟨callB_of 2 htx (xw_goodC kw_6_106) rfl rfl rfl (htx _ kw_1_5) (htx _ kw_6_103) ⟨by decide, by decide, by decide +kernel⟩ ⟨Nat.le_of_ble_eq_true rfl, Nat.le_of_ble_eq_true rfl⟩, (htx _ kw_6_105), (htx _ kp_M_whole)⟩ ⟨xPre_blind, va_recv hK hP (ci := 5) rfl (q0 := 0) rfl, (fun U hU hW => ⟨rfl, xPre_of hZ hS hFc hP hD hK U hU hW⟩)⟩ rfl rfl hl.1 rfl (xm_room (Nat.le_of_ble_eq_true rfl)) dM_sort1_262 ⟨hm16.1, hm16.2⟩) hS (fun q _ h => hFc q h) hFc (fun r17 u9 t H1 locs ht hvm hr9 hB hz1 hk1 hS => ?_)
              obtain ⟨hP1, hK1, hD1⟩ := hB
              rw [ht] at hP1
              obtain ⟨ad18, gd19, vad20⟩ := u9
              obtain ⟨hr9, hv21, hn22⟩ := hr9
              have hP : va_P D xcl (xMw cT aM ad18 rd gd19 vad20 o11.2.2.2.2 []) H1 := hP1
              have hD : va_D A (xMw cT aM ad18 rd gd19 vad20 o11.2.2.2.2 []) := hD1.weaken (fun k q _ h => hFc q.1 h)
              generalize H1 = H at hP hS ⊢
              have hE9 : ∀ p, p < xct st → vad20 p = vad p := fun p h => (hv21 p (Nat.lt_of_lt_of_le h hN)).trans (hE p h)
              have hE := hE9
              have hN : xct st ≤ xct o11.2.2.2.2 := Nat.le_trans hN hn22
              have ev23 : xv vadL y1 = xv vad20 y1 := xvE hv21 hg14
              have ev24 : xv vadL y2 = xv vad20 y2 := xvE hv21 hg15
              have hl : lv_has ls 10 [(9, .int y9), (8, .int y8), (7, .int y7), (6, .int y6), (5, .int y5), (4, .int y4), (0, .ref aM), (1, xv vad20 y1), (2, xv vad20 y2), (3, .int y3)] := by first | exact hl | ((try (rw [← ev23])); (try (rw [← ev24])); exact hl)
              rw [hr9]
              refine W.eq (g2 := F0 m 265 ls [xv vad20 o11.2.2.2.1, .null, .ref aM]) (by first | rfl | ((try (rw [ev23])); (try (rw [ev24])); rfl)) ?_
              obtain ⟨o25, hq26, hf⟩ := xbind hf
              obtain ⟨hg27, hf⟩ := xifn hf
              obtain ⟨hg28, hf⟩ := xifn hf
              obtain ⟨hm29, hf⟩ := xmoE hf
              have hFc := xm_free hD hS hA
              refine va_callv (va_runV (C := "ValueBenchModel") (As := [.null, xv vad20 o11.2.2.2.1]) (rest := []) ⟨hx, hb, hml, hown, htx⟩ (gM_wait l hl9 D cT aK aV H.size n aM ad18 rd gd19 vad20 o11.2.2.2.2 0 o11.2.2.2.1 o25 hq26) ⟨callB_of 2 htx (xw_goodC kw_6_112) rfl rfl rfl (htx _ kw_1_5) (htx _ kw_6_109) ⟨by decide, by decide, by decide +kernel⟩ ⟨Nat.le_of_ble_eq_true rfl, Nat.le_of_ble_eq_true rfl⟩, (htx _ kw_6_111), (htx _ kp_M_wait)⟩ ⟨xPre_blind, va_recv hK hP (ci := 5) rfl (q0 := 0) rfl, (fun U hU hW => ⟨rfl, xPre_of hZ hS hFc hP hD hK U hU hW⟩)⟩ rfl rfl hl.1 rfl (xm_room (Nat.le_of_ble_eq_true rfl)) dM_sort1_265 ⟨hm29.1, hm29.2⟩) hS (fun q _ h => hFc q h) hFc (fun u9 t H1 locs ht hvm hr9 hB hz1 hk1 hS => ?_)
              obtain ⟨hP1, hK1, hD1⟩ := hB
              rw [ht] at hP1
              obtain ⟨ad31, gd32, vad33⟩ := u9
              obtain ⟨hv34, hn35⟩ := hr9
              have hP : va_P D xcl (xMw cT aM ad31 rd gd32 vad33 o25.2.2 []) H1 := hP1
              have hD : va_D A (xMw cT aM ad31 rd gd32 vad33 o25.2.2 []) := hD1.weaken (fun k q _ h => hFc q.1 h)
              generalize H1 = H at hP hS ⊢
              have hE9 : ∀ p, p < xct st → vad33 p = vad p := fun p h => (hv34 p (Nat.lt_of_lt_of_le h hN)).trans (hE p h)
              have hE := hE9
              have hN : xct st ≤ xct o25.2.2 := Nat.le_trans hN hn35
              have ev36 : xv vad20 y1 = xv vad33 y1 := xvE hv34 hg27
              have ev37 : xv vad20 y2 = xv vad33 y2 := xvE hv34 hg28
              have hl : lv_has ls 10 [(9, .int y9), (8, .int y8), (7, .int y7), (6, .int y6), (5, .int y5), (4, .int y4), (0, .ref aM), (1, xv vad33 y1), (2, xv vad33 y2), (3, .int y3)] := by first | exact hl | ((try (rw [← ev36])); (try (rw [← ev37])); exact hl)
              refine W.eq (g2 := F0 m 268 ls []) (by first | rfl | ((try (rw [ev36])); (try (rw [ev37])); rfl)) ?_
              refine lv_iload hx hb dM_sort1_268 (lv_at hl 1 rfl) ?_
              refine lv_istore (lv' := [(6, .int y8), (9, .int y9), (8, .int y8), (7, .int y7), (5, .int y5), (4, .int y4), (0, .ref aM), (1, xv vad33 y1), (2, xv vad33 y2), (3, .int y3)]) hx hb dM_sort1_270 hl (by decide) rfl (fun ls hl => ?_)
              refine lv_goto (tgt := 121) hx hb dM_sort1_272 (by decide) ?_
              exact ih (2, y8, y5, y4, y1, y2, y3, y9, y8, y7, o25.2.2, ((wc + o11.2.1) + o25.1), ((wn + o11.2.2.1) + o25.2.1)) _ _ ls (Or.inr (Or.inl ⟨ad31, gd32, vad33, rfl, hf, hP, hD, hS, lv_sub hl [0, 4, 5, 6, 7, 8, 9] rfl, hE, hN⟩))
            rw [if_neg hk13] at hf
            by_cases hk38 : o11.1 = 1
            · rw [if_pos hk38] at hf
              obtain ⟨hg39, hf⟩ := xifn hf
              obtain ⟨hg40, hf⟩ := xifn hf
              obtain ⟨hm41, hf⟩ := xmoE hf
              obtain rfl := Option.some.inj hf
              exact absurd (show (1 : Nat) = 0 from hkd) (by decide)
            rw [if_neg hk38] at hf
            exact nomatch hf
        · rw [if_pos hc] at hf
          refine lv_iload_n hx hb dM_sort1_202 rfl (lv_at hl 9 rfl) ?_
          refine lv_iconst (v := 1) hx hb dM_sort1_203 (by decide) ?_
          refine lv_icmp_eq (tgt := 214) hx hb dM_sort1_204 (by decide) (fun hc => ?_) (fun hc => ?_)
          · rw [if_pos hc] at hf
            refine lv_aload_n hx hb dM_sort1_214 rfl (lv_at hl 6 rfl) ?_
            refine lv_null hx hb dM_sort1_215 ?_
            refine lv_aload_n hx hb dM_sort1_216 rfl (lv_at hl 6 rfl) ?_
            refine xm_aload_n hx hb (xvor _ _) dM_sort1_217 rfl (lv_at hl 7 rfl) ?_
            refine lv_aload_n hx hb dM_sort1_218 rfl (lv_at hl 6 rfl) ?_
            refine xm_get (v := .ref (adL 13)) hx hb htx hown hK hP 13 (by decide) rfl (htx _ kw_5_100) rfl dM_sort1_219 ?_
            refine lv_iload hx hb dM_sort1_222 (lv_at hl 1 rfl) ?_
            obtain ⟨hg11, hf⟩ := xifn hf
            refine va_iald hx hb hK hP 7 1 rfl rfl hg11 dM_sort1_224 ?_
            refine W.eq (g2 := F0 m 225 ls [.int ((xba ws9 13) y8.toNatClampNeg), xv vadL y1, .ref aM, .null, .ref aM]) rfl ?_
            obtain ⟨o12, hq13, hf⟩ := xbind hf
            have hFc := xm_free hD hS hA
            refine va_callq (va_runV (C := "ValueBenchModel") (As := [xv vadL y1, .int ((xba ws9 13) y8.toNatClampNeg)]) (rest := [.null, .ref aM]) ⟨hx, hb, hml, hown, htx⟩ (gM_kid l hl9 D cT aK aV H.size n aM adL rd gdL vadL ws9 y1 ((xba ws9 13) y8.toNatClampNeg) o12 hq13) ⟨callB_of 2 htx (xw_goodC kw_6_158) rfl rfl rfl (htx _ kw_1_5) (htx _ kw_6_155) ⟨by decide, by decide, by decide +kernel⟩ ⟨Nat.le_of_ble_eq_true rfl, Nat.le_of_ble_eq_true rfl⟩, (htx _ kw_6_157), (htx _ kp_M_kid)⟩ ⟨xPre_blind, va_recv hK hP (ci := 5) rfl (q0 := 0) rfl, (fun U hU hW => ⟨rfl, xPre_of hZ hS hFc hP hD hK U hU hW⟩)⟩ rfl rfl hl.1 rfl (xm_room (Nat.le_of_ble_eq_true rfl)) dM_sort1_225 ⟨hm0.1, hm0.2⟩) hS (fun q _ h => hFc q h) hFc (fun r14 u9 t H1 locs ht hvm hr9 hB hz1 hk1 hS => ?_)
            obtain ⟨hP1, hK1, hD1⟩ := hB
            rw [ht] at hP1
            have hP : va_P D xcl (xMw cT aM adL rd gdL vadL ws9 []) H1 := hP1
            have hD : va_D A (xMw cT aM adL rd gdL vadL ws9 []) := hD1.weaken (fun k q _ h => hFc q.1 h)
            generalize H1 = H at hP hS ⊢
            rw [hr9]
            refine W.eq (g2 := F0 m 228 ls [xv vadL o12, .null, .ref aM]) (by first | rfl | (skip; rfl)) ?_
            obtain ⟨o15, hq16, hf⟩ := xbind hf
            obtain ⟨hg17, hf⟩ := xifn hf
            obtain ⟨hg18, hf⟩ := xifn hf
            obtain ⟨hm19, hf⟩ := xmoE hf
            have hFc := xm_free hD hS hA
            refine va_callv (va_runV (C := "ValueBenchModel") (As := [.null, xv vadL o12]) (rest := []) ⟨hx, hb, hml, hown, htx⟩ (gM_wait l hl9 D cT aK aV H.size n aM adL rd gdL vadL ws9 0 o12 o15 hq16) ⟨callB_of 2 htx (xw_goodC kw_6_112) rfl rfl rfl (htx _ kw_1_5) (htx _ kw_6_109) ⟨by decide, by decide, by decide +kernel⟩ ⟨Nat.le_of_ble_eq_true rfl, Nat.le_of_ble_eq_true rfl⟩, (htx _ kw_6_111), (htx _ kp_M_wait)⟩ ⟨xPre_blind, va_recv hK hP (ci := 5) rfl (q0 := 0) rfl, (fun U hU hW => ⟨rfl, xPre_of hZ hS hFc hP hD hK U hU hW⟩)⟩ rfl rfl hl.1 rfl (xm_room (Nat.le_of_ble_eq_true rfl)) dM_sort1_228 ⟨hm19.1, hm19.2⟩) hS (fun q _ h => hFc q h) hFc (fun u9 t H1 locs ht hvm hr9 hB hz1 hk1 hS => ?_)
            obtain ⟨hP1, hK1, hD1⟩ := hB
            rw [ht] at hP1
            obtain ⟨ad21, gd22, vad23⟩ := u9
            obtain ⟨hv24, hn25⟩ := hr9
            have hP : va_P D xcl (xMw cT aM ad21 rd gd22 vad23 o15.2.2 []) H1 := hP1
            have hD : va_D A (xMw cT aM ad21 rd gd22 vad23 o15.2.2 []) := hD1.weaken (fun k q _ h => hFc q.1 h)
            generalize H1 = H at hP hS ⊢
            have hE9 : ∀ p, p < xct st → vad23 p = vad p := fun p h => (hv24 p (Nat.lt_of_lt_of_le h hN)).trans (hE p h)
            have hE := hE9
            have hN : xct st ≤ xct o15.2.2 := Nat.le_trans hN hn25
            have ev26 : xv vadL y1 = xv vad23 y1 := xvE hv24 hg17
            have ev27 : xv vadL y2 = xv vad23 y2 := xvE hv24 hg18
            have hl : lv_has ls 10 [(9, .int y9), (8, .int y8), (7, .int y7), (6, .int y6), (5, .int y5), (4, .int y4), (0, .ref aM), (1, xv vad23 y1), (2, xv vad23 y2), (3, .int y3)] := by first | exact hl | ((try (rw [← ev26])); (try (rw [← ev27])); exact hl)
            refine W.eq (g2 := F0 m 231 ls []) (by first | rfl | ((try (rw [ev26])); (try (rw [ev27])); rfl)) ?_
            refine lv_iinc (v := (y8 + 1)) (lv' := [(8, .int (y8 + 1)), (9, .int y9), (7, .int y7), (6, .int y6), (5, .int y5), (4, .int y4), (0, .ref aM), (1, xv vad23 y1), (2, xv vad23 y2), (3, .int y3)]) hx hb dM_sort1_231 hl (k := 1) rfl rfl (by decide) rfl (fun ls hl => ?_)
            refine lv_goto (tgt := 169) hx hb dM_sort1_234 (by decide) ?_
            exact ih (3, y6, y5, y4, y1, y2, y3, y9, (y8 + 1), y7, o15.2.2, (wc + o15.1), (wn + o15.2.1)) _ _ ls (Or.inr (Or.inr (⟨ad21, gd22, vad23, rfl, hf, hP, hD, hS, lv_sub hl [1, 0, 2, 3, 4, 5, 6, 7, 8, 9] rfl, hE, hN⟩)))
          · rw [if_neg hc] at hf
            refine lv_iload hx hb dM_sort1_207 (lv_at hl 1 rfl) ?_
            refine lv_iload hx hb dM_sort1_209 (lv_at hl 3 rfl) ?_
            refine lv_icmp_ne (tgt := 231) hx hb dM_sort1_211 (by decide) (fun hc => ?_) (fun hc => ?_)
            · rw [if_neg hc] at hf
              refine lv_iinc (v := (y8 + 1)) (lv' := [(8, .int (y8 + 1)), (9, .int y9), (7, .int y7), (6, .int y6), (5, .int y5), (4, .int y4), (0, .ref aM), (1, xv vadL y1), (2, xv vadL y2), (3, .int y3)]) hx hb dM_sort1_231 hl (k := 1) rfl rfl (by decide) rfl (fun ls hl => ?_)
              refine lv_goto (tgt := 169) hx hb dM_sort1_234 (by decide) ?_
              exact ih (3, y6, y5, y4, y1, y2, y3, y9, (y8 + 1), y7, ws9, wc, wn) _ _ ls (Or.inr (Or.inr (⟨adL, gdL, vadL, rfl, hf, hP, hD, hS, lv_sub hl [1, 0, 2, 3, 4, 5, 6, 7, 8, 9] rfl, hE, hN⟩)))
            · rw [if_pos hc] at hf
              refine lv_aload_n hx hb dM_sort1_214 rfl (lv_at hl 6 rfl) ?_
              refine lv_null hx hb dM_sort1_215 ?_
              refine lv_aload_n hx hb dM_sort1_216 rfl (lv_at hl 6 rfl) ?_
              refine xm_aload_n hx hb (xvor _ _) dM_sort1_217 rfl (lv_at hl 7 rfl) ?_
              refine lv_aload_n hx hb dM_sort1_218 rfl (lv_at hl 6 rfl) ?_
              refine xm_get (v := .ref (adL 13)) hx hb htx hown hK hP 13 (by decide) rfl (htx _ kw_5_100) rfl dM_sort1_219 ?_
              refine lv_iload hx hb dM_sort1_222 (lv_at hl 1 rfl) ?_
              obtain ⟨hg11, hf⟩ := xifn hf
              refine va_iald hx hb hK hP 7 1 rfl rfl hg11 dM_sort1_224 ?_
              refine W.eq (g2 := F0 m 225 ls [.int ((xba ws9 13) y8.toNatClampNeg), xv vadL y1, .ref aM, .null, .ref aM]) rfl ?_
              obtain ⟨o12, hq13, hf⟩ := xbind hf
              have hFc := xm_free hD hS hA
              refine va_callq (va_runV (C := "ValueBenchModel") (As := [xv vadL y1, .int ((xba ws9 13) y8.toNatClampNeg)]) (rest := [.null, .ref aM]) ⟨hx, hb, hml, hown, htx⟩ (gM_kid l hl9 D cT aK aV H.size n aM adL rd gdL vadL ws9 y1 ((xba ws9 13) y8.toNatClampNeg) o12 hq13) ⟨callB_of 2 htx (xw_goodC kw_6_158) rfl rfl rfl (htx _ kw_1_5) (htx _ kw_6_155) ⟨by decide, by decide, by decide +kernel⟩ ⟨Nat.le_of_ble_eq_true rfl, Nat.le_of_ble_eq_true rfl⟩, (htx _ kw_6_157), (htx _ kp_M_kid)⟩ ⟨xPre_blind, va_recv hK hP (ci := 5) rfl (q0 := 0) rfl, (fun U hU hW => ⟨rfl, xPre_of hZ hS hFc hP hD hK U hU hW⟩)⟩ rfl rfl hl.1 rfl (xm_room (Nat.le_of_ble_eq_true rfl)) dM_sort1_225 ⟨hm0.1, hm0.2⟩) hS (fun q _ h => hFc q h) hFc (fun r14 u9 t H1 locs ht hvm hr9 hB hz1 hk1 hS => ?_)
              obtain ⟨hP1, hK1, hD1⟩ := hB
              rw [ht] at hP1
              have hP : va_P D xcl (xMw cT aM adL rd gdL vadL ws9 []) H1 := hP1
              have hD : va_D A (xMw cT aM adL rd gdL vadL ws9 []) := hD1.weaken (fun k q _ h => hFc q.1 h)
              generalize H1 = H at hP hS ⊢
              rw [hr9]
              refine W.eq (g2 := F0 m 228 ls [xv vadL o12, .null, .ref aM]) (by first | rfl | (skip; rfl)) ?_
              obtain ⟨o15, hq16, hf⟩ := xbind hf
              obtain ⟨hg17, hf⟩ := xifn hf
              obtain ⟨hg18, hf⟩ := xifn hf
              obtain ⟨hm19, hf⟩ := xmoE hf
              have hFc := xm_free hD hS hA
              refine va_callv (va_runV (C := "ValueBenchModel") (As := [.null, xv vadL o12]) (rest := []) ⟨hx, hb, hml, hown, htx⟩ (gM_wait l hl9 D cT aK aV H.size n aM adL rd gdL vadL ws9 0 o12 o15 hq16) ⟨callB_of 2 htx (xw_goodC kw_6_112) rfl rfl rfl (htx _ kw_1_5) (htx _ kw_6_109) ⟨by decide, by decide, by decide +kernel⟩ ⟨Nat.le_of_ble_eq_true rfl, Nat.le_of_ble_eq_true rfl⟩, (htx _ kw_6_111), (htx _ kp_M_wait)⟩ ⟨xPre_blind, va_recv hK hP (ci := 5) rfl (q0 := 0) rfl, (fun U hU hW => ⟨rfl, xPre_of hZ hS hFc hP hD hK U hU hW⟩)⟩ rfl rfl hl.1 rfl (xm_room (Nat.le_of_ble_eq_true rfl)) dM_sort1_228 ⟨hm19.1, hm19.2⟩) hS (fun q _ h => hFc q h) hFc (fun u9 t H1 locs ht hvm hr9 hB hz1 hk1 hS => ?_)
              obtain ⟨hP1, hK1, hD1⟩ := hB
              rw [ht] at hP1
              obtain ⟨ad21, gd22, vad23⟩ := u9
              obtain ⟨hv24, hn25⟩ := hr9
              have hP : va_P D xcl (xMw cT aM ad21 rd gd22 vad23 o15.2.2 []) H1 := hP1
              have hD : va_D A (xMw cT aM ad21 rd gd22 vad23 o15.2.2 []) := hD1.weaken (fun k q _ h => hFc q.1 h)
              generalize H1 = H at hP hS ⊢
              have hE9 : ∀ p, p < xct st → vad23 p = vad p := fun p h => (hv24 p (Nat.lt_of_lt_of_le h hN)).trans (hE p h)
              have hE := hE9
              have hN : xct st ≤ xct o15.2.2 := Nat.le_trans hN hn25
              have ev26 : xv vadL y1 = xv vad23 y1 := xvE hv24 hg17
              have ev27 : xv vadL y2 = xv vad23 y2 := xvE hv24 hg18
              have hl : lv_has ls 10 [(9, .int y9), (8, .int y8), (7, .int y7), (6, .int y6), (5, .int y5), (4, .int y4), (0, .ref aM), (1, xv vad23 y1), (2, xv vad23 y2), (3, .int y3)] := by first | exact hl | ((try (rw [← ev26])); (try (rw [← ev27])); exact hl)
              refine W.eq (g2 := F0 m 231 ls []) (by first | rfl | ((try (rw [ev26])); (try (rw [ev27])); rfl)) ?_
              refine lv_iinc (v := (y8 + 1)) (lv' := [(8, .int (y8 + 1)), (9, .int y9), (7, .int y7), (6, .int y6), (5, .int y5), (4, .int y4), (0, .ref aM), (1, xv vad23 y1), (2, xv vad23 y2), (3, .int y3)]) hx hb dM_sort1_231 hl (k := 1) rfl rfl (by decide) rfl (fun ls hl => ?_)
              refine lv_goto (tgt := 169) hx hb dM_sort1_234 (by decide) ?_
              exact ih (3, y6, y5, y4, y1, y2, y3, y9, (y8 + 1), y7, o15.2.2, (wc + o15.1), (wn + o15.2.1)) _ _ ls (Or.inr (Or.inr (⟨ad21, gd22, vad23, rfl, hf, hP, hD, hS, lv_sub hl [1, 0, 2, 3, 4, 5, 6, 7, 8, 9] rfl, hE, hN⟩)))
  refine xm_aload_n hx hb (xvor _ _) dM_sort1_0 rfl (lv_at hl 1 rfl) ?_
  obtain ⟨hg1, hf⟩ := xifn hf
  refine xm_vget (v := .int ((xpi st 3) (c0 - 1))) hx hb htx hown hK hP 3 (by decide) hg1 rfl ((hZ.1 (103, "count", "I") (List.mem_of_getElem? (i := 3) rfl)).use rfl) rfl dM_sort1_1 ?_
  refine lv_istore (lv' := [(4, .int ((xpi st 3) (c0 - 1))), (0, .ref aM), (1, xv vad c0), (2, xv vad c1), (3, .int x2)]) hx hb dM_sort1_4 hl (by decide) rfl (fun ls hl => ?_)
  refine lv_iload_n hx hb dM_sort1_6 rfl (lv_at hl 4 rfl) ?_
  refine lv_iconst (v := 2) hx hb dM_sort1_7 (by decide) ?_
  refine lv_icmp_le (tgt := 107) hx hb dM_sort1_8 (by decide) (fun hc => ?_) (fun hc => ?_)
  · rw [if_pos hc] at hf
    refine lv_aload_n hx hb dM_sort1_107 rfl (lv_at hl 1 rfl) ?_
    refine xm_aload_n hx hb (xvor _ _) dM_sort1_108 rfl (lv_at hl 3 rfl) ?_
    obtain ⟨o2, hq3, hf⟩ := xbind hf
    obtain ⟨hg4, hf⟩ := xifn hf
    obtain ⟨hm5, hf⟩ := xmoE hf
    have hFc := xm_free hD hS hA
    refine va_callv (va_runV (C := "ValueBenchModel") (As := [xv vad c1]) (rest := []) ⟨hx, hb, hml, hown, htx⟩ (gM_ranked l hl9 D cT aK aV s.heap.size d n aM ad rd gd vad st c1 o2 hq3) ⟨callB_of 1 htx (xw_goodC kw_7_37) rfl rfl rfl (htx _ kw_1_5) (htx _ kw_7_34) ⟨by decide, by decide, by decide +kernel⟩ ⟨(by show (16 * d + 1) + 1 ≤ 16 * d + 8; omega), (by show 8 + (11 + 11) + (400 * d + 40) ≤ 400 * d + 147; omega)⟩, (htx _ kw_7_36), (htx _ kp_M_ranked)⟩ ⟨xPre_blind, va_recv hK hP (ci := 5) rfl (q0 := 0) rfl, (fun U hU hW => ⟨rfl, xPre_of hZ hS hFc hP hD hK U hU hW⟩)⟩ rfl rfl hl.1 rfl (xm_room (Nat.le_of_ble_eq_true rfl)) dM_sort1_109 ⟨hm5.1, hm5.2⟩) hS (fun q _ h => hFc q h) hFc (fun u9 t H1 locs ht hvm hr9 hB hz1 hk1 hS => ?_)
    obtain ⟨hP1, hK1, hD1⟩ := hB
    rw [ht] at hP1
    obtain ⟨ad7, gd8, vad9⟩ := u9
    obtain ⟨hv10, hn11⟩ := hr9
    have hP : va_P D xcl (xMw cT aM ad7 rd gd8 vad9 o2.2.2 []) H1 := hP1
    have hD : va_D A (xMw cT aM ad7 rd gd8 vad9 o2.2.2 []) := hD1.weaken (fun k q _ h => hFc q.1 h)
    generalize H1 = H at hP hS ⊢
    have hE9 : ∀ p, p < xct st → vad9 p = vad p := fun p h => (hv10 p (Nat.lt_of_lt_of_le h hN)).trans (hE p h)
    have hE := hE9
    have hN : xct st ≤ xct o2.2.2 := Nat.le_trans hN hn11
    have ev12 : xv vad c0 = xv vad9 c0 := xvE hv10 (fun h => hg1 (Or.inr h))
    have ev13 : xv vad c1 = xv vad9 c1 := xvE hv10 hg4
    have hl : lv_has ls 10 [(4, .int ((xpi st 3) (c0 - 1))), (0, .ref aM), (1, xv vad9 c0), (2, xv vad9 c1), (3, .int x2)] := by first | exact hl | ((try (rw [← ev12])); (try (rw [← ev13])); exact hl)
    refine W.eq (g2 := F0 m 112 ls []) (by first | rfl | ((try (rw [ev12])); (try (rw [ev13])); rfl)) ?_
    refine lv_aload_n hx hb dM_sort1_112 rfl (lv_at hl 1 rfl) ?_
    refine xm_get (v := .int (xsi o2.2.2 12)) hx hb htx hown hK hP 12 (by decide) rfl (htx _ kw_5_99) rfl dM_sort1_113 ?_
    refine lv_istore (lv' := [(5, .int (xsi o2.2.2 12)), (4, .int ((xpi st 3) (c0 - 1))), (0, .ref aM), (1, xv vad9 c0), (2, xv vad9 c1), (3, .int x2)]) hx hb dM_sort1_116 hl (by decide) rfl (fun ls hl => ?_)
    refine lv_iconst (v := 0) hx hb dM_sort1_118 (by decide) ?_
    refine lv_istore (lv' := [(6, .int 0), (5, .int (xsi o2.2.2 12)), (4, .int ((xpi st 3) (c0 - 1))), (0, .ref aM), (1, xv vad9 c0), (2, xv vad9 c1), (3, .int x2)]) hx hb dM_sort1_119 hl (by decide) rfl (fun ls hl => ?_)
    exact key n (2, (0 : Int32), (xsi o2.2.2 12), ((xpi st 3) (c0 - 1)), c0, c1, x2, 0, 0, 0, o2.2.2, (0 + o2.1), (0 + o2.2.1)) _ _ ls (Or.inr (Or.inl ⟨ad7, gd8, vad9, rfl, hf, hP, hD, hS, lv_sub hl [0, 1, 2, 3, 4, 5, 6] rfl, hE, hN⟩))
  · rw [if_neg hc] at hf
    refine lv_iconst (v := (-1)) hx hb dM_sort1_11 (by decide) ?_
    refine lv_istore (lv' := [(5, .int (-1)), (4, .int ((xpi st 3) (c0 - 1))), (0, .ref aM), (1, xv vad c0), (2, xv vad c1), (3, .int x2)]) hx hb dM_sort1_12 hl (by decide) rfl (fun ls hl => ?_)
    refine lv_iconst (v := 0) hx hb dM_sort1_14 (by decide) ?_
    refine lv_istore (lv' := [(6, .int 0), (5, .int (-1)), (4, .int ((xpi st 3) (c0 - 1))), (0, .ref aM), (1, xv vad c0), (2, xv vad c1), (3, .int x2)]) hx hb dM_sort1_15 hl (by decide) rfl (fun ls hl => ?_)
    exact key n (1, (0 : Int32), ((-1) : Int32), ((xpi st 3) (c0 - 1)), c0, c1, x2, 0, 0, 0, st, 0, 0) _ _ ls (Or.inl ⟨ad, gd, vad, rfl, hf, hP, hD, hS, lv_sub hl [0, 1, 2, 3, 4, 5, 6] rfl, hE, hN⟩)
set_option maxHeartbeats 400000000 in
set_option maxRecDepth 100000 in
theorem gM_sort1_1 (l : Launch) (hl9 : l.stackTraces = false) (D : va_G) (cT : Nat → ClassId) (aK aV : Nat → Nat) (sz d n : Nat) (aM : Nat) (ad rd gd vad : Nat → Nat) (st : xS) (c0 : Nat) (c1 : Nat) (x2 : Int32) (out : Nat × Nat × Nat × Nat × xS) (hf : fM_sort1 d n st c0 c1 x2 = some out) (hkd : out.1 = 1) : xMetY l yM_sort1 wyM_sort1 (16 * d + 8) out.2.1 out.2.2.1 (400 * d + 147) D cT aK aV sz [.ref aM, xv vad c0, xv vad c1, .int x2] (xMw cT aM ad rd gd vad st []) "java/lang/IndexOutOfBoundsException" (fun u => xE vad st out.2.2.2.2 u) (fun A u t => xB D xcl cT A (xMw cT aM u.1 rd u.2.1 u.2.2 out.2.2.2.2 []) t) := by
  refine vx_ofW (cc := prog_13_method_27_code) (maxL := 10) (ret := (some (.object "ValueBenchModel$V"))) (by decide) rfl ?_
  intro p e s m args below meth c s₁ B hml hne hv
  obtain ⟨rfl, hsz, hZ, hP, hK, hD0⟩ := hv
  have hx := B.exec
  have hb := B.bytes
  have hr := B.returns
  have hts := atoms_spec (ws := wyM_sort1) B.pre
  have htx := fun w h => hts w (List.mem_cons_of_mem _ h)
  have hown : s.vm.findClass "ValueBenchModel" = some m.cls := findClass_of_methodNamed B.named
  have hlocks := B.notSynchronized
  subst hsz
  have hD := hD0.self (sz := s.heap.size)
  generalize hAe : va_A (xMw cT aM ad rd gd vad st []) s.heap.size = A at hD hZ ⊢
  have hA : ∀ q : Nat, s.heap.size ≤ q → A q := fun q h => by rw [← hAe]; exact Or.inr h
  have hS : va_S A s.heap s.heap [] := va_S.rf
  have hl := lv_entry ([.ref aM, xv vad c0, xv vad c1, .int x2]) (n := 10) (by simp [lg_sl, xvcat, xrscat, xcI, xcL, xcR, xcN])
  rw [show lv_args 0 [.ref aM, xv vad c0, xv vad c1, .int x2] = [(0, .ref aM), (1, xv vad c0), (2, xv vad c1), (3, .int x2)] from by simp [lv_args, xvcat, xrscat, xcI, xcL, xcR, xcN]] at hl
  rw [lg_entry_eq]
  generalize (lg_sl ([.ref aM, xv vad c0, xv vad c1, .int x2]) ++ List.replicate (10 - (lg_sl ([.ref aM, xv vad c0, xv vad c1, .int x2])).length) Slot.unset).toArray = ls at hl ⊢
  have hl : lv_has ls 10 [(0, .ref aM), (1, xv vad c0), (2, xv vad c1), (3, .int x2)] := hl
  have hE : ∀ p, p < xct st → vad p = vad p := fun _ _ => rfl
  have hN : xct st ≤ xct st := Nat.le_refl _
  unfold fM_sort1 at hf
  refine xloopM (σ := Nat × Int32 × Int32 × Int32 × Nat × Nat × Int32 × Int32 × Int32 × Int32 × xS × Nat × Nat) (fun n x H locs ls => (∃ (adL gdL vadL : Nat → Nat), x.1 = 1 ∧ fM_sort1_b d n x.1 x.2.1 x.2.2.1 x.2.2.2.1 x.2.2.2.2.1 x.2.2.2.2.2.1 x.2.2.2.2.2.2.1 x.2.2.2.2.2.2.2.1 x.2.2.2.2.2.2.2.2.1 x.2.2.2.2.2.2.2.2.2.1 x.2.2.2.2.2.2.2.2.2.2.1 x.2.2.2.2.2.2.2.2.2.2.2.1 x.2.2.2.2.2.2.2.2.2.2.2.2 = some out ∧ va_P D xcl (xMw cT aM adL rd gdL vadL x.2.2.2.2.2.2.2.2.2.2.1 []) H ∧ va_D A (xMw cT aM adL rd gdL vadL x.2.2.2.2.2.2.2.2.2.2.1 []) ∧ va_S A s.heap H locs ∧ lv_has ls 10 [(6, .int x.2.1), (5, .int x.2.2.1), (4, .int x.2.2.2.1), (0, .ref aM), (1, xv vadL x.2.2.2.2.1), (2, xv vadL x.2.2.2.2.2.1), (3, .int x.2.2.2.2.2.2.1)] ∧ (∀ p, p < xct st → vadL p = vad p) ∧ xct st ≤ xct x.2.2.2.2.2.2.2.2.2.2.1) ∨ (∃ (adL gdL vadL : Nat → Nat), x.1 = 2 ∧ fM_sort1_b d n x.1 x.2.1 x.2.2.1 x.2.2.2.1 x.2.2.2.2.1 x.2.2.2.2.2.1 x.2.2.2.2.2.2.1 x.2.2.2.2.2.2.2.1 x.2.2.2.2.2.2.2.2.1 x.2.2.2.2.2.2.2.2.2.1 x.2.2.2.2.2.2.2.2.2.2.1 x.2.2.2.2.2.2.2.2.2.2.2.1 x.2.2.2.2.2.2.2.2.2.2.2.2 = some out ∧ va_P D xcl (xMw cT aM adL rd gdL vadL x.2.2.2.2.2.2.2.2.2.2.1 []) H ∧ va_D A (xMw cT aM adL rd gdL vadL x.2.2.2.2.2.2.2.2.2.2.1 []) ∧ va_S A s.heap H locs ∧ lv_has ls 10 [(6, .int x.2.1), (5, .int x.2.2.1), (4, .int x.2.2.2.1), (0, .ref aM), (1, xv vadL x.2.2.2.2.1), (2, xv vadL x.2.2.2.2.2.1), (3, .int x.2.2.2.2.2.2.1)] ∧ (∀ p, p < xct st → vadL p = vad p) ∧ xct st ≤ xct x.2.2.2.2.2.2.2.2.2.2.1) ∨ (∃ (adL gdL vadL : Nat → Nat), x.1 = 3 ∧ fM_sort1_b d n x.1 x.2.1 x.2.2.1 x.2.2.2.1 x.2.2.2.2.1 x.2.2.2.2.2.1 x.2.2.2.2.2.2.1 x.2.2.2.2.2.2.2.1 x.2.2.2.2.2.2.2.2.1 x.2.2.2.2.2.2.2.2.2.1 x.2.2.2.2.2.2.2.2.2.2.1 x.2.2.2.2.2.2.2.2.2.2.2.1 x.2.2.2.2.2.2.2.2.2.2.2.2 = some out ∧ va_P D xcl (xMw cT aM adL rd gdL vadL x.2.2.2.2.2.2.2.2.2.2.1 []) H ∧ va_D A (xMw cT aM adL rd gdL vadL x.2.2.2.2.2.2.2.2.2.2.1 []) ∧ va_S A s.heap H locs ∧ lv_has ls 10 [(9, .int x.2.2.2.2.2.2.2.1), (8, .int x.2.2.2.2.2.2.2.2.1), (7, .int x.2.2.2.2.2.2.2.2.2.1), (6, .int x.2.1), (5, .int x.2.2.1), (4, .int x.2.2.2.1), (0, .ref aM), (1, xv vadL x.2.2.2.2.1), (2, xv vadL x.2.2.2.2.2.1), (3, .int x.2.2.2.2.2.2.1)] ∧ (∀ p, p < xct st → vadL p = vad p) ∧ xct st ≤ xct x.2.2.2.2.2.2.2.2.2.2.1)) (fun x => if x.1 = 1 then 17 else if x.1 = 2 then 121 else 169) (fun x => x.2.2.2.2.2.2.2.2.2.2.2.1) (fun x => x.2.2.2.2.2.2.2.2.2.2.2.2) (fun x H locs ls h => by rcases h with h | h | h; (obtain ⟨_, _, _, h⟩ := h; exact absurd h.2.1 (by rw [fM_sort1_b]; exact fun h => nomatch h)); (obtain ⟨_, _, _, h⟩ := h; exact absurd h.2.1 (by rw [fM_sort1_b]; exact fun h => nomatch h)); (obtain ⟨_, _, _, h⟩ := h; exact absurd h.2.1 (by rw [fM_sort1_b]; exact fun h => nomatch h))) (fun n ih x H locs ls hv => ?_) (fun key => ?_)
  · obtain ⟨lb, y6, y5, y4, y1, y2, y3, y9, y8, y7, ws9, wc, wn⟩ := x
    rcases hv with ⟨adL, gdL, vadL, hj, hf, hP, hD, hS, hl, hE, hN⟩ | ⟨adL, gdL, vadL, hj, hf, hP, hD, hS, hl, hE, hN⟩ | ⟨adL, gdL, vadL, hj, hf, hP, hD, hS, hl, hE, hN⟩
    · subst hj
      have hf : fM_sort1_b d (n + 1) 1 y6 y5 y4 y1 y2 y3 y9 y8 y7 ws9 wc wn = some out := hf
      rw [fM_sort1_b, if_pos rfl] at hf
      obtain ⟨hP, hD⟩ : xPD D xcl A (xMw cT aM adL rd gdL vadL ws9 []) H := ⟨hP, hD⟩
      have hl : lv_has ls 10 [(6, .int y6), (5, .int y5), (4, .int y4), (0, .ref aM), (1, xv vadL y1), (2, xv vadL y2), (3, .int y3)] := hl
      refine W.eq (g2 := F0 m 17 ls []) rfl ?_
      show W p l e _ s m _ below meth c H locs wc wn _ _
      obtain ⟨hm0, hf⟩ := xmoE hf
      refine lv_iload hx hb dM_sort1_17 (lv_at hl 0 rfl) ?_
      refine lv_iload hx hb dM_sort1_19 (lv_at hl 2 rfl) ?_
      refine lv_icmp_ge (tgt := 86) hx hb dM_sort1_21 (by decide) (fun hc => ?_) (fun hc => ?_)
      · rw [if_pos hc] at hf
        refine lv_iload hx hb dM_sort1_86 (lv_at hl 1 rfl) ?_
        refine lv_if_ge (tgt := 99) hx hb dM_sort1_88 (by decide) (fun hc => ?_) (fun hc => ?_)
        · rw [if_pos hc] at hf
          refine lv_aload_n hx hb dM_sort1_99 rfl (lv_at hl 3 rfl) ?_
          refine xm_aload_n hx hb (xvor _ _) dM_sort1_100 rfl (lv_at hl 4 rfl) ?_
          refine lv_iload hx hb dM_sort1_101 (lv_at hl 1 rfl) ?_
          obtain ⟨o1, hq2, hf⟩ := xbind hf
          have hl := lv_sub (l' := [(6, .int y6), (5, .int y5), (4, .int y4), (0, .ref aM), (3, .int y3)]) hl [0, 1, 2, 3, 6] rfl
          have hFc := xm_free hD hS hA
          refine va_callq (va_runV (C := "ValueBenchModel") (As := [xv vadL y1, .int y5]) (rest := []) ⟨hx, hb, hml, hown, htx⟩ (gM_kid l hl9 D cT aK aV H.size n aM adL rd gdL vadL ws9 y1 y5 o1 hq2) ⟨callB_of 2 htx (xw_goodC kw_6_158) rfl rfl rfl (htx _ kw_1_5) (htx _ kw_6_155) ⟨by decide, by decide, by decide +kernel⟩ ⟨Nat.le_of_ble_eq_true rfl, Nat.le_of_ble_eq_true rfl⟩, (htx _ kw_6_157), (htx _ kp_M_kid)⟩ ⟨xPre_blind, va_recv hK hP (ci := 5) rfl (q0 := 0) rfl, (fun U hU hW => ⟨rfl, xPre_of hZ hS hFc hP hD hK U hU hW⟩)⟩ rfl rfl hl.1 rfl (xm_room (Nat.le_of_ble_eq_true rfl)) dM_sort1_103 ⟨hm0.1, hm0.2⟩) hS (fun q _ h => hFc q h) hFc (fun r3 u9 t H1 locs ht hvm hr9 hB hz1 hk1 hS => ?_)
          obtain ⟨hP1, hK1, hD1⟩ := hB
          rw [ht] at hP1
          have hP : va_P D xcl (xMw cT aM adL rd gdL vadL ws9 []) H1 := hP1
          have hD : va_D A (xMw cT aM adL rd gdL vadL ws9 []) := hD1.weaken (fun k q _ h => hFc q.1 h)
          generalize H1 = H at hP hS ⊢
          rw [hr9]
          refine W.eq (g2 := F0 m 106 ls [xv vadL o1]) (by first | rfl | (skip; rfl)) ?_
          obtain rfl := Option.some.inj hf
          exact absurd (show (0 : Nat) = 1 from hkd) (by decide)
        · rw [if_neg hc] at hf
          refine lv_aload_n hx hb dM_sort1_91 rfl (lv_at hl 3 rfl) ?_
          refine lv_iconst (v := 0) hx hb dM_sort1_92 (by decide) ?_
          obtain ⟨o1, hq2, hf⟩ := xbind hf
          have hl := lv_sub (l' := [(6, .int y6), (5, .int y5), (4, .int y4), (0, .ref aM), (3, .int y3)]) hl [0, 1, 2, 3, 6] rfl
          obtain ⟨hm3, hf⟩ := xmoE hf
          have hFc := xm_free hD hS hA
          refine va_callq (va_runV (C := "ValueBenchModel") (As := [.int 0]) (rest := []) ⟨hx, hb, hml, hown, htx⟩ (gM_fresh l hl9 D cT aK aV H.size n aM adL rd gdL vadL ws9 (0 : Int32) o1 hq2) ⟨callB_of 1 htx (xw_goodC kw_6_16) rfl rfl rfl (htx _ kw_1_5) (htx _ kw_6_13) ⟨by decide, by decide, by decide +kernel⟩ ⟨Nat.le_of_ble_eq_true rfl, Nat.le_of_ble_eq_true rfl⟩, (htx _ kw_6_15), (htx _ kp_M_fresh)⟩ ⟨xPre_blind, va_recv hK hP (ci := 5) rfl (q0 := 0) rfl, (fun U hU hW => ⟨rfl, xPre_of hZ hS hFc hP hD hK U hU hW⟩)⟩ rfl rfl hl.1 rfl (xm_room (Nat.le_of_ble_eq_true rfl)) dM_sort1_93 ⟨hm3.1, hm3.2⟩) hS (fun q _ h => hFc q h) hFc (fun r4 u9 t H1 locs ht hvm hr9 hB hz1 hk1 hS => ?_)
          obtain ⟨hP1, hK1, hD1⟩ := hB
          rw [ht] at hP1
          obtain ⟨ad5, gd6, vad7⟩ := u9
          obtain ⟨hr9, hv8, hn9⟩ := hr9
          have hP : va_P D xcl (xMw cT aM ad5 rd gd6 vad7 o1.2.2.2 []) H1 := hP1
          have hD : va_D A (xMw cT aM ad5 rd gd6 vad7 o1.2.2.2 []) := hD1.weaken (fun k q _ h => hFc q.1 h)
          generalize H1 = H at hP hS ⊢
          have hE9 : ∀ p, p < xct st → vad7 p = vad p := fun p h => (hv8 p (Nat.lt_of_lt_of_le h hN)).trans (hE p h)
          have hE := hE9
          have hN : xct st ≤ xct o1.2.2.2 := Nat.le_trans hN hn9
          rw [hr9]
          refine W.eq (g2 := F0 m 96 ls [xv vad7 o1.2.2.1]) (by first | rfl | (skip; rfl)) ?_
          refine lv_goto (tgt := 106) hx hb dM_sort1_96 (by decide) ?_
          obtain rfl := Option.some.inj hf
          exact absurd (show (0 : Nat) = 1 from hkd) (by decide)
      · rw [if_neg hc] at hf
        refine lv_iload hx hb dM_sort1_24 (lv_at hl 1 rfl) ?_
        refine lv_if_ge (tgt := 33) hx hb dM_sort1_26 (by decide) (fun hc => ?_) (fun hc => ?_)
        · rw [if_pos hc] at hf
          refine lv_aload_n hx hb dM_sort1_33 rfl (lv_at hl 3 rfl) ?_
          refine lv_aload_n hx hb dM_sort1_34 rfl (lv_at hl 3 rfl) ?_
          refine xm_aload_n hx hb (xvor _ _) dM_sort1_35 rfl (lv_at hl 5 rfl) ?_
          refine lv_iload hx hb dM_sort1_36 (lv_at hl 0 rfl) ?_
          obtain ⟨o1, hq2, hf⟩ := xbind hf
          have hFc := xm_free hD hS hA
          refine va_callq (va_runV (C := "ValueBenchModel") (As := [xv vadL y2, .int y6]) (rest := [.ref aM]) ⟨hx, hb, hml, hown, htx⟩ (gM_kid l hl9 D cT aK aV H.size n aM adL rd gdL vadL ws9 y2 y6 o1 hq2) ⟨callB_of 2 htx (xw_goodC kw_6_158) rfl rfl rfl (htx _ kw_1_5) (htx _ kw_6_155) ⟨by decide, by decide, by decide +kernel⟩ ⟨Nat.le_of_ble_eq_true rfl, Nat.le_of_ble_eq_true rfl⟩, (htx _ kw_6_157), (htx _ kp_M_kid)⟩ ⟨xPre_blind, va_recv hK hP (ci := 5) rfl (q0 := 0) rfl, (fun U hU hW => ⟨rfl, xPre_of hZ hS hFc hP hD hK U hU hW⟩)⟩ rfl rfl hl.1 rfl (xm_room (Nat.le_of_ble_eq_true rfl)) dM_sort1_38 ⟨hm0.1, hm0.2⟩) hS (fun q _ h => hFc q h) hFc (fun r3 u9 t H1 locs ht hvm hr9 hB hz1 hk1 hS => ?_)
          obtain ⟨hP1, hK1, hD1⟩ := hB
          rw [ht] at hP1
          have hP : va_P D xcl (xMw cT aM adL rd gdL vadL ws9 []) H1 := hP1
          have hD : va_D A (xMw cT aM adL rd gdL vadL ws9 []) := hD1.weaken (fun k q _ h => hFc q.1 h)
          generalize H1 = H at hP hS ⊢
          rw [hr9]
          refine W.eq (g2 := F0 m 41 ls [xv vadL o1, .ref aM]) (by first | rfl | (skip; rfl)) ?_
          refine lv_aload_n hx hb dM_sort1_41 rfl (lv_at hl 3 rfl) ?_
          refine xm_aload_n hx hb (xvor _ _) dM_sort1_42 rfl (lv_at hl 5 rfl) ?_
          refine lv_iload hx hb dM_sort1_43 (lv_at hl 1 rfl) ?_
          obtain ⟨o4, hq5, hf⟩ := xbind hf
          have hFc := xm_free hD hS hA
          refine va_callq (va_runV (C := "ValueBenchModel") (As := [xv vadL y2, .int y5]) (rest := [xv vadL o1, .ref aM]) ⟨hx, hb, hml, hown, htx⟩ (gM_kid l hl9 D cT aK aV H.size n aM adL rd gdL vadL ws9 y2 y5 o4 hq5) ⟨callB_of 2 htx (xw_goodC kw_6_158) rfl rfl rfl (htx _ kw_1_5) (htx _ kw_6_155) ⟨by decide, by decide, by decide +kernel⟩ ⟨Nat.le_of_ble_eq_true rfl, Nat.le_of_ble_eq_true rfl⟩, (htx _ kw_6_157), (htx _ kp_M_kid)⟩ ⟨xPre_blind, va_recv hK hP (ci := 5) rfl (q0 := 0) rfl, (fun U hU hW => ⟨rfl, xPre_of hZ hS hFc hP hD hK U hU hW⟩)⟩ rfl rfl hl.1 rfl (xm_room (by simp [xvcat, xrscat, xcI, xcL, xcR, xcN])) dM_sort1_45 ⟨hm0.1, hm0.2⟩) hS (fun q _ h => hFc q h) hFc (fun r6 u9 t H1 locs ht hvm hr9 hB hz1 hk1 hS => ?_)
          obtain ⟨hP1, hK1, hD1⟩ := hB
          rw [ht] at hP1
          have hP : va_P D xcl (xMw cT aM adL rd gdL vadL ws9 []) H1 := hP1
          have hD : va_D A (xMw cT aM adL rd gdL vadL ws9 []) := hD1.weaken (fun k q _ h => hFc q.1 h)
          generalize H1 = H at hP hS ⊢
          rw [hr9]
          refine W.eq (g2 := F0 m 48 ls [xv vadL o4, xv vadL o1, .ref aM]) (by first | rfl | (skip; rfl)) ?_
          obtain ⟨o7, hq8, hf⟩ := xbind hf
          have hFc := xm_free hD hS hA
          refine va_calli (va_runV (C := "ValueBenchModel") (As := [xv vadL o1, xv vadL o4]) (rest := []) ⟨hx, hb, hml, hown, htx⟩ (gM_order l hl9 D cT aK aV d H.size n aM adL rd gdL vadL ws9 o1 o4 o7 hq8) ⟨callB_of 2 htx (xw_goodC kw_7_25) rfl rfl rfl (htx _ kw_1_5) (htx _ kw_7_22) ⟨by decide, by decide, by decide +kernel⟩ ⟨(by show (16 * d) + 1 ≤ 16 * d + 8; omega), (by show 8 + (5 + 11) + (400 * d) ≤ 400 * d + 147; omega)⟩, (htx _ kw_7_24), (htx _ kp_M_order)⟩ ⟨xPre_blind, va_recv hK hP (ci := 5) rfl (q0 := 0) rfl, (fun U hU hW => ⟨rfl, xPre_of hZ hS hFc hP hD hK U hU hW⟩)⟩ rfl rfl hl.1 rfl (xm_room (Nat.le_of_ble_eq_true rfl)) dM_sort1_48 ⟨hm0.1, hm0.2⟩) hS (fun q _ h => hFc q h) hFc (fun r9 u9 t H1 locs ht hvm hr9 hB hz1 hk1 hS => ?_)
          obtain ⟨hP1, hK1, hD1⟩ := hB
          rw [ht] at hP1
          have hP : va_P D xcl (xMw cT aM adL rd gdL vadL ws9 []) H1 := hP1
          have hD : va_D A (xMw cT aM adL rd gdL vadL ws9 []) := hD1.weaken (fun k q _ h => hFc q.1 h)
          generalize H1 = H at hP hS ⊢
          rw [hr9]
          refine W.eq (g2 := F0 m 51 ls [.int o7]) (by first | rfl | (skip; rfl)) ?_
          refine lv_istore (lv' := [(7, .int o7), (6, .int y6), (5, .int y5), (4, .int y4), (0, .ref aM), (1, xv vadL y1), (2, xv vadL y2), (3, .int y3)]) hx hb dM_sort1_51 hl (by decide) rfl (fun ls hl => ?_)
          refine lv_iload hx hb dM_sort1_53 (lv_at hl 2 rfl) ?_
          refine lv_if_lt (tgt := 76) hx hb dM_sort1_55 (by decide) (fun hc => ?_) (fun hc => ?_)
          · rw [if_pos hc] at hf
            refine lv_iload hx hb dM_sort1_76 (lv_at hl 1 rfl) ?_
            refine lv_istore (lv' := [(5, .int y6), (7, .int o7), (6, .int y6), (4, .int y4), (0, .ref aM), (1, xv vadL y1), (2, xv vadL y2), (3, .int y3)]) hx hb dM_sort1_78 hl (by decide) rfl (fun ls hl => ?_)
            refine lv_iinc (v := (y6 + 1)) (lv' := [(6, .int (y6 + 1)), (5, .int y6), (7, .int o7), (4, .int y4), (0, .ref aM), (1, xv vadL y1), (2, xv vadL y2), (3, .int y3)]) hx hb dM_sort1_80 hl (k := 2) rfl rfl (by decide) rfl (fun ls hl => ?_)
            refine lv_goto (tgt := 17) hx hb dM_sort1_83 (by decide) ?_
            exact ih (1, (y6 + 1), y6, y4, y1, y2, y3, 0, 0, o7, ws9, wc, wn) _ _ ls (Or.inl ⟨adL, gdL, vadL, rfl, hf, hP, hD, hS, lv_sub hl [0, 1, 3, 4, 5, 6, 7] rfl, hE, hN⟩)
          · rw [if_neg hc] at hf
            refine lv_iload_n hx hb dM_sort1_58 rfl (lv_at hl 7 rfl) ?_
            refine lv_iconst (v := 3) hx hb dM_sort1_59 (by decide) ?_
            refine lv_icmp_ne (tgt := 71) hx hb dM_sort1_60 (by decide) (fun hc => ?_) (fun hc => ?_)
            · rw [if_neg hc] at hf
              refine lv_iload hx hb dM_sort1_71 (lv_at hl 0 rfl) ?_
              refine lv_if_lt (tgt := 80) hx hb dM_sort1_73 (by decide) (fun hc => ?_) (fun hc => ?_)
              · rw [if_pos hc] at hf
                refine lv_iinc (v := (y6 + 1)) (lv' := [(6, .int (y6 + 1)), (7, .int o7), (5, .int y5), (4, .int y4), (0, .ref aM), (1, xv vadL y1), (2, xv vadL y2), (3, .int y3)]) hx hb dM_sort1_80 hl (k := 1) rfl rfl (by decide) rfl (fun ls hl => ?_)
                refine lv_goto (tgt := 17) hx hb dM_sort1_83 (by decide) ?_
                exact ih (1, (y6 + 1), y5, y4, y1, y2, y3, 0, 0, o7, ws9, wc, wn) _ _ ls (Or.inl ⟨adL, gdL, vadL, rfl, hf, hP, hD, hS, lv_sub hl [0, 2, 3, 4, 5, 6, 7] rfl, hE, hN⟩)
              · rw [if_neg hc] at hf
                refine lv_iload hx hb dM_sort1_76 (lv_at hl 1 rfl) ?_
                refine lv_istore (lv' := [(5, .int y6), (7, .int o7), (6, .int y6), (4, .int y4), (0, .ref aM), (1, xv vadL y1), (2, xv vadL y2), (3, .int y3)]) hx hb dM_sort1_78 hl (by decide) rfl (fun ls hl => ?_)
                refine lv_iinc (v := (y6 + 1)) (lv' := [(6, .int (y6 + 1)), (5, .int y6), (7, .int o7), (4, .int y4), (0, .ref aM), (1, xv vadL y1), (2, xv vadL y2), (3, .int y3)]) hx hb dM_sort1_80 hl (k := 2) rfl rfl (by decide) rfl (fun ls hl => ?_)
                refine lv_goto (tgt := 17) hx hb dM_sort1_83 (by decide) ?_
                exact ih (1, (y6 + 1), y6, y4, y1, y2, y3, 0, 0, o7, ws9, wc, wn) _ _ ls (Or.inl ⟨adL, gdL, vadL, rfl, hf, hP, hD, hS, lv_sub hl [0, 1, 3, 4, 5, 6, 7] rfl, hE, hN⟩)
            · rw [if_pos hc] at hf
              refine lv_iload hx hb dM_sort1_63 (lv_at hl 0 rfl) ?_
              refine lv_if_ge (tgt := 80) hx hb dM_sort1_65 (by decide) (fun hc => ?_) (fun hc => ?_)
              · rw [if_pos hc] at hf
                refine lv_iinc (v := (y6 + 1)) (lv' := [(6, .int (y6 + 1)), (7, .int o7), (5, .int y5), (4, .int y4), (0, .ref aM), (1, xv vadL y1), (2, xv vadL y2), (3, .int y3)]) hx hb dM_sort1_80 hl (k := 1) rfl rfl (by decide) rfl (fun ls hl => ?_)
                refine lv_goto (tgt := 17) hx hb dM_sort1_83 (by decide) ?_
                exact ih (1, (y6 + 1), y5, y4, y1, y2, y3, 0, 0, o7, ws9, wc, wn) _ _ ls (Or.inl ⟨adL, gdL, vadL, rfl, hf, hP, hD, hS, lv_sub hl [0, 2, 3, 4, 5, 6, 7] rfl, hE, hN⟩)
              · rw [if_neg hc] at hf
                refine lv_goto (tgt := 76) hx hb dM_sort1_68 (by decide) ?_
                refine lv_iload hx hb dM_sort1_76 (lv_at hl 1 rfl) ?_
                refine lv_istore (lv' := [(5, .int y6), (7, .int o7), (6, .int y6), (4, .int y4), (0, .ref aM), (1, xv vadL y1), (2, xv vadL y2), (3, .int y3)]) hx hb dM_sort1_78 hl (by decide) rfl (fun ls hl => ?_)
                refine lv_iinc (v := (y6 + 1)) (lv' := [(6, .int (y6 + 1)), (5, .int y6), (7, .int o7), (4, .int y4), (0, .ref aM), (1, xv vadL y1), (2, xv vadL y2), (3, .int y3)]) hx hb dM_sort1_80 hl (k := 2) rfl rfl (by decide) rfl (fun ls hl => ?_)
                refine lv_goto (tgt := 17) hx hb dM_sort1_83 (by decide) ?_
                exact ih (1, (y6 + 1), y6, y4, y1, y2, y3, 0, 0, o7, ws9, wc, wn) _ _ ls (Or.inl ⟨adL, gdL, vadL, rfl, hf, hP, hD, hS, lv_sub hl [0, 1, 3, 4, 5, 6, 7] rfl, hE, hN⟩)
        · rw [if_neg hc] at hf
          refine lv_iconst (v := (-1)) hx hb dM_sort1_29 (by decide) ?_
          refine lv_goto (tgt := 51) hx hb dM_sort1_30 (by decide) ?_
          refine lv_istore (lv' := [(7, .int (-1)), (6, .int y6), (5, .int y5), (4, .int y4), (0, .ref aM), (1, xv vadL y1), (2, xv vadL y2), (3, .int y3)]) hx hb dM_sort1_51 hl (by decide) rfl (fun ls hl => ?_)
          refine lv_iload hx hb dM_sort1_53 (lv_at hl 2 rfl) ?_
          refine lv_if_lt (tgt := 76) hx hb dM_sort1_55 (by decide) (fun hc => ?_) (fun hc => ?_)
          · rw [if_pos hc] at hf
            refine lv_iload hx hb dM_sort1_76 (lv_at hl 1 rfl) ?_
            refine lv_istore (lv' := [(5, .int y6), (7, .int (-1)), (6, .int y6), (4, .int y4), (0, .ref aM), (1, xv vadL y1), (2, xv vadL y2), (3, .int y3)]) hx hb dM_sort1_78 hl (by decide) rfl (fun ls hl => ?_)
            refine lv_iinc (v := (y6 + 1)) (lv' := [(6, .int (y6 + 1)), (5, .int y6), (7, .int (-1)), (4, .int y4), (0, .ref aM), (1, xv vadL y1), (2, xv vadL y2), (3, .int y3)]) hx hb dM_sort1_80 hl (k := 2) rfl rfl (by decide) rfl (fun ls hl => ?_)
            refine lv_goto (tgt := 17) hx hb dM_sort1_83 (by decide) ?_
            exact ih (1, (y6 + 1), y6, y4, y1, y2, y3, 0, 0, ((-1) : Int32), ws9, wc, wn) _ _ ls (Or.inl ⟨adL, gdL, vadL, rfl, hf, hP, hD, hS, lv_sub hl [0, 1, 3, 4, 5, 6, 7] rfl, hE, hN⟩)
          · rw [if_neg hc] at hf
            refine lv_iload_n hx hb dM_sort1_58 rfl (lv_at hl 7 rfl) ?_
            refine lv_iconst (v := 3) hx hb dM_sort1_59 (by decide) ?_
            refine lv_icmp_ne (tgt := 71) hx hb dM_sort1_60 (by decide) (fun hc => ?_) (fun hc => ?_)
            · rw [if_neg hc] at hf
              refine lv_iload hx hb dM_sort1_71 (lv_at hl 0 rfl) ?_
              refine lv_if_lt (tgt := 80) hx hb dM_sort1_73 (by decide) (fun _ => ?_) (fun h => ((by revert h; decide : False)).elim)
              refine lv_iinc (v := (y6 + 1)) (lv' := [(6, .int (y6 + 1)), (7, .int (-1)), (5, .int y5), (4, .int y4), (0, .ref aM), (1, xv vadL y1), (2, xv vadL y2), (3, .int y3)]) hx hb dM_sort1_80 hl (k := 1) rfl rfl (by decide) rfl (fun ls hl => ?_)
              refine lv_goto (tgt := 17) hx hb dM_sort1_83 (by decide) ?_
              exact ih (1, (y6 + 1), y5, y4, y1, y2, y3, 0, 0, ((-1) : Int32), ws9, wc, wn) _ _ ls (Or.inl ⟨adL, gdL, vadL, rfl, hf, hP, hD, hS, lv_sub hl [0, 2, 3, 4, 5, 6, 7] rfl, hE, hN⟩)
            · rw [if_pos hc] at hf
              refine lv_iload hx hb dM_sort1_63 (lv_at hl 0 rfl) ?_
              refine lv_if_ge (tgt := 80) hx hb dM_sort1_65 (by decide) (fun h => ((by revert h; decide : False)).elim) (fun _ => ?_)
              refine lv_goto (tgt := 76) hx hb dM_sort1_68 (by decide) ?_
              refine lv_iload hx hb dM_sort1_76 (lv_at hl 1 rfl) ?_
              refine lv_istore (lv' := [(5, .int y6), (7, .int (-1)), (6, .int y6), (4, .int y4), (0, .ref aM), (1, xv vadL y1), (2, xv vadL y2), (3, .int y3)]) hx hb dM_sort1_78 hl (by decide) rfl (fun ls hl => ?_)
              refine lv_iinc (v := (y6 + 1)) (lv' := [(6, .int (y6 + 1)), (5, .int y6), (7, .int (-1)), (4, .int y4), (0, .ref aM), (1, xv vadL y1), (2, xv vadL y2), (3, .int y3)]) hx hb dM_sort1_80 hl (k := 2) rfl rfl (by decide) rfl (fun ls hl => ?_)
              refine lv_goto (tgt := 17) hx hb dM_sort1_83 (by decide) ?_
              exact ih (1, (y6 + 1), y6, y4, y1, y2, y3, 0, 0, ((-1) : Int32), ws9, wc, wn) _ _ ls (Or.inl ⟨adL, gdL, vadL, rfl, hf, hP, hD, hS, lv_sub hl [0, 1, 3, 4, 5, 6, 7] rfl, hE, hN⟩)
    · subst hj
      have hf : fM_sort1_b d (n + 1) 2 y6 y5 y4 y1 y2 y3 y9 y8 y7 ws9 wc wn = some out := hf
      rw [fM_sort1_b, if_neg (by decide), if_pos rfl] at hf
      obtain ⟨hP, hD⟩ : xPD D xcl A (xMw cT aM adL rd gdL vadL ws9 []) H := ⟨hP, hD⟩
      have hl : lv_has ls 10 [(6, .int y6), (5, .int y5), (4, .int y4), (0, .ref aM), (1, xv vadL y1), (2, xv vadL y2), (3, .int y3)] := hl
      refine W.eq (g2 := F0 m 121 ls []) rfl ?_
      show W p l e _ s m _ below meth c H locs wc wn _ _
      obtain ⟨hm0, hf⟩ := xmoE hf
      refine lv_iload hx hb dM_sort1_121 (lv_at hl 0 rfl) ?_
      refine lv_iload hx hb dM_sort1_123 (lv_at hl 2 rfl) ?_
      refine lv_icmp_ge (tgt := 275) hx hb dM_sort1_125 (by decide) (fun hc => ?_) (fun hc => ?_)
      · rw [if_pos hc] at hf
        refine lv_aload_n hx hb dM_sort1_275 rfl (lv_at hl 3 rfl) ?_
        refine lv_iconst (v := 5) hx hb dM_sort1_276 (by decide) ?_
        refine lv_iload hx hb dM_sort1_277 (lv_at hl 1 rfl) ?_
        obtain ⟨o1, hq2, hf⟩ := xbind hf
        have hl := lv_sub (l' := [(6, .int y6), (5, .int y5), (4, .int y4), (0, .ref aM), (3, .int y3)]) hl [0, 1, 2, 3, 6] rfl
        by_cases hk3 : o1.1 = 0
        · rw [if_pos hk3] at hf
          obtain ⟨hm4, hf⟩ := xmoE hf
          have hFc := xm_free hD hS hA
          refine va_callq (va_runV (C := "ValueBenchModel") (As := [.int 5, .int y5]) (rest := []) ⟨hx, hb, hml, hown, htx⟩ (gM_whole l hl9 D cT aK aV H.size n aM adL rd gdL vadL ws9 (5 : Int32) y5 o1 hq2 hk3) ⟨callB_of 2 htx (xw_goodC kw_6_106) rfl rfl rfl (htx _ kw_1_5) (htx _ kw_6_103) ⟨by decide, by decide, by decide +kernel⟩ ⟨Nat.le_of_ble_eq_true rfl, Nat.le_of_ble_eq_true rfl⟩, (htx _ kw_6_105), (htx _ kp_M_whole)⟩ ⟨xPre_blind, va_recv hK hP (ci := 5) rfl (q0 := 0) rfl, (fun U hU hW => ⟨rfl, xPre_of hZ hS hFc hP hD hK U hU hW⟩)⟩ rfl rfl hl.1 rfl (xm_room (Nat.le_of_ble_eq_true rfl)) dM_sort1_279 ⟨hm4.1, hm4.2⟩) hS (fun q _ h => hFc q h) hFc (fun r5 u9 t H1 locs ht hvm hr9 hB hz1 hk1 hS => ?_)
          obtain ⟨hP1, hK1, hD1⟩ := hB
          rw [ht] at hP1
          obtain ⟨ad6, gd7, vad8⟩ := u9
          obtain ⟨hr9, hv9, hn10⟩ := hr9
          have hP : va_P D xcl (xMw cT aM ad6 rd gd7 vad8 o1.2.2.2.2 []) H1 := hP1
          have hD : va_D A (xMw cT aM ad6 rd gd7 vad8 o1.2.2.2.2 []) := hD1.weaken (fun k q _ h => hFc q.1 h)
          generalize H1 = H at hP hS ⊢
          have hE9 : ∀ p, p < xct st → vad8 p = vad p := fun p h => (hv9 p (Nat.lt_of_lt_of_le h hN)).trans (hE p h)
          have hE := hE9
          have hN : xct st ≤ xct o1.2.2.2.2 := Nat.le_trans hN hn10
          rw [hr9]
          refine W.eq (g2 := F0 m 282 ls [xv vad8 o1.2.2.2.1]) (by first | rfl | (skip; rfl)) ?_
          obtain rfl := Option.some.inj hf
          exact absurd (show (0 : Nat) = 1 from hkd) (by decide)
        rw [if_neg hk3] at hf
        by_cases hk11 : o1.1 = 1
        · rw [if_pos hk11] at hf
          obtain ⟨hm12, hf⟩ := xmoE hf
          have hFc := xm_free hD hS hA
          refine xx_thr (vx_runV (C := "ValueBenchModel") (As := [.int 5, .int y5]) (rest := []) ⟨hx, hb, hml, hown, htx⟩ (gM_whole_1 l hl9 D cT aK aV H.size n aM adL rd gdL vadL ws9 (5 : Int32) y5 o1 hq2 hk11) ⟨callB_of 2 htx (xw_goodC kw_6_106) rfl rfl rfl (htx _ kw_1_5) (htx _ kw_6_103) ⟨by decide, by decide, by decide +kernel⟩ ⟨Nat.le_of_ble_eq_true rfl, Nat.le_of_ble_eq_true rfl⟩, (htx _ kw_6_105), (htx _ kp_M_whole)⟩ ⟨xPre_blind, va_recv hK hP (ci := 5) rfl (q0 := 0) rfl, (fun U hU hW => ⟨rfl, xPre_of hZ hS hFc hP hD hK U hU hW⟩)⟩ rfl rfl hl.1 rfl (xm_room (Nat.le_of_ble_eq_true rfl)) dM_sort1_279 ⟨hm12.1, hm12.2⟩) hS hFc (fun q _ h => hFc q h) (fun E ce q9 u9 t H1 locs ht hvm hr9 hB hz1 hk1 hS hce hcv hcl => ?_)
          obtain ⟨rfl, hP1, hK1, hD1⟩ := hB
          rw [ht] at hP1
          obtain ⟨ad14, gd15, vad16⟩ := u9
          obtain ⟨hv17, hn18⟩ := hr9
          have hP : va_P D xcl (xMw cT aM ad14 rd gd15 vad16 o1.2.2.2.2 []) H1 := hP1
          have hD : va_D A (xMw cT aM ad14 rd gd15 vad16 o1.2.2.2.2 []) := hD1.weaken (fun k q _ h => hFc q.1 h)
          generalize H1 = H at hP hS hce ⊢
          have hE9 : ∀ p, p < xct st → vad16 p = vad p := fun p h => (hv17 p (Nat.lt_of_lt_of_le h hN)).trans (hE p h)
          have hE := hE9
          have hN : xct st ≤ xct o1.2.2.2.2 := Nat.le_trans hN hn18
          obtain rfl := Option.some.inj hf
          exact vx_out (E := "java/lang/IndexOutOfBoundsException") (fun x h => (hne x h).elim) hlocks hce hcv hcl (fun t ht ha => ⟨(ad14, gd15, vad16), ⟨hE, hN⟩, ⟨rfl, by rw [ht]; exact hP, va_K.moved ha hK, hD⟩, hS.F ht⟩) hS.2.2 (Nat.le_refl _) (Nat.le_refl _)
        rw [if_neg hk11] at hf
        exact nomatch hf
      · rw [if_neg hc] at hf
        refine lv_aload_n hx hb dM_sort1_128 rfl (lv_at hl 3 rfl) ?_
        refine xm_get (v := .ref (adL 13)) hx hb htx hown hK hP 13 (by decide) rfl (htx _ kw_5_100) rfl dM_sort1_129 ?_
        refine lv_iload hx hb dM_sort1_132 (lv_at hl 0 rfl) ?_
        obtain ⟨hg1, hf⟩ := xifn hf
        refine va_iald hx hb hK hP 7 1 rfl rfl hg1 dM_sort1_134 ?_
        refine W.eq (g2 := F0 m 135 ls [.int ((xba ws9 13) y6.toNatClampNeg)]) rfl ?_
        refine lv_istore (lv' := [(7, .int ((xba ws9 13) y6.toNatClampNeg)), (6, .int y6), (5, .int y5), (4, .int y4), (0, .ref aM), (1, xv vadL y1), (2, xv vadL y2), (3, .int y3)]) hx hb dM_sort1_135 hl (by decide) rfl (fun ls hl => ?_)
        refine lv_iload_n hx hb dM_sort1_137 rfl (lv_at hl 7 rfl) ?_
        refine lv_if_ne (tgt := 159) hx hb dM_sort1_138 (by decide) (fun hc => ?_) (fun hc => ?_)
        · rw [if_neg hc] at hf
          refine lv_iload hx hb dM_sort1_159 (lv_at hl 1 rfl) ?_
          refine lv_istore (lv' := [(8, .int y6), (7, .int ((xba ws9 13) y6.toNatClampNeg)), (6, .int y6), (5, .int y5), (4, .int y4), (0, .ref aM), (1, xv vadL y1), (2, xv vadL y2), (3, .int y3)]) hx hb dM_sort1_161 hl (by decide) rfl (fun ls hl => ?_)
          refine lv_aload_n hx hb dM_sort1_163 rfl (lv_at hl 5 rfl) ?_
          refine xm_get (v := .int (xsi ws9 12)) hx hb htx hown hK hP 12 (by decide) rfl (htx _ kw_5_99) rfl dM_sort1_164 ?_
          refine lv_istore (lv' := [(9, .int (xsi ws9 12)), (8, .int y6), (7, .int ((xba ws9 13) y6.toNatClampNeg)), (6, .int y6), (5, .int y5), (4, .int y4), (0, .ref aM), (1, xv vadL y1), (2, xv vadL y2), (3, .int y3)]) hx hb dM_sort1_167 hl (by decide) rfl (fun ls hl => ?_)
          exact ih (3, y6, y5, y4, y1, y2, y3, (xsi ws9 12), y6, ((xba ws9 13) y6.toNatClampNeg), ws9, wc, wn) _ _ ls (Or.inr (Or.inr (⟨adL, gdL, vadL, rfl, hf, hP, hD, hS, lv_sub hl [0, 1, 2, 3, 4, 5, 6, 7, 8, 9] rfl, hE, hN⟩)))
        · rw [if_pos hc] at hf
          refine lv_aload_n hx hb dM_sort1_141 rfl (lv_at hl 4 rfl) ?_
          refine lv_null hx hb dM_sort1_142 ?_
          refine lv_aload_n hx hb dM_sort1_143 rfl (lv_at hl 4 rfl) ?_
          refine xm_aload_n hx hb (xvor _ _) dM_sort1_144 rfl (lv_at hl 5 rfl) ?_
          refine lv_iload hx hb dM_sort1_145 (lv_at hl 0 rfl) ?_
          obtain ⟨o2, hq3, hf⟩ := xbind hf
          have hFc := xm_free hD hS hA
          refine va_callq (va_runV (C := "ValueBenchModel") (As := [xv vadL y1, .int ((xba ws9 13) y6.toNatClampNeg)]) (rest := [.null, .ref aM]) ⟨hx, hb, hml, hown, htx⟩ (gM_kid l hl9 D cT aK aV H.size n aM adL rd gdL vadL ws9 y1 ((xba ws9 13) y6.toNatClampNeg) o2 hq3) ⟨callB_of 2 htx (xw_goodC kw_6_158) rfl rfl rfl (htx _ kw_1_5) (htx _ kw_6_155) ⟨by decide, by decide, by decide +kernel⟩ ⟨Nat.le_of_ble_eq_true rfl, Nat.le_of_ble_eq_true rfl⟩, (htx _ kw_6_157), (htx _ kp_M_kid)⟩ ⟨xPre_blind, va_recv hK hP (ci := 5) rfl (q0 := 0) rfl, (fun U hU hW => ⟨rfl, xPre_of hZ hS hFc hP hD hK U hU hW⟩)⟩ rfl rfl hl.1 rfl (xm_room (Nat.le_of_ble_eq_true rfl)) dM_sort1_147 ⟨hm0.1, hm0.2⟩) hS (fun q _ h => hFc q h) hFc (fun r4 u9 t H1 locs ht hvm hr9 hB hz1 hk1 hS => ?_)
          obtain ⟨hP1, hK1, hD1⟩ := hB
          rw [ht] at hP1
          have hP : va_P D xcl (xMw cT aM adL rd gdL vadL ws9 []) H1 := hP1
          have hD : va_D A (xMw cT aM adL rd gdL vadL ws9 []) := hD1.weaken (fun k q _ h => hFc q.1 h)
          generalize H1 = H at hP hS ⊢
          rw [hr9]
          refine W.eq (g2 := F0 m 150 ls [xv vadL o2, .null, .ref aM]) (by first | rfl | (skip; rfl)) ?_
          obtain ⟨o5, hq6, hf⟩ := xbind hf
          obtain ⟨hg7, hf⟩ := xifn hf
          obtain ⟨hg8, hf⟩ := xifn hf
          obtain ⟨hm9, hf⟩ := xmoE hf
          have hFc := xm_free hD hS hA
          refine va_callv (va_runV (C := "ValueBenchModel") (As := [.null, xv vadL o2]) (rest := []) ⟨hx, hb, hml, hown, htx⟩ (gM_wait l hl9 D cT aK aV H.size n aM adL rd gdL vadL ws9 0 o2 o5 hq6) ⟨callB_of 2 htx (xw_goodC kw_6_112) rfl rfl rfl (htx _ kw_1_5) (htx _ kw_6_109) ⟨by decide, by decide, by decide +kernel⟩ ⟨Nat.le_of_ble_eq_true rfl, Nat.le_of_ble_eq_true rfl⟩, (htx _ kw_6_111), (htx _ kp_M_wait)⟩ ⟨xPre_blind, va_recv hK hP (ci := 5) rfl (q0 := 0) rfl, (fun U hU hW => ⟨rfl, xPre_of hZ hS hFc hP hD hK U hU hW⟩)⟩ rfl rfl hl.1 rfl (xm_room (Nat.le_of_ble_eq_true rfl)) dM_sort1_150 ⟨hm9.1, hm9.2⟩) hS (fun q _ h => hFc q h) hFc (fun u9 t H1 locs ht hvm hr9 hB hz1 hk1 hS => ?_)
          obtain ⟨hP1, hK1, hD1⟩ := hB
          rw [ht] at hP1
          obtain ⟨ad11, gd12, vad13⟩ := u9
          obtain ⟨hv14, hn15⟩ := hr9
          have hP : va_P D xcl (xMw cT aM ad11 rd gd12 vad13 o5.2.2 []) H1 := hP1
          have hD : va_D A (xMw cT aM ad11 rd gd12 vad13 o5.2.2 []) := hD1.weaken (fun k q _ h => hFc q.1 h)
          generalize H1 = H at hP hS ⊢
          have hE9 : ∀ p, p < xct st → vad13 p = vad p := fun p h => (hv14 p (Nat.lt_of_lt_of_le h hN)).trans (hE p h)
          have hE := hE9
          have hN : xct st ≤ xct o5.2.2 := Nat.le_trans hN hn15
          have ev16 : xv vadL y1 = xv vad13 y1 := xvE hv14 hg7
          have ev17 : xv vadL y2 = xv vad13 y2 := xvE hv14 hg8
          have hl : lv_has ls 10 [(7, .int ((xba ws9 13) y6.toNatClampNeg)), (6, .int y6), (5, .int y5), (4, .int y4), (0, .ref aM), (1, xv vad13 y1), (2, xv vad13 y2), (3, .int y3)] := by first | exact hl | ((try (rw [← ev16])); (try (rw [← ev17])); exact hl)
          refine W.eq (g2 := F0 m 153 ls []) (by first | rfl | ((try (rw [ev16])); (try (rw [ev17])); rfl)) ?_
          refine lv_iinc (v := (y6 + 1)) (lv' := [(6, .int (y6 + 1)), (7, .int ((xba ws9 13) y6.toNatClampNeg)), (5, .int y5), (4, .int y4), (0, .ref aM), (1, xv vad13 y1), (2, xv vad13 y2), (3, .int y3)]) hx hb dM_sort1_153 hl (k := 1) rfl rfl (by decide) rfl (fun ls hl => ?_)
          refine lv_goto (tgt := 121) hx hb dM_sort1_156 (by decide) ?_
          exact ih (2, (y6 + 1), y5, y4, y1, y2, y3, 0, 0, ((xba ws9 13) y6.toNatClampNeg), o5.2.2, (wc + o5.1), (wn + o5.2.1)) _ _ ls (Or.inr (Or.inl ⟨ad11, gd12, vad13, rfl, hf, hP, hD, hS, lv_sub hl [0, 2, 3, 4, 5, 6, 7] rfl, hE, hN⟩))
    · subst hj
      have hf : fM_sort1_b d (n + 1) 3 y6 y5 y4 y1 y2 y3 y9 y8 y7 ws9 wc wn = some out := hf
      rw [fM_sort1_b, if_neg (by decide), if_neg (by decide)] at hf
      obtain ⟨hP, hD⟩ : xPD D xcl A (xMw cT aM adL rd gdL vadL ws9 []) H := ⟨hP, hD⟩
      have hl : lv_has ls 10 [(9, .int y9), (8, .int y8), (7, .int y7), (6, .int y6), (5, .int y5), (4, .int y4), (0, .ref aM), (1, xv vadL y1), (2, xv vadL y2), (3, .int y3)] := hl
      refine W.eq (g2 := F0 m 169 ls []) rfl ?_
      show W p l e _ s m _ below meth c H locs wc wn _ _
      obtain ⟨hm0, hf⟩ := xmoE hf
      refine lv_iload hx hb dM_sort1_169 (lv_at hl 1 rfl) ?_
      refine lv_iload hx hb dM_sort1_171 (lv_at hl 5 rfl) ?_
      refine lv_icmp_ge (tgt := 237) hx hb dM_sort1_173 (by decide) (fun hc => ?_) (fun hc => ?_)
      · rw [if_pos hc] at hf
        refine lv_iload_n hx hb dM_sort1_237 rfl (lv_at hl 9 rfl) ?_
        refine lv_iconst (v := 1) hx hb dM_sort1_238 (by decide) ?_
        refine lv_icmp_ne (tgt := 268) hx hb dM_sort1_239 (by decide) (fun hc => ?_) (fun hc => ?_)
        · rw [if_neg hc] at hf
          refine lv_iload hx hb dM_sort1_268 (lv_at hl 1 rfl) ?_
          refine lv_istore (lv' := [(6, .int y8), (9, .int y9), (8, .int y8), (7, .int y7), (5, .int y5), (4, .int y4), (0, .ref aM), (1, xv vadL y1), (2, xv vadL y2), (3, .int y3)]) hx hb dM_sort1_270 hl (by decide) rfl (fun ls hl => ?_)
          refine lv_goto (tgt := 121) hx hb dM_sort1_272 (by decide) ?_
          exact ih (2, y8, y5, y4, y1, y2, y3, y9, y8, y7, ws9, wc, wn) _ _ ls (Or.inr (Or.inl ⟨adL, gdL, vadL, rfl, hf, hP, hD, hS, lv_sub hl [0, 4, 5, 6, 7, 8, 9] rfl, hE, hN⟩))
        · rw [if_pos hc] at hf
          refine lv_aload_n hx hb dM_sort1_242 rfl (lv_at hl 6 rfl) ?_
          refine lv_dup hx hb dM_sort1_243 rfl ?_
          refine xm_get (v := .int (xsi ws9 9)) hx hb htx hown hK hP 9 (by decide) rfl (htx _ kw_5_96) rfl dM_sort1_244 ?_
          refine lv_iload hx hb dM_sort1_247 (lv_at hl 1 rfl) ?_
          refine lv_iload hx hb dM_sort1_249 (lv_at hl 3 rfl) ?_
          refine lv_isub hx hb dM_sort1_251 ?_
          refine lv_iadd hx hb dM_sort1_252 ?_
          refine xm_put (v := .int ((xsi ws9 9) + (y8 - y6))) (W' := (xMw cT aM adL rd gdL vadL (xsI ws9 9 ((xsi ws9 9) + (y8 - y6))) [])) (ty := .int) hx hb htx hown hK hP hD hS 9 (by decide) rfl (htx _ kw_5_96) rfl rfl (by decide +kernel) rfl rfl dM_sort1_253 (fun H locs hP hD hS => ?_)
          refine lv_aload_n hx hb dM_sort1_256 rfl (lv_at hl 6 rfl) ?_
          refine lv_null hx hb dM_sort1_257 ?_
          refine lv_aload_n hx hb dM_sort1_258 rfl (lv_at hl 6 rfl) ?_
          refine lv_iconst (v := 5) hx hb dM_sort1_259 (by decide) ?_
          refine lv_iload hx hb dM_sort1_260 (lv_at hl 0 rfl) ?_
          obtain ⟨o1, hq2, hf⟩ := xbind hf
          by_cases hk3 : o1.1 = 0
          · rw [if_pos hk3] at hf
            obtain ⟨hg4, hf⟩ := xifn hf
            obtain ⟨hg5, hf⟩ := xifn hf
            obtain ⟨hm6, hf⟩ := xmoE hf
            have hFc := xm_free hD hS hA
            refine va_callq (va_runV (C := "ValueBenchModel") (As := [.int 5, .int y9]) (rest := [.null, .ref aM]) ⟨hx, hb, hml, hown, htx⟩ (gM_whole l hl9 D cT aK aV H.size n aM adL rd gdL vadL (xsI ws9 9 ((xsi ws9 9) + (y8 - y6))) (5 : Int32) y9 o1 hq2 hk3) ⟨callB_of 2 htx (xw_goodC kw_6_106) rfl rfl rfl (htx _ kw_1_5) (htx _ kw_6_103) ⟨by decide, by decide, by decide +kernel⟩ ⟨Nat.le_of_ble_eq_true rfl, Nat.le_of_ble_eq_true rfl⟩, (htx _ kw_6_105), (htx _ kp_M_whole)⟩ ⟨xPre_blind, va_recv hK hP (ci := 5) rfl (q0 := 0) rfl, (fun U hU hW => ⟨rfl, xPre_of hZ hS hFc hP hD hK U hU hW⟩)⟩ rfl rfl hl.1 rfl (xm_room (Nat.le_of_ble_eq_true rfl)) dM_sort1_262 ⟨hm6.1, hm6.2⟩) hS (fun q _ h => hFc q h) hFc (fun r7 u9 t H1 locs ht hvm hr9 hB hz1 hk1 hS => ?_)
            obtain ⟨hP1, hK1, hD1⟩ := hB
            rw [ht] at hP1
            obtain ⟨ad8, gd9, vad10⟩ := u9
            obtain ⟨hr9, hv11, hn12⟩ := hr9
            have hP : va_P D xcl (xMw cT aM ad8 rd gd9 vad10 o1.2.2.2.2 []) H1 := hP1
            have hD : va_D A (xMw cT aM ad8 rd gd9 vad10 o1.2.2.2.2 []) := hD1.weaken (fun k q _ h => hFc q.1 h)
            generalize H1 = H at hP hS ⊢
            have hE9 : ∀ p, p < xct st → vad10 p = vad p := fun p h => (hv11 p (Nat.lt_of_lt_of_le h hN)).trans (hE p h)
            have hE := hE9
            have hN : xct st ≤ xct o1.2.2.2.2 := Nat.le_trans hN hn12
            have ev13 : xv vadL y1 = xv vad10 y1 := xvE hv11 hg4
            have ev14 : xv vadL y2 = xv vad10 y2 := xvE hv11 hg5
            have hl : lv_has ls 10 [(9, .int y9), (8, .int y8), (7, .int y7), (6, .int y6), (5, .int y5), (4, .int y4), (0, .ref aM), (1, xv vad10 y1), (2, xv vad10 y2), (3, .int y3)] := by first | exact hl | ((try (rw [← ev13])); (try (rw [← ev14])); exact hl)
            rw [hr9]
            refine W.eq (g2 := F0 m 265 ls [xv vad10 o1.2.2.2.1, .null, .ref aM]) (by first | rfl | ((try (rw [ev13])); (try (rw [ev14])); rfl)) ?_
            obtain ⟨o15, hq16, hf⟩ := xbind hf
            obtain ⟨hg17, hf⟩ := xifn hf
            obtain ⟨hg18, hf⟩ := xifn hf
            obtain ⟨hm19, hf⟩ := xmoE hf
            have hFc := xm_free hD hS hA
            refine va_callv (va_runV (C := "ValueBenchModel") (As := [.null, xv vad10 o1.2.2.2.1]) (rest := []) ⟨hx, hb, hml, hown, htx⟩ (gM_wait l hl9 D cT aK aV H.size n aM ad8 rd gd9 vad10 o1.2.2.2.2 0 o1.2.2.2.1 o15 hq16) ⟨callB_of 2 htx (xw_goodC kw_6_112) rfl rfl rfl (htx _ kw_1_5) (htx _ kw_6_109) ⟨by decide, by decide, by decide +kernel⟩ ⟨Nat.le_of_ble_eq_true rfl, Nat.le_of_ble_eq_true rfl⟩, (htx _ kw_6_111), (htx _ kp_M_wait)⟩ ⟨xPre_blind, va_recv hK hP (ci := 5) rfl (q0 := 0) rfl, (fun U hU hW => ⟨rfl, xPre_of hZ hS hFc hP hD hK U hU hW⟩)⟩ rfl rfl hl.1 rfl (xm_room (Nat.le_of_ble_eq_true rfl)) dM_sort1_265 ⟨hm19.1, hm19.2⟩) hS (fun q _ h => hFc q h) hFc (fun u9 t H1 locs ht hvm hr9 hB hz1 hk1 hS => ?_)
            obtain ⟨hP1, hK1, hD1⟩ := hB
            rw [ht] at hP1
            obtain ⟨ad21, gd22, vad23⟩ := u9
            obtain ⟨hv24, hn25⟩ := hr9
            have hP : va_P D xcl (xMw cT aM ad21 rd gd22 vad23 o15.2.2 []) H1 := hP1
            have hD : va_D A (xMw cT aM ad21 rd gd22 vad23 o15.2.2 []) := hD1.weaken (fun k q _ h => hFc q.1 h)
            generalize H1 = H at hP hS ⊢
            have hE9 : ∀ p, p < xct st → vad23 p = vad p := fun p h => (hv24 p (Nat.lt_of_lt_of_le h hN)).trans (hE p h)
            have hE := hE9
            have hN : xct st ≤ xct o15.2.2 := Nat.le_trans hN hn25
            have ev26 : xv vad10 y1 = xv vad23 y1 := xvE hv24 hg17
            have ev27 : xv vad10 y2 = xv vad23 y2 := xvE hv24 hg18
            have hl : lv_has ls 10 [(9, .int y9), (8, .int y8), (7, .int y7), (6, .int y6), (5, .int y5), (4, .int y4), (0, .ref aM), (1, xv vad23 y1), (2, xv vad23 y2), (3, .int y3)] := by first | exact hl | ((try (rw [← ev26])); (try (rw [← ev27])); exact hl)
            refine W.eq (g2 := F0 m 268 ls []) (by first | rfl | ((try (rw [ev26])); (try (rw [ev27])); rfl)) ?_
            refine lv_iload hx hb dM_sort1_268 (lv_at hl 1 rfl) ?_
            refine lv_istore (lv' := [(6, .int y8), (9, .int y9), (8, .int y8), (7, .int y7), (5, .int y5), (4, .int y4), (0, .ref aM), (1, xv vad23 y1), (2, xv vad23 y2), (3, .int y3)]) hx hb dM_sort1_270 hl (by decide) rfl (fun ls hl => ?_)
            refine lv_goto (tgt := 121) hx hb dM_sort1_272 (by decide) ?_
            exact ih (2, y8, y5, y4, y1, y2, y3, y9, y8, y7, o15.2.2, ((wc + o1.2.1) + o15.1), ((wn + o1.2.2.1) + o15.2.1)) _ _ ls (Or.inr (Or.inl ⟨ad21, gd22, vad23, rfl, hf, hP, hD, hS, lv_sub hl [0, 4, 5, 6, 7, 8, 9] rfl, hE, hN⟩))
          rw [if_neg hk3] at hf
          by_cases hk28 : o1.1 = 1
          · rw [if_pos hk28] at hf
            obtain ⟨hg29, hf⟩ := xifn hf
            obtain ⟨hg30, hf⟩ := xifn hf
            obtain ⟨hm31, hf⟩ := xmoE hf
            have hFc := xm_free hD hS hA
            refine xx_thr (vx_runV (C := "ValueBenchModel") (As := [.int 5, .int y9]) (rest := [.null, .ref aM]) ⟨hx, hb, hml, hown, htx⟩ (gM_whole_1 l hl9 D cT aK aV H.size n aM adL rd gdL vadL (xsI ws9 9 ((xsi ws9 9) + (y8 - y6))) (5 : Int32) y9 o1 hq2 hk28) ⟨callB_of 2 htx (xw_goodC kw_6_106) rfl rfl rfl (htx _ kw_1_5) (htx _ kw_6_103) ⟨by decide, by decide, by decide +kernel⟩ ⟨Nat.le_of_ble_eq_true rfl, Nat.le_of_ble_eq_true rfl⟩, (htx _ kw_6_105), (htx _ kp_M_whole)⟩ ⟨xPre_blind, va_recv hK hP (ci := 5) rfl (q0 := 0) rfl, (fun U hU hW => ⟨rfl, xPre_of hZ hS hFc hP hD hK U hU hW⟩)⟩ rfl rfl hl.1 rfl (xm_room (Nat.le_of_ble_eq_true rfl)) dM_sort1_262 ⟨hm31.1, hm31.2⟩) hS hFc (fun q _ h => hFc q h) (fun E ce q9 u9 t H1 locs ht hvm hr9 hB hz1 hk1 hS hce hcv hcl => ?_)
            obtain ⟨rfl, hP1, hK1, hD1⟩ := hB
            rw [ht] at hP1
            obtain ⟨ad33, gd34, vad35⟩ := u9
            obtain ⟨hv36, hn37⟩ := hr9
            have hP : va_P D xcl (xMw cT aM ad33 rd gd34 vad35 o1.2.2.2.2 []) H1 := hP1
            have hD : va_D A (xMw cT aM ad33 rd gd34 vad35 o1.2.2.2.2 []) := hD1.weaken (fun k q _ h => hFc q.1 h)
            generalize H1 = H at hP hS hce ⊢
            have hE9 : ∀ p, p < xct st → vad35 p = vad p := fun p h => (hv36 p (Nat.lt_of_lt_of_le h hN)).trans (hE p h)
            have hE := hE9
            have hN : xct st ≤ xct o1.2.2.2.2 := Nat.le_trans hN hn37
            have ev38 : xv vadL y1 = xv vad35 y1 := xvE hv36 hg29
            have ev39 : xv vadL y2 = xv vad35 y2 := xvE hv36 hg30
            have hl : lv_has ls 10 [(9, .int y9), (8, .int y8), (7, .int y7), (6, .int y6), (5, .int y5), (4, .int y4), (0, .ref aM), (1, xv vad35 y1), (2, xv vad35 y2), (3, .int y3)] := by first | exact hl | ((try (rw [← ev38])); (try (rw [← ev39])); exact hl)
            obtain rfl := Option.some.inj hf
            exact vx_out (E := "java/lang/IndexOutOfBoundsException") (fun x h => (hne x h).elim) hlocks hce hcv hcl (fun t ht ha => ⟨(ad33, gd34, vad35), ⟨hE, hN⟩, ⟨rfl, by rw [ht]; exact hP, va_K.moved ha hK, hD⟩, hS.F ht⟩) hS.2.2 (Nat.le_refl _) (Nat.le_refl _)
          rw [if_neg hk28] at hf
          exact nomatch hf
      · rw [if_neg hc] at hf
        refine lv_aload_n hx hb dM_sort1_176 rfl (lv_at hl 6 rfl) ?_
        refine lv_aload_n hx hb dM_sort1_177 rfl (lv_at hl 6 rfl) ?_
        refine xm_aload_n hx hb (xvor _ _) dM_sort1_178 rfl (lv_at hl 8 rfl) ?_
        refine lv_aload_n hx hb dM_sort1_179 rfl (lv_at hl 6 rfl) ?_
        refine xm_get (v := .ref (adL 13)) hx hb htx hown hK hP 13 (by decide) rfl (htx _ kw_5_100) rfl dM_sort1_180 ?_
        refine lv_iload hx hb dM_sort1_183 (lv_at hl 1 rfl) ?_
        obtain ⟨hg1, hf⟩ := xifn hf
        refine va_iald hx hb hK hP 7 1 rfl rfl hg1 dM_sort1_185 ?_
        refine W.eq (g2 := F0 m 186 ls [.int ((xba ws9 13) y8.toNatClampNeg), xv vadL y2, .ref aM, .ref aM]) rfl ?_
        obtain ⟨o2, hq3, hf⟩ := xbind hf
        have hFc := xm_free hD hS hA
        refine va_callq (va_runV (C := "ValueBenchModel") (As := [xv vadL y2, .int ((xba ws9 13) y8.toNatClampNeg)]) (rest := [.ref aM]) ⟨hx, hb, hml, hown, htx⟩ (gM_kid l hl9 D cT aK aV H.size n aM adL rd gdL vadL ws9 y2 ((xba ws9 13) y8.toNatClampNeg) o2 hq3) ⟨callB_of 2 htx (xw_goodC kw_6_158) rfl rfl rfl (htx _ kw_1_5) (htx _ kw_6_155) ⟨by decide, by decide, by decide +kernel⟩ ⟨Nat.le_of_ble_eq_true rfl, Nat.le_of_ble_eq_true rfl⟩, (htx _ kw_6_157), (htx _ kp_M_kid)⟩ ⟨xPre_blind, va_recv hK hP (ci := 5) rfl (q0 := 0) rfl, (fun U hU hW => ⟨rfl, xPre_of hZ hS hFc hP hD hK U hU hW⟩)⟩ rfl rfl hl.1 rfl (xm_room (Nat.le_of_ble_eq_true rfl)) dM_sort1_186 ⟨hm0.1, hm0.2⟩) hS (fun q _ h => hFc q h) hFc (fun r4 u9 t H1 locs ht hvm hr9 hB hz1 hk1 hS => ?_)
        obtain ⟨hP1, hK1, hD1⟩ := hB
        rw [ht] at hP1
        have hP : va_P D xcl (xMw cT aM adL rd gdL vadL ws9 []) H1 := hP1
        have hD : va_D A (xMw cT aM adL rd gdL vadL ws9 []) := hD1.weaken (fun k q _ h => hFc q.1 h)
        generalize H1 = H at hP hS ⊢
        rw [hr9]
        refine W.eq (g2 := F0 m 189 ls [xv vadL o2, .ref aM]) (by first | rfl | (skip; rfl)) ?_
        refine lv_aload_n hx hb dM_sort1_189 rfl (lv_at hl 6 rfl) ?_
        refine xm_aload_n hx hb (xvor _ _) dM_sort1_190 rfl (lv_at hl 8 rfl) ?_
        refine lv_iload hx hb dM_sort1_191 (lv_at hl 2 rfl) ?_
        obtain ⟨o5, hq6, hf⟩ := xbind hf
        have hFc := xm_free hD hS hA
        refine va_callq (va_runV (C := "ValueBenchModel") (As := [xv vadL y2, .int y7]) (rest := [xv vadL o2, .ref aM]) ⟨hx, hb, hml, hown, htx⟩ (gM_kid l hl9 D cT aK aV H.size n aM adL rd gdL vadL ws9 y2 y7 o5 hq6) ⟨callB_of 2 htx (xw_goodC kw_6_158) rfl rfl rfl (htx _ kw_1_5) (htx _ kw_6_155) ⟨by decide, by decide, by decide +kernel⟩ ⟨Nat.le_of_ble_eq_true rfl, Nat.le_of_ble_eq_true rfl⟩, (htx _ kw_6_157), (htx _ kp_M_kid)⟩ ⟨xPre_blind, va_recv hK hP (ci := 5) rfl (q0 := 0) rfl, (fun U hU hW => ⟨rfl, xPre_of hZ hS hFc hP hD hK U hU hW⟩)⟩ rfl rfl hl.1 rfl (xm_room (by simp [xvcat, xrscat, xcI, xcL, xcR, xcN])) dM_sort1_193 ⟨hm0.1, hm0.2⟩) hS (fun q _ h => hFc q h) hFc (fun r7 u9 t H1 locs ht hvm hr9 hB hz1 hk1 hS => ?_)
        obtain ⟨hP1, hK1, hD1⟩ := hB
        rw [ht] at hP1
        have hP : va_P D xcl (xMw cT aM adL rd gdL vadL ws9 []) H1 := hP1
        have hD : va_D A (xMw cT aM adL rd gdL vadL ws9 []) := hD1.weaken (fun k q _ h => hFc q.1 h)
        generalize H1 = H at hP hS ⊢
        rw [hr9]
        refine W.eq (g2 := F0 m 196 ls [xv vadL o5, xv vadL o2, .ref aM]) (by first | rfl | (skip; rfl)) ?_
        obtain ⟨o8, hq9, hf⟩ := xbind hf
        have hFc := xm_free hD hS hA
        refine va_calli (va_runV (C := "ValueBenchModel") (As := [xv vadL o2, xv vadL o5]) (rest := []) ⟨hx, hb, hml, hown, htx⟩ (gM_order l hl9 D cT aK aV d H.size n aM adL rd gdL vadL ws9 o2 o5 o8 hq9) ⟨callB_of 2 htx (xw_goodC kw_7_25) rfl rfl rfl (htx _ kw_1_5) (htx _ kw_7_22) ⟨by decide, by decide, by decide +kernel⟩ ⟨(by show (16 * d) + 1 ≤ 16 * d + 8; omega), (by show 8 + (5 + 11) + (400 * d) ≤ 400 * d + 147; omega)⟩, (htx _ kw_7_24), (htx _ kp_M_order)⟩ ⟨xPre_blind, va_recv hK hP (ci := 5) rfl (q0 := 0) rfl, (fun U hU hW => ⟨rfl, xPre_of hZ hS hFc hP hD hK U hU hW⟩)⟩ rfl rfl hl.1 rfl (xm_room (Nat.le_of_ble_eq_true rfl)) dM_sort1_196 ⟨hm0.1, hm0.2⟩) hS (fun q _ h => hFc q h) hFc (fun r10 u9 t H1 locs ht hvm hr9 hB hz1 hk1 hS => ?_)
        obtain ⟨hP1, hK1, hD1⟩ := hB
        rw [ht] at hP1
        have hP : va_P D xcl (xMw cT aM adL rd gdL vadL ws9 []) H1 := hP1
        have hD : va_D A (xMw cT aM adL rd gdL vadL ws9 []) := hD1.weaken (fun k q _ h => hFc q.1 h)
        generalize H1 = H at hP hS ⊢
        rw [hr9]
        refine W.eq (g2 := F0 m 199 ls [.int o8]) (by first | rfl | (skip; rfl)) ?_
        refine lv_if_ne (tgt := 237) hx hb dM_sort1_199 (by decide) (fun hc => ?_) (fun hc => ?_)
        · rw [if_neg hc] at hf
          refine lv_iload_n hx hb dM_sort1_237 rfl (lv_at hl 9 rfl) ?_
          refine lv_iconst (v := 1) hx hb dM_sort1_238 (by decide) ?_
          refine lv_icmp_ne (tgt := 268) hx hb dM_sort1_239 (by decide) (fun hc => ?_) (fun hc => ?_)
          · rw [if_neg hc] at hf
            refine lv_iload hx hb dM_sort1_268 (lv_at hl 1 rfl) ?_
            refine lv_istore (lv' := [(6, .int y8), (9, .int y9), (8, .int y8), (7, .int y7), (5, .int y5), (4, .int y4), (0, .ref aM), (1, xv vadL y1), (2, xv vadL y2), (3, .int y3)]) hx hb dM_sort1_270 hl (by decide) rfl (fun ls hl => ?_)
            refine lv_goto (tgt := 121) hx hb dM_sort1_272 (by decide) ?_
            exact ih (2, y8, y5, y4, y1, y2, y3, y9, y8, y7, ws9, wc, wn) _ _ ls (Or.inr (Or.inl ⟨adL, gdL, vadL, rfl, hf, hP, hD, hS, lv_sub hl [0, 4, 5, 6, 7, 8, 9] rfl, hE, hN⟩))
          · rw [if_pos hc] at hf
            refine lv_aload_n hx hb dM_sort1_242 rfl (lv_at hl 6 rfl) ?_
            refine lv_dup hx hb dM_sort1_243 rfl ?_
            refine xm_get (v := .int (xsi ws9 9)) hx hb htx hown hK hP 9 (by decide) rfl (htx _ kw_5_96) rfl dM_sort1_244 ?_
            refine lv_iload hx hb dM_sort1_247 (lv_at hl 1 rfl) ?_
            refine lv_iload hx hb dM_sort1_249 (lv_at hl 3 rfl) ?_
            refine lv_isub hx hb dM_sort1_251 ?_
            refine lv_iadd hx hb dM_sort1_252 ?_
            refine xm_put (v := .int ((xsi ws9 9) + (y8 - y6))) (W' := (xMw cT aM adL rd gdL vadL (xsI ws9 9 ((xsi ws9 9) + (y8 - y6))) [])) (ty := .int) hx hb htx hown hK hP hD hS 9 (by decide) rfl (htx _ kw_5_96) rfl rfl (by decide +kernel) rfl rfl dM_sort1_253 (fun H locs hP hD hS => ?_)
            refine lv_aload_n hx hb dM_sort1_256 rfl (lv_at hl 6 rfl) ?_
            refine lv_null hx hb dM_sort1_257 ?_
            refine lv_aload_n hx hb dM_sort1_258 rfl (lv_at hl 6 rfl) ?_
            refine lv_iconst (v := 5) hx hb dM_sort1_259 (by decide) ?_
            refine lv_iload hx hb dM_sort1_260 (lv_at hl 0 rfl) ?_
            obtain ⟨o11, hq12, hf⟩ := xbind hf
            by_cases hk13 : o11.1 = 0
            · rw [if_pos hk13] at hf
              obtain ⟨hg14, hf⟩ := xifn hf
              obtain ⟨hg15, hf⟩ := xifn hf
              obtain ⟨hm16, hf⟩ := xmoE hf
              have hFc := xm_free hD hS hA
              refine va_callq (va_runV (C := "ValueBenchModel") (As := [.int 5, .int y9]) (rest := [.null, .ref aM]) ⟨hx, hb, hml, hown, htx⟩ (gM_whole l hl9 D cT aK aV H.size n aM adL rd gdL vadL (xsI ws9 9 ((xsi ws9 9) + (y8 - y6))) (5 : Int32) y9 o11 hq12 hk13) ⟨callB_of 2 htx (xw_goodC kw_6_106) rfl rfl rfl (htx _ kw_1_5) (htx _ kw_6_103) ⟨by decide, by decide, by decide +kernel⟩ ⟨Nat.le_of_ble_eq_true rfl, Nat.le_of_ble_eq_true rfl⟩, (htx _ kw_6_105), (htx _ kp_M_whole)⟩ ⟨xPre_blind, va_recv hK hP (ci := 5) rfl (q0 := 0) rfl, (fun U hU hW => ⟨rfl, xPre_of hZ hS hFc hP hD hK U hU hW⟩)⟩ rfl rfl hl.1 rfl (xm_room (Nat.le_of_ble_eq_true rfl)) dM_sort1_262 ⟨hm16.1, hm16.2⟩) hS (fun q _ h => hFc q h) hFc (fun r17 u9 t H1 locs ht hvm hr9 hB hz1 hk1 hS => ?_)
              obtain ⟨hP1, hK1, hD1⟩ := hB
              rw [ht] at hP1
              obtain ⟨ad18, gd19, vad20⟩ := u9
              obtain ⟨hr9, hv21, hn22⟩ := hr9
              have hP : va_P D xcl (xMw cT aM ad18 rd gd19 vad20 o11.2.2.2.2 []) H1 := hP1
              have hD : va_D A (xMw cT aM ad18 rd gd19 vad20 o11.2.2.2.2 []) := hD1.weaken (fun k q _ h => hFc q.1 h)
              generalize H1 = H at hP hS ⊢
              have hE9 : ∀ p, p < xct st → vad20 p = vad p := fun p h => (hv21 p (Nat.lt_of_lt_of_le h hN)).trans (hE p h)
              have hE := hE9
              have hN : xct st ≤ xct o11.2.2.2.2 := Nat.le_trans hN hn22
              have ev23 : xv vadL y1 = xv vad20 y1 := xvE hv21 hg14
              have ev24 : xv vadL y2 = xv vad20 y2 := xvE hv21 hg15
              have hl : lv_has ls 10 [(9, .int y9), (8, .int y8), (7, .int y7), (6, .int y6), (5, .int y5), (4, .int y4), (0, .ref aM), (1, xv vad20 y1), (2, xv vad20 y2), (3, .int y3)] := by first | exact hl | ((try (rw [← ev23])); (try (rw [← ev24])); exact hl)
              rw [hr9]
              refine W.eq (g2 := F0 m 265 ls [xv vad20 o11.2.2.2.1, .null, .ref aM]) (by first | rfl | ((try (rw [ev23])); (try (rw [ev24])); rfl)) ?_
              obtain ⟨o25, hq26, hf⟩ := xbind hf
              obtain ⟨hg27, hf⟩ := xifn hf
              obtain ⟨hg28, hf⟩ := xifn hf
              obtain ⟨hm29, hf⟩ := xmoE hf
              have hFc := xm_free hD hS hA
              refine va_callv (va_runV (C := "ValueBenchModel") (As := [.null, xv vad20 o11.2.2.2.1]) (rest := []) ⟨hx, hb, hml, hown, htx⟩ (gM_wait l hl9 D cT aK aV H.size n aM ad18 rd gd19 vad20 o11.2.2.2.2 0 o11.2.2.2.1 o25 hq26) ⟨callB_of 2 htx (xw_goodC kw_6_112) rfl rfl rfl (htx _ kw_1_5) (htx _ kw_6_109) ⟨by decide, by decide, by decide +kernel⟩ ⟨Nat.le_of_ble_eq_true rfl, Nat.le_of_ble_eq_true rfl⟩, (htx _ kw_6_111), (htx _ kp_M_wait)⟩ ⟨xPre_blind, va_recv hK hP (ci := 5) rfl (q0 := 0) rfl, (fun U hU hW => ⟨rfl, xPre_of hZ hS hFc hP hD hK U hU hW⟩)⟩ rfl rfl hl.1 rfl (xm_room (Nat.le_of_ble_eq_true rfl)) dM_sort1_265 ⟨hm29.1, hm29.2⟩) hS (fun q _ h => hFc q h) hFc (fun u9 t H1 locs ht hvm hr9 hB hz1 hk1 hS => ?_)
              obtain ⟨hP1, hK1, hD1⟩ := hB
              rw [ht] at hP1
              obtain ⟨ad31, gd32, vad33⟩ := u9
              obtain ⟨hv34, hn35⟩ := hr9
              have hP : va_P D xcl (xMw cT aM ad31 rd gd32 vad33 o25.2.2 []) H1 := hP1
              have hD : va_D A (xMw cT aM ad31 rd gd32 vad33 o25.2.2 []) := hD1.weaken (fun k q _ h => hFc q.1 h)
              generalize H1 = H at hP hS ⊢
              have hE9 : ∀ p, p < xct st → vad33 p = vad p := fun p h => (hv34 p (Nat.lt_of_lt_of_le h hN)).trans (hE p h)
              have hE := hE9
              have hN : xct st ≤ xct o25.2.2 := Nat.le_trans hN hn35
              have ev36 : xv vad20 y1 = xv vad33 y1 := xvE hv34 hg27
              have ev37 : xv vad20 y2 = xv vad33 y2 := xvE hv34 hg28
              have hl : lv_has ls 10 [(9, .int y9), (8, .int y8), (7, .int y7), (6, .int y6), (5, .int y5), (4, .int y4), (0, .ref aM), (1, xv vad33 y1), (2, xv vad33 y2), (3, .int y3)] := by first | exact hl | ((try (rw [← ev36])); (try (rw [← ev37])); exact hl)
              refine W.eq (g2 := F0 m 268 ls []) (by first | rfl | ((try (rw [ev36])); (try (rw [ev37])); rfl)) ?_
              refine lv_iload hx hb dM_sort1_268 (lv_at hl 1 rfl) ?_
              refine lv_istore (lv' := [(6, .int y8), (9, .int y9), (8, .int y8), (7, .int y7), (5, .int y5), (4, .int y4), (0, .ref aM), (1, xv vad33 y1), (2, xv vad33 y2), (3, .int y3)]) hx hb dM_sort1_270 hl (by decide) rfl (fun ls hl => ?_)
              refine lv_goto (tgt := 121) hx hb dM_sort1_272 (by decide) ?_
              exact ih (2, y8, y5, y4, y1, y2, y3, y9, y8, y7, o25.2.2, ((wc + o11.2.1) + o25.1), ((wn + o11.2.2.1) + o25.2.1)) _ _ ls (Or.inr (Or.inl ⟨ad31, gd32, vad33, rfl, hf, hP, hD, hS, lv_sub hl [0, 4, 5, 6, 7, 8, 9] rfl, hE, hN⟩))
            rw [if_neg hk13] at hf
            by_cases hk38 : o11.1 = 1
            · rw [if_pos hk38] at hf
              obtain ⟨hg39, hf⟩ := xifn hf
              obtain ⟨hg40, hf⟩ := xifn hf
              obtain ⟨hm41, hf⟩ := xmoE hf
              have hFc := xm_free hD hS hA
              refine xx_thr (vx_runV (C := "ValueBenchModel") (As := [.int 5, .int y9]) (rest := [.null, .ref aM]) ⟨hx, hb, hml, hown, htx⟩ (gM_whole_1 l hl9 D cT aK aV H.size n aM adL rd gdL vadL (xsI ws9 9 ((xsi ws9 9) + (y8 - y6))) (5 : Int32) y9 o11 hq12 hk38) ⟨callB_of 2 htx (xw_goodC kw_6_106) rfl rfl rfl (htx _ kw_1_5) (htx _ kw_6_103) ⟨by decide, by decide, by decide +kernel⟩ ⟨Nat.le_of_ble_eq_true rfl, Nat.le_of_ble_eq_true rfl⟩, (htx _ kw_6_105), (htx _ kp_M_whole)⟩ ⟨xPre_blind, va_recv hK hP (ci := 5) rfl (q0 := 0) rfl, (fun U hU hW => ⟨rfl, xPre_of hZ hS hFc hP hD hK U hU hW⟩)⟩ rfl rfl hl.1 rfl (xm_room (Nat.le_of_ble_eq_true rfl)) dM_sort1_262 ⟨hm41.1, hm41.2⟩) hS hFc (fun q _ h => hFc q h) (fun E ce q9 u9 t H1 locs ht hvm hr9 hB hz1 hk1 hS hce hcv hcl => ?_)
              obtain ⟨rfl, hP1, hK1, hD1⟩ := hB
              rw [ht] at hP1
              obtain ⟨ad43, gd44, vad45⟩ := u9
              obtain ⟨hv46, hn47⟩ := hr9
              have hP : va_P D xcl (xMw cT aM ad43 rd gd44 vad45 o11.2.2.2.2 []) H1 := hP1
              have hD : va_D A (xMw cT aM ad43 rd gd44 vad45 o11.2.2.2.2 []) := hD1.weaken (fun k q _ h => hFc q.1 h)
              generalize H1 = H at hP hS hce ⊢
              have hE9 : ∀ p, p < xct st → vad45 p = vad p := fun p h => (hv46 p (Nat.lt_of_lt_of_le h hN)).trans (hE p h)
              have hE := hE9
              have hN : xct st ≤ xct o11.2.2.2.2 := Nat.le_trans hN hn47
              have ev48 : xv vadL y1 = xv vad45 y1 := xvE hv46 hg39
              have ev49 : xv vadL y2 = xv vad45 y2 := xvE hv46 hg40
              have hl : lv_has ls 10 [(9, .int y9), (8, .int y8), (7, .int y7), (6, .int y6), (5, .int y5), (4, .int y4), (0, .ref aM), (1, xv vad45 y1), (2, xv vad45 y2), (3, .int y3)] := by first | exact hl | ((try (rw [← ev48])); (try (rw [← ev49])); exact hl)
              obtain rfl := Option.some.inj hf
              exact vx_out (E := "java/lang/IndexOutOfBoundsException") (fun x h => (hne x h).elim) hlocks hce hcv hcl (fun t ht ha => ⟨(ad43, gd44, vad45), ⟨hE, hN⟩, ⟨rfl, by rw [ht]; exact hP, va_K.moved ha hK, hD⟩, hS.F ht⟩) hS.2.2 (Nat.le_refl _) (Nat.le_refl _)
            rw [if_neg hk38] at hf
            exact nomatch hf
        · rw [if_pos hc] at hf
          refine lv_iload_n hx hb dM_sort1_202 rfl (lv_at hl 9 rfl) ?_
          refine lv_iconst (v := 1) hx hb dM_sort1_203 (by decide) ?_
          refine lv_icmp_eq (tgt := 214) hx hb dM_sort1_204 (by decide) (fun hc => ?_) (fun hc => ?_)
          · rw [if_pos hc] at hf
            refine lv_aload_n hx hb dM_sort1_214 rfl (lv_at hl 6 rfl) ?_
            refine lv_null hx hb dM_sort1_215 ?_
            refine lv_aload_n hx hb dM_sort1_216 rfl (lv_at hl 6 rfl) ?_
            refine xm_aload_n hx hb (xvor _ _) dM_sort1_217 rfl (lv_at hl 7 rfl) ?_
            refine lv_aload_n hx hb dM_sort1_218 rfl (lv_at hl 6 rfl) ?_
            refine xm_get (v := .ref (adL 13)) hx hb htx hown hK hP 13 (by decide) rfl (htx _ kw_5_100) rfl dM_sort1_219 ?_
            refine lv_iload hx hb dM_sort1_222 (lv_at hl 1 rfl) ?_
            obtain ⟨hg11, hf⟩ := xifn hf
            refine va_iald hx hb hK hP 7 1 rfl rfl hg11 dM_sort1_224 ?_
            refine W.eq (g2 := F0 m 225 ls [.int ((xba ws9 13) y8.toNatClampNeg), xv vadL y1, .ref aM, .null, .ref aM]) rfl ?_
            obtain ⟨o12, hq13, hf⟩ := xbind hf
            have hFc := xm_free hD hS hA
            refine va_callq (va_runV (C := "ValueBenchModel") (As := [xv vadL y1, .int ((xba ws9 13) y8.toNatClampNeg)]) (rest := [.null, .ref aM]) ⟨hx, hb, hml, hown, htx⟩ (gM_kid l hl9 D cT aK aV H.size n aM adL rd gdL vadL ws9 y1 ((xba ws9 13) y8.toNatClampNeg) o12 hq13) ⟨callB_of 2 htx (xw_goodC kw_6_158) rfl rfl rfl (htx _ kw_1_5) (htx _ kw_6_155) ⟨by decide, by decide, by decide +kernel⟩ ⟨Nat.le_of_ble_eq_true rfl, Nat.le_of_ble_eq_true rfl⟩, (htx _ kw_6_157), (htx _ kp_M_kid)⟩ ⟨xPre_blind, va_recv hK hP (ci := 5) rfl (q0 := 0) rfl, (fun U hU hW => ⟨rfl, xPre_of hZ hS hFc hP hD hK U hU hW⟩)⟩ rfl rfl hl.1 rfl (xm_room (Nat.le_of_ble_eq_true rfl)) dM_sort1_225 ⟨hm0.1, hm0.2⟩) hS (fun q _ h => hFc q h) hFc (fun r14 u9 t H1 locs ht hvm hr9 hB hz1 hk1 hS => ?_)
            obtain ⟨hP1, hK1, hD1⟩ := hB
            rw [ht] at hP1
            have hP : va_P D xcl (xMw cT aM adL rd gdL vadL ws9 []) H1 := hP1
            have hD : va_D A (xMw cT aM adL rd gdL vadL ws9 []) := hD1.weaken (fun k q _ h => hFc q.1 h)
            generalize H1 = H at hP hS ⊢
            rw [hr9]
            refine W.eq (g2 := F0 m 228 ls [xv vadL o12, .null, .ref aM]) (by first | rfl | (skip; rfl)) ?_
            obtain ⟨o15, hq16, hf⟩ := xbind hf
            obtain ⟨hg17, hf⟩ := xifn hf
            obtain ⟨hg18, hf⟩ := xifn hf
            obtain ⟨hm19, hf⟩ := xmoE hf
            have hFc := xm_free hD hS hA
            refine va_callv (va_runV (C := "ValueBenchModel") (As := [.null, xv vadL o12]) (rest := []) ⟨hx, hb, hml, hown, htx⟩ (gM_wait l hl9 D cT aK aV H.size n aM adL rd gdL vadL ws9 0 o12 o15 hq16) ⟨callB_of 2 htx (xw_goodC kw_6_112) rfl rfl rfl (htx _ kw_1_5) (htx _ kw_6_109) ⟨by decide, by decide, by decide +kernel⟩ ⟨Nat.le_of_ble_eq_true rfl, Nat.le_of_ble_eq_true rfl⟩, (htx _ kw_6_111), (htx _ kp_M_wait)⟩ ⟨xPre_blind, va_recv hK hP (ci := 5) rfl (q0 := 0) rfl, (fun U hU hW => ⟨rfl, xPre_of hZ hS hFc hP hD hK U hU hW⟩)⟩ rfl rfl hl.1 rfl (xm_room (Nat.le_of_ble_eq_true rfl)) dM_sort1_228 ⟨hm19.1, hm19.2⟩) hS (fun q _ h => hFc q h) hFc (fun u9 t H1 locs ht hvm hr9 hB hz1 hk1 hS => ?_)
            obtain ⟨hP1, hK1, hD1⟩ := hB
            rw [ht] at hP1
            obtain ⟨ad21, gd22, vad23⟩ := u9
            obtain ⟨hv24, hn25⟩ := hr9
            have hP : va_P D xcl (xMw cT aM ad21 rd gd22 vad23 o15.2.2 []) H1 := hP1
            have hD : va_D A (xMw cT aM ad21 rd gd22 vad23 o15.2.2 []) := hD1.weaken (fun k q _ h => hFc q.1 h)
            generalize H1 = H at hP hS ⊢
            have hE9 : ∀ p, p < xct st → vad23 p = vad p := fun p h => (hv24 p (Nat.lt_of_lt_of_le h hN)).trans (hE p h)
            have hE := hE9
            have hN : xct st ≤ xct o15.2.2 := Nat.le_trans hN hn25
            have ev26 : xv vadL y1 = xv vad23 y1 := xvE hv24 hg17
            have ev27 : xv vadL y2 = xv vad23 y2 := xvE hv24 hg18
            have hl : lv_has ls 10 [(9, .int y9), (8, .int y8), (7, .int y7), (6, .int y6), (5, .int y5), (4, .int y4), (0, .ref aM), (1, xv vad23 y1), (2, xv vad23 y2), (3, .int y3)] := by first | exact hl | ((try (rw [← ev26])); (try (rw [← ev27])); exact hl)
            refine W.eq (g2 := F0 m 231 ls []) (by first | rfl | ((try (rw [ev26])); (try (rw [ev27])); rfl)) ?_
            refine lv_iinc (v := (y8 + 1)) (lv' := [(8, .int (y8 + 1)), (9, .int y9), (7, .int y7), (6, .int y6), (5, .int y5), (4, .int y4), (0, .ref aM), (1, xv vad23 y1), (2, xv vad23 y2), (3, .int y3)]) hx hb dM_sort1_231 hl (k := 1) rfl rfl (by decide) rfl (fun ls hl => ?_)
            refine lv_goto (tgt := 169) hx hb dM_sort1_234 (by decide) ?_
            exact ih (3, y6, y5, y4, y1, y2, y3, y9, (y8 + 1), y7, o15.2.2, (wc + o15.1), (wn + o15.2.1)) _ _ ls (Or.inr (Or.inr (⟨ad21, gd22, vad23, rfl, hf, hP, hD, hS, lv_sub hl [1, 0, 2, 3, 4, 5, 6, 7, 8, 9] rfl, hE, hN⟩)))
          · rw [if_neg hc] at hf
            refine lv_iload hx hb dM_sort1_207 (lv_at hl 1 rfl) ?_
            refine lv_iload hx hb dM_sort1_209 (lv_at hl 3 rfl) ?_
            refine lv_icmp_ne (tgt := 231) hx hb dM_sort1_211 (by decide) (fun hc => ?_) (fun hc => ?_)
            · rw [if_neg hc] at hf
              refine lv_iinc (v := (y8 + 1)) (lv' := [(8, .int (y8 + 1)), (9, .int y9), (7, .int y7), (6, .int y6), (5, .int y5), (4, .int y4), (0, .ref aM), (1, xv vadL y1), (2, xv vadL y2), (3, .int y3)]) hx hb dM_sort1_231 hl (k := 1) rfl rfl (by decide) rfl (fun ls hl => ?_)
              refine lv_goto (tgt := 169) hx hb dM_sort1_234 (by decide) ?_
              exact ih (3, y6, y5, y4, y1, y2, y3, y9, (y8 + 1), y7, ws9, wc, wn) _ _ ls (Or.inr (Or.inr (⟨adL, gdL, vadL, rfl, hf, hP, hD, hS, lv_sub hl [1, 0, 2, 3, 4, 5, 6, 7, 8, 9] rfl, hE, hN⟩)))
            · rw [if_pos hc] at hf
              refine lv_aload_n hx hb dM_sort1_214 rfl (lv_at hl 6 rfl) ?_
              refine lv_null hx hb dM_sort1_215 ?_
              refine lv_aload_n hx hb dM_sort1_216 rfl (lv_at hl 6 rfl) ?_
              refine xm_aload_n hx hb (xvor _ _) dM_sort1_217 rfl (lv_at hl 7 rfl) ?_
              refine lv_aload_n hx hb dM_sort1_218 rfl (lv_at hl 6 rfl) ?_
              refine xm_get (v := .ref (adL 13)) hx hb htx hown hK hP 13 (by decide) rfl (htx _ kw_5_100) rfl dM_sort1_219 ?_
              refine lv_iload hx hb dM_sort1_222 (lv_at hl 1 rfl) ?_
              obtain ⟨hg11, hf⟩ := xifn hf
              refine va_iald hx hb hK hP 7 1 rfl rfl hg11 dM_sort1_224 ?_
              refine W.eq (g2 := F0 m 225 ls [.int ((xba ws9 13) y8.toNatClampNeg), xv vadL y1, .ref aM, .null, .ref aM]) rfl ?_
              obtain ⟨o12, hq13, hf⟩ := xbind hf
              have hFc := xm_free hD hS hA
              refine va_callq (va_runV (C := "ValueBenchModel") (As := [xv vadL y1, .int ((xba ws9 13) y8.toNatClampNeg)]) (rest := [.null, .ref aM]) ⟨hx, hb, hml, hown, htx⟩ (gM_kid l hl9 D cT aK aV H.size n aM adL rd gdL vadL ws9 y1 ((xba ws9 13) y8.toNatClampNeg) o12 hq13) ⟨callB_of 2 htx (xw_goodC kw_6_158) rfl rfl rfl (htx _ kw_1_5) (htx _ kw_6_155) ⟨by decide, by decide, by decide +kernel⟩ ⟨Nat.le_of_ble_eq_true rfl, Nat.le_of_ble_eq_true rfl⟩, (htx _ kw_6_157), (htx _ kp_M_kid)⟩ ⟨xPre_blind, va_recv hK hP (ci := 5) rfl (q0 := 0) rfl, (fun U hU hW => ⟨rfl, xPre_of hZ hS hFc hP hD hK U hU hW⟩)⟩ rfl rfl hl.1 rfl (xm_room (Nat.le_of_ble_eq_true rfl)) dM_sort1_225 ⟨hm0.1, hm0.2⟩) hS (fun q _ h => hFc q h) hFc (fun r14 u9 t H1 locs ht hvm hr9 hB hz1 hk1 hS => ?_)
              obtain ⟨hP1, hK1, hD1⟩ := hB
              rw [ht] at hP1
              have hP : va_P D xcl (xMw cT aM adL rd gdL vadL ws9 []) H1 := hP1
              have hD : va_D A (xMw cT aM adL rd gdL vadL ws9 []) := hD1.weaken (fun k q _ h => hFc q.1 h)
              generalize H1 = H at hP hS ⊢
              rw [hr9]
              refine W.eq (g2 := F0 m 228 ls [xv vadL o12, .null, .ref aM]) (by first | rfl | (skip; rfl)) ?_
              obtain ⟨o15, hq16, hf⟩ := xbind hf
              obtain ⟨hg17, hf⟩ := xifn hf
              obtain ⟨hg18, hf⟩ := xifn hf
              obtain ⟨hm19, hf⟩ := xmoE hf
              have hFc := xm_free hD hS hA
              refine va_callv (va_runV (C := "ValueBenchModel") (As := [.null, xv vadL o12]) (rest := []) ⟨hx, hb, hml, hown, htx⟩ (gM_wait l hl9 D cT aK aV H.size n aM adL rd gdL vadL ws9 0 o12 o15 hq16) ⟨callB_of 2 htx (xw_goodC kw_6_112) rfl rfl rfl (htx _ kw_1_5) (htx _ kw_6_109) ⟨by decide, by decide, by decide +kernel⟩ ⟨Nat.le_of_ble_eq_true rfl, Nat.le_of_ble_eq_true rfl⟩, (htx _ kw_6_111), (htx _ kp_M_wait)⟩ ⟨xPre_blind, va_recv hK hP (ci := 5) rfl (q0 := 0) rfl, (fun U hU hW => ⟨rfl, xPre_of hZ hS hFc hP hD hK U hU hW⟩)⟩ rfl rfl hl.1 rfl (xm_room (Nat.le_of_ble_eq_true rfl)) dM_sort1_228 ⟨hm19.1, hm19.2⟩) hS (fun q _ h => hFc q h) hFc (fun u9 t H1 locs ht hvm hr9 hB hz1 hk1 hS => ?_)
              obtain ⟨hP1, hK1, hD1⟩ := hB
              rw [ht] at hP1
              obtain ⟨ad21, gd22, vad23⟩ := u9
              obtain ⟨hv24, hn25⟩ := hr9
              have hP : va_P D xcl (xMw cT aM ad21 rd gd22 vad23 o15.2.2 []) H1 := hP1
              have hD : va_D A (xMw cT aM ad21 rd gd22 vad23 o15.2.2 []) := hD1.weaken (fun k q _ h => hFc q.1 h)
              generalize H1 = H at hP hS ⊢
              have hE9 : ∀ p, p < xct st → vad23 p = vad p := fun p h => (hv24 p (Nat.lt_of_lt_of_le h hN)).trans (hE p h)
              have hE := hE9
              have hN : xct st ≤ xct o15.2.2 := Nat.le_trans hN hn25
              have ev26 : xv vadL y1 = xv vad23 y1 := xvE hv24 hg17
              have ev27 : xv vadL y2 = xv vad23 y2 := xvE hv24 hg18
              have hl : lv_has ls 10 [(9, .int y9), (8, .int y8), (7, .int y7), (6, .int y6), (5, .int y5), (4, .int y4), (0, .ref aM), (1, xv vad23 y1), (2, xv vad23 y2), (3, .int y3)] := by first | exact hl | ((try (rw [← ev26])); (try (rw [← ev27])); exact hl)
              refine W.eq (g2 := F0 m 231 ls []) (by first | rfl | ((try (rw [ev26])); (try (rw [ev27])); rfl)) ?_
              refine lv_iinc (v := (y8 + 1)) (lv' := [(8, .int (y8 + 1)), (9, .int y9), (7, .int y7), (6, .int y6), (5, .int y5), (4, .int y4), (0, .ref aM), (1, xv vad23 y1), (2, xv vad23 y2), (3, .int y3)]) hx hb dM_sort1_231 hl (k := 1) rfl rfl (by decide) rfl (fun ls hl => ?_)
              refine lv_goto (tgt := 169) hx hb dM_sort1_234 (by decide) ?_
              exact ih (3, y6, y5, y4, y1, y2, y3, y9, (y8 + 1), y7, o15.2.2, (wc + o15.1), (wn + o15.2.1)) _ _ ls (Or.inr (Or.inr (⟨ad21, gd22, vad23, rfl, hf, hP, hD, hS, lv_sub hl [1, 0, 2, 3, 4, 5, 6, 7, 8, 9] rfl, hE, hN⟩)))
  refine xm_aload_n hx hb (xvor _ _) dM_sort1_0 rfl (lv_at hl 1 rfl) ?_
  obtain ⟨hg1, hf⟩ := xifn hf
  refine xm_vget (v := .int ((xpi st 3) (c0 - 1))) hx hb htx hown hK hP 3 (by decide) hg1 rfl ((hZ.1 (103, "count", "I") (List.mem_of_getElem? (i := 3) rfl)).use rfl) rfl dM_sort1_1 ?_
  refine lv_istore (lv' := [(4, .int ((xpi st 3) (c0 - 1))), (0, .ref aM), (1, xv vad c0), (2, xv vad c1), (3, .int x2)]) hx hb dM_sort1_4 hl (by decide) rfl (fun ls hl => ?_)
  refine lv_iload_n hx hb dM_sort1_6 rfl (lv_at hl 4 rfl) ?_
  refine lv_iconst (v := 2) hx hb dM_sort1_7 (by decide) ?_
  refine lv_icmp_le (tgt := 107) hx hb dM_sort1_8 (by decide) (fun hc => ?_) (fun hc => ?_)
  · rw [if_pos hc] at hf
    refine lv_aload_n hx hb dM_sort1_107 rfl (lv_at hl 1 rfl) ?_
    refine xm_aload_n hx hb (xvor _ _) dM_sort1_108 rfl (lv_at hl 3 rfl) ?_
    obtain ⟨o2, hq3, hf⟩ := xbind hf
    obtain ⟨hg4, hf⟩ := xifn hf
    obtain ⟨hm5, hf⟩ := xmoE hf
    have hFc := xm_free hD hS hA
    refine va_callv (va_runV (C := "ValueBenchModel") (As := [xv vad c1]) (rest := []) ⟨hx, hb, hml, hown, htx⟩ (gM_ranked l hl9 D cT aK aV s.heap.size d n aM ad rd gd vad st c1 o2 hq3) ⟨callB_of 1 htx (xw_goodC kw_7_37) rfl rfl rfl (htx _ kw_1_5) (htx _ kw_7_34) ⟨by decide, by decide, by decide +kernel⟩ ⟨(by show (16 * d + 1) + 1 ≤ 16 * d + 8; omega), (by show 8 + (11 + 11) + (400 * d + 40) ≤ 400 * d + 147; omega)⟩, (htx _ kw_7_36), (htx _ kp_M_ranked)⟩ ⟨xPre_blind, va_recv hK hP (ci := 5) rfl (q0 := 0) rfl, (fun U hU hW => ⟨rfl, xPre_of hZ hS hFc hP hD hK U hU hW⟩)⟩ rfl rfl hl.1 rfl (xm_room (Nat.le_of_ble_eq_true rfl)) dM_sort1_109 ⟨hm5.1, hm5.2⟩) hS (fun q _ h => hFc q h) hFc (fun u9 t H1 locs ht hvm hr9 hB hz1 hk1 hS => ?_)
    obtain ⟨hP1, hK1, hD1⟩ := hB
    rw [ht] at hP1
    obtain ⟨ad7, gd8, vad9⟩ := u9
    obtain ⟨hv10, hn11⟩ := hr9
    have hP : va_P D xcl (xMw cT aM ad7 rd gd8 vad9 o2.2.2 []) H1 := hP1
    have hD : va_D A (xMw cT aM ad7 rd gd8 vad9 o2.2.2 []) := hD1.weaken (fun k q _ h => hFc q.1 h)
    generalize H1 = H at hP hS ⊢
    have hE9 : ∀ p, p < xct st → vad9 p = vad p := fun p h => (hv10 p (Nat.lt_of_lt_of_le h hN)).trans (hE p h)
    have hE := hE9
    have hN : xct st ≤ xct o2.2.2 := Nat.le_trans hN hn11
    have ev12 : xv vad c0 = xv vad9 c0 := xvE hv10 (fun h => hg1 (Or.inr h))
    have ev13 : xv vad c1 = xv vad9 c1 := xvE hv10 hg4
    have hl : lv_has ls 10 [(4, .int ((xpi st 3) (c0 - 1))), (0, .ref aM), (1, xv vad9 c0), (2, xv vad9 c1), (3, .int x2)] := by first | exact hl | ((try (rw [← ev12])); (try (rw [← ev13])); exact hl)
    refine W.eq (g2 := F0 m 112 ls []) (by first | rfl | ((try (rw [ev12])); (try (rw [ev13])); rfl)) ?_
    refine lv_aload_n hx hb dM_sort1_112 rfl (lv_at hl 1 rfl) ?_
    refine xm_get (v := .int (xsi o2.2.2 12)) hx hb htx hown hK hP 12 (by decide) rfl (htx _ kw_5_99) rfl dM_sort1_113 ?_
    refine lv_istore (lv' := [(5, .int (xsi o2.2.2 12)), (4, .int ((xpi st 3) (c0 - 1))), (0, .ref aM), (1, xv vad9 c0), (2, xv vad9 c1), (3, .int x2)]) hx hb dM_sort1_116 hl (by decide) rfl (fun ls hl => ?_)
    refine lv_iconst (v := 0) hx hb dM_sort1_118 (by decide) ?_
    refine lv_istore (lv' := [(6, .int 0), (5, .int (xsi o2.2.2 12)), (4, .int ((xpi st 3) (c0 - 1))), (0, .ref aM), (1, xv vad9 c0), (2, xv vad9 c1), (3, .int x2)]) hx hb dM_sort1_119 hl (by decide) rfl (fun ls hl => ?_)
    exact key n (2, (0 : Int32), (xsi o2.2.2 12), ((xpi st 3) (c0 - 1)), c0, c1, x2, 0, 0, 0, o2.2.2, (0 + o2.1), (0 + o2.2.1)) _ _ ls (Or.inr (Or.inl ⟨ad7, gd8, vad9, rfl, hf, hP, hD, hS, lv_sub hl [0, 1, 2, 3, 4, 5, 6] rfl, hE, hN⟩))
  · rw [if_neg hc] at hf
    refine lv_iconst (v := (-1)) hx hb dM_sort1_11 (by decide) ?_
    refine lv_istore (lv' := [(5, .int (-1)), (4, .int ((xpi st 3) (c0 - 1))), (0, .ref aM), (1, xv vad c0), (2, xv vad c1), (3, .int x2)]) hx hb dM_sort1_12 hl (by decide) rfl (fun ls hl => ?_)
    refine lv_iconst (v := 0) hx hb dM_sort1_14 (by decide) ?_
    refine lv_istore (lv' := [(6, .int 0), (5, .int (-1)), (4, .int ((xpi st 3) (c0 - 1))), (0, .ref aM), (1, xv vad c0), (2, xv vad c1), (3, .int x2)]) hx hb dM_sort1_15 hl (by decide) rfl (fun ls hl => ?_)
    exact key n (1, (0 : Int32), ((-1) : Int32), ((xpi st 3) (c0 - 1)), c0, c1, x2, 0, 0, 0, st, 0, 0) _ _ ls (Or.inl ⟨ad, gd, vad, rfl, hf, hP, hD, hS, lv_sub hl [0, 1, 2, 3, 4, 5, 6] rfl, hE, hN⟩)
