set_option maxHeartbeats 400000000 in
set_option maxRecDepth 100000 in
theorem gM_isTrue (l : Launch) (hl9 : l.stackTraces = false) (D : va_G) (cT : Nat → ClassId) (aK aV : Nat → Nat) (sz n : Nat) (aM : Nat) (ad rd gd vad : Nat → Nat) (st : xS) (c0 : Nat) (out : Int32) (hf : fM_isTrue n st c0 = some out) : xMet l yM_isTrue wyM_isTrue 0 0 0 0 D cT aK aV sz [.ref aM, xv vad c0] (xMw cT aM ad rd gd vad st []) (fun A => va_Qi (fun (r : Int32) (_ : Unit) => r = out) (fun _ t => xB D xcl cT A (xMw cT aM ad rd gd vad st []) t) A) := by
  refine Met.ofW (cc := prog_13_method_65_code) (maxL := 2) (ret := (some .boolean)) (by decide) rfl ?_
  intro p e s m args below meth c s₁ B hml hv
  obtain ⟨rfl, hsz, hZ, hP, hK, hD0⟩ := hv
  have hx := B.exec
  have hb := B.bytes
  have hr := B.returns
  have hts := atoms_spec (ws := wyM_isTrue) B.pre
  have htx := fun w h => hts w (List.mem_cons_of_mem _ h)
  have hown : s.vm.findClass "ValueBenchModel" = some m.cls := findClass_of_methodNamed B.named
  have hlocks := B.notSynchronized
  subst hsz
  have hD := hD0.self (sz := s.heap.size)
  generalize hAe : va_A (xMw cT aM ad rd gd vad st []) s.heap.size = A at hD hZ ⊢
  have hA : ∀ q : Nat, s.heap.size ≤ q → A q := fun q h => by rw [← hAe]; exact Or.inr h
  have hS : va_S A s.heap s.heap [] := va_S.rf
  have hl := lv_entry ([.ref aM, xv vad c0]) (n := 2) (by simp [lg_sl, xvcat, xrscat, xcI, xcL, xcR, xcN])
  rw [show lv_args 0 [.ref aM, xv vad c0] = [(0, .ref aM), (1, xv vad c0)] from by simp [lv_args, xvcat, xrscat, xcI, xcL, xcR, xcN]] at hl
  rw [lg_entry_eq]
  generalize (lg_sl ([.ref aM, xv vad c0]) ++ List.replicate (2 - (lg_sl ([.ref aM, xv vad c0])).length) Slot.unset).toArray = ls at hl ⊢
  have hl : lv_has ls 2 [(0, .ref aM), (1, xv vad c0)] := hl
  unfold fM_isTrue at hf
  refine xm_aload_n hx hb (xvor _ _) dM_isTrue_0 rfl (lv_at hl 1 rfl) ?_
  obtain ⟨hg1, hf⟩ := xifn hf
  refine xm_vget (v := .int ((xpi st 0) (c0 - 1))) hx hb htx hown hK hP 0 (by decide) hg1 rfl ((hZ.1 (93, "kind", "I") (List.mem_of_getElem? (i := 0) rfl)).use rfl) rfl dM_isTrue_1 ?_
  refine lv_if_eq (tgt := 19) hx hb dM_isTrue_4 (by decide) (fun hc => ?_) (fun hc => ?_)
  · rw [if_pos hc] at hf
    refine lv_iconst (v := 0) hx hb dM_isTrue_19 (by decide) ?_
    obtain rfl := Option.some.inj hf
    exact W.zret (v := (0 : Int32)) hx hb hr rfl (fun t ht hW => ⟨⟨(0 : Int32), (), rfl, rfl, by rw [ht]; exact hP, va_K.moved hW.alike hK, hD⟩, hS.F ht⟩) hS.2.2 dM_isTrue_20
  · rw [if_neg hc] at hf
    refine xm_aload_n hx hb (xvor _ _) dM_isTrue_7 rfl (lv_at hl 1 rfl) ?_
    refine xm_vget (v := .int ((xpi st 0) (c0 - 1))) hx hb htx hown hK hP 0 (by decide) hg1 rfl ((hZ.1 (93, "kind", "I") (List.mem_of_getElem? (i := 0) rfl)).use rfl) rfl dM_isTrue_8 ?_
    refine lv_iconst (v := 1) hx hb dM_isTrue_11 (by decide) ?_
    refine lv_icmp_eq (tgt := 19) hx hb dM_isTrue_12 (by decide) (fun hc => ?_) (fun hc => ?_)
    · rw [if_pos hc] at hf
      refine lv_iconst (v := 0) hx hb dM_isTrue_19 (by decide) ?_
      obtain rfl := Option.some.inj hf
      exact W.zret (v := (0 : Int32)) hx hb hr rfl (fun t ht hW => ⟨⟨(0 : Int32), (), rfl, rfl, by rw [ht]; exact hP, va_K.moved hW.alike hK, hD⟩, hS.F ht⟩) hS.2.2 dM_isTrue_20
    · rw [if_neg hc] at hf
      refine lv_iconst (v := 1) hx hb dM_isTrue_15 (by decide) ?_
      refine lv_goto (tgt := 20) hx hb dM_isTrue_16 (by decide) ?_
      obtain rfl := Option.some.inj hf
      exact W.zret (v := (1 : Int32)) hx hb hr rfl (fun t ht hW => ⟨⟨(1 : Int32), (), rfl, rfl, by rw [ht]; exact hP, va_K.moved hW.alike hK, hD⟩, hS.F ht⟩) hS.2.2 dM_isTrue_20
set_option maxHeartbeats 400000000 in
set_option maxRecDepth 100000 in
theorem gM_length (l : Launch) (hl9 : l.stackTraces = false) (D : va_G) (cT : Nat → ClassId) (aK aV : Nat → Nat) (sz n : Nat) (aM : Nat) (ad rd gd vad : Nat → Nat) (st : xS) (c0 : Nat) (out : Nat × Nat × Nat × Nat × xS) (hf : fM_length n st c0 = some out) (hkd : out.1 = 0) : xMet l yM_length wyM_length 8 out.2.1 out.2.2.1 144 D cT aK aV sz [.ref aM, xv vad c0] (xMw cT aM ad rd gd vad st []) (fun A => va_Qq (fun (r : Option Nat) (u : xU) => r = xca u.2.2 out.2.2.2.1 ∧ xE vad st out.2.2.2.2 u) (fun u t => xB D xcl cT A (xMw cT aM u.1 rd u.2.1 u.2.2 out.2.2.2.2 []) t) A) := by
  refine Met.ofW (cc := prog_13_method_57_code) (maxL := 2) (ret := (some (.object "ValueBenchModel$V"))) (by decide) rfl ?_
  intro p e s m args below meth c s₁ B hml hv
  obtain ⟨rfl, hsz, hZ, hP, hK, hD0⟩ := hv
  have hx := B.exec
  have hb := B.bytes
  have hr := B.returns
  have hts := atoms_spec (ws := wyM_length) B.pre
  have htx := fun w h => hts w (List.mem_cons_of_mem _ h)
  have hown : s.vm.findClass "ValueBenchModel" = some m.cls := findClass_of_methodNamed B.named
  have hlocks := B.notSynchronized
  subst hsz
  have hD := hD0.self (sz := s.heap.size)
  generalize hAe : va_A (xMw cT aM ad rd gd vad st []) s.heap.size = A at hD hZ ⊢
  have hA : ∀ q : Nat, s.heap.size ≤ q → A q := fun q h => by rw [← hAe]; exact Or.inr h
  have hS : va_S A s.heap s.heap [] := va_S.rf
  have hl := lv_entry ([.ref aM, xv vad c0]) (n := 2) (by simp [lg_sl, xvcat, xrscat, xcI, xcL, xcR, xcN])
  rw [show lv_args 0 [.ref aM, xv vad c0] = [(0, .ref aM), (1, xv vad c0)] from by simp [lv_args, xvcat, xrscat, xcI, xcL, xcR, xcN]] at hl
  rw [lg_entry_eq]
  generalize (lg_sl ([.ref aM, xv vad c0]) ++ List.replicate (2 - (lg_sl ([.ref aM, xv vad c0])).length) Slot.unset).toArray = ls at hl ⊢
  have hl : lv_has ls 2 [(0, .ref aM), (1, xv vad c0)] := hl
  have hE : ∀ p, p < xct st → vad p = vad p := fun _ _ => rfl
  have hN : xct st ≤ xct st := Nat.le_refl _
  unfold fM_length at hf
  refine xm_aload_n hx hb (xvor _ _) dM_length_0 rfl (lv_at hl 1 rfl) ?_
  obtain ⟨hg1, hf⟩ := xifn hf
  refine xm_vget (v := .int ((xpi st 0) (c0 - 1))) hx hb htx hown hK hP 0 (by decide) hg1 rfl ((hZ.1 (93, "kind", "I") (List.mem_of_getElem? (i := 0) rfl)).use rfl) rfl dM_length_1 ?_
  refine lv_iconst (v := 1) hx hb dM_length_4 (by decide) ?_
  refine lv_icmp_eq (tgt := 16) hx hb dM_length_5 (by decide) (fun hc => ?_) (fun hc => ?_)
  · rw [if_pos hc] at hf
    refine lv_aload_n hx hb dM_length_16 rfl (lv_at hl 0 rfl) ?_
    refine lv_iconst (v := 1) hx hb dM_length_17 (by decide) ?_
    obtain ⟨o2, hq3, hf⟩ := xbind hf
    have hl := lv_sub (l' := [(0, .ref aM)]) hl [0] rfl
    by_cases hk4 : o2.1 = 1
    · rw [if_pos hk4] at hf
      obtain ⟨hm5, hf⟩ := xmoE hf
      obtain rfl := Option.some.inj hf
      exact absurd (show (1 : Nat) = 0 from hkd) (by decide)
    rw [if_neg hk4] at hf
    exact nomatch hf
  · rw [if_neg hc] at hf
    refine xm_aload_n hx hb (xvor _ _) dM_length_8 rfl (lv_at hl 1 rfl) ?_
    refine xm_vget (v := .int ((xpi st 0) (c0 - 1))) hx hb htx hown hK hP 0 (by decide) hg1 rfl ((hZ.1 (93, "kind", "I") (List.mem_of_getElem? (i := 0) rfl)).use rfl) rfl dM_length_9 ?_
    refine lv_iconst (v := 2) hx hb dM_length_12 (by decide) ?_
    refine lv_icmp_ne (tgt := 22) hx hb dM_length_13 (by decide) (fun hc => ?_) (fun hc => ?_)
    · rw [if_neg hc] at hf
      refine lv_aload_n hx hb dM_length_22 rfl (lv_at hl 0 rfl) ?_
      refine xm_aload_n hx hb (xvor _ _) dM_length_23 rfl (lv_at hl 1 rfl) ?_
      refine xm_vget (v := .int ((xpi st 0) (c0 - 1))) hx hb htx hown hK hP 0 (by decide) hg1 rfl ((hZ.1 (93, "kind", "I") (List.mem_of_getElem? (i := 0) rfl)).use rfl) rfl dM_length_24 ?_
      refine lv_if_ne (tgt := 34) hx hb dM_length_27 (by decide) (fun hc => ?_) (fun hc => ?_)
      · rw [if_neg hc] at hf
        refine xm_aload_n hx hb (xvor _ _) dM_length_34 rfl (lv_at hl 1 rfl) ?_
        refine xm_vget (v := .int ((xpi st 0) (c0 - 1))) hx hb htx hown hK hP 0 (by decide) hg1 rfl ((hZ.1 (93, "kind", "I") (List.mem_of_getElem? (i := 0) rfl)).use rfl) rfl dM_length_35 ?_
        refine lv_iconst (v := 3) hx hb dM_length_38 (by decide) ?_
        refine lv_icmp_ne (tgt := 52) hx hb dM_length_39 (by decide) (fun hc => ?_) (fun hc => ?_)
        · rw [if_neg hc] at hf
          refine xm_aload_n hx hb (xvor _ _) dM_length_52 rfl (lv_at hl 1 rfl) ?_
          refine xm_vget (v := .int ((xpi st 3) (c0 - 1))) hx hb htx hown hK hP 3 (by decide) hg1 rfl ((hZ.1 (103, "count", "I") (List.mem_of_getElem? (i := 3) rfl)).use rfl) rfl dM_length_53 ?_
          refine lv_i2l hx hb dM_length_56 rfl ?_
          obtain ⟨o2, hq3, hf⟩ := xbind hf
          have hl := lv_sub (l' := [(0, .ref aM)]) hl [0] rfl
          by_cases hk4 : o2.1 = 0
          · rw [if_pos hk4] at hf
            obtain ⟨hm5, hf⟩ := xmoE hf
            have hFc := xm_free hD hS hA
            refine va_callq (va_runV (C := "ValueBenchModel") (As := [.long ((xpi st 3) (c0 - 1)).toInt64]) (rest := []) ⟨hx, hb, hml, hown, htx⟩ (gM_number l hl9 D cT aK aV s.heap.size n aM ad rd gd vad st (((xpi st 3) (c0 - 1)).toInt64) o2 hq3 hk4) ⟨callB_of 1 htx (xw_goodC kw_6_88) rfl rfl rfl (htx _ kw_1_5) (htx _ kw_6_85) ⟨by decide, by decide, by decide +kernel⟩ ⟨Nat.le_of_ble_eq_true rfl, Nat.le_of_ble_eq_true rfl⟩, (htx _ kw_6_87), (htx _ kp_M_number)⟩ ⟨xPre_blind, va_recv hK hP (ci := 5) rfl (q0 := 0) rfl, (fun U hU hW => ⟨rfl, xPre_of hZ hS hFc hP hD hK U hU hW⟩)⟩ rfl rfl hl.1 rfl (xm_room (Nat.le_of_ble_eq_true rfl)) dM_length_57 ⟨hm5.1, hm5.2⟩) hS (fun q _ h => hFc q h) hFc (fun r6 u9 t H1 locs ht hvm hr9 hB hz1 hk1 hS => ?_)
            obtain ⟨hP1, hK1, hD1⟩ := hB
            rw [ht] at hP1
            obtain ⟨ad7, gd8, vad9⟩ := u9
            obtain ⟨hr9, hv10, hn11⟩ := hr9
            have hP : va_P D xcl (xMw cT aM ad7 rd gd8 vad9 o2.2.2.2.2 []) H1 := hP1
            have hD : va_D A (xMw cT aM ad7 rd gd8 vad9 o2.2.2.2.2 []) := hD1.weaken (fun k q _ h => hFc q.1 h)
            generalize H1 = H at hP hS ⊢
            have hE9 : ∀ p, p < xct st → vad9 p = vad p := fun p h => (hv10 p (Nat.lt_of_lt_of_le h hN)).trans (hE p h)
            have hE := hE9
            have hN : xct st ≤ xct o2.2.2.2.2 := Nat.le_trans hN hn11
            rw [hr9]
            refine W.eq (g2 := F0 m 60 ls [xv vad9 o2.2.2.2.1]) (by first | rfl | (skip; rfl)) ?_
            obtain rfl := Option.some.inj hf
            exact W.aret (v := xv vad9 o2.2.2.2.1) hx hb hr (Or.inl ⟨_, rfl⟩) (xvor _ _) (fun t ht hW => ⟨⟨xca vad9 o2.2.2.2.1, (ad7, gd8, vad9), rfl, ⟨rfl, hE, hN⟩, by rw [ht]; exact hP, va_K.moved hW.alike hK, hD⟩, hS.F ht⟩) hS.2.2 dM_length_60
          rw [if_neg hk4] at hf
          by_cases hk12 : o2.1 = 1
          · rw [if_pos hk12] at hf
            obtain ⟨hm13, hf⟩ := xmoE hf
            obtain rfl := Option.some.inj hf
            exact absurd (show (1 : Nat) = 0 from hkd) (by decide)
          rw [if_neg hk12] at hf
          exact nomatch hf
        · rw [if_pos hc] at hf
          refine xm_aload_n hx hb (xvor _ _) dM_length_42 rfl (lv_at hl 1 rfl) ?_
          refine xm_vget (v := .long ((xpl st) (c0 - 1))) hx hb htx hown hK hP 1 (by decide) hg1 rfl ((hZ.1 (96, "n", "J") (List.mem_of_getElem? (i := 1) rfl)).use rfl) rfl dM_length_43 ?_
          refine va_mabs_long hx hb (hml.trans hl.1.symm) hown (htx _ kw_6_216) (htx _ kw_3_43) (htx _ kw_1_15) (htx _ kw_3_44) (Nat.le_of_ble_eq_true rfl) (Nat.le_of_ble_eq_true rfl) (Nat.zero_le _) (Nat.zero_le _) dM_length_46 ?_
          refine W.eq (g2 := F0 m 49 ls [.long (if 0 < ((xpl st) (c0 - 1)) then ((xpl st) (c0 - 1)) else -((xpl st) (c0 - 1))), .ref aM]) rfl ?_
          refine lv_goto (tgt := 57) hx hb dM_length_49 (by decide) ?_
          obtain ⟨o2, hq3, hf⟩ := xbind hf
          have hl := lv_sub (l' := [(0, .ref aM)]) hl [0] rfl
          by_cases hk4 : o2.1 = 0
          · rw [if_pos hk4] at hf
            obtain ⟨hm5, hf⟩ := xmoE hf
            have hFc := xm_free hD hS hA
            refine va_callq (va_runV (C := "ValueBenchModel") (As := [.long (if 0 < ((xpl st) (c0 - 1)) then ((xpl st) (c0 - 1)) else -((xpl st) (c0 - 1)))]) (rest := []) ⟨hx, hb, hml, hown, htx⟩ (gM_number l hl9 D cT aK aV s.heap.size n aM ad rd gd vad st (if 0 < ((xpl st) (c0 - 1)) then ((xpl st) (c0 - 1)) else -((xpl st) (c0 - 1))) o2 hq3 hk4) ⟨callB_of 1 htx (xw_goodC kw_6_88) rfl rfl rfl (htx _ kw_1_5) (htx _ kw_6_85) ⟨by decide, by decide, by decide +kernel⟩ ⟨Nat.le_of_ble_eq_true rfl, Nat.le_of_ble_eq_true rfl⟩, (htx _ kw_6_87), (htx _ kp_M_number)⟩ ⟨xPre_blind, va_recv hK hP (ci := 5) rfl (q0 := 0) rfl, (fun U hU hW => ⟨rfl, xPre_of hZ hS hFc hP hD hK U hU hW⟩)⟩ rfl rfl hl.1 rfl (xm_room (Nat.le_of_ble_eq_true rfl)) dM_length_57 ⟨hm5.1, hm5.2⟩) hS (fun q _ h => hFc q h) hFc (fun r6 u9 t H1 locs ht hvm hr9 hB hz1 hk1 hS => ?_)
            obtain ⟨hP1, hK1, hD1⟩ := hB
            rw [ht] at hP1
            obtain ⟨ad7, gd8, vad9⟩ := u9
            obtain ⟨hr9, hv10, hn11⟩ := hr9
            have hP : va_P D xcl (xMw cT aM ad7 rd gd8 vad9 o2.2.2.2.2 []) H1 := hP1
            have hD : va_D A (xMw cT aM ad7 rd gd8 vad9 o2.2.2.2.2 []) := hD1.weaken (fun k q _ h => hFc q.1 h)
            generalize H1 = H at hP hS ⊢
            have hE9 : ∀ p, p < xct st → vad9 p = vad p := fun p h => (hv10 p (Nat.lt_of_lt_of_le h hN)).trans (hE p h)
            have hE := hE9
            have hN : xct st ≤ xct o2.2.2.2.2 := Nat.le_trans hN hn11
            rw [hr9]
            refine W.eq (g2 := F0 m 60 ls [xv vad9 o2.2.2.2.1]) (by first | rfl | (skip; rfl)) ?_
            obtain rfl := Option.some.inj hf
            exact W.aret (v := xv vad9 o2.2.2.2.1) hx hb hr (Or.inl ⟨_, rfl⟩) (xvor _ _) (fun t ht hW => ⟨⟨xca vad9 o2.2.2.2.1, (ad7, gd8, vad9), rfl, ⟨rfl, hE, hN⟩, by rw [ht]; exact hP, va_K.moved hW.alike hK, hD⟩, hS.F ht⟩) hS.2.2 dM_length_60
          rw [if_neg hk4] at hf
          by_cases hk12 : o2.1 = 1
          · rw [if_pos hk12] at hf
            obtain ⟨hm13, hf⟩ := xmoE hf
            obtain rfl := Option.some.inj hf
            exact absurd (show (1 : Nat) = 0 from hkd) (by decide)
          rw [if_neg hk12] at hf
          exact nomatch hf
      · rw [if_pos hc] at hf
        refine lv_lconst (v := 0) hx hb dM_length_30 (by decide) ?_
        refine lv_goto (tgt := 57) hx hb dM_length_31 (by decide) ?_
        obtain ⟨o2, hq3, hf⟩ := xbind hf
        have hl := lv_sub (l' := [(0, .ref aM)]) hl [0] rfl
        by_cases hk4 : o2.1 = 0
        · rw [if_pos hk4] at hf
          obtain ⟨hm5, hf⟩ := xmoE hf
          have hFc := xm_free hD hS hA
          refine va_callq (va_runV (C := "ValueBenchModel") (As := [.long 0]) (rest := []) ⟨hx, hb, hml, hown, htx⟩ (gM_number l hl9 D cT aK aV s.heap.size n aM ad rd gd vad st (0 : Int64) o2 hq3 hk4) ⟨callB_of 1 htx (xw_goodC kw_6_88) rfl rfl rfl (htx _ kw_1_5) (htx _ kw_6_85) ⟨by decide, by decide, by decide +kernel⟩ ⟨Nat.le_of_ble_eq_true rfl, Nat.le_of_ble_eq_true rfl⟩, (htx _ kw_6_87), (htx _ kp_M_number)⟩ ⟨xPre_blind, va_recv hK hP (ci := 5) rfl (q0 := 0) rfl, (fun U hU hW => ⟨rfl, xPre_of hZ hS hFc hP hD hK U hU hW⟩)⟩ rfl rfl hl.1 rfl (xm_room (Nat.le_of_ble_eq_true rfl)) dM_length_57 ⟨hm5.1, hm5.2⟩) hS (fun q _ h => hFc q h) hFc (fun r6 u9 t H1 locs ht hvm hr9 hB hz1 hk1 hS => ?_)
          obtain ⟨hP1, hK1, hD1⟩ := hB
          rw [ht] at hP1
          obtain ⟨ad7, gd8, vad9⟩ := u9
          obtain ⟨hr9, hv10, hn11⟩ := hr9
          have hP : va_P D xcl (xMw cT aM ad7 rd gd8 vad9 o2.2.2.2.2 []) H1 := hP1
          have hD : va_D A (xMw cT aM ad7 rd gd8 vad9 o2.2.2.2.2 []) := hD1.weaken (fun k q _ h => hFc q.1 h)
          generalize H1 = H at hP hS ⊢
          have hE9 : ∀ p, p < xct st → vad9 p = vad p := fun p h => (hv10 p (Nat.lt_of_lt_of_le h hN)).trans (hE p h)
          have hE := hE9
          have hN : xct st ≤ xct o2.2.2.2.2 := Nat.le_trans hN hn11
          rw [hr9]
          refine W.eq (g2 := F0 m 60 ls [xv vad9 o2.2.2.2.1]) (by first | rfl | (skip; rfl)) ?_
          obtain rfl := Option.some.inj hf
          exact W.aret (v := xv vad9 o2.2.2.2.1) hx hb hr (Or.inl ⟨_, rfl⟩) (xvor _ _) (fun t ht hW => ⟨⟨xca vad9 o2.2.2.2.1, (ad7, gd8, vad9), rfl, ⟨rfl, hE, hN⟩, by rw [ht]; exact hP, va_K.moved hW.alike hK, hD⟩, hS.F ht⟩) hS.2.2 dM_length_60
        rw [if_neg hk4] at hf
        by_cases hk12 : o2.1 = 1
        · rw [if_pos hk12] at hf
          obtain ⟨hm13, hf⟩ := xmoE hf
          obtain rfl := Option.some.inj hf
          exact absurd (show (1 : Nat) = 0 from hkd) (by decide)
        rw [if_neg hk12] at hf
        exact nomatch hf
    · rw [if_pos hc] at hf
      refine lv_aload_n hx hb dM_length_16 rfl (lv_at hl 0 rfl) ?_
      refine lv_iconst (v := 1) hx hb dM_length_17 (by decide) ?_
      obtain ⟨o2, hq3, hf⟩ := xbind hf
      have hl := lv_sub (l' := [(0, .ref aM)]) hl [0] rfl
      by_cases hk4 : o2.1 = 1
      · rw [if_pos hk4] at hf
        obtain ⟨hm5, hf⟩ := xmoE hf
        obtain rfl := Option.some.inj hf
        exact absurd (show (1 : Nat) = 0 from hkd) (by decide)
      rw [if_neg hk4] at hf
      exact nomatch hf
set_option maxHeartbeats 400000000 in
set_option maxRecDepth 100000 in
theorem gM_length_1 (l : Launch) (hl9 : l.stackTraces = false) (D : va_G) (cT : Nat → ClassId) (aK aV : Nat → Nat) (sz n : Nat) (aM : Nat) (ad rd gd vad : Nat → Nat) (st : xS) (c0 : Nat) (out : Nat × Nat × Nat × Nat × xS) (hf : fM_length n st c0 = some out) (hkd : out.1 = 1) : xMetY l yM_length wyM_length 8 out.2.1 out.2.2.1 144 D cT aK aV sz [.ref aM, xv vad c0] (xMw cT aM ad rd gd vad st []) "java/lang/ArithmeticException" (fun u => xE vad st out.2.2.2.2 u) (fun A u t => xB D xcl cT A (xMw cT aM u.1 rd u.2.1 u.2.2 out.2.2.2.2 []) t) := by
  refine vx_ofW (cc := prog_13_method_57_code) (maxL := 2) (ret := (some (.object "ValueBenchModel$V"))) (by decide) rfl ?_
  intro p e s m args below meth c s₁ B hml hne hv
  obtain ⟨rfl, hsz, hZ, hP, hK, hD0⟩ := hv
  have hx := B.exec
  have hb := B.bytes
  have hr := B.returns
  have hts := atoms_spec (ws := wyM_length) B.pre
  have htx := fun w h => hts w (List.mem_cons_of_mem _ h)
  have hown : s.vm.findClass "ValueBenchModel" = some m.cls := findClass_of_methodNamed B.named
  have hlocks := B.notSynchronized
  subst hsz
  have hD := hD0.self (sz := s.heap.size)
  generalize hAe : va_A (xMw cT aM ad rd gd vad st []) s.heap.size = A at hD hZ ⊢
  have hA : ∀ q : Nat, s.heap.size ≤ q → A q := fun q h => by rw [← hAe]; exact Or.inr h
  have hS : va_S A s.heap s.heap [] := va_S.rf
  have hl := lv_entry ([.ref aM, xv vad c0]) (n := 2) (by simp [lg_sl, xvcat, xrscat, xcI, xcL, xcR, xcN])
  rw [show lv_args 0 [.ref aM, xv vad c0] = [(0, .ref aM), (1, xv vad c0)] from by simp [lv_args, xvcat, xrscat, xcI, xcL, xcR, xcN]] at hl
  rw [lg_entry_eq]
  generalize (lg_sl ([.ref aM, xv vad c0]) ++ List.replicate (2 - (lg_sl ([.ref aM, xv vad c0])).length) Slot.unset).toArray = ls at hl ⊢
  have hl : lv_has ls 2 [(0, .ref aM), (1, xv vad c0)] := hl
  have hE : ∀ p, p < xct st → vad p = vad p := fun _ _ => rfl
  have hN : xct st ≤ xct st := Nat.le_refl _
  unfold fM_length at hf
  refine xm_aload_n hx hb (xvor _ _) dM_length_0 rfl (lv_at hl 1 rfl) ?_
  obtain ⟨hg1, hf⟩ := xifn hf
  refine xm_vget (v := .int ((xpi st 0) (c0 - 1))) hx hb htx hown hK hP 0 (by decide) hg1 rfl ((hZ.1 (93, "kind", "I") (List.mem_of_getElem? (i := 0) rfl)).use rfl) rfl dM_length_1 ?_
  refine lv_iconst (v := 1) hx hb dM_length_4 (by decide) ?_
  refine lv_icmp_eq (tgt := 16) hx hb dM_length_5 (by decide) (fun hc => ?_) (fun hc => ?_)
  · rw [if_pos hc] at hf
    refine lv_aload_n hx hb dM_length_16 rfl (lv_at hl 0 rfl) ?_
    refine lv_iconst (v := 1) hx hb dM_length_17 (by decide) ?_
    obtain ⟨o2, hq3, hf⟩ := xbind hf
    have hl := lv_sub (l' := [(0, .ref aM)]) hl [0] rfl
    by_cases hk4 : o2.1 = 1
    · rw [if_pos hk4] at hf
      obtain ⟨hm5, hf⟩ := xmoE hf
      have hFc := xm_free hD hS hA
      refine xx_thr (vx_runV (C := "ValueBenchModel") (As := [.int 1]) (rest := []) ⟨hx, hb, hml, hown, htx⟩ (gM_refuse_1 l hl9 D cT aK aV s.heap.size n aM ad rd gd vad st (1 : Int32) o2 hq3 hk4) ⟨callB_of 1 htx (xw_goodC kw_6_93) rfl rfl rfl (htx _ kw_1_5) (htx _ kw_6_90) ⟨by decide, by decide, by decide +kernel⟩ ⟨Nat.le_of_ble_eq_true rfl, Nat.le_of_ble_eq_true rfl⟩, (htx _ kw_6_92), (htx _ kp_M_refuse)⟩ ⟨xPre_blind, va_recv hK hP (ci := 5) rfl (q0 := 0) rfl, (fun U hU hW => ⟨rfl, xPre_of hZ hS hFc hP hD hK U hU hW⟩)⟩ rfl rfl hl.1 rfl (xm_room (Nat.le_of_ble_eq_true rfl)) dM_length_18 ⟨hm5.1, hm5.2⟩) hS hFc (fun q _ h => hFc q h) (fun E ce q9 u9 t H1 locs ht hvm hr9 hB hz1 hk1 hS hce hcv hcl => ?_)
      obtain ⟨rfl, hP1, hK1, hD1⟩ := hB
      rw [ht] at hP1
      obtain ⟨ad7, gd8, vad9⟩ := u9
      obtain ⟨hv10, hn11⟩ := hr9
      have hP : va_P D xcl (xMw cT aM ad7 rd gd8 vad9 o2.2.2.2.2 []) H1 := hP1
      have hD : va_D A (xMw cT aM ad7 rd gd8 vad9 o2.2.2.2.2 []) := hD1.weaken (fun k q _ h => hFc q.1 h)
      generalize H1 = H at hP hS hce ⊢
      have hE9 : ∀ p, p < xct st → vad9 p = vad p := fun p h => (hv10 p (Nat.lt_of_lt_of_le h hN)).trans (hE p h)
      have hE := hE9
      have hN : xct st ≤ xct o2.2.2.2.2 := Nat.le_trans hN hn11
      obtain rfl := Option.some.inj hf
      exact vx_out (E := "java/lang/ArithmeticException") (fun x h => (hne x h).elim) hlocks hce hcv hcl (fun t ht ha => ⟨(ad7, gd8, vad9), ⟨hE, hN⟩, ⟨rfl, by rw [ht]; exact hP, va_K.moved ha hK, hD⟩, hS.F ht⟩) hS.2.2 (Nat.le_refl _) (Nat.le_refl _)
    rw [if_neg hk4] at hf
    exact nomatch hf
  · rw [if_neg hc] at hf
    refine xm_aload_n hx hb (xvor _ _) dM_length_8 rfl (lv_at hl 1 rfl) ?_
    refine xm_vget (v := .int ((xpi st 0) (c0 - 1))) hx hb htx hown hK hP 0 (by decide) hg1 rfl ((hZ.1 (93, "kind", "I") (List.mem_of_getElem? (i := 0) rfl)).use rfl) rfl dM_length_9 ?_
    refine lv_iconst (v := 2) hx hb dM_length_12 (by decide) ?_
    refine lv_icmp_ne (tgt := 22) hx hb dM_length_13 (by decide) (fun hc => ?_) (fun hc => ?_)
    · rw [if_neg hc] at hf
      refine lv_aload_n hx hb dM_length_22 rfl (lv_at hl 0 rfl) ?_
      refine xm_aload_n hx hb (xvor _ _) dM_length_23 rfl (lv_at hl 1 rfl) ?_
      refine xm_vget (v := .int ((xpi st 0) (c0 - 1))) hx hb htx hown hK hP 0 (by decide) hg1 rfl ((hZ.1 (93, "kind", "I") (List.mem_of_getElem? (i := 0) rfl)).use rfl) rfl dM_length_24 ?_
      refine lv_if_ne (tgt := 34) hx hb dM_length_27 (by decide) (fun hc => ?_) (fun hc => ?_)
      · rw [if_neg hc] at hf
        refine xm_aload_n hx hb (xvor _ _) dM_length_34 rfl (lv_at hl 1 rfl) ?_
        refine xm_vget (v := .int ((xpi st 0) (c0 - 1))) hx hb htx hown hK hP 0 (by decide) hg1 rfl ((hZ.1 (93, "kind", "I") (List.mem_of_getElem? (i := 0) rfl)).use rfl) rfl dM_length_35 ?_
        refine lv_iconst (v := 3) hx hb dM_length_38 (by decide) ?_
        refine lv_icmp_ne (tgt := 52) hx hb dM_length_39 (by decide) (fun hc => ?_) (fun hc => ?_)
        · rw [if_neg hc] at hf
          refine xm_aload_n hx hb (xvor _ _) dM_length_52 rfl (lv_at hl 1 rfl) ?_
          refine xm_vget (v := .int ((xpi st 3) (c0 - 1))) hx hb htx hown hK hP 3 (by decide) hg1 rfl ((hZ.1 (103, "count", "I") (List.mem_of_getElem? (i := 3) rfl)).use rfl) rfl dM_length_53 ?_
          refine lv_i2l hx hb dM_length_56 rfl ?_
          obtain ⟨o2, hq3, hf⟩ := xbind hf
          have hl := lv_sub (l' := [(0, .ref aM)]) hl [0] rfl
          by_cases hk4 : o2.1 = 0
          · rw [if_pos hk4] at hf
            obtain ⟨hm5, hf⟩ := xmoE hf
            have hFc := xm_free hD hS hA
            refine va_callq (va_runV (C := "ValueBenchModel") (As := [.long ((xpi st 3) (c0 - 1)).toInt64]) (rest := []) ⟨hx, hb, hml, hown, htx⟩ (gM_number l hl9 D cT aK aV s.heap.size n aM ad rd gd vad st (((xpi st 3) (c0 - 1)).toInt64) o2 hq3 hk4) ⟨callB_of 1 htx (xw_goodC kw_6_88) rfl rfl rfl (htx _ kw_1_5) (htx _ kw_6_85) ⟨by decide, by decide, by decide +kernel⟩ ⟨Nat.le_of_ble_eq_true rfl, Nat.le_of_ble_eq_true rfl⟩, (htx _ kw_6_87), (htx _ kp_M_number)⟩ ⟨xPre_blind, va_recv hK hP (ci := 5) rfl (q0 := 0) rfl, (fun U hU hW => ⟨rfl, xPre_of hZ hS hFc hP hD hK U hU hW⟩)⟩ rfl rfl hl.1 rfl (xm_room (Nat.le_of_ble_eq_true rfl)) dM_length_57 ⟨hm5.1, hm5.2⟩) hS (fun q _ h => hFc q h) hFc (fun r6 u9 t H1 locs ht hvm hr9 hB hz1 hk1 hS => ?_)
            obtain ⟨hP1, hK1, hD1⟩ := hB
            rw [ht] at hP1
            obtain ⟨ad7, gd8, vad9⟩ := u9
            obtain ⟨hr9, hv10, hn11⟩ := hr9
            have hP : va_P D xcl (xMw cT aM ad7 rd gd8 vad9 o2.2.2.2.2 []) H1 := hP1
            have hD : va_D A (xMw cT aM ad7 rd gd8 vad9 o2.2.2.2.2 []) := hD1.weaken (fun k q _ h => hFc q.1 h)
            generalize H1 = H at hP hS ⊢
            have hE9 : ∀ p, p < xct st → vad9 p = vad p := fun p h => (hv10 p (Nat.lt_of_lt_of_le h hN)).trans (hE p h)
            have hE := hE9
            have hN : xct st ≤ xct o2.2.2.2.2 := Nat.le_trans hN hn11
            rw [hr9]
            refine W.eq (g2 := F0 m 60 ls [xv vad9 o2.2.2.2.1]) (by first | rfl | (skip; rfl)) ?_
            obtain rfl := Option.some.inj hf
            exact absurd (show (0 : Nat) = 1 from hkd) (by decide)
          rw [if_neg hk4] at hf
          by_cases hk12 : o2.1 = 1
          · rw [if_pos hk12] at hf
            obtain ⟨hm13, hf⟩ := xmoE hf
            have hFc := xm_free hD hS hA
            refine xx_thr (vx_runV (C := "ValueBenchModel") (As := [.long ((xpi st 3) (c0 - 1)).toInt64]) (rest := []) ⟨hx, hb, hml, hown, htx⟩ (gM_number_1 l hl9 D cT aK aV s.heap.size n aM ad rd gd vad st (((xpi st 3) (c0 - 1)).toInt64) o2 hq3 hk12) ⟨callB_of 1 htx (xw_goodC kw_6_88) rfl rfl rfl (htx _ kw_1_5) (htx _ kw_6_85) ⟨by decide, by decide, by decide +kernel⟩ ⟨Nat.le_of_ble_eq_true rfl, Nat.le_of_ble_eq_true rfl⟩, (htx _ kw_6_87), (htx _ kp_M_number)⟩ ⟨xPre_blind, va_recv hK hP (ci := 5) rfl (q0 := 0) rfl, (fun U hU hW => ⟨rfl, xPre_of hZ hS hFc hP hD hK U hU hW⟩)⟩ rfl rfl hl.1 rfl (xm_room (Nat.le_of_ble_eq_true rfl)) dM_length_57 ⟨hm13.1, hm13.2⟩) hS hFc (fun q _ h => hFc q h) (fun E ce q9 u9 t H1 locs ht hvm hr9 hB hz1 hk1 hS hce hcv hcl => ?_)
            obtain ⟨rfl, hP1, hK1, hD1⟩ := hB
            rw [ht] at hP1
            obtain ⟨ad15, gd16, vad17⟩ := u9
            obtain ⟨hv18, hn19⟩ := hr9
            have hP : va_P D xcl (xMw cT aM ad15 rd gd16 vad17 o2.2.2.2.2 []) H1 := hP1
            have hD : va_D A (xMw cT aM ad15 rd gd16 vad17 o2.2.2.2.2 []) := hD1.weaken (fun k q _ h => hFc q.1 h)
            generalize H1 = H at hP hS hce ⊢
            have hE9 : ∀ p, p < xct st → vad17 p = vad p := fun p h => (hv18 p (Nat.lt_of_lt_of_le h hN)).trans (hE p h)
            have hE := hE9
            have hN : xct st ≤ xct o2.2.2.2.2 := Nat.le_trans hN hn19
            obtain rfl := Option.some.inj hf
            exact vx_out (E := "java/lang/ArithmeticException") (fun x h => (hne x h).elim) hlocks hce hcv hcl (fun t ht ha => ⟨(ad15, gd16, vad17), ⟨hE, hN⟩, ⟨rfl, by rw [ht]; exact hP, va_K.moved ha hK, hD⟩, hS.F ht⟩) hS.2.2 (Nat.le_refl _) (Nat.le_refl _)
          rw [if_neg hk12] at hf
          exact nomatch hf
        · rw [if_pos hc] at hf
          refine xm_aload_n hx hb (xvor _ _) dM_length_42 rfl (lv_at hl 1 rfl) ?_
          refine xm_vget (v := .long ((xpl st) (c0 - 1))) hx hb htx hown hK hP 1 (by decide) hg1 rfl ((hZ.1 (96, "n", "J") (List.mem_of_getElem? (i := 1) rfl)).use rfl) rfl dM_length_43 ?_
          refine va_mabs_long hx hb (hml.trans hl.1.symm) hown (htx _ kw_6_216) (htx _ kw_3_43) (htx _ kw_1_15) (htx _ kw_3_44) (Nat.le_of_ble_eq_true rfl) (Nat.le_of_ble_eq_true rfl) (Nat.zero_le _) (Nat.zero_le _) dM_length_46 ?_
          refine W.eq (g2 := F0 m 49 ls [.long (if 0 < ((xpl st) (c0 - 1)) then ((xpl st) (c0 - 1)) else -((xpl st) (c0 - 1))), .ref aM]) rfl ?_
          refine lv_goto (tgt := 57) hx hb dM_length_49 (by decide) ?_
          obtain ⟨o2, hq3, hf⟩ := xbind hf
          have hl := lv_sub (l' := [(0, .ref aM)]) hl [0] rfl
          by_cases hk4 : o2.1 = 0
          · rw [if_pos hk4] at hf
            obtain ⟨hm5, hf⟩ := xmoE hf
            have hFc := xm_free hD hS hA
            refine va_callq (va_runV (C := "ValueBenchModel") (As := [.long (if 0 < ((xpl st) (c0 - 1)) then ((xpl st) (c0 - 1)) else -((xpl st) (c0 - 1)))]) (rest := []) ⟨hx, hb, hml, hown, htx⟩ (gM_number l hl9 D cT aK aV s.heap.size n aM ad rd gd vad st (if 0 < ((xpl st) (c0 - 1)) then ((xpl st) (c0 - 1)) else -((xpl st) (c0 - 1))) o2 hq3 hk4) ⟨callB_of 1 htx (xw_goodC kw_6_88) rfl rfl rfl (htx _ kw_1_5) (htx _ kw_6_85) ⟨by decide, by decide, by decide +kernel⟩ ⟨Nat.le_of_ble_eq_true rfl, Nat.le_of_ble_eq_true rfl⟩, (htx _ kw_6_87), (htx _ kp_M_number)⟩ ⟨xPre_blind, va_recv hK hP (ci := 5) rfl (q0 := 0) rfl, (fun U hU hW => ⟨rfl, xPre_of hZ hS hFc hP hD hK U hU hW⟩)⟩ rfl rfl hl.1 rfl (xm_room (Nat.le_of_ble_eq_true rfl)) dM_length_57 ⟨hm5.1, hm5.2⟩) hS (fun q _ h => hFc q h) hFc (fun r6 u9 t H1 locs ht hvm hr9 hB hz1 hk1 hS => ?_)
            obtain ⟨hP1, hK1, hD1⟩ := hB
            rw [ht] at hP1
            obtain ⟨ad7, gd8, vad9⟩ := u9
            obtain ⟨hr9, hv10, hn11⟩ := hr9
            have hP : va_P D xcl (xMw cT aM ad7 rd gd8 vad9 o2.2.2.2.2 []) H1 := hP1
            have hD : va_D A (xMw cT aM ad7 rd gd8 vad9 o2.2.2.2.2 []) := hD1.weaken (fun k q _ h => hFc q.1 h)
            generalize H1 = H at hP hS ⊢
            have hE9 : ∀ p, p < xct st → vad9 p = vad p := fun p h => (hv10 p (Nat.lt_of_lt_of_le h hN)).trans (hE p h)
            have hE := hE9
            have hN : xct st ≤ xct o2.2.2.2.2 := Nat.le_trans hN hn11
            rw [hr9]
            refine W.eq (g2 := F0 m 60 ls [xv vad9 o2.2.2.2.1]) (by first | rfl | (skip; rfl)) ?_
            obtain rfl := Option.some.inj hf
            exact absurd (show (0 : Nat) = 1 from hkd) (by decide)
          rw [if_neg hk4] at hf
          by_cases hk12 : o2.1 = 1
          · rw [if_pos hk12] at hf
            obtain ⟨hm13, hf⟩ := xmoE hf
            have hFc := xm_free hD hS hA
            refine xx_thr (vx_runV (C := "ValueBenchModel") (As := [.long (if 0 < ((xpl st) (c0 - 1)) then ((xpl st) (c0 - 1)) else -((xpl st) (c0 - 1)))]) (rest := []) ⟨hx, hb, hml, hown, htx⟩ (gM_number_1 l hl9 D cT aK aV s.heap.size n aM ad rd gd vad st (if 0 < ((xpl st) (c0 - 1)) then ((xpl st) (c0 - 1)) else -((xpl st) (c0 - 1))) o2 hq3 hk12) ⟨callB_of 1 htx (xw_goodC kw_6_88) rfl rfl rfl (htx _ kw_1_5) (htx _ kw_6_85) ⟨by decide, by decide, by decide +kernel⟩ ⟨Nat.le_of_ble_eq_true rfl, Nat.le_of_ble_eq_true rfl⟩, (htx _ kw_6_87), (htx _ kp_M_number)⟩ ⟨xPre_blind, va_recv hK hP (ci := 5) rfl (q0 := 0) rfl, (fun U hU hW => ⟨rfl, xPre_of hZ hS hFc hP hD hK U hU hW⟩)⟩ rfl rfl hl.1 rfl (xm_room (Nat.le_of_ble_eq_true rfl)) dM_length_57 ⟨hm13.1, hm13.2⟩) hS hFc (fun q _ h => hFc q h) (fun E ce q9 u9 t H1 locs ht hvm hr9 hB hz1 hk1 hS hce hcv hcl => ?_)
            obtain ⟨rfl, hP1, hK1, hD1⟩ := hB
            rw [ht] at hP1
            obtain ⟨ad15, gd16, vad17⟩ := u9
            obtain ⟨hv18, hn19⟩ := hr9
            have hP : va_P D xcl (xMw cT aM ad15 rd gd16 vad17 o2.2.2.2.2 []) H1 := hP1
            have hD : va_D A (xMw cT aM ad15 rd gd16 vad17 o2.2.2.2.2 []) := hD1.weaken (fun k q _ h => hFc q.1 h)
            generalize H1 = H at hP hS hce ⊢
            have hE9 : ∀ p, p < xct st → vad17 p = vad p := fun p h => (hv18 p (Nat.lt_of_lt_of_le h hN)).trans (hE p h)
            have hE := hE9
            have hN : xct st ≤ xct o2.2.2.2.2 := Nat.le_trans hN hn19
            obtain rfl := Option.some.inj hf
            exact vx_out (E := "java/lang/ArithmeticException") (fun x h => (hne x h).elim) hlocks hce hcv hcl (fun t ht ha => ⟨(ad15, gd16, vad17), ⟨hE, hN⟩, ⟨rfl, by rw [ht]; exact hP, va_K.moved ha hK, hD⟩, hS.F ht⟩) hS.2.2 (Nat.le_refl _) (Nat.le_refl _)
          rw [if_neg hk12] at hf
          exact nomatch hf
      · rw [if_pos hc] at hf
        refine lv_lconst (v := 0) hx hb dM_length_30 (by decide) ?_
        refine lv_goto (tgt := 57) hx hb dM_length_31 (by decide) ?_
        obtain ⟨o2, hq3, hf⟩ := xbind hf
        have hl := lv_sub (l' := [(0, .ref aM)]) hl [0] rfl
        by_cases hk4 : o2.1 = 0
        · rw [if_pos hk4] at hf
          obtain ⟨hm5, hf⟩ := xmoE hf
          have hFc := xm_free hD hS hA
          refine va_callq (va_runV (C := "ValueBenchModel") (As := [.long 0]) (rest := []) ⟨hx, hb, hml, hown, htx⟩ (gM_number l hl9 D cT aK aV s.heap.size n aM ad rd gd vad st (0 : Int64) o2 hq3 hk4) ⟨callB_of 1 htx (xw_goodC kw_6_88) rfl rfl rfl (htx _ kw_1_5) (htx _ kw_6_85) ⟨by decide, by decide, by decide +kernel⟩ ⟨Nat.le_of_ble_eq_true rfl, Nat.le_of_ble_eq_true rfl⟩, (htx _ kw_6_87), (htx _ kp_M_number)⟩ ⟨xPre_blind, va_recv hK hP (ci := 5) rfl (q0 := 0) rfl, (fun U hU hW => ⟨rfl, xPre_of hZ hS hFc hP hD hK U hU hW⟩)⟩ rfl rfl hl.1 rfl (xm_room (Nat.le_of_ble_eq_true rfl)) dM_length_57 ⟨hm5.1, hm5.2⟩) hS (fun q _ h => hFc q h) hFc (fun r6 u9 t H1 locs ht hvm hr9 hB hz1 hk1 hS => ?_)
          obtain ⟨hP1, hK1, hD1⟩ := hB
          rw [ht] at hP1
          obtain ⟨ad7, gd8, vad9⟩ := u9
          obtain ⟨hr9, hv10, hn11⟩ := hr9
          have hP : va_P D xcl (xMw cT aM ad7 rd gd8 vad9 o2.2.2.2.2 []) H1 := hP1
          have hD : va_D A (xMw cT aM ad7 rd gd8 vad9 o2.2.2.2.2 []) := hD1.weaken (fun k q _ h => hFc q.1 h)
          generalize H1 = H at hP hS ⊢
          have hE9 : ∀ p, p < xct st → vad9 p = vad p := fun p h => (hv10 p (Nat.lt_of_lt_of_le h hN)).trans (hE p h)
          have hE := hE9
          have hN : xct st ≤ xct o2.2.2.2.2 := Nat.le_trans hN hn11
          rw [hr9]
          refine W.eq (g2 := F0 m 60 ls [xv vad9 o2.2.2.2.1]) (by first | rfl | (skip; rfl)) ?_
          obtain rfl := Option.some.inj hf
          exact absurd (show (0 : Nat) = 1 from hkd) (by decide)
        rw [if_neg hk4] at hf
        by_cases hk12 : o2.1 = 1
        · rw [if_pos hk12] at hf
          obtain ⟨hm13, hf⟩ := xmoE hf
          have hFc := xm_free hD hS hA
          refine xx_thr (vx_runV (C := "ValueBenchModel") (As := [.long 0]) (rest := []) ⟨hx, hb, hml, hown, htx⟩ (gM_number_1 l hl9 D cT aK aV s.heap.size n aM ad rd gd vad st (0 : Int64) o2 hq3 hk12) ⟨callB_of 1 htx (xw_goodC kw_6_88) rfl rfl rfl (htx _ kw_1_5) (htx _ kw_6_85) ⟨by decide, by decide, by decide +kernel⟩ ⟨Nat.le_of_ble_eq_true rfl, Nat.le_of_ble_eq_true rfl⟩, (htx _ kw_6_87), (htx _ kp_M_number)⟩ ⟨xPre_blind, va_recv hK hP (ci := 5) rfl (q0 := 0) rfl, (fun U hU hW => ⟨rfl, xPre_of hZ hS hFc hP hD hK U hU hW⟩)⟩ rfl rfl hl.1 rfl (xm_room (Nat.le_of_ble_eq_true rfl)) dM_length_57 ⟨hm13.1, hm13.2⟩) hS hFc (fun q _ h => hFc q h) (fun E ce q9 u9 t H1 locs ht hvm hr9 hB hz1 hk1 hS hce hcv hcl => ?_)
          obtain ⟨rfl, hP1, hK1, hD1⟩ := hB
          rw [ht] at hP1
          obtain ⟨ad15, gd16, vad17⟩ := u9
          obtain ⟨hv18, hn19⟩ := hr9
          have hP : va_P D xcl (xMw cT aM ad15 rd gd16 vad17 o2.2.2.2.2 []) H1 := hP1
          have hD : va_D A (xMw cT aM ad15 rd gd16 vad17 o2.2.2.2.2 []) := hD1.weaken (fun k q _ h => hFc q.1 h)
          generalize H1 = H at hP hS hce ⊢
          have hE9 : ∀ p, p < xct st → vad17 p = vad p := fun p h => (hv18 p (Nat.lt_of_lt_of_le h hN)).trans (hE p h)
          have hE := hE9
          have hN : xct st ≤ xct o2.2.2.2.2 := Nat.le_trans hN hn19
          obtain rfl := Option.some.inj hf
          exact vx_out (E := "java/lang/ArithmeticException") (fun x h => (hne x h).elim) hlocks hce hcv hcl (fun t ht ha => ⟨(ad15, gd16, vad17), ⟨hE, hN⟩, ⟨rfl, by rw [ht]; exact hP, va_K.moved ha hK, hD⟩, hS.F ht⟩) hS.2.2 (Nat.le_refl _) (Nat.le_refl _)
        rw [if_neg hk12] at hf
        exact nomatch hf
    · rw [if_pos hc] at hf
      refine lv_aload_n hx hb dM_length_16 rfl (lv_at hl 0 rfl) ?_
      refine lv_iconst (v := 1) hx hb dM_length_17 (by decide) ?_
      obtain ⟨o2, hq3, hf⟩ := xbind hf
      have hl := lv_sub (l' := [(0, .ref aM)]) hl [0] rfl
      by_cases hk4 : o2.1 = 1
      · rw [if_pos hk4] at hf
        obtain ⟨hm5, hf⟩ := xmoE hf
        have hFc := xm_free hD hS hA
        refine xx_thr (vx_runV (C := "ValueBenchModel") (As := [.int 1]) (rest := []) ⟨hx, hb, hml, hown, htx⟩ (gM_refuse_1 l hl9 D cT aK aV s.heap.size n aM ad rd gd vad st (1 : Int32) o2 hq3 hk4) ⟨callB_of 1 htx (xw_goodC kw_6_93) rfl rfl rfl (htx _ kw_1_5) (htx _ kw_6_90) ⟨by decide, by decide, by decide +kernel⟩ ⟨Nat.le_of_ble_eq_true rfl, Nat.le_of_ble_eq_true rfl⟩, (htx _ kw_6_92), (htx _ kp_M_refuse)⟩ ⟨xPre_blind, va_recv hK hP (ci := 5) rfl (q0 := 0) rfl, (fun U hU hW => ⟨rfl, xPre_of hZ hS hFc hP hD hK U hU hW⟩)⟩ rfl rfl hl.1 rfl (xm_room (Nat.le_of_ble_eq_true rfl)) dM_length_18 ⟨hm5.1, hm5.2⟩) hS hFc (fun q _ h => hFc q h) (fun E ce q9 u9 t H1 locs ht hvm hr9 hB hz1 hk1 hS hce hcv hcl => ?_)
        obtain ⟨rfl, hP1, hK1, hD1⟩ := hB
        rw [ht] at hP1
        obtain ⟨ad7, gd8, vad9⟩ := u9
        obtain ⟨hv10, hn11⟩ := hr9
        have hP : va_P D xcl (xMw cT aM ad7 rd gd8 vad9 o2.2.2.2.2 []) H1 := hP1
        have hD : va_D A (xMw cT aM ad7 rd gd8 vad9 o2.2.2.2.2 []) := hD1.weaken (fun k q _ h => hFc q.1 h)
        generalize H1 = H at hP hS hce ⊢
        have hE9 : ∀ p, p < xct st → vad9 p = vad p := fun p h => (hv10 p (Nat.lt_of_lt_of_le h hN)).trans (hE p h)
        have hE := hE9
        have hN : xct st ≤ xct o2.2.2.2.2 := Nat.le_trans hN hn11
        obtain rfl := Option.some.inj hf
        exact vx_out (E := "java/lang/ArithmeticException") (fun x h => (hne x h).elim) hlocks hce hcv hcl (fun t ht ha => ⟨(ad7, gd8, vad9), ⟨hE, hN⟩, ⟨rfl, by rw [ht]; exact hP, va_K.moved ha hK, hD⟩, hS.F ht⟩) hS.2.2 (Nat.le_refl _) (Nat.le_refl _)
      rw [if_neg hk4] at hf
      exact nomatch hf
set_option maxHeartbeats 400000000 in
set_option maxRecDepth 100000 in
theorem gM_keys (l : Launch) (hl9 : l.stackTraces = false) (D : va_G) (cT : Nat → ClassId) (aK aV : Nat → Nat) (sz d n : Nat) (aM : Nat) (ad rd gd vad : Nat → Nat) (st : xS) (c0 : Nat) (x1 : Int32) (out : Nat × Nat × Nat × Nat × xS) (hf : fM_keys d n st c0 x1 = some out) (hkd : out.1 = 0) : xMet l yM_keys wyM_keys (16 * d + 9) out.2.1 out.2.2.1 (400 * d + 176) D cT aK aV sz [.ref aM, xv vad c0, .int x1] (xMw cT aM ad rd gd vad st []) (fun A => va_Qq (fun (r : Option Nat) (u : xU) => r = xca u.2.2 out.2.2.2.1 ∧ xE vad st out.2.2.2.2 u) (fun u t => xB D xcl cT A (xMw cT aM u.1 rd u.2.1 u.2.2 out.2.2.2.2 []) t) A) := by
  refine Met.ofW (cc := prog_13_method_25_code) (maxL := 5) (ret := (some (.object "ValueBenchModel$V"))) (by decide) rfl ?_
  intro p e s m args below meth c s₁ B hml hv
  obtain ⟨rfl, hsz, hZ, hP, hK, hD0⟩ := hv
  have hx := B.exec
  have hb := B.bytes
  have hr := B.returns
  have hts := atoms_spec (ws := wyM_keys) B.pre
  have htx := fun w h => hts w (List.mem_cons_of_mem _ h)
  have hown : s.vm.findClass "ValueBenchModel" = some m.cls := findClass_of_methodNamed B.named
  have hlocks := B.notSynchronized
  subst hsz
  have hD := hD0.self (sz := s.heap.size)
  generalize hAe : va_A (xMw cT aM ad rd gd vad st []) s.heap.size = A at hD hZ ⊢
  have hA : ∀ q : Nat, s.heap.size ≤ q → A q := fun q h => by rw [← hAe]; exact Or.inr h
  have hS : va_S A s.heap s.heap [] := va_S.rf
  have hl := lv_entry ([.ref aM, xv vad c0, .int x1]) (n := 5) (by simp [lg_sl, xvcat, xrscat, xcI, xcL, xcR, xcN])
  rw [show lv_args 0 [.ref aM, xv vad c0, .int x1] = [(0, .ref aM), (1, xv vad c0), (2, .int x1)] from by simp [lv_args, xvcat, xrscat, xcI, xcL, xcR, xcN]] at hl
  rw [lg_entry_eq]
  generalize (lg_sl ([.ref aM, xv vad c0, .int x1]) ++ List.replicate (5 - (lg_sl ([.ref aM, xv vad c0, .int x1])).length) Slot.unset).toArray = ls at hl ⊢
  have hl : lv_has ls 5 [(0, .ref aM), (1, xv vad c0), (2, .int x1)] := hl
  have hE : ∀ p, p < xct st → vad p = vad p := fun _ _ => rfl
  have hN : xct st ≤ xct st := Nat.le_refl _
  unfold fM_keys at hf
  refine xloopM (σ := Nat × Int32 × Int32 × Nat × Int32 × xS × Nat × Nat) (fun n x H locs ls => (∃ (adL gdL vadL : Nat → Nat), x.1 = 1 ∧ fM_keys_b d n x.1 x.2.1 x.2.2.1 x.2.2.2.1 x.2.2.2.2.1 x.2.2.2.2.2.1 x.2.2.2.2.2.2.1 x.2.2.2.2.2.2.2 = some out ∧ va_P D xcl (xMw cT aM adL rd gdL vadL x.2.2.2.2.2.1 []) H ∧ va_D A (xMw cT aM adL rd gdL vadL x.2.2.2.2.2.1 []) ∧ va_S A s.heap H locs ∧ lv_has ls 5 [(4, .int x.2.1), (3, .int x.2.2.1), (0, .ref aM), (1, xv vadL x.2.2.2.1), (2, .int x.2.2.2.2.1)] ∧ (∀ p, p < xct st → vadL p = vad p) ∧ xct st ≤ xct x.2.2.2.2.2.1)) (fun x => 8) (fun x => x.2.2.2.2.2.2.1) (fun x => x.2.2.2.2.2.2.2) (fun x H locs ls h => by (obtain ⟨_, _, _, h⟩ := h; exact absurd h.2.1 (by rw [fM_keys_b]; exact fun h => nomatch h))) (fun n ih x H locs ls hv => ?_) (fun key => ?_)
  · obtain ⟨lb, y4, y3, y1, y2, ws9, wc, wn⟩ := x
    rcases hv with ⟨adL, gdL, vadL, hj, hf, hP, hD, hS, hl, hE, hN⟩
    subst hj
    have hf : fM_keys_b d (n + 1) 1 y4 y3 y1 y2 ws9 wc wn = some out := hf
    rw [fM_keys_b] at hf
    obtain ⟨hP, hD⟩ : xPD D xcl A (xMw cT aM adL rd gdL vadL ws9 []) H := ⟨hP, hD⟩
    have hl : lv_has ls 5 [(4, .int y4), (3, .int y3), (0, .ref aM), (1, xv vadL y1), (2, .int y2)] := hl
    refine W.eq (g2 := F0 m 8 ls []) rfl ?_
    show W p l e _ s m _ below meth c H locs wc wn _ _
    obtain ⟨hm0, hf⟩ := xmoE hf
    refine lv_iload hx hb dM_keys_8 (lv_at hl 0 rfl) ?_
    refine xm_aload_n hx hb (xvor _ _) dM_keys_10 rfl (lv_at hl 3 rfl) ?_
    obtain ⟨hg1, hf⟩ := xifn hf
    refine xm_vget (v := .int ((xpi ws9 3) (y1 - 1))) hx hb htx hown hK hP 3 (by decide) hg1 rfl ((hZ.1 (103, "count", "I") (List.mem_of_getElem? (i := 3) rfl)).use rfl) rfl dM_keys_11 ?_
    refine lv_icmp_ge (tgt := 35) hx hb dM_keys_14 (by decide) (fun hc => ?_) (fun hc => ?_)
    · rw [if_pos hc] at hf
      refine lv_aload_n hx hb dM_keys_35 rfl (lv_at hl 2 rfl) ?_
      refine lv_iconst (v := 5) hx hb dM_keys_36 (by decide) ?_
      refine lv_iload_n hx hb dM_keys_37 rfl (lv_at hl 1 rfl) ?_
      obtain ⟨o2, hq3, hf⟩ := xbind hf
      have hl := lv_sub (l' := [(4, .int y4), (3, .int y3), (0, .ref aM), (2, .int y2)]) hl [0, 1, 2, 4] rfl
      by_cases hk4 : o2.1 = 0
      · rw [if_pos hk4] at hf
        obtain ⟨hm5, hf⟩ := xmoE hf
        have hFc := xm_free hD hS hA
        refine va_callq (va_runV (C := "ValueBenchModel") (As := [.int 5, .int y3]) (rest := []) ⟨hx, hb, hml, hown, htx⟩ (gM_whole l hl9 D cT aK aV H.size n aM adL rd gdL vadL ws9 (5 : Int32) y3 o2 hq3 hk4) ⟨callB_of 2 htx (xw_goodC kw_6_106) rfl rfl rfl (htx _ kw_1_5) (htx _ kw_6_103) ⟨by decide, by decide, by decide +kernel⟩ ⟨Nat.le_of_ble_eq_true rfl, Nat.le_of_ble_eq_true rfl⟩, (htx _ kw_6_105), (htx _ kp_M_whole)⟩ ⟨xPre_blind, va_recv hK hP (ci := 5) rfl (q0 := 0) rfl, (fun U hU hW => ⟨rfl, xPre_of hZ hS hFc hP hD hK U hU hW⟩)⟩ rfl rfl hl.1 rfl (xm_room (Nat.le_of_ble_eq_true rfl)) dM_keys_38 ⟨hm5.1, hm5.2⟩) hS (fun q _ h => hFc q h) hFc (fun r6 u9 t H1 locs ht hvm hr9 hB hz1 hk1 hS => ?_)
        obtain ⟨hP1, hK1, hD1⟩ := hB
        rw [ht] at hP1
        obtain ⟨ad7, gd8, vad9⟩ := u9
        obtain ⟨hr9, hv10, hn11⟩ := hr9
        have hP : va_P D xcl (xMw cT aM ad7 rd gd8 vad9 o2.2.2.2.2 []) H1 := hP1
        have hD : va_D A (xMw cT aM ad7 rd gd8 vad9 o2.2.2.2.2 []) := hD1.weaken (fun k q _ h => hFc q.1 h)
        generalize H1 = H at hP hS ⊢
        have hE9 : ∀ p, p < xct st → vad9 p = vad p := fun p h => (hv10 p (Nat.lt_of_lt_of_le h hN)).trans (hE p h)
        have hE := hE9
        have hN : xct st ≤ xct o2.2.2.2.2 := Nat.le_trans hN hn11
        rw [hr9]
        refine W.eq (g2 := F0 m 41 ls [xv vad9 o2.2.2.2.1]) (by first | rfl | (skip; rfl)) ?_
        refine xm_astore (lv' := [(4, xv vad9 o2.2.2.2.1), (3, .int y3), (0, .ref aM), (2, .int y2)]) hx hb (xvor _ _) dM_keys_41 hl (by decide) rfl (fun ls hl => ?_)
        refine lv_iload_n hx hb dM_keys_43 rfl (lv_at hl 3 rfl) ?_
        refine lv_if_eq (tgt := 59) hx hb dM_keys_44 (by decide) (fun hc => ?_) (fun hc => ?_)
        · rw [if_pos hc] at hf
          refine xm_aload hx hb (xvor _ _) dM_keys_59 (lv_at hl 0 rfl) ?_
          obtain rfl := Option.some.inj hf
          exact W.aret (v := xv vad9 o2.2.2.2.1) hx hb hr (Or.inl ⟨_, rfl⟩) (xvor _ _) (fun t ht hW => ⟨⟨xca vad9 o2.2.2.2.1, (ad7, gd8, vad9), rfl, ⟨rfl, hE, hN⟩, by rw [ht]; exact hP, va_K.moved hW.alike hK, hD⟩, hS.F ht⟩) hS.2.2 dM_keys_61
        · rw [if_neg hc] at hf
          refine lv_aload_n hx hb dM_keys_47 rfl (lv_at hl 2 rfl) ?_
          refine xm_aload hx hb (xvor _ _) dM_keys_48 (lv_at hl 0 rfl) ?_
          refine xm_aload hx hb (xvor _ _) dM_keys_50 (lv_at hl 0 rfl) ?_
          refine lv_iconst (v := 0) hx hb dM_keys_52 (by decide) ?_
          obtain ⟨o12, hq13, hf⟩ := xbind hf
          have hl := lv_sub (l' := [(3, .int y3), (0, .ref aM), (2, .int y2)]) hl [1, 2, 3] rfl
          by_cases hk14 : o12.1 = 0
          · rw [if_pos hk14] at hf
            obtain ⟨hm15, hf⟩ := xmoE hf
            have hFc := xm_free hD hS hA
            refine va_callq (va_runV (C := "ValueBenchModel") (As := [xv vad9 o2.2.2.2.1, xv vad9 o2.2.2.2.1, .int 0]) (rest := []) ⟨hx, hb, hml, hown, htx⟩ (gM_sort1 l hl9 D cT aK aV H.size d n aM ad7 rd gd8 vad9 o2.2.2.2.2 o2.2.2.2.1 o2.2.2.2.1 (0 : Int32) o12 hq13 hk14) ⟨callB_of 3 htx (xw_goodC kw_7_21) rfl rfl rfl (htx _ kw_1_5) (htx _ kw_7_18) ⟨by decide, by decide, by decide +kernel⟩ ⟨(by show (16 * d + 8) + 1 ≤ 16 * d + 9; omega), (by show 8 + (10 + 11) + (400 * d + 147) ≤ 400 * d + 176; omega)⟩, (htx _ kw_7_20), (htx _ kp_M_sort1)⟩ ⟨xPre_blind, va_recv hK hP (ci := 5) rfl (q0 := 0) rfl, (fun U hU hW => ⟨rfl, xPre_of hZ hS hFc hP hD hK U hU hW⟩)⟩ rfl rfl hl.1 rfl (xm_room (Nat.le_of_ble_eq_true rfl)) dM_keys_53 ⟨hm15.1, hm15.2⟩) hS (fun q _ h => hFc q h) hFc (fun r16 u9 t H1 locs ht hvm hr9 hB hz1 hk1 hS => ?_)
            obtain ⟨hP1, hK1, hD1⟩ := hB
            rw [ht] at hP1
            obtain ⟨ad17, gd18, vad19⟩ := u9
            obtain ⟨hr9, hv20, hn21⟩ := hr9
            have hP : va_P D xcl (xMw cT aM ad17 rd gd18 vad19 o12.2.2.2.2 []) H1 := hP1
            have hD : va_D A (xMw cT aM ad17 rd gd18 vad19 o12.2.2.2.2 []) := hD1.weaken (fun k q _ h => hFc q.1 h)
            generalize H1 = H at hP hS ⊢
            have hE9 : ∀ p, p < xct st → vad19 p = vad p := fun p h => (hv20 p (Nat.lt_of_lt_of_le h hN)).trans (hE p h)
            have hE := hE9
            have hN : xct st ≤ xct o12.2.2.2.2 := Nat.le_trans hN hn21
            rw [hr9]
            refine W.eq (g2 := F0 m 56 ls [xv vad19 o12.2.2.2.1]) (by first | rfl | (skip; rfl)) ?_
            refine lv_goto (tgt := 61) hx hb dM_keys_56 (by decide) ?_
            obtain rfl := Option.some.inj hf
            exact W.aret (v := xv vad19 o12.2.2.2.1) hx hb hr (Or.inl ⟨_, rfl⟩) (xvor _ _) (fun t ht hW => ⟨⟨xca vad19 o12.2.2.2.1, (ad17, gd18, vad19), rfl, ⟨rfl, hE, hN⟩, by rw [ht]; exact hP, va_K.moved hW.alike hK, hD⟩, hS.F ht⟩) hS.2.2 dM_keys_61
          rw [if_neg hk14] at hf
          by_cases hk22 : o12.1 = 1
          · rw [if_pos hk22] at hf
            obtain ⟨hm23, hf⟩ := xmoE hf
            obtain rfl := Option.some.inj hf
            exact absurd (show (1 : Nat) = 0 from hkd) (by decide)
          rw [if_neg hk22] at hf
          exact nomatch hf
      rw [if_neg hk4] at hf
      by_cases hk12 : o2.1 = 1
      · rw [if_pos hk12] at hf
        obtain ⟨hm13, hf⟩ := xmoE hf
        obtain rfl := Option.some.inj hf
        exact absurd (show (1 : Nat) = 0 from hkd) (by decide)
      rw [if_neg hk12] at hf
      exact nomatch hf
    · rw [if_neg hc] at hf
      refine lv_aload_n hx hb dM_keys_17 rfl (lv_at hl 2 rfl) ?_
      refine lv_null hx hb dM_keys_18 ?_
      refine lv_aload_n hx hb dM_keys_19 rfl (lv_at hl 2 rfl) ?_
      refine xm_aload_n hx hb (xvor _ _) dM_keys_20 rfl (lv_at hl 3 rfl) ?_
      refine lv_iload hx hb dM_keys_21 (lv_at hl 0 rfl) ?_
      obtain ⟨o2, hq3, hf⟩ := xbind hf
      have hFc := xm_free hD hS hA
      refine va_callq (va_runV (C := "ValueBenchModel") (As := [xv vadL y1, .int y4]) (rest := [.null, .ref aM]) ⟨hx, hb, hml, hown, htx⟩ (gM_name l hl9 D cT aK aV H.size n aM adL rd gdL vadL ws9 y1 y4 o2 hq3) ⟨callB_of 2 htx (xw_goodC kw_6_154) rfl rfl rfl (htx _ kw_1_5) (htx _ kw_6_151) ⟨by decide, by decide, by decide +kernel⟩ ⟨Nat.le_of_ble_eq_true rfl, Nat.le_of_ble_eq_true rfl⟩, (htx _ kw_6_153), (htx _ kp_M_name)⟩ ⟨xPre_blind, va_recv hK hP (ci := 5) rfl (q0 := 0) rfl, (fun U hU hW => ⟨rfl, xPre_of hZ hS hFc hP hD hK U hU hW⟩)⟩ rfl rfl hl.1 rfl (xm_room (Nat.le_of_ble_eq_true rfl)) dM_keys_23 ⟨hm0.1, hm0.2⟩) hS (fun q _ h => hFc q h) hFc (fun r4 u9 t H1 locs ht hvm hr9 hB hz1 hk1 hS => ?_)
      obtain ⟨hP1, hK1, hD1⟩ := hB
      rw [ht] at hP1
      have hP : va_P D xcl (xMw cT aM adL rd gdL vadL ws9 []) H1 := hP1
      have hD : va_D A (xMw cT aM adL rd gdL vadL ws9 []) := hD1.weaken (fun k q _ h => hFc q.1 h)
      generalize H1 = H at hP hS ⊢
      rw [hr9]
      refine W.eq (g2 := F0 m 26 ls [xv vadL o2, .null, .ref aM]) (by first | rfl | (skip; rfl)) ?_
      obtain ⟨o5, hq6, hf⟩ := xbind hf
      obtain ⟨hm7, hf⟩ := xmoE hf
      have hFc := xm_free hD hS hA
      refine va_callv (va_runV (C := "ValueBenchModel") (As := [.null, xv vadL o2]) (rest := []) ⟨hx, hb, hml, hown, htx⟩ (gM_wait l hl9 D cT aK aV H.size n aM adL rd gdL vadL ws9 0 o2 o5 hq6) ⟨callB_of 2 htx (xw_goodC kw_6_112) rfl rfl rfl (htx _ kw_1_5) (htx _ kw_6_109) ⟨by decide, by decide, by decide +kernel⟩ ⟨Nat.le_of_ble_eq_true rfl, Nat.le_of_ble_eq_true rfl⟩, (htx _ kw_6_111), (htx _ kp_M_wait)⟩ ⟨xPre_blind, va_recv hK hP (ci := 5) rfl (q0 := 0) rfl, (fun U hU hW => ⟨rfl, xPre_of hZ hS hFc hP hD hK U hU hW⟩)⟩ rfl rfl hl.1 rfl (xm_room (Nat.le_of_ble_eq_true rfl)) dM_keys_26 ⟨hm7.1, hm7.2⟩) hS (fun q _ h => hFc q h) hFc (fun u9 t H1 locs ht hvm hr9 hB hz1 hk1 hS => ?_)
      obtain ⟨hP1, hK1, hD1⟩ := hB
      rw [ht] at hP1
      obtain ⟨ad9, gd10, vad11⟩ := u9
      obtain ⟨hv12, hn13⟩ := hr9
      have hP : va_P D xcl (xMw cT aM ad9 rd gd10 vad11 o5.2.2 []) H1 := hP1
      have hD : va_D A (xMw cT aM ad9 rd gd10 vad11 o5.2.2 []) := hD1.weaken (fun k q _ h => hFc q.1 h)
      generalize H1 = H at hP hS ⊢
      have hE9 : ∀ p, p < xct st → vad11 p = vad p := fun p h => (hv12 p (Nat.lt_of_lt_of_le h hN)).trans (hE p h)
      have hE := hE9
      have hN : xct st ≤ xct o5.2.2 := Nat.le_trans hN hn13
      have ev14 : xv vadL y1 = xv vad11 y1 := xvE hv12 (fun h => hg1 (Or.inr h))
      have hl : lv_has ls 5 [(4, .int y4), (3, .int y3), (0, .ref aM), (1, xv vad11 y1), (2, .int y2)] := by first | exact hl | ((try (rw [← ev14])); exact hl)
      refine W.eq (g2 := F0 m 29 ls []) (by first | rfl | ((try (rw [ev14])); rfl)) ?_
      refine lv_iinc (v := (y4 + 1)) (lv' := [(4, .int (y4 + 1)), (3, .int y3), (0, .ref aM), (1, xv vad11 y1), (2, .int y2)]) hx hb dM_keys_29 hl (k := 0) rfl rfl (by decide) rfl (fun ls hl => ?_)
      refine lv_goto (tgt := 8) hx hb dM_keys_32 (by decide) ?_
      exact ih (1, (y4 + 1), y3, y1, y2, o5.2.2, (wc + o5.1), (wn + o5.2.1)) _ _ ls (⟨ad9, gd10, vad11, rfl, hf, hP, hD, hS, lv_sub hl [0, 1, 2, 3, 4] rfl, hE, hN⟩)
  refine lv_aload_n hx hb dM_keys_0 rfl (lv_at hl 0 rfl) ?_
  refine xm_get (v := .int (xsi st 12)) hx hb htx hown hK hP 12 (by decide) rfl (htx _ kw_5_99) rfl dM_keys_1 ?_
  refine lv_istore_n (lv' := [(3, .int (xsi st 12)), (0, .ref aM), (1, xv vad c0), (2, .int x1)]) hx hb dM_keys_4 rfl hl (by decide) rfl (fun ls hl => ?_)
  refine lv_iconst (v := 0) hx hb dM_keys_5 (by decide) ?_
  refine lv_istore (lv' := [(4, .int 0), (3, .int (xsi st 12)), (0, .ref aM), (1, xv vad c0), (2, .int x1)]) hx hb dM_keys_6 hl (by decide) rfl (fun ls hl => ?_)
  exact key n (1, (0 : Int32), (xsi st 12), c0, x1, st, 0, 0) _ _ ls (⟨ad, gd, vad, rfl, hf, hP, hD, hS, lv_sub hl [0, 1, 2, 3, 4] rfl, hE, hN⟩)
set_option maxHeartbeats 400000000 in
set_option maxRecDepth 100000 in
theorem gM_keys_1 (l : Launch) (hl9 : l.stackTraces = false) (D : va_G) (cT : Nat → ClassId) (aK aV : Nat → Nat) (sz d n : Nat) (aM : Nat) (ad rd gd vad : Nat → Nat) (st : xS) (c0 : Nat) (x1 : Int32) (out : Nat × Nat × Nat × Nat × xS) (hf : fM_keys d n st c0 x1 = some out) (hkd : out.1 = 1) : xMetY l yM_keys wyM_keys (16 * d + 9) out.2.1 out.2.2.1 (400 * d + 176) D cT aK aV sz [.ref aM, xv vad c0, .int x1] (xMw cT aM ad rd gd vad st []) "java/lang/IndexOutOfBoundsException" (fun u => xE vad st out.2.2.2.2 u) (fun A u t => xB D xcl cT A (xMw cT aM u.1 rd u.2.1 u.2.2 out.2.2.2.2 []) t) := by
  refine vx_ofW (cc := prog_13_method_25_code) (maxL := 5) (ret := (some (.object "ValueBenchModel$V"))) (by decide) rfl ?_
  intro p e s m args below meth c s₁ B hml hne hv
  obtain ⟨rfl, hsz, hZ, hP, hK, hD0⟩ := hv
  have hx := B.exec
  have hb := B.bytes
  have hr := B.returns
  have hts := atoms_spec (ws := wyM_keys) B.pre
  have htx := fun w h => hts w (List.mem_cons_of_mem _ h)
  have hown : s.vm.findClass "ValueBenchModel" = some m.cls := findClass_of_methodNamed B.named
  have hlocks := B.notSynchronized
  subst hsz
  have hD := hD0.self (sz := s.heap.size)
  generalize hAe : va_A (xMw cT aM ad rd gd vad st []) s.heap.size = A at hD hZ ⊢
  have hA : ∀ q : Nat, s.heap.size ≤ q → A q := fun q h => by rw [← hAe]; exact Or.inr h
  have hS : va_S A s.heap s.heap [] := va_S.rf
  have hl := lv_entry ([.ref aM, xv vad c0, .int x1]) (n := 5) (by simp [lg_sl, xvcat, xrscat, xcI, xcL, xcR, xcN])
  rw [show lv_args 0 [.ref aM, xv vad c0, .int x1] = [(0, .ref aM), (1, xv vad c0), (2, .int x1)] from by simp [lv_args, xvcat, xrscat, xcI, xcL, xcR, xcN]] at hl
  rw [lg_entry_eq]
  generalize (lg_sl ([.ref aM, xv vad c0, .int x1]) ++ List.replicate (5 - (lg_sl ([.ref aM, xv vad c0, .int x1])).length) Slot.unset).toArray = ls at hl ⊢
  have hl : lv_has ls 5 [(0, .ref aM), (1, xv vad c0), (2, .int x1)] := hl
  have hE : ∀ p, p < xct st → vad p = vad p := fun _ _ => rfl
  have hN : xct st ≤ xct st := Nat.le_refl _
  unfold fM_keys at hf
  refine xloopM (σ := Nat × Int32 × Int32 × Nat × Int32 × xS × Nat × Nat) (fun n x H locs ls => (∃ (adL gdL vadL : Nat → Nat), x.1 = 1 ∧ fM_keys_b d n x.1 x.2.1 x.2.2.1 x.2.2.2.1 x.2.2.2.2.1 x.2.2.2.2.2.1 x.2.2.2.2.2.2.1 x.2.2.2.2.2.2.2 = some out ∧ va_P D xcl (xMw cT aM adL rd gdL vadL x.2.2.2.2.2.1 []) H ∧ va_D A (xMw cT aM adL rd gdL vadL x.2.2.2.2.2.1 []) ∧ va_S A s.heap H locs ∧ lv_has ls 5 [(4, .int x.2.1), (3, .int x.2.2.1), (0, .ref aM), (1, xv vadL x.2.2.2.1), (2, .int x.2.2.2.2.1)] ∧ (∀ p, p < xct st → vadL p = vad p) ∧ xct st ≤ xct x.2.2.2.2.2.1)) (fun x => 8) (fun x => x.2.2.2.2.2.2.1) (fun x => x.2.2.2.2.2.2.2) (fun x H locs ls h => by (obtain ⟨_, _, _, h⟩ := h; exact absurd h.2.1 (by rw [fM_keys_b]; exact fun h => nomatch h))) (fun n ih x H locs ls hv => ?_) (fun key => ?_)
  · obtain ⟨lb, y4, y3, y1, y2, ws9, wc, wn⟩ := x
    rcases hv with ⟨adL, gdL, vadL, hj, hf, hP, hD, hS, hl, hE, hN⟩
    subst hj
    have hf : fM_keys_b d (n + 1) 1 y4 y3 y1 y2 ws9 wc wn = some out := hf
    rw [fM_keys_b] at hf
    obtain ⟨hP, hD⟩ : xPD D xcl A (xMw cT aM adL rd gdL vadL ws9 []) H := ⟨hP, hD⟩
    have hl : lv_has ls 5 [(4, .int y4), (3, .int y3), (0, .ref aM), (1, xv vadL y1), (2, .int y2)] := hl
    refine W.eq (g2 := F0 m 8 ls []) rfl ?_
    show W p l e _ s m _ below meth c H locs wc wn _ _
    obtain ⟨hm0, hf⟩ := xmoE hf
    refine lv_iload hx hb dM_keys_8 (lv_at hl 0 rfl) ?_
    refine xm_aload_n hx hb (xvor _ _) dM_keys_10 rfl (lv_at hl 3 rfl) ?_
    obtain ⟨hg1, hf⟩ := xifn hf
    refine xm_vget (v := .int ((xpi ws9 3) (y1 - 1))) hx hb htx hown hK hP 3 (by decide) hg1 rfl ((hZ.1 (103, "count", "I") (List.mem_of_getElem? (i := 3) rfl)).use rfl) rfl dM_keys_11 ?_
    refine lv_icmp_ge (tgt := 35) hx hb dM_keys_14 (by decide) (fun hc => ?_) (fun hc => ?_)
    · rw [if_pos hc] at hf
      refine lv_aload_n hx hb dM_keys_35 rfl (lv_at hl 2 rfl) ?_
      refine lv_iconst (v := 5) hx hb dM_keys_36 (by decide) ?_
      refine lv_iload_n hx hb dM_keys_37 rfl (lv_at hl 1 rfl) ?_
      obtain ⟨o2, hq3, hf⟩ := xbind hf
      have hl := lv_sub (l' := [(4, .int y4), (3, .int y3), (0, .ref aM), (2, .int y2)]) hl [0, 1, 2, 4] rfl
      by_cases hk4 : o2.1 = 0
      · rw [if_pos hk4] at hf
        obtain ⟨hm5, hf⟩ := xmoE hf
        have hFc := xm_free hD hS hA
        refine va_callq (va_runV (C := "ValueBenchModel") (As := [.int 5, .int y3]) (rest := []) ⟨hx, hb, hml, hown, htx⟩ (gM_whole l hl9 D cT aK aV H.size n aM adL rd gdL vadL ws9 (5 : Int32) y3 o2 hq3 hk4) ⟨callB_of 2 htx (xw_goodC kw_6_106) rfl rfl rfl (htx _ kw_1_5) (htx _ kw_6_103) ⟨by decide, by decide, by decide +kernel⟩ ⟨Nat.le_of_ble_eq_true rfl, Nat.le_of_ble_eq_true rfl⟩, (htx _ kw_6_105), (htx _ kp_M_whole)⟩ ⟨xPre_blind, va_recv hK hP (ci := 5) rfl (q0 := 0) rfl, (fun U hU hW => ⟨rfl, xPre_of hZ hS hFc hP hD hK U hU hW⟩)⟩ rfl rfl hl.1 rfl (xm_room (Nat.le_of_ble_eq_true rfl)) dM_keys_38 ⟨hm5.1, hm5.2⟩) hS (fun q _ h => hFc q h) hFc (fun r6 u9 t H1 locs ht hvm hr9 hB hz1 hk1 hS => ?_)
        obtain ⟨hP1, hK1, hD1⟩ := hB
        rw [ht] at hP1
        obtain ⟨ad7, gd8, vad9⟩ := u9
        obtain ⟨hr9, hv10, hn11⟩ := hr9
        have hP : va_P D xcl (xMw cT aM ad7 rd gd8 vad9 o2.2.2.2.2 []) H1 := hP1
        have hD : va_D A (xMw cT aM ad7 rd gd8 vad9 o2.2.2.2.2 []) := hD1.weaken (fun k q _ h => hFc q.1 h)
        generalize H1 = H at hP hS ⊢
        have hE9 : ∀ p, p < xct st → vad9 p = vad p := fun p h => (hv10 p (Nat.lt_of_lt_of_le h hN)).trans (hE p h)
        have hE := hE9
        have hN : xct st ≤ xct o2.2.2.2.2 := Nat.le_trans hN hn11
        rw [hr9]
        refine W.eq (g2 := F0 m 41 ls [xv vad9 o2.2.2.2.1]) (by first | rfl | (skip; rfl)) ?_
        refine xm_astore (lv' := [(4, xv vad9 o2.2.2.2.1), (3, .int y3), (0, .ref aM), (2, .int y2)]) hx hb (xvor _ _) dM_keys_41 hl (by decide) rfl (fun ls hl => ?_)
        refine lv_iload_n hx hb dM_keys_43 rfl (lv_at hl 3 rfl) ?_
        refine lv_if_eq (tgt := 59) hx hb dM_keys_44 (by decide) (fun hc => ?_) (fun hc => ?_)
        · rw [if_pos hc] at hf
          refine xm_aload hx hb (xvor _ _) dM_keys_59 (lv_at hl 0 rfl) ?_
          obtain rfl := Option.some.inj hf
          exact absurd (show (0 : Nat) = 1 from hkd) (by decide)
        · rw [if_neg hc] at hf
          refine lv_aload_n hx hb dM_keys_47 rfl (lv_at hl 2 rfl) ?_
          refine xm_aload hx hb (xvor _ _) dM_keys_48 (lv_at hl 0 rfl) ?_
          refine xm_aload hx hb (xvor _ _) dM_keys_50 (lv_at hl 0 rfl) ?_
          refine lv_iconst (v := 0) hx hb dM_keys_52 (by decide) ?_
          obtain ⟨o12, hq13, hf⟩ := xbind hf
          have hl := lv_sub (l' := [(3, .int y3), (0, .ref aM), (2, .int y2)]) hl [1, 2, 3] rfl
          by_cases hk14 : o12.1 = 0
          · rw [if_pos hk14] at hf
            obtain ⟨hm15, hf⟩ := xmoE hf
            have hFc := xm_free hD hS hA
            refine va_callq (va_runV (C := "ValueBenchModel") (As := [xv vad9 o2.2.2.2.1, xv vad9 o2.2.2.2.1, .int 0]) (rest := []) ⟨hx, hb, hml, hown, htx⟩ (gM_sort1 l hl9 D cT aK aV H.size d n aM ad7 rd gd8 vad9 o2.2.2.2.2 o2.2.2.2.1 o2.2.2.2.1 (0 : Int32) o12 hq13 hk14) ⟨callB_of 3 htx (xw_goodC kw_7_21) rfl rfl rfl (htx _ kw_1_5) (htx _ kw_7_18) ⟨by decide, by decide, by decide +kernel⟩ ⟨(by show (16 * d + 8) + 1 ≤ 16 * d + 9; omega), (by show 8 + (10 + 11) + (400 * d + 147) ≤ 400 * d + 176; omega)⟩, (htx _ kw_7_20), (htx _ kp_M_sort1)⟩ ⟨xPre_blind, va_recv hK hP (ci := 5) rfl (q0 := 0) rfl, (fun U hU hW => ⟨rfl, xPre_of hZ hS hFc hP hD hK U hU hW⟩)⟩ rfl rfl hl.1 rfl (xm_room (Nat.le_of_ble_eq_true rfl)) dM_keys_53 ⟨hm15.1, hm15.2⟩) hS (fun q _ h => hFc q h) hFc (fun r16 u9 t H1 locs ht hvm hr9 hB hz1 hk1 hS => ?_)
            obtain ⟨hP1, hK1, hD1⟩ := hB
            rw [ht] at hP1
            obtain ⟨ad17, gd18, vad19⟩ := u9
            obtain ⟨hr9, hv20, hn21⟩ := hr9
            have hP : va_P D xcl (xMw cT aM ad17 rd gd18 vad19 o12.2.2.2.2 []) H1 := hP1
            have hD : va_D A (xMw cT aM ad17 rd gd18 vad19 o12.2.2.2.2 []) := hD1.weaken (fun k q _ h => hFc q.1 h)
            generalize H1 = H at hP hS ⊢
            have hE9 : ∀ p, p < xct st → vad19 p = vad p := fun p h => (hv20 p (Nat.lt_of_lt_of_le h hN)).trans (hE p h)
            have hE := hE9
            have hN : xct st ≤ xct o12.2.2.2.2 := Nat.le_trans hN hn21
            rw [hr9]
            refine W.eq (g2 := F0 m 56 ls [xv vad19 o12.2.2.2.1]) (by first | rfl | (skip; rfl)) ?_
            refine lv_goto (tgt := 61) hx hb dM_keys_56 (by decide) ?_
            obtain rfl := Option.some.inj hf
            exact absurd (show (0 : Nat) = 1 from hkd) (by decide)
          rw [if_neg hk14] at hf
          by_cases hk22 : o12.1 = 1
          · rw [if_pos hk22] at hf
            obtain ⟨hm23, hf⟩ := xmoE hf
            have hFc := xm_free hD hS hA
            refine xx_thr (vx_runV (C := "ValueBenchModel") (As := [xv vad9 o2.2.2.2.1, xv vad9 o2.2.2.2.1, .int 0]) (rest := []) ⟨hx, hb, hml, hown, htx⟩ (gM_sort1_1 l hl9 D cT aK aV H.size d n aM ad7 rd gd8 vad9 o2.2.2.2.2 o2.2.2.2.1 o2.2.2.2.1 (0 : Int32) o12 hq13 hk22) ⟨callB_of 3 htx (xw_goodC kw_7_21) rfl rfl rfl (htx _ kw_1_5) (htx _ kw_7_18) ⟨by decide, by decide, by decide +kernel⟩ ⟨(by show (16 * d + 8) + 1 ≤ 16 * d + 9; omega), (by show 8 + (10 + 11) + (400 * d + 147) ≤ 400 * d + 176; omega)⟩, (htx _ kw_7_20), (htx _ kp_M_sort1)⟩ ⟨xPre_blind, va_recv hK hP (ci := 5) rfl (q0 := 0) rfl, (fun U hU hW => ⟨rfl, xPre_of hZ hS hFc hP hD hK U hU hW⟩)⟩ rfl rfl hl.1 rfl (xm_room (Nat.le_of_ble_eq_true rfl)) dM_keys_53 ⟨hm23.1, hm23.2⟩) hS hFc (fun q _ h => hFc q h) (fun E ce q9 u9 t H1 locs ht hvm hr9 hB hz1 hk1 hS hce hcv hcl => ?_)
            obtain ⟨rfl, hP1, hK1, hD1⟩ := hB
            rw [ht] at hP1
            obtain ⟨ad25, gd26, vad27⟩ := u9
            obtain ⟨hv28, hn29⟩ := hr9
            have hP : va_P D xcl (xMw cT aM ad25 rd gd26 vad27 o12.2.2.2.2 []) H1 := hP1
            have hD : va_D A (xMw cT aM ad25 rd gd26 vad27 o12.2.2.2.2 []) := hD1.weaken (fun k q _ h => hFc q.1 h)
            generalize H1 = H at hP hS hce ⊢
            have hE9 : ∀ p, p < xct st → vad27 p = vad p := fun p h => (hv28 p (Nat.lt_of_lt_of_le h hN)).trans (hE p h)
            have hE := hE9
            have hN : xct st ≤ xct o12.2.2.2.2 := Nat.le_trans hN hn29
            obtain rfl := Option.some.inj hf
            exact vx_out (E := "java/lang/IndexOutOfBoundsException") (fun x h => (hne x h).elim) hlocks hce hcv hcl (fun t ht ha => ⟨(ad25, gd26, vad27), ⟨hE, hN⟩, ⟨rfl, by rw [ht]; exact hP, va_K.moved ha hK, hD⟩, hS.F ht⟩) hS.2.2 (Nat.le_refl _) (Nat.le_refl _)
          rw [if_neg hk22] at hf
          exact nomatch hf
      rw [if_neg hk4] at hf
      by_cases hk12 : o2.1 = 1
      · rw [if_pos hk12] at hf
        obtain ⟨hm13, hf⟩ := xmoE hf
        have hFc := xm_free hD hS hA
        refine xx_thr (vx_runV (C := "ValueBenchModel") (As := [.int 5, .int y3]) (rest := []) ⟨hx, hb, hml, hown, htx⟩ (gM_whole_1 l hl9 D cT aK aV H.size n aM adL rd gdL vadL ws9 (5 : Int32) y3 o2 hq3 hk12) ⟨callB_of 2 htx (xw_goodC kw_6_106) rfl rfl rfl (htx _ kw_1_5) (htx _ kw_6_103) ⟨by decide, by decide, by decide +kernel⟩ ⟨Nat.le_of_ble_eq_true rfl, Nat.le_of_ble_eq_true rfl⟩, (htx _ kw_6_105), (htx _ kp_M_whole)⟩ ⟨xPre_blind, va_recv hK hP (ci := 5) rfl (q0 := 0) rfl, (fun U hU hW => ⟨rfl, xPre_of hZ hS hFc hP hD hK U hU hW⟩)⟩ rfl rfl hl.1 rfl (xm_room (Nat.le_of_ble_eq_true rfl)) dM_keys_38 ⟨hm13.1, hm13.2⟩) hS hFc (fun q _ h => hFc q h) (fun E ce q9 u9 t H1 locs ht hvm hr9 hB hz1 hk1 hS hce hcv hcl => ?_)
        obtain ⟨rfl, hP1, hK1, hD1⟩ := hB
        rw [ht] at hP1
        obtain ⟨ad15, gd16, vad17⟩ := u9
        obtain ⟨hv18, hn19⟩ := hr9
        have hP : va_P D xcl (xMw cT aM ad15 rd gd16 vad17 o2.2.2.2.2 []) H1 := hP1
        have hD : va_D A (xMw cT aM ad15 rd gd16 vad17 o2.2.2.2.2 []) := hD1.weaken (fun k q _ h => hFc q.1 h)
        generalize H1 = H at hP hS hce ⊢
        have hE9 : ∀ p, p < xct st → vad17 p = vad p := fun p h => (hv18 p (Nat.lt_of_lt_of_le h hN)).trans (hE p h)
        have hE := hE9
        have hN : xct st ≤ xct o2.2.2.2.2 := Nat.le_trans hN hn19
        obtain rfl := Option.some.inj hf
        exact vx_out (E := "java/lang/IndexOutOfBoundsException") (fun x h => (hne x h).elim) hlocks hce hcv hcl (fun t ht ha => ⟨(ad15, gd16, vad17), ⟨hE, hN⟩, ⟨rfl, by rw [ht]; exact hP, va_K.moved ha hK, hD⟩, hS.F ht⟩) hS.2.2 (Nat.le_refl _) (Nat.le_refl _)
      rw [if_neg hk12] at hf
      exact nomatch hf
    · rw [if_neg hc] at hf
      refine lv_aload_n hx hb dM_keys_17 rfl (lv_at hl 2 rfl) ?_
      refine lv_null hx hb dM_keys_18 ?_
      refine lv_aload_n hx hb dM_keys_19 rfl (lv_at hl 2 rfl) ?_
      refine xm_aload_n hx hb (xvor _ _) dM_keys_20 rfl (lv_at hl 3 rfl) ?_
      refine lv_iload hx hb dM_keys_21 (lv_at hl 0 rfl) ?_
      obtain ⟨o2, hq3, hf⟩ := xbind hf
      have hFc := xm_free hD hS hA
      refine va_callq (va_runV (C := "ValueBenchModel") (As := [xv vadL y1, .int y4]) (rest := [.null, .ref aM]) ⟨hx, hb, hml, hown, htx⟩ (gM_name l hl9 D cT aK aV H.size n aM adL rd gdL vadL ws9 y1 y4 o2 hq3) ⟨callB_of 2 htx (xw_goodC kw_6_154) rfl rfl rfl (htx _ kw_1_5) (htx _ kw_6_151) ⟨by decide, by decide, by decide +kernel⟩ ⟨Nat.le_of_ble_eq_true rfl, Nat.le_of_ble_eq_true rfl⟩, (htx _ kw_6_153), (htx _ kp_M_name)⟩ ⟨xPre_blind, va_recv hK hP (ci := 5) rfl (q0 := 0) rfl, (fun U hU hW => ⟨rfl, xPre_of hZ hS hFc hP hD hK U hU hW⟩)⟩ rfl rfl hl.1 rfl (xm_room (Nat.le_of_ble_eq_true rfl)) dM_keys_23 ⟨hm0.1, hm0.2⟩) hS (fun q _ h => hFc q h) hFc (fun r4 u9 t H1 locs ht hvm hr9 hB hz1 hk1 hS => ?_)
      obtain ⟨hP1, hK1, hD1⟩ := hB
      rw [ht] at hP1
      have hP : va_P D xcl (xMw cT aM adL rd gdL vadL ws9 []) H1 := hP1
      have hD : va_D A (xMw cT aM adL rd gdL vadL ws9 []) := hD1.weaken (fun k q _ h => hFc q.1 h)
      generalize H1 = H at hP hS ⊢
      rw [hr9]
      refine W.eq (g2 := F0 m 26 ls [xv vadL o2, .null, .ref aM]) (by first | rfl | (skip; rfl)) ?_
      obtain ⟨o5, hq6, hf⟩ := xbind hf
      obtain ⟨hm7, hf⟩ := xmoE hf
      have hFc := xm_free hD hS hA
      refine va_callv (va_runV (C := "ValueBenchModel") (As := [.null, xv vadL o2]) (rest := []) ⟨hx, hb, hml, hown, htx⟩ (gM_wait l hl9 D cT aK aV H.size n aM adL rd gdL vadL ws9 0 o2 o5 hq6) ⟨callB_of 2 htx (xw_goodC kw_6_112) rfl rfl rfl (htx _ kw_1_5) (htx _ kw_6_109) ⟨by decide, by decide, by decide +kernel⟩ ⟨Nat.le_of_ble_eq_true rfl, Nat.le_of_ble_eq_true rfl⟩, (htx _ kw_6_111), (htx _ kp_M_wait)⟩ ⟨xPre_blind, va_recv hK hP (ci := 5) rfl (q0 := 0) rfl, (fun U hU hW => ⟨rfl, xPre_of hZ hS hFc hP hD hK U hU hW⟩)⟩ rfl rfl hl.1 rfl (xm_room (Nat.le_of_ble_eq_true rfl)) dM_keys_26 ⟨hm7.1, hm7.2⟩) hS (fun q _ h => hFc q h) hFc (fun u9 t H1 locs ht hvm hr9 hB hz1 hk1 hS => ?_)
      obtain ⟨hP1, hK1, hD1⟩ := hB
      rw [ht] at hP1
      obtain ⟨ad9, gd10, vad11⟩ := u9
      obtain ⟨hv12, hn13⟩ := hr9
      have hP : va_P D xcl (xMw cT aM ad9 rd gd10 vad11 o5.2.2 []) H1 := hP1
      have hD : va_D A (xMw cT aM ad9 rd gd10 vad11 o5.2.2 []) := hD1.weaken (fun k q _ h => hFc q.1 h)
      generalize H1 = H at hP hS ⊢
      have hE9 : ∀ p, p < xct st → vad11 p = vad p := fun p h => (hv12 p (Nat.lt_of_lt_of_le h hN)).trans (hE p h)
      have hE := hE9
      have hN : xct st ≤ xct o5.2.2 := Nat.le_trans hN hn13
      have ev14 : xv vadL y1 = xv vad11 y1 := xvE hv12 (fun h => hg1 (Or.inr h))
      have hl : lv_has ls 5 [(4, .int y4), (3, .int y3), (0, .ref aM), (1, xv vad11 y1), (2, .int y2)] := by first | exact hl | ((try (rw [← ev14])); exact hl)
      refine W.eq (g2 := F0 m 29 ls []) (by first | rfl | ((try (rw [ev14])); rfl)) ?_
      refine lv_iinc (v := (y4 + 1)) (lv' := [(4, .int (y4 + 1)), (3, .int y3), (0, .ref aM), (1, xv vad11 y1), (2, .int y2)]) hx hb dM_keys_29 hl (k := 0) rfl rfl (by decide) rfl (fun ls hl => ?_)
      refine lv_goto (tgt := 8) hx hb dM_keys_32 (by decide) ?_
      exact ih (1, (y4 + 1), y3, y1, y2, o5.2.2, (wc + o5.1), (wn + o5.2.1)) _ _ ls (⟨ad9, gd10, vad11, rfl, hf, hP, hD, hS, lv_sub hl [0, 1, 2, 3, 4] rfl, hE, hN⟩)
  refine lv_aload_n hx hb dM_keys_0 rfl (lv_at hl 0 rfl) ?_
  refine xm_get (v := .int (xsi st 12)) hx hb htx hown hK hP 12 (by decide) rfl (htx _ kw_5_99) rfl dM_keys_1 ?_
  refine lv_istore_n (lv' := [(3, .int (xsi st 12)), (0, .ref aM), (1, xv vad c0), (2, .int x1)]) hx hb dM_keys_4 rfl hl (by decide) rfl (fun ls hl => ?_)
  refine lv_iconst (v := 0) hx hb dM_keys_5 (by decide) ?_
  refine lv_istore (lv' := [(4, .int 0), (3, .int (xsi st 12)), (0, .ref aM), (1, xv vad c0), (2, .int x1)]) hx hb dM_keys_6 hl (by decide) rfl (fun ls hl => ?_)
  exact key n (1, (0 : Int32), (xsi st 12), c0, x1, st, 0, 0) _ _ ls (⟨ad, gd, vad, rfl, hf, hP, hD, hS, lv_sub hl [0, 1, 2, 3, 4] rfl, hE, hN⟩)
set_option maxHeartbeats 400000000 in
set_option maxRecDepth 100000 in
theorem gM_keysOf (l : Launch) (hl9 : l.stackTraces = false) (D : va_G) (cT : Nat → ClassId) (aK aV : Nat → Nat) (sz d n : Nat) (aM : Nat) (ad rd gd vad : Nat → Nat) (st : xS) (c0 : Nat) (x1 : Int32) (out : Nat × Nat × Nat × Nat × xS) (hf : fM_keysOf d n st c0 x1 = some out) (hkd : out.1 = 0) : xMet l yM_keysOf wyM_keysOf (16 * d + 10) out.2.1 out.2.2.1 (400 * d + 200) D cT aK aV sz [.ref aM, xv vad c0, .int x1] (xMw cT aM ad rd gd vad st []) (fun A => va_Qq (fun (r : Option Nat) (u : xU) => r = xca u.2.2 out.2.2.2.1 ∧ xE vad st out.2.2.2.2 u) (fun u t => xB D xcl cT A (xMw cT aM u.1 rd u.2.1 u.2.2 out.2.2.2.2 []) t) A) := by
  refine Met.ofW (cc := prog_13_method_58_code) (maxL := 5) (ret := (some (.object "ValueBenchModel$V"))) (by decide) rfl ?_
  intro p e s m args below meth c s₁ B hml hv
  obtain ⟨rfl, hsz, hZ, hP, hK, hD0⟩ := hv
  have hx := B.exec
  have hb := B.bytes
  have hr := B.returns
  have hts := atoms_spec (ws := wyM_keysOf) B.pre
  have htx := fun w h => hts w (List.mem_cons_of_mem _ h)
  have hown : s.vm.findClass "ValueBenchModel" = some m.cls := findClass_of_methodNamed B.named
  have hlocks := B.notSynchronized
  subst hsz
  have hD := hD0.self (sz := s.heap.size)
  generalize hAe : va_A (xMw cT aM ad rd gd vad st []) s.heap.size = A at hD hZ ⊢
  have hA : ∀ q : Nat, s.heap.size ≤ q → A q := fun q h => by rw [← hAe]; exact Or.inr h
  have hS : va_S A s.heap s.heap [] := va_S.rf
  have hl := lv_entry ([.ref aM, xv vad c0, .int x1]) (n := 5) (by simp [lg_sl, xvcat, xrscat, xcI, xcL, xcR, xcN])
  rw [show lv_args 0 [.ref aM, xv vad c0, .int x1] = [(0, .ref aM), (1, xv vad c0), (2, .int x1)] from by simp [lv_args, xvcat, xrscat, xcI, xcL, xcR, xcN]] at hl
  rw [lg_entry_eq]
  generalize (lg_sl ([.ref aM, xv vad c0, .int x1]) ++ List.replicate (5 - (lg_sl ([.ref aM, xv vad c0, .int x1])).length) Slot.unset).toArray = ls at hl ⊢
  have hl : lv_has ls 5 [(0, .ref aM), (1, xv vad c0), (2, .int x1)] := hl
  have hE : ∀ p, p < xct st → vad p = vad p := fun _ _ => rfl
  have hN : xct st ≤ xct st := Nat.le_refl _
  unfold fM_keysOf at hf
  refine xloopM (σ := Nat × Int32 × Int32 × Nat × Int32 × xS × Nat × Nat) (fun n x H locs ls => (∃ (adL gdL vadL : Nat → Nat), x.1 = 1 ∧ fM_keysOf_b d n x.1 x.2.1 x.2.2.1 x.2.2.2.1 x.2.2.2.2.1 x.2.2.2.2.2.1 x.2.2.2.2.2.2.1 x.2.2.2.2.2.2.2 = some out ∧ va_P D xcl (xMw cT aM adL rd gdL vadL x.2.2.2.2.2.1 []) H ∧ va_D A (xMw cT aM adL rd gdL vadL x.2.2.2.2.2.1 []) ∧ va_S A s.heap H locs ∧ lv_has ls 5 [(4, .int x.2.1), (3, .int x.2.2.1), (0, .ref aM), (1, xv vadL x.2.2.2.1), (2, .int x.2.2.2.2.1)] ∧ (∀ p, p < xct st → vadL p = vad p) ∧ xct st ≤ xct x.2.2.2.2.2.1)) (fun x => 24) (fun x => x.2.2.2.2.2.2.1) (fun x => x.2.2.2.2.2.2.2) (fun x H locs ls h => by (obtain ⟨_, _, _, h⟩ := h; exact absurd h.2.1 (by rw [fM_keysOf_b]; exact fun h => nomatch h))) (fun n ih x H locs ls hv => ?_) (fun key => ?_)
  · obtain ⟨lb, y4, y3, y1, y2, ws9, wc, wn⟩ := x
    rcases hv with ⟨adL, gdL, vadL, hj, hf, hP, hD, hS, hl, hE, hN⟩
    subst hj
    have hf : fM_keysOf_b d (n + 1) 1 y4 y3 y1 y2 ws9 wc wn = some out := hf
    rw [fM_keysOf_b] at hf
    obtain ⟨hP, hD⟩ : xPD D xcl A (xMw cT aM adL rd gdL vadL ws9 []) H := ⟨hP, hD⟩
    have hl : lv_has ls 5 [(4, .int y4), (3, .int y3), (0, .ref aM), (1, xv vadL y1), (2, .int y2)] := hl
    refine W.eq (g2 := F0 m 24 ls []) rfl ?_
    show W p l e _ s m _ below meth c H locs wc wn _ _
    obtain ⟨hm0, hf⟩ := xmoE hf
    refine lv_iload hx hb dM_keysOf_24 (lv_at hl 0 rfl) ?_
    refine lv_aload_n hx hb dM_keysOf_26 rfl (lv_at hl 2 rfl) ?_
    refine xm_aload_n hx hb (xvor _ _) dM_keysOf_27 rfl (lv_at hl 3 rfl) ?_
    obtain ⟨o1, hq2, hf⟩ := xbind hf
    by_cases hk3 : o1.1 = 0
    · rw [if_pos hk3] at hf
      obtain ⟨hg4, hf⟩ := xifn hf
      obtain ⟨hm5, hf⟩ := xmoE hf
      have hFc := xm_free hD hS hA
      refine va_callq (va_runV (C := "ValueBenchModel") (As := [xv vadL y1]) (rest := [.int y4]) ⟨hx, hb, hml, hown, htx⟩ (gM_array l hl9 D cT aK aV H.size n aM adL rd gdL vadL ws9 y1 o1 hq2 hk3) ⟨callB_of 1 htx (xw_goodC kw_7_42) rfl rfl rfl (htx _ kw_1_5) (htx _ kw_7_39) ⟨by decide, by decide, by decide +kernel⟩ ⟨Nat.le_of_ble_eq_true rfl, Nat.le_of_ble_eq_true rfl⟩, (htx _ kw_7_41), (htx _ kp_M_array)⟩ ⟨xPre_blind, va_recv hK hP (ci := 5) rfl (q0 := 0) rfl, (fun U hU hW => ⟨rfl, xPre_of hZ hS hFc hP hD hK U hU hW⟩)⟩ rfl rfl hl.1 rfl (xm_room (Nat.le_of_ble_eq_true rfl)) dM_keysOf_28 ⟨hm5.1, hm5.2⟩) hS (fun q _ h => hFc q h) hFc (fun r6 u9 t H1 locs ht hvm hr9 hB hz1 hk1 hS => ?_)
      obtain ⟨hP1, hK1, hD1⟩ := hB
      rw [ht] at hP1
      obtain ⟨ad7, gd8, vad9⟩ := u9
      obtain ⟨hr9, hv10, hn11⟩ := hr9
      have hP : va_P D xcl (xMw cT aM ad7 rd gd8 vad9 o1.2.2.2.2 []) H1 := hP1
      have hD : va_D A (xMw cT aM ad7 rd gd8 vad9 o1.2.2.2.2 []) := hD1.weaken (fun k q _ h => hFc q.1 h)
      generalize H1 = H at hP hS ⊢
      have hE9 : ∀ p, p < xct st → vad9 p = vad p := fun p h => (hv10 p (Nat.lt_of_lt_of_le h hN)).trans (hE p h)
      have hE := hE9
      have hN : xct st ≤ xct o1.2.2.2.2 := Nat.le_trans hN hn11
      have ev12 : xv vadL y1 = xv vad9 y1 := xvE hv10 hg4
      have hl : lv_has ls 5 [(4, .int y4), (3, .int y3), (0, .ref aM), (1, xv vad9 y1), (2, .int y2)] := by first | exact hl | ((try (rw [← ev12])); exact hl)
      rw [hr9]
      refine W.eq (g2 := F0 m 31 ls [xv vad9 o1.2.2.2.1, .int y4]) (by first | rfl | ((try (rw [ev12])); rfl)) ?_
      obtain ⟨hg13, hf⟩ := xifn hf
      refine xm_vget (v := .int ((xpi o1.2.2.2.2 3) (o1.2.2.2.1 - 1))) hx hb htx hown hK hP 3 (by decide) hg13 rfl ((hZ.1 (103, "count", "I") (List.mem_of_getElem? (i := 3) rfl)).use rfl) rfl dM_keysOf_31 ?_
      refine lv_icmp_ge (tgt := 55) hx hb dM_keysOf_34 (by decide) (fun hc => ?_) (fun hc => ?_)
      · rw [if_pos hc] at hf
        refine lv_aload_n hx hb dM_keysOf_55 rfl (lv_at hl 2 rfl) ?_
        refine lv_iconst (v := 5) hx hb dM_keysOf_56 (by decide) ?_
        refine lv_iload_n hx hb dM_keysOf_57 rfl (lv_at hl 1 rfl) ?_
        obtain ⟨o14, hq15, hf⟩ := xbind hf
        have hl := lv_sub (l' := [(4, .int y4), (3, .int y3), (0, .ref aM), (2, .int y2)]) hl [0, 1, 2, 4] rfl
        by_cases hk16 : o14.1 = 0
        · rw [if_pos hk16] at hf
          obtain ⟨hm17, hf⟩ := xmoE hf
          have hFc := xm_free hD hS hA
          refine va_callq (va_runV (C := "ValueBenchModel") (As := [.int 5, .int y3]) (rest := []) ⟨hx, hb, hml, hown, htx⟩ (gM_whole l hl9 D cT aK aV H.size n aM ad7 rd gd8 vad9 o1.2.2.2.2 (5 : Int32) y3 o14 hq15 hk16) ⟨callB_of 2 htx (xw_goodC kw_6_106) rfl rfl rfl (htx _ kw_1_5) (htx _ kw_6_103) ⟨by decide, by decide, by decide +kernel⟩ ⟨Nat.le_of_ble_eq_true rfl, Nat.le_of_ble_eq_true rfl⟩, (htx _ kw_6_105), (htx _ kp_M_whole)⟩ ⟨xPre_blind, va_recv hK hP (ci := 5) rfl (q0 := 0) rfl, (fun U hU hW => ⟨rfl, xPre_of hZ hS hFc hP hD hK U hU hW⟩)⟩ rfl rfl hl.1 rfl (xm_room (Nat.le_of_ble_eq_true rfl)) dM_keysOf_58 ⟨hm17.1, hm17.2⟩) hS (fun q _ h => hFc q h) hFc (fun r18 u9 t H1 locs ht hvm hr9 hB hz1 hk1 hS => ?_)
          obtain ⟨hP1, hK1, hD1⟩ := hB
          rw [ht] at hP1
          obtain ⟨ad19, gd20, vad21⟩ := u9
          obtain ⟨hr9, hv22, hn23⟩ := hr9
          have hP : va_P D xcl (xMw cT aM ad19 rd gd20 vad21 o14.2.2.2.2 []) H1 := hP1
          have hD : va_D A (xMw cT aM ad19 rd gd20 vad21 o14.2.2.2.2 []) := hD1.weaken (fun k q _ h => hFc q.1 h)
          generalize H1 = H at hP hS ⊢
          have hE9 : ∀ p, p < xct st → vad21 p = vad p := fun p h => (hv22 p (Nat.lt_of_lt_of_le h hN)).trans (hE p h)
          have hE := hE9
          have hN : xct st ≤ xct o14.2.2.2.2 := Nat.le_trans hN hn23
          rw [hr9]
          refine W.eq (g2 := F0 m 61 ls [xv vad21 o14.2.2.2.1]) (by first | rfl | (skip; rfl)) ?_
          obtain rfl := Option.some.inj hf
          exact W.aret (v := xv vad21 o14.2.2.2.1) hx hb hr (Or.inl ⟨_, rfl⟩) (xvor _ _) (fun t ht hW => ⟨⟨xca vad21 o14.2.2.2.1, (ad19, gd20, vad21), rfl, ⟨rfl, hE, hN⟩, by rw [ht]; exact hP, va_K.moved hW.alike hK, hD⟩, hS.F ht⟩) hS.2.2 dM_keysOf_61
        rw [if_neg hk16] at hf
        by_cases hk24 : o14.1 = 1
        · rw [if_pos hk24] at hf
          obtain ⟨hm25, hf⟩ := xmoE hf
          obtain rfl := Option.some.inj hf
          exact absurd (show (1 : Nat) = 0 from hkd) (by decide)
        rw [if_neg hk24] at hf
        exact nomatch hf
      · rw [if_neg hc] at hf
        refine lv_aload_n hx hb dM_keysOf_37 rfl (lv_at hl 2 rfl) ?_
        refine lv_null hx hb dM_keysOf_38 ?_
        refine lv_aload_n hx hb dM_keysOf_39 rfl (lv_at hl 2 rfl) ?_
        refine lv_iload hx hb dM_keysOf_40 (lv_at hl 0 rfl) ?_
        refine lv_i2l hx hb dM_keysOf_42 rfl ?_
        obtain ⟨o14, hq15, hf⟩ := xbind hf
        by_cases hk16 : o14.1 = 0
        · rw [if_pos hk16] at hf
          obtain ⟨hg17, hf⟩ := xifn hf
          obtain ⟨hm18, hf⟩ := xmoE hf
          have hFc := xm_free hD hS hA
          refine va_callq (va_runV (C := "ValueBenchModel") (As := [.long y4.toInt64]) (rest := [.null, .ref aM]) ⟨hx, hb, hml, hown, htx⟩ (gM_number l hl9 D cT aK aV H.size n aM ad7 rd gd8 vad9 o1.2.2.2.2 y4.toInt64 o14 hq15 hk16) ⟨callB_of 1 htx (xw_goodC kw_6_88) rfl rfl rfl (htx _ kw_1_5) (htx _ kw_6_85) ⟨by decide, by decide, by decide +kernel⟩ ⟨Nat.le_of_ble_eq_true rfl, Nat.le_of_ble_eq_true rfl⟩, (htx _ kw_6_87), (htx _ kp_M_number)⟩ ⟨xPre_blind, va_recv hK hP (ci := 5) rfl (q0 := 0) rfl, (fun U hU hW => ⟨rfl, xPre_of hZ hS hFc hP hD hK U hU hW⟩)⟩ rfl rfl hl.1 rfl (xm_room (Nat.le_of_ble_eq_true rfl)) dM_keysOf_43 ⟨hm18.1, hm18.2⟩) hS (fun q _ h => hFc q h) hFc (fun r19 u9 t H1 locs ht hvm hr9 hB hz1 hk1 hS => ?_)
          obtain ⟨hP1, hK1, hD1⟩ := hB
          rw [ht] at hP1
          obtain ⟨ad20, gd21, vad22⟩ := u9
          obtain ⟨hr9, hv23, hn24⟩ := hr9
          have hP : va_P D xcl (xMw cT aM ad20 rd gd21 vad22 o14.2.2.2.2 []) H1 := hP1
          have hD : va_D A (xMw cT aM ad20 rd gd21 vad22 o14.2.2.2.2 []) := hD1.weaken (fun k q _ h => hFc q.1 h)
          generalize H1 = H at hP hS ⊢
          have hE9 : ∀ p, p < xct st → vad22 p = vad p := fun p h => (hv23 p (Nat.lt_of_lt_of_le h hN)).trans (hE p h)
          have hE := hE9
          have hN : xct st ≤ xct o14.2.2.2.2 := Nat.le_trans hN hn24
          have ev25 : xv vad9 y1 = xv vad22 y1 := xvE hv23 hg17
          have hl : lv_has ls 5 [(4, .int y4), (3, .int y3), (0, .ref aM), (1, xv vad22 y1), (2, .int y2)] := by first | exact hl | ((try (rw [← ev25])); exact hl)
          rw [hr9]
          refine W.eq (g2 := F0 m 46 ls [xv vad22 o14.2.2.2.1, .null, .ref aM]) (by first | rfl | ((try (rw [ev25])); rfl)) ?_
          obtain ⟨o26, hq27, hf⟩ := xbind hf
          obtain ⟨hg28, hf⟩ := xifn hf
          obtain ⟨hm29, hf⟩ := xmoE hf
          have hFc := xm_free hD hS hA
          refine va_callv (va_runV (C := "ValueBenchModel") (As := [.null, xv vad22 o14.2.2.2.1]) (rest := []) ⟨hx, hb, hml, hown, htx⟩ (gM_wait l hl9 D cT aK aV H.size n aM ad20 rd gd21 vad22 o14.2.2.2.2 0 o14.2.2.2.1 o26 hq27) ⟨callB_of 2 htx (xw_goodC kw_6_112) rfl rfl rfl (htx _ kw_1_5) (htx _ kw_6_109) ⟨by decide, by decide, by decide +kernel⟩ ⟨Nat.le_of_ble_eq_true rfl, Nat.le_of_ble_eq_true rfl⟩, (htx _ kw_6_111), (htx _ kp_M_wait)⟩ ⟨xPre_blind, va_recv hK hP (ci := 5) rfl (q0 := 0) rfl, (fun U hU hW => ⟨rfl, xPre_of hZ hS hFc hP hD hK U hU hW⟩)⟩ rfl rfl hl.1 rfl (xm_room (Nat.le_of_ble_eq_true rfl)) dM_keysOf_46 ⟨hm29.1, hm29.2⟩) hS (fun q _ h => hFc q h) hFc (fun u9 t H1 locs ht hvm hr9 hB hz1 hk1 hS => ?_)
          obtain ⟨hP1, hK1, hD1⟩ := hB
          rw [ht] at hP1
          obtain ⟨ad31, gd32, vad33⟩ := u9
          obtain ⟨hv34, hn35⟩ := hr9
          have hP : va_P D xcl (xMw cT aM ad31 rd gd32 vad33 o26.2.2 []) H1 := hP1
          have hD : va_D A (xMw cT aM ad31 rd gd32 vad33 o26.2.2 []) := hD1.weaken (fun k q _ h => hFc q.1 h)
          generalize H1 = H at hP hS ⊢
          have hE9 : ∀ p, p < xct st → vad33 p = vad p := fun p h => (hv34 p (Nat.lt_of_lt_of_le h hN)).trans (hE p h)
          have hE := hE9
          have hN : xct st ≤ xct o26.2.2 := Nat.le_trans hN hn35
          have ev36 : xv vad22 y1 = xv vad33 y1 := xvE hv34 hg28
          have hl : lv_has ls 5 [(4, .int y4), (3, .int y3), (0, .ref aM), (1, xv vad33 y1), (2, .int y2)] := by first | exact hl | ((try (rw [← ev36])); exact hl)
          refine W.eq (g2 := F0 m 49 ls []) (by first | rfl | ((try (rw [ev36])); rfl)) ?_
          refine lv_iinc (v := (y4 + 1)) (lv' := [(4, .int (y4 + 1)), (3, .int y3), (0, .ref aM), (1, xv vad33 y1), (2, .int y2)]) hx hb dM_keysOf_49 hl (k := 0) rfl rfl (by decide) rfl (fun ls hl => ?_)
          refine lv_goto (tgt := 24) hx hb dM_keysOf_52 (by decide) ?_
          exact ih (1, (y4 + 1), y3, y1, y2, o26.2.2, (((wc + o1.2.1) + o14.2.1) + o26.1), (((wn + o1.2.2.1) + o14.2.2.1) + o26.2.1)) _ _ ls (⟨ad31, gd32, vad33, rfl, hf, hP, hD, hS, lv_sub hl [0, 1, 2, 3, 4] rfl, hE, hN⟩)
        rw [if_neg hk16] at hf
        by_cases hk37 : o14.1 = 1
        · rw [if_pos hk37] at hf
          obtain ⟨hg38, hf⟩ := xifn hf
          obtain ⟨hm39, hf⟩ := xmoE hf
          obtain rfl := Option.some.inj hf
          exact absurd (show (2 : Nat) = 0 from hkd) (by decide)
        rw [if_neg hk37] at hf
        exact nomatch hf
    rw [if_neg hk3] at hf
    by_cases hk14 : o1.1 = 1
    · rw [if_pos hk14] at hf
      obtain ⟨hg15, hf⟩ := xifn hf
      obtain ⟨hm16, hf⟩ := xmoE hf
      obtain rfl := Option.some.inj hf
      exact absurd (show (2 : Nat) = 0 from hkd) (by decide)
    rw [if_neg hk14] at hf
    exact nomatch hf
  refine xm_aload_n hx hb (xvor _ _) dM_keysOf_0 rfl (lv_at hl 1 rfl) ?_
  obtain ⟨hg1, hf⟩ := xifn hf
  refine xm_vget (v := .int ((xpi st 0) (c0 - 1))) hx hb htx hown hK hP 0 (by decide) hg1 rfl ((hZ.1 (93, "kind", "I") (List.mem_of_getElem? (i := 0) rfl)).use rfl) rfl dM_keysOf_1 ?_
  refine lv_bipush (v := 6) hx hb dM_keysOf_4 (by decide) ?_
  refine lv_icmp_ne (tgt := 16) hx hb dM_keysOf_6 (by decide) (fun hc => ?_) (fun hc => ?_)
  · rw [if_neg hc] at hf
    refine lv_aload_n hx hb dM_keysOf_16 rfl (lv_at hl 0 rfl) ?_
    refine xm_get (v := .int (xsi st 12)) hx hb htx hown hK hP 12 (by decide) rfl (htx _ kw_5_99) rfl dM_keysOf_17 ?_
    refine lv_istore_n (lv' := [(3, .int (xsi st 12)), (0, .ref aM), (1, xv vad c0), (2, .int x1)]) hx hb dM_keysOf_20 rfl hl (by decide) rfl (fun ls hl => ?_)
    refine lv_iconst (v := 0) hx hb dM_keysOf_21 (by decide) ?_
    refine lv_istore (lv' := [(4, .int 0), (3, .int (xsi st 12)), (0, .ref aM), (1, xv vad c0), (2, .int x1)]) hx hb dM_keysOf_22 hl (by decide) rfl (fun ls hl => ?_)
    exact key n (1, (0 : Int32), (xsi st 12), c0, x1, st, 0, 0) _ _ ls (⟨ad, gd, vad, rfl, hf, hP, hD, hS, lv_sub hl [0, 1, 2, 3, 4] rfl, hE, hN⟩)
  · rw [if_pos hc] at hf
    refine lv_aload_n hx hb dM_keysOf_9 rfl (lv_at hl 0 rfl) ?_
    refine xm_aload_n hx hb (xvor _ _) dM_keysOf_10 rfl (lv_at hl 1 rfl) ?_
    refine lv_iload_n hx hb dM_keysOf_11 rfl (lv_at hl 2 rfl) ?_
    obtain ⟨o2, hq3, hf⟩ := xbind hf
    have hl := lv_sub (l' := [(0, .ref aM), (2, .int x1)]) hl [0, 2] rfl
    by_cases hk4 : o2.1 = 0
    · rw [if_pos hk4] at hf
      obtain ⟨hm5, hf⟩ := xmoE hf
      have hFc := xm_free hD hS hA
      refine va_callq (va_runV (C := "ValueBenchModel") (As := [xv vad c0, .int x1]) (rest := []) ⟨hx, hb, hml, hown, htx⟩ (gM_keys l hl9 D cT aK aV s.heap.size d n aM ad rd gd vad st c0 x1 o2 hq3 hk4) ⟨callB_of 2 htx (xw_goodC kw_7_17) rfl rfl rfl (htx _ kw_1_5) (htx _ kw_7_14) ⟨by decide, by decide, by decide +kernel⟩ ⟨(by show (16 * d + 9) + 1 ≤ 16 * d + 10; omega), (by show 8 + (5 + 11) + (400 * d + 176) ≤ 400 * d + 200; omega)⟩, (htx _ kw_7_16), (htx _ kp_M_keys)⟩ ⟨xPre_blind, va_recv hK hP (ci := 5) rfl (q0 := 0) rfl, (fun U hU hW => ⟨rfl, xPre_of hZ hS hFc hP hD hK U hU hW⟩)⟩ rfl rfl hl.1 rfl (xm_room (Nat.le_of_ble_eq_true rfl)) dM_keysOf_12 ⟨hm5.1, hm5.2⟩) hS (fun q _ h => hFc q h) hFc (fun r6 u9 t H1 locs ht hvm hr9 hB hz1 hk1 hS => ?_)
      obtain ⟨hP1, hK1, hD1⟩ := hB
      rw [ht] at hP1
      obtain ⟨ad7, gd8, vad9⟩ := u9
      obtain ⟨hr9, hv10, hn11⟩ := hr9
      have hP : va_P D xcl (xMw cT aM ad7 rd gd8 vad9 o2.2.2.2.2 []) H1 := hP1
      have hD : va_D A (xMw cT aM ad7 rd gd8 vad9 o2.2.2.2.2 []) := hD1.weaken (fun k q _ h => hFc q.1 h)
      generalize H1 = H at hP hS ⊢
      have hE9 : ∀ p, p < xct st → vad9 p = vad p := fun p h => (hv10 p (Nat.lt_of_lt_of_le h hN)).trans (hE p h)
      have hE := hE9
      have hN : xct st ≤ xct o2.2.2.2.2 := Nat.le_trans hN hn11
      rw [hr9]
      refine W.eq (g2 := F0 m 15 ls [xv vad9 o2.2.2.2.1]) (by first | rfl | (skip; rfl)) ?_
      obtain rfl := Option.some.inj hf
      exact W.aret (v := xv vad9 o2.2.2.2.1) hx hb hr (Or.inl ⟨_, rfl⟩) (xvor _ _) (fun t ht hW => ⟨⟨xca vad9 o2.2.2.2.1, (ad7, gd8, vad9), rfl, ⟨rfl, hE, hN⟩, by rw [ht]; exact hP, va_K.moved hW.alike hK, hD⟩, hS.F ht⟩) hS.2.2 dM_keysOf_15
    rw [if_neg hk4] at hf
    by_cases hk12 : o2.1 = 1
    · rw [if_pos hk12] at hf
      obtain ⟨hm13, hf⟩ := xmoE hf
      obtain rfl := Option.some.inj hf
      exact absurd (show (1 : Nat) = 0 from hkd) (by decide)
    rw [if_neg hk12] at hf
    exact nomatch hf
set_option maxHeartbeats 400000000 in
set_option maxRecDepth 100000 in
theorem gM_keysOf_1 (l : Launch) (hl9 : l.stackTraces = false) (D : va_G) (cT : Nat → ClassId) (aK aV : Nat → Nat) (sz d n : Nat) (aM : Nat) (ad rd gd vad : Nat → Nat) (st : xS) (c0 : Nat) (x1 : Int32) (out : Nat × Nat × Nat × Nat × xS) (hf : fM_keysOf d n st c0 x1 = some out) (hkd : out.1 = 1) : xMetY l yM_keysOf wyM_keysOf (16 * d + 10) out.2.1 out.2.2.1 (400 * d + 200) D cT aK aV sz [.ref aM, xv vad c0, .int x1] (xMw cT aM ad rd gd vad st []) "java/lang/IndexOutOfBoundsException" (fun u => xE vad st out.2.2.2.2 u) (fun A u t => xB D xcl cT A (xMw cT aM u.1 rd u.2.1 u.2.2 out.2.2.2.2 []) t) := by
  refine vx_ofW (cc := prog_13_method_58_code) (maxL := 5) (ret := (some (.object "ValueBenchModel$V"))) (by decide) rfl ?_
  intro p e s m args below meth c s₁ B hml hne hv
  obtain ⟨rfl, hsz, hZ, hP, hK, hD0⟩ := hv
  have hx := B.exec
  have hb := B.bytes
  have hr := B.returns
  have hts := atoms_spec (ws := wyM_keysOf) B.pre
  have htx := fun w h => hts w (List.mem_cons_of_mem _ h)
  have hown : s.vm.findClass "ValueBenchModel" = some m.cls := findClass_of_methodNamed B.named
  have hlocks := B.notSynchronized
  subst hsz
  have hD := hD0.self (sz := s.heap.size)
  generalize hAe : va_A (xMw cT aM ad rd gd vad st []) s.heap.size = A at hD hZ ⊢
  have hA : ∀ q : Nat, s.heap.size ≤ q → A q := fun q h => by rw [← hAe]; exact Or.inr h
  have hS : va_S A s.heap s.heap [] := va_S.rf
  have hl := lv_entry ([.ref aM, xv vad c0, .int x1]) (n := 5) (by simp [lg_sl, xvcat, xrscat, xcI, xcL, xcR, xcN])
  rw [show lv_args 0 [.ref aM, xv vad c0, .int x1] = [(0, .ref aM), (1, xv vad c0), (2, .int x1)] from by simp [lv_args, xvcat, xrscat, xcI, xcL, xcR, xcN]] at hl
  rw [lg_entry_eq]
  generalize (lg_sl ([.ref aM, xv vad c0, .int x1]) ++ List.replicate (5 - (lg_sl ([.ref aM, xv vad c0, .int x1])).length) Slot.unset).toArray = ls at hl ⊢
  have hl : lv_has ls 5 [(0, .ref aM), (1, xv vad c0), (2, .int x1)] := hl
  have hE : ∀ p, p < xct st → vad p = vad p := fun _ _ => rfl
  have hN : xct st ≤ xct st := Nat.le_refl _
  unfold fM_keysOf at hf
  refine xloopM (σ := Nat × Int32 × Int32 × Nat × Int32 × xS × Nat × Nat) (fun n x H locs ls => (∃ (adL gdL vadL : Nat → Nat), x.1 = 1 ∧ fM_keysOf_b d n x.1 x.2.1 x.2.2.1 x.2.2.2.1 x.2.2.2.2.1 x.2.2.2.2.2.1 x.2.2.2.2.2.2.1 x.2.2.2.2.2.2.2 = some out ∧ va_P D xcl (xMw cT aM adL rd gdL vadL x.2.2.2.2.2.1 []) H ∧ va_D A (xMw cT aM adL rd gdL vadL x.2.2.2.2.2.1 []) ∧ va_S A s.heap H locs ∧ lv_has ls 5 [(4, .int x.2.1), (3, .int x.2.2.1), (0, .ref aM), (1, xv vadL x.2.2.2.1), (2, .int x.2.2.2.2.1)] ∧ (∀ p, p < xct st → vadL p = vad p) ∧ xct st ≤ xct x.2.2.2.2.2.1)) (fun x => 24) (fun x => x.2.2.2.2.2.2.1) (fun x => x.2.2.2.2.2.2.2) (fun x H locs ls h => by (obtain ⟨_, _, _, h⟩ := h; exact absurd h.2.1 (by rw [fM_keysOf_b]; exact fun h => nomatch h))) (fun n ih x H locs ls hv => ?_) (fun key => ?_)
  · obtain ⟨lb, y4, y3, y1, y2, ws9, wc, wn⟩ := x
    rcases hv with ⟨adL, gdL, vadL, hj, hf, hP, hD, hS, hl, hE, hN⟩
    subst hj
    have hf : fM_keysOf_b d (n + 1) 1 y4 y3 y1 y2 ws9 wc wn = some out := hf
    rw [fM_keysOf_b] at hf
    obtain ⟨hP, hD⟩ : xPD D xcl A (xMw cT aM adL rd gdL vadL ws9 []) H := ⟨hP, hD⟩
    have hl : lv_has ls 5 [(4, .int y4), (3, .int y3), (0, .ref aM), (1, xv vadL y1), (2, .int y2)] := hl
    refine W.eq (g2 := F0 m 24 ls []) rfl ?_
    show W p l e _ s m _ below meth c H locs wc wn _ _
    obtain ⟨hm0, hf⟩ := xmoE hf
    refine lv_iload hx hb dM_keysOf_24 (lv_at hl 0 rfl) ?_
    refine lv_aload_n hx hb dM_keysOf_26 rfl (lv_at hl 2 rfl) ?_
    refine xm_aload_n hx hb (xvor _ _) dM_keysOf_27 rfl (lv_at hl 3 rfl) ?_
    obtain ⟨o1, hq2, hf⟩ := xbind hf
    by_cases hk3 : o1.1 = 0
    · rw [if_pos hk3] at hf
      obtain ⟨hg4, hf⟩ := xifn hf
      obtain ⟨hm5, hf⟩ := xmoE hf
      have hFc := xm_free hD hS hA
      refine va_callq (va_runV (C := "ValueBenchModel") (As := [xv vadL y1]) (rest := [.int y4]) ⟨hx, hb, hml, hown, htx⟩ (gM_array l hl9 D cT aK aV H.size n aM adL rd gdL vadL ws9 y1 o1 hq2 hk3) ⟨callB_of 1 htx (xw_goodC kw_7_42) rfl rfl rfl (htx _ kw_1_5) (htx _ kw_7_39) ⟨by decide, by decide, by decide +kernel⟩ ⟨Nat.le_of_ble_eq_true rfl, Nat.le_of_ble_eq_true rfl⟩, (htx _ kw_7_41), (htx _ kp_M_array)⟩ ⟨xPre_blind, va_recv hK hP (ci := 5) rfl (q0 := 0) rfl, (fun U hU hW => ⟨rfl, xPre_of hZ hS hFc hP hD hK U hU hW⟩)⟩ rfl rfl hl.1 rfl (xm_room (Nat.le_of_ble_eq_true rfl)) dM_keysOf_28 ⟨hm5.1, hm5.2⟩) hS (fun q _ h => hFc q h) hFc (fun r6 u9 t H1 locs ht hvm hr9 hB hz1 hk1 hS => ?_)
      obtain ⟨hP1, hK1, hD1⟩ := hB
      rw [ht] at hP1
      obtain ⟨ad7, gd8, vad9⟩ := u9
      obtain ⟨hr9, hv10, hn11⟩ := hr9
      have hP : va_P D xcl (xMw cT aM ad7 rd gd8 vad9 o1.2.2.2.2 []) H1 := hP1
      have hD : va_D A (xMw cT aM ad7 rd gd8 vad9 o1.2.2.2.2 []) := hD1.weaken (fun k q _ h => hFc q.1 h)
      generalize H1 = H at hP hS ⊢
      have hE9 : ∀ p, p < xct st → vad9 p = vad p := fun p h => (hv10 p (Nat.lt_of_lt_of_le h hN)).trans (hE p h)
      have hE := hE9
      have hN : xct st ≤ xct o1.2.2.2.2 := Nat.le_trans hN hn11
      have ev12 : xv vadL y1 = xv vad9 y1 := xvE hv10 hg4
      have hl : lv_has ls 5 [(4, .int y4), (3, .int y3), (0, .ref aM), (1, xv vad9 y1), (2, .int y2)] := by first | exact hl | ((try (rw [← ev12])); exact hl)
      rw [hr9]
      refine W.eq (g2 := F0 m 31 ls [xv vad9 o1.2.2.2.1, .int y4]) (by first | rfl | ((try (rw [ev12])); rfl)) ?_
      obtain ⟨hg13, hf⟩ := xifn hf
      refine xm_vget (v := .int ((xpi o1.2.2.2.2 3) (o1.2.2.2.1 - 1))) hx hb htx hown hK hP 3 (by decide) hg13 rfl ((hZ.1 (103, "count", "I") (List.mem_of_getElem? (i := 3) rfl)).use rfl) rfl dM_keysOf_31 ?_
      refine lv_icmp_ge (tgt := 55) hx hb dM_keysOf_34 (by decide) (fun hc => ?_) (fun hc => ?_)
      · rw [if_pos hc] at hf
        refine lv_aload_n hx hb dM_keysOf_55 rfl (lv_at hl 2 rfl) ?_
        refine lv_iconst (v := 5) hx hb dM_keysOf_56 (by decide) ?_
        refine lv_iload_n hx hb dM_keysOf_57 rfl (lv_at hl 1 rfl) ?_
        obtain ⟨o14, hq15, hf⟩ := xbind hf
        have hl := lv_sub (l' := [(4, .int y4), (3, .int y3), (0, .ref aM), (2, .int y2)]) hl [0, 1, 2, 4] rfl
        by_cases hk16 : o14.1 = 0
        · rw [if_pos hk16] at hf
          obtain ⟨hm17, hf⟩ := xmoE hf
          have hFc := xm_free hD hS hA
          refine va_callq (va_runV (C := "ValueBenchModel") (As := [.int 5, .int y3]) (rest := []) ⟨hx, hb, hml, hown, htx⟩ (gM_whole l hl9 D cT aK aV H.size n aM ad7 rd gd8 vad9 o1.2.2.2.2 (5 : Int32) y3 o14 hq15 hk16) ⟨callB_of 2 htx (xw_goodC kw_6_106) rfl rfl rfl (htx _ kw_1_5) (htx _ kw_6_103) ⟨by decide, by decide, by decide +kernel⟩ ⟨Nat.le_of_ble_eq_true rfl, Nat.le_of_ble_eq_true rfl⟩, (htx _ kw_6_105), (htx _ kp_M_whole)⟩ ⟨xPre_blind, va_recv hK hP (ci := 5) rfl (q0 := 0) rfl, (fun U hU hW => ⟨rfl, xPre_of hZ hS hFc hP hD hK U hU hW⟩)⟩ rfl rfl hl.1 rfl (xm_room (Nat.le_of_ble_eq_true rfl)) dM_keysOf_58 ⟨hm17.1, hm17.2⟩) hS (fun q _ h => hFc q h) hFc (fun r18 u9 t H1 locs ht hvm hr9 hB hz1 hk1 hS => ?_)
          obtain ⟨hP1, hK1, hD1⟩ := hB
          rw [ht] at hP1
          obtain ⟨ad19, gd20, vad21⟩ := u9
          obtain ⟨hr9, hv22, hn23⟩ := hr9
          have hP : va_P D xcl (xMw cT aM ad19 rd gd20 vad21 o14.2.2.2.2 []) H1 := hP1
          have hD : va_D A (xMw cT aM ad19 rd gd20 vad21 o14.2.2.2.2 []) := hD1.weaken (fun k q _ h => hFc q.1 h)
          generalize H1 = H at hP hS ⊢
          have hE9 : ∀ p, p < xct st → vad21 p = vad p := fun p h => (hv22 p (Nat.lt_of_lt_of_le h hN)).trans (hE p h)
          have hE := hE9
          have hN : xct st ≤ xct o14.2.2.2.2 := Nat.le_trans hN hn23
          rw [hr9]
          refine W.eq (g2 := F0 m 61 ls [xv vad21 o14.2.2.2.1]) (by first | rfl | (skip; rfl)) ?_
          obtain rfl := Option.some.inj hf
          exact absurd (show (0 : Nat) = 1 from hkd) (by decide)
        rw [if_neg hk16] at hf
        by_cases hk24 : o14.1 = 1
        · rw [if_pos hk24] at hf
          obtain ⟨hm25, hf⟩ := xmoE hf
          have hFc := xm_free hD hS hA
          refine xx_thr (vx_runV (C := "ValueBenchModel") (As := [.int 5, .int y3]) (rest := []) ⟨hx, hb, hml, hown, htx⟩ (gM_whole_1 l hl9 D cT aK aV H.size n aM ad7 rd gd8 vad9 o1.2.2.2.2 (5 : Int32) y3 o14 hq15 hk24) ⟨callB_of 2 htx (xw_goodC kw_6_106) rfl rfl rfl (htx _ kw_1_5) (htx _ kw_6_103) ⟨by decide, by decide, by decide +kernel⟩ ⟨Nat.le_of_ble_eq_true rfl, Nat.le_of_ble_eq_true rfl⟩, (htx _ kw_6_105), (htx _ kp_M_whole)⟩ ⟨xPre_blind, va_recv hK hP (ci := 5) rfl (q0 := 0) rfl, (fun U hU hW => ⟨rfl, xPre_of hZ hS hFc hP hD hK U hU hW⟩)⟩ rfl rfl hl.1 rfl (xm_room (Nat.le_of_ble_eq_true rfl)) dM_keysOf_58 ⟨hm25.1, hm25.2⟩) hS hFc (fun q _ h => hFc q h) (fun E ce q9 u9 t H1 locs ht hvm hr9 hB hz1 hk1 hS hce hcv hcl => ?_)
          obtain ⟨rfl, hP1, hK1, hD1⟩ := hB
          rw [ht] at hP1
          obtain ⟨ad27, gd28, vad29⟩ := u9
          obtain ⟨hv30, hn31⟩ := hr9
          have hP : va_P D xcl (xMw cT aM ad27 rd gd28 vad29 o14.2.2.2.2 []) H1 := hP1
          have hD : va_D A (xMw cT aM ad27 rd gd28 vad29 o14.2.2.2.2 []) := hD1.weaken (fun k q _ h => hFc q.1 h)
          generalize H1 = H at hP hS hce ⊢
          have hE9 : ∀ p, p < xct st → vad29 p = vad p := fun p h => (hv30 p (Nat.lt_of_lt_of_le h hN)).trans (hE p h)
          have hE := hE9
          have hN : xct st ≤ xct o14.2.2.2.2 := Nat.le_trans hN hn31
          obtain rfl := Option.some.inj hf
          exact vx_out (E := "java/lang/IndexOutOfBoundsException") (fun x h => (hne x h).elim) hlocks hce hcv hcl (fun t ht ha => ⟨(ad27, gd28, vad29), ⟨hE, hN⟩, ⟨rfl, by rw [ht]; exact hP, va_K.moved ha hK, hD⟩, hS.F ht⟩) hS.2.2 (Nat.le_refl _) (Nat.le_refl _)
        rw [if_neg hk24] at hf
        exact nomatch hf
      · rw [if_neg hc] at hf
        refine lv_aload_n hx hb dM_keysOf_37 rfl (lv_at hl 2 rfl) ?_
        refine lv_null hx hb dM_keysOf_38 ?_
        refine lv_aload_n hx hb dM_keysOf_39 rfl (lv_at hl 2 rfl) ?_
        refine lv_iload hx hb dM_keysOf_40 (lv_at hl 0 rfl) ?_
        refine lv_i2l hx hb dM_keysOf_42 rfl ?_
        obtain ⟨o14, hq15, hf⟩ := xbind hf
        by_cases hk16 : o14.1 = 0
        · rw [if_pos hk16] at hf
          obtain ⟨hg17, hf⟩ := xifn hf
          obtain ⟨hm18, hf⟩ := xmoE hf
          have hFc := xm_free hD hS hA
          refine va_callq (va_runV (C := "ValueBenchModel") (As := [.long y4.toInt64]) (rest := [.null, .ref aM]) ⟨hx, hb, hml, hown, htx⟩ (gM_number l hl9 D cT aK aV H.size n aM ad7 rd gd8 vad9 o1.2.2.2.2 y4.toInt64 o14 hq15 hk16) ⟨callB_of 1 htx (xw_goodC kw_6_88) rfl rfl rfl (htx _ kw_1_5) (htx _ kw_6_85) ⟨by decide, by decide, by decide +kernel⟩ ⟨Nat.le_of_ble_eq_true rfl, Nat.le_of_ble_eq_true rfl⟩, (htx _ kw_6_87), (htx _ kp_M_number)⟩ ⟨xPre_blind, va_recv hK hP (ci := 5) rfl (q0 := 0) rfl, (fun U hU hW => ⟨rfl, xPre_of hZ hS hFc hP hD hK U hU hW⟩)⟩ rfl rfl hl.1 rfl (xm_room (Nat.le_of_ble_eq_true rfl)) dM_keysOf_43 ⟨hm18.1, hm18.2⟩) hS (fun q _ h => hFc q h) hFc (fun r19 u9 t H1 locs ht hvm hr9 hB hz1 hk1 hS => ?_)
          obtain ⟨hP1, hK1, hD1⟩ := hB
          rw [ht] at hP1
          obtain ⟨ad20, gd21, vad22⟩ := u9
          obtain ⟨hr9, hv23, hn24⟩ := hr9
          have hP : va_P D xcl (xMw cT aM ad20 rd gd21 vad22 o14.2.2.2.2 []) H1 := hP1
          have hD : va_D A (xMw cT aM ad20 rd gd21 vad22 o14.2.2.2.2 []) := hD1.weaken (fun k q _ h => hFc q.1 h)
          generalize H1 = H at hP hS ⊢
          have hE9 : ∀ p, p < xct st → vad22 p = vad p := fun p h => (hv23 p (Nat.lt_of_lt_of_le h hN)).trans (hE p h)
          have hE := hE9
          have hN : xct st ≤ xct o14.2.2.2.2 := Nat.le_trans hN hn24
          have ev25 : xv vad9 y1 = xv vad22 y1 := xvE hv23 hg17
          have hl : lv_has ls 5 [(4, .int y4), (3, .int y3), (0, .ref aM), (1, xv vad22 y1), (2, .int y2)] := by first | exact hl | ((try (rw [← ev25])); exact hl)
          rw [hr9]
          refine W.eq (g2 := F0 m 46 ls [xv vad22 o14.2.2.2.1, .null, .ref aM]) (by first | rfl | ((try (rw [ev25])); rfl)) ?_
          obtain ⟨o26, hq27, hf⟩ := xbind hf
          obtain ⟨hg28, hf⟩ := xifn hf
          obtain ⟨hm29, hf⟩ := xmoE hf
          have hFc := xm_free hD hS hA
          refine va_callv (va_runV (C := "ValueBenchModel") (As := [.null, xv vad22 o14.2.2.2.1]) (rest := []) ⟨hx, hb, hml, hown, htx⟩ (gM_wait l hl9 D cT aK aV H.size n aM ad20 rd gd21 vad22 o14.2.2.2.2 0 o14.2.2.2.1 o26 hq27) ⟨callB_of 2 htx (xw_goodC kw_6_112) rfl rfl rfl (htx _ kw_1_5) (htx _ kw_6_109) ⟨by decide, by decide, by decide +kernel⟩ ⟨Nat.le_of_ble_eq_true rfl, Nat.le_of_ble_eq_true rfl⟩, (htx _ kw_6_111), (htx _ kp_M_wait)⟩ ⟨xPre_blind, va_recv hK hP (ci := 5) rfl (q0 := 0) rfl, (fun U hU hW => ⟨rfl, xPre_of hZ hS hFc hP hD hK U hU hW⟩)⟩ rfl rfl hl.1 rfl (xm_room (Nat.le_of_ble_eq_true rfl)) dM_keysOf_46 ⟨hm29.1, hm29.2⟩) hS (fun q _ h => hFc q h) hFc (fun u9 t H1 locs ht hvm hr9 hB hz1 hk1 hS => ?_)
          obtain ⟨hP1, hK1, hD1⟩ := hB
          rw [ht] at hP1
          obtain ⟨ad31, gd32, vad33⟩ := u9
          obtain ⟨hv34, hn35⟩ := hr9
          have hP : va_P D xcl (xMw cT aM ad31 rd gd32 vad33 o26.2.2 []) H1 := hP1
          have hD : va_D A (xMw cT aM ad31 rd gd32 vad33 o26.2.2 []) := hD1.weaken (fun k q _ h => hFc q.1 h)
          generalize H1 = H at hP hS ⊢
          have hE9 : ∀ p, p < xct st → vad33 p = vad p := fun p h => (hv34 p (Nat.lt_of_lt_of_le h hN)).trans (hE p h)
          have hE := hE9
          have hN : xct st ≤ xct o26.2.2 := Nat.le_trans hN hn35
          have ev36 : xv vad22 y1 = xv vad33 y1 := xvE hv34 hg28
          have hl : lv_has ls 5 [(4, .int y4), (3, .int y3), (0, .ref aM), (1, xv vad33 y1), (2, .int y2)] := by first | exact hl | ((try (rw [← ev36])); exact hl)
          refine W.eq (g2 := F0 m 49 ls []) (by first | rfl | ((try (rw [ev36])); rfl)) ?_
          refine lv_iinc (v := (y4 + 1)) (lv' := [(4, .int (y4 + 1)), (3, .int y3), (0, .ref aM), (1, xv vad33 y1), (2, .int y2)]) hx hb dM_keysOf_49 hl (k := 0) rfl rfl (by decide) rfl (fun ls hl => ?_)
          refine lv_goto (tgt := 24) hx hb dM_keysOf_52 (by decide) ?_
          exact ih (1, (y4 + 1), y3, y1, y2, o26.2.2, (((wc + o1.2.1) + o14.2.1) + o26.1), (((wn + o1.2.2.1) + o14.2.2.1) + o26.2.1)) _ _ ls (⟨ad31, gd32, vad33, rfl, hf, hP, hD, hS, lv_sub hl [0, 1, 2, 3, 4] rfl, hE, hN⟩)
        rw [if_neg hk16] at hf
        by_cases hk37 : o14.1 = 1
        · rw [if_pos hk37] at hf
          obtain ⟨hg38, hf⟩ := xifn hf
          obtain ⟨hm39, hf⟩ := xmoE hf
          obtain rfl := Option.some.inj hf
          exact absurd (show (2 : Nat) = 1 from hkd) (by decide)
        rw [if_neg hk37] at hf
        exact nomatch hf
    rw [if_neg hk3] at hf
    by_cases hk14 : o1.1 = 1
    · rw [if_pos hk14] at hf
      obtain ⟨hg15, hf⟩ := xifn hf
      obtain ⟨hm16, hf⟩ := xmoE hf
      obtain rfl := Option.some.inj hf
      exact absurd (show (2 : Nat) = 1 from hkd) (by decide)
    rw [if_neg hk14] at hf
    exact nomatch hf
  refine xm_aload_n hx hb (xvor _ _) dM_keysOf_0 rfl (lv_at hl 1 rfl) ?_
  obtain ⟨hg1, hf⟩ := xifn hf
  refine xm_vget (v := .int ((xpi st 0) (c0 - 1))) hx hb htx hown hK hP 0 (by decide) hg1 rfl ((hZ.1 (93, "kind", "I") (List.mem_of_getElem? (i := 0) rfl)).use rfl) rfl dM_keysOf_1 ?_
  refine lv_bipush (v := 6) hx hb dM_keysOf_4 (by decide) ?_
  refine lv_icmp_ne (tgt := 16) hx hb dM_keysOf_6 (by decide) (fun hc => ?_) (fun hc => ?_)
  · rw [if_neg hc] at hf
    refine lv_aload_n hx hb dM_keysOf_16 rfl (lv_at hl 0 rfl) ?_
    refine xm_get (v := .int (xsi st 12)) hx hb htx hown hK hP 12 (by decide) rfl (htx _ kw_5_99) rfl dM_keysOf_17 ?_
    refine lv_istore_n (lv' := [(3, .int (xsi st 12)), (0, .ref aM), (1, xv vad c0), (2, .int x1)]) hx hb dM_keysOf_20 rfl hl (by decide) rfl (fun ls hl => ?_)
    refine lv_iconst (v := 0) hx hb dM_keysOf_21 (by decide) ?_
    refine lv_istore (lv' := [(4, .int 0), (3, .int (xsi st 12)), (0, .ref aM), (1, xv vad c0), (2, .int x1)]) hx hb dM_keysOf_22 hl (by decide) rfl (fun ls hl => ?_)
    exact key n (1, (0 : Int32), (xsi st 12), c0, x1, st, 0, 0) _ _ ls (⟨ad, gd, vad, rfl, hf, hP, hD, hS, lv_sub hl [0, 1, 2, 3, 4] rfl, hE, hN⟩)
  · rw [if_pos hc] at hf
    refine lv_aload_n hx hb dM_keysOf_9 rfl (lv_at hl 0 rfl) ?_
    refine xm_aload_n hx hb (xvor _ _) dM_keysOf_10 rfl (lv_at hl 1 rfl) ?_
    refine lv_iload_n hx hb dM_keysOf_11 rfl (lv_at hl 2 rfl) ?_
    obtain ⟨o2, hq3, hf⟩ := xbind hf
    have hl := lv_sub (l' := [(0, .ref aM), (2, .int x1)]) hl [0, 2] rfl
    by_cases hk4 : o2.1 = 0
    · rw [if_pos hk4] at hf
      obtain ⟨hm5, hf⟩ := xmoE hf
      have hFc := xm_free hD hS hA
      refine va_callq (va_runV (C := "ValueBenchModel") (As := [xv vad c0, .int x1]) (rest := []) ⟨hx, hb, hml, hown, htx⟩ (gM_keys l hl9 D cT aK aV s.heap.size d n aM ad rd gd vad st c0 x1 o2 hq3 hk4) ⟨callB_of 2 htx (xw_goodC kw_7_17) rfl rfl rfl (htx _ kw_1_5) (htx _ kw_7_14) ⟨by decide, by decide, by decide +kernel⟩ ⟨(by show (16 * d + 9) + 1 ≤ 16 * d + 10; omega), (by show 8 + (5 + 11) + (400 * d + 176) ≤ 400 * d + 200; omega)⟩, (htx _ kw_7_16), (htx _ kp_M_keys)⟩ ⟨xPre_blind, va_recv hK hP (ci := 5) rfl (q0 := 0) rfl, (fun U hU hW => ⟨rfl, xPre_of hZ hS hFc hP hD hK U hU hW⟩)⟩ rfl rfl hl.1 rfl (xm_room (Nat.le_of_ble_eq_true rfl)) dM_keysOf_12 ⟨hm5.1, hm5.2⟩) hS (fun q _ h => hFc q h) hFc (fun r6 u9 t H1 locs ht hvm hr9 hB hz1 hk1 hS => ?_)
      obtain ⟨hP1, hK1, hD1⟩ := hB
      rw [ht] at hP1
      obtain ⟨ad7, gd8, vad9⟩ := u9
      obtain ⟨hr9, hv10, hn11⟩ := hr9
      have hP : va_P D xcl (xMw cT aM ad7 rd gd8 vad9 o2.2.2.2.2 []) H1 := hP1
      have hD : va_D A (xMw cT aM ad7 rd gd8 vad9 o2.2.2.2.2 []) := hD1.weaken (fun k q _ h => hFc q.1 h)
      generalize H1 = H at hP hS ⊢
      have hE9 : ∀ p, p < xct st → vad9 p = vad p := fun p h => (hv10 p (Nat.lt_of_lt_of_le h hN)).trans (hE p h)
      have hE := hE9
      have hN : xct st ≤ xct o2.2.2.2.2 := Nat.le_trans hN hn11
      rw [hr9]
      refine W.eq (g2 := F0 m 15 ls [xv vad9 o2.2.2.2.1]) (by first | rfl | (skip; rfl)) ?_
      obtain rfl := Option.some.inj hf
      exact absurd (show (0 : Nat) = 1 from hkd) (by decide)
    rw [if_neg hk4] at hf
    by_cases hk12 : o2.1 = 1
    · rw [if_pos hk12] at hf
      obtain ⟨hm13, hf⟩ := xmoE hf
      have hFc := xm_free hD hS hA
      refine xx_thr (vx_runV (C := "ValueBenchModel") (As := [xv vad c0, .int x1]) (rest := []) ⟨hx, hb, hml, hown, htx⟩ (gM_keys_1 l hl9 D cT aK aV s.heap.size d n aM ad rd gd vad st c0 x1 o2 hq3 hk12) ⟨callB_of 2 htx (xw_goodC kw_7_17) rfl rfl rfl (htx _ kw_1_5) (htx _ kw_7_14) ⟨by decide, by decide, by decide +kernel⟩ ⟨(by show (16 * d + 9) + 1 ≤ 16 * d + 10; omega), (by show 8 + (5 + 11) + (400 * d + 176) ≤ 400 * d + 200; omega)⟩, (htx _ kw_7_16), (htx _ kp_M_keys)⟩ ⟨xPre_blind, va_recv hK hP (ci := 5) rfl (q0 := 0) rfl, (fun U hU hW => ⟨rfl, xPre_of hZ hS hFc hP hD hK U hU hW⟩)⟩ rfl rfl hl.1 rfl (xm_room (Nat.le_of_ble_eq_true rfl)) dM_keysOf_12 ⟨hm13.1, hm13.2⟩) hS hFc (fun q _ h => hFc q h) (fun E ce q9 u9 t H1 locs ht hvm hr9 hB hz1 hk1 hS hce hcv hcl => ?_)
      obtain ⟨rfl, hP1, hK1, hD1⟩ := hB
      rw [ht] at hP1
      obtain ⟨ad15, gd16, vad17⟩ := u9
      obtain ⟨hv18, hn19⟩ := hr9
      have hP : va_P D xcl (xMw cT aM ad15 rd gd16 vad17 o2.2.2.2.2 []) H1 := hP1
      have hD : va_D A (xMw cT aM ad15 rd gd16 vad17 o2.2.2.2.2 []) := hD1.weaken (fun k q _ h => hFc q.1 h)
      generalize H1 = H at hP hS hce ⊢
      have hE9 : ∀ p, p < xct st → vad17 p = vad p := fun p h => (hv18 p (Nat.lt_of_lt_of_le h hN)).trans (hE p h)
      have hE := hE9
      have hN : xct st ≤ xct o2.2.2.2.2 := Nat.le_trans hN hn19
      obtain rfl := Option.some.inj hf
      exact vx_out (E := "java/lang/IndexOutOfBoundsException") (fun x h => (hne x h).elim) hlocks hce hcv hcl (fun t ht ha => ⟨(ad15, gd16, vad17), ⟨hE, hN⟩, ⟨rfl, by rw [ht]; exact hP, va_K.moved ha hK, hD⟩, hS.F ht⟩) hS.2.2 (Nat.le_refl _) (Nat.le_refl _)
    rw [if_neg hk12] at hf
    exact nomatch hf
set_option maxHeartbeats 400000000 in
set_option maxRecDepth 100000 in
theorem gM_keysOf_2 (l : Launch) (hl9 : l.stackTraces = false) (D : va_G) (cT : Nat → ClassId) (aK aV : Nat → Nat) (sz d n : Nat) (aM : Nat) (ad rd gd vad : Nat → Nat) (st : xS) (c0 : Nat) (x1 : Int32) (out : Nat × Nat × Nat × Nat × xS) (hf : fM_keysOf d n st c0 x1 = some out) (hkd : out.1 = 2) : xMetY l yM_keysOf wyM_keysOf (16 * d + 10) out.2.1 out.2.2.1 (400 * d + 200) D cT aK aV sz [.ref aM, xv vad c0, .int x1] (xMw cT aM ad rd gd vad st []) "java/lang/ArithmeticException" (fun u => xE vad st out.2.2.2.2 u) (fun A u t => xB D xcl cT A (xMw cT aM u.1 rd u.2.1 u.2.2 out.2.2.2.2 []) t) := by
  refine vx_ofW (cc := prog_13_method_58_code) (maxL := 5) (ret := (some (.object "ValueBenchModel$V"))) (by decide) rfl ?_
  intro p e s m args below meth c s₁ B hml hne hv
  obtain ⟨rfl, hsz, hZ, hP, hK, hD0⟩ := hv
  have hx := B.exec
  have hb := B.bytes
  have hr := B.returns
  have hts := atoms_spec (ws := wyM_keysOf) B.pre
  have htx := fun w h => hts w (List.mem_cons_of_mem _ h)
  have hown : s.vm.findClass "ValueBenchModel" = some m.cls := findClass_of_methodNamed B.named
  have hlocks := B.notSynchronized
  subst hsz
  have hD := hD0.self (sz := s.heap.size)
  generalize hAe : va_A (xMw cT aM ad rd gd vad st []) s.heap.size = A at hD hZ ⊢
  have hA : ∀ q : Nat, s.heap.size ≤ q → A q := fun q h => by rw [← hAe]; exact Or.inr h
  have hS : va_S A s.heap s.heap [] := va_S.rf
  have hl := lv_entry ([.ref aM, xv vad c0, .int x1]) (n := 5) (by simp [lg_sl, xvcat, xrscat, xcI, xcL, xcR, xcN])
  rw [show lv_args 0 [.ref aM, xv vad c0, .int x1] = [(0, .ref aM), (1, xv vad c0), (2, .int x1)] from by simp [lv_args, xvcat, xrscat, xcI, xcL, xcR, xcN]] at hl
  rw [lg_entry_eq]
  generalize (lg_sl ([.ref aM, xv vad c0, .int x1]) ++ List.replicate (5 - (lg_sl ([.ref aM, xv vad c0, .int x1])).length) Slot.unset).toArray = ls at hl ⊢
  have hl : lv_has ls 5 [(0, .ref aM), (1, xv vad c0), (2, .int x1)] := hl
  have hE : ∀ p, p < xct st → vad p = vad p := fun _ _ => rfl
  have hN : xct st ≤ xct st := Nat.le_refl _
  unfold fM_keysOf at hf
  refine xloopM (σ := Nat × Int32 × Int32 × Nat × Int32 × xS × Nat × Nat) (fun n x H locs ls => (∃ (adL gdL vadL : Nat → Nat), x.1 = 1 ∧ fM_keysOf_b d n x.1 x.2.1 x.2.2.1 x.2.2.2.1 x.2.2.2.2.1 x.2.2.2.2.2.1 x.2.2.2.2.2.2.1 x.2.2.2.2.2.2.2 = some out ∧ va_P D xcl (xMw cT aM adL rd gdL vadL x.2.2.2.2.2.1 []) H ∧ va_D A (xMw cT aM adL rd gdL vadL x.2.2.2.2.2.1 []) ∧ va_S A s.heap H locs ∧ lv_has ls 5 [(4, .int x.2.1), (3, .int x.2.2.1), (0, .ref aM), (1, xv vadL x.2.2.2.1), (2, .int x.2.2.2.2.1)] ∧ (∀ p, p < xct st → vadL p = vad p) ∧ xct st ≤ xct x.2.2.2.2.2.1)) (fun x => 24) (fun x => x.2.2.2.2.2.2.1) (fun x => x.2.2.2.2.2.2.2) (fun x H locs ls h => by (obtain ⟨_, _, _, h⟩ := h; exact absurd h.2.1 (by rw [fM_keysOf_b]; exact fun h => nomatch h))) (fun n ih x H locs ls hv => ?_) (fun key => ?_)
  · obtain ⟨lb, y4, y3, y1, y2, ws9, wc, wn⟩ := x
    rcases hv with ⟨adL, gdL, vadL, hj, hf, hP, hD, hS, hl, hE, hN⟩
    subst hj
    have hf : fM_keysOf_b d (n + 1) 1 y4 y3 y1 y2 ws9 wc wn = some out := hf
    rw [fM_keysOf_b] at hf
    obtain ⟨hP, hD⟩ : xPD D xcl A (xMw cT aM adL rd gdL vadL ws9 []) H := ⟨hP, hD⟩
    have hl : lv_has ls 5 [(4, .int y4), (3, .int y3), (0, .ref aM), (1, xv vadL y1), (2, .int y2)] := hl
    refine W.eq (g2 := F0 m 24 ls []) rfl ?_
    show W p l e _ s m _ below meth c H locs wc wn _ _
    obtain ⟨hm0, hf⟩ := xmoE hf
    refine lv_iload hx hb dM_keysOf_24 (lv_at hl 0 rfl) ?_
    refine lv_aload_n hx hb dM_keysOf_26 rfl (lv_at hl 2 rfl) ?_
    refine xm_aload_n hx hb (xvor _ _) dM_keysOf_27 rfl (lv_at hl 3 rfl) ?_
    obtain ⟨o1, hq2, hf⟩ := xbind hf
    by_cases hk3 : o1.1 = 0
    · rw [if_pos hk3] at hf
      obtain ⟨hg4, hf⟩ := xifn hf
      obtain ⟨hm5, hf⟩ := xmoE hf
      have hFc := xm_free hD hS hA
      refine va_callq (va_runV (C := "ValueBenchModel") (As := [xv vadL y1]) (rest := [.int y4]) ⟨hx, hb, hml, hown, htx⟩ (gM_array l hl9 D cT aK aV H.size n aM adL rd gdL vadL ws9 y1 o1 hq2 hk3) ⟨callB_of 1 htx (xw_goodC kw_7_42) rfl rfl rfl (htx _ kw_1_5) (htx _ kw_7_39) ⟨by decide, by decide, by decide +kernel⟩ ⟨Nat.le_of_ble_eq_true rfl, Nat.le_of_ble_eq_true rfl⟩, (htx _ kw_7_41), (htx _ kp_M_array)⟩ ⟨xPre_blind, va_recv hK hP (ci := 5) rfl (q0 := 0) rfl, (fun U hU hW => ⟨rfl, xPre_of hZ hS hFc hP hD hK U hU hW⟩)⟩ rfl rfl hl.1 rfl (xm_room (Nat.le_of_ble_eq_true rfl)) dM_keysOf_28 ⟨hm5.1, hm5.2⟩) hS (fun q _ h => hFc q h) hFc (fun r6 u9 t H1 locs ht hvm hr9 hB hz1 hk1 hS => ?_)
      obtain ⟨hP1, hK1, hD1⟩ := hB
      rw [ht] at hP1
      obtain ⟨ad7, gd8, vad9⟩ := u9
      obtain ⟨hr9, hv10, hn11⟩ := hr9
      have hP : va_P D xcl (xMw cT aM ad7 rd gd8 vad9 o1.2.2.2.2 []) H1 := hP1
      have hD : va_D A (xMw cT aM ad7 rd gd8 vad9 o1.2.2.2.2 []) := hD1.weaken (fun k q _ h => hFc q.1 h)
      generalize H1 = H at hP hS ⊢
      have hE9 : ∀ p, p < xct st → vad9 p = vad p := fun p h => (hv10 p (Nat.lt_of_lt_of_le h hN)).trans (hE p h)
      have hE := hE9
      have hN : xct st ≤ xct o1.2.2.2.2 := Nat.le_trans hN hn11
      have ev12 : xv vadL y1 = xv vad9 y1 := xvE hv10 hg4
      have hl : lv_has ls 5 [(4, .int y4), (3, .int y3), (0, .ref aM), (1, xv vad9 y1), (2, .int y2)] := by first | exact hl | ((try (rw [← ev12])); exact hl)
      rw [hr9]
      refine W.eq (g2 := F0 m 31 ls [xv vad9 o1.2.2.2.1, .int y4]) (by first | rfl | ((try (rw [ev12])); rfl)) ?_
      obtain ⟨hg13, hf⟩ := xifn hf
      refine xm_vget (v := .int ((xpi o1.2.2.2.2 3) (o1.2.2.2.1 - 1))) hx hb htx hown hK hP 3 (by decide) hg13 rfl ((hZ.1 (103, "count", "I") (List.mem_of_getElem? (i := 3) rfl)).use rfl) rfl dM_keysOf_31 ?_
      refine lv_icmp_ge (tgt := 55) hx hb dM_keysOf_34 (by decide) (fun hc => ?_) (fun hc => ?_)
      · rw [if_pos hc] at hf
        refine lv_aload_n hx hb dM_keysOf_55 rfl (lv_at hl 2 rfl) ?_
        refine lv_iconst (v := 5) hx hb dM_keysOf_56 (by decide) ?_
        refine lv_iload_n hx hb dM_keysOf_57 rfl (lv_at hl 1 rfl) ?_
        obtain ⟨o14, hq15, hf⟩ := xbind hf
        have hl := lv_sub (l' := [(4, .int y4), (3, .int y3), (0, .ref aM), (2, .int y2)]) hl [0, 1, 2, 4] rfl
        by_cases hk16 : o14.1 = 0
        · rw [if_pos hk16] at hf
          obtain ⟨hm17, hf⟩ := xmoE hf
          have hFc := xm_free hD hS hA
          refine va_callq (va_runV (C := "ValueBenchModel") (As := [.int 5, .int y3]) (rest := []) ⟨hx, hb, hml, hown, htx⟩ (gM_whole l hl9 D cT aK aV H.size n aM ad7 rd gd8 vad9 o1.2.2.2.2 (5 : Int32) y3 o14 hq15 hk16) ⟨callB_of 2 htx (xw_goodC kw_6_106) rfl rfl rfl (htx _ kw_1_5) (htx _ kw_6_103) ⟨by decide, by decide, by decide +kernel⟩ ⟨Nat.le_of_ble_eq_true rfl, Nat.le_of_ble_eq_true rfl⟩, (htx _ kw_6_105), (htx _ kp_M_whole)⟩ ⟨xPre_blind, va_recv hK hP (ci := 5) rfl (q0 := 0) rfl, (fun U hU hW => ⟨rfl, xPre_of hZ hS hFc hP hD hK U hU hW⟩)⟩ rfl rfl hl.1 rfl (xm_room (Nat.le_of_ble_eq_true rfl)) dM_keysOf_58 ⟨hm17.1, hm17.2⟩) hS (fun q _ h => hFc q h) hFc (fun r18 u9 t H1 locs ht hvm hr9 hB hz1 hk1 hS => ?_)
          obtain ⟨hP1, hK1, hD1⟩ := hB
          rw [ht] at hP1
          obtain ⟨ad19, gd20, vad21⟩ := u9
          obtain ⟨hr9, hv22, hn23⟩ := hr9
          have hP : va_P D xcl (xMw cT aM ad19 rd gd20 vad21 o14.2.2.2.2 []) H1 := hP1
          have hD : va_D A (xMw cT aM ad19 rd gd20 vad21 o14.2.2.2.2 []) := hD1.weaken (fun k q _ h => hFc q.1 h)
          generalize H1 = H at hP hS ⊢
          have hE9 : ∀ p, p < xct st → vad21 p = vad p := fun p h => (hv22 p (Nat.lt_of_lt_of_le h hN)).trans (hE p h)
          have hE := hE9
          have hN : xct st ≤ xct o14.2.2.2.2 := Nat.le_trans hN hn23
          rw [hr9]
          refine W.eq (g2 := F0 m 61 ls [xv vad21 o14.2.2.2.1]) (by first | rfl | (skip; rfl)) ?_
          obtain rfl := Option.some.inj hf
          exact absurd (show (0 : Nat) = 2 from hkd) (by decide)
        rw [if_neg hk16] at hf
        by_cases hk24 : o14.1 = 1
        · rw [if_pos hk24] at hf
          obtain ⟨hm25, hf⟩ := xmoE hf
          obtain rfl := Option.some.inj hf
          exact absurd (show (1 : Nat) = 2 from hkd) (by decide)
        rw [if_neg hk24] at hf
        exact nomatch hf
      · rw [if_neg hc] at hf
        refine lv_aload_n hx hb dM_keysOf_37 rfl (lv_at hl 2 rfl) ?_
        refine lv_null hx hb dM_keysOf_38 ?_
        refine lv_aload_n hx hb dM_keysOf_39 rfl (lv_at hl 2 rfl) ?_
        refine lv_iload hx hb dM_keysOf_40 (lv_at hl 0 rfl) ?_
        refine lv_i2l hx hb dM_keysOf_42 rfl ?_
        obtain ⟨o14, hq15, hf⟩ := xbind hf
        by_cases hk16 : o14.1 = 0
        · rw [if_pos hk16] at hf
          obtain ⟨hg17, hf⟩ := xifn hf
          obtain ⟨hm18, hf⟩ := xmoE hf
          have hFc := xm_free hD hS hA
          refine va_callq (va_runV (C := "ValueBenchModel") (As := [.long y4.toInt64]) (rest := [.null, .ref aM]) ⟨hx, hb, hml, hown, htx⟩ (gM_number l hl9 D cT aK aV H.size n aM ad7 rd gd8 vad9 o1.2.2.2.2 y4.toInt64 o14 hq15 hk16) ⟨callB_of 1 htx (xw_goodC kw_6_88) rfl rfl rfl (htx _ kw_1_5) (htx _ kw_6_85) ⟨by decide, by decide, by decide +kernel⟩ ⟨Nat.le_of_ble_eq_true rfl, Nat.le_of_ble_eq_true rfl⟩, (htx _ kw_6_87), (htx _ kp_M_number)⟩ ⟨xPre_blind, va_recv hK hP (ci := 5) rfl (q0 := 0) rfl, (fun U hU hW => ⟨rfl, xPre_of hZ hS hFc hP hD hK U hU hW⟩)⟩ rfl rfl hl.1 rfl (xm_room (Nat.le_of_ble_eq_true rfl)) dM_keysOf_43 ⟨hm18.1, hm18.2⟩) hS (fun q _ h => hFc q h) hFc (fun r19 u9 t H1 locs ht hvm hr9 hB hz1 hk1 hS => ?_)
          obtain ⟨hP1, hK1, hD1⟩ := hB
          rw [ht] at hP1
          obtain ⟨ad20, gd21, vad22⟩ := u9
          obtain ⟨hr9, hv23, hn24⟩ := hr9
          have hP : va_P D xcl (xMw cT aM ad20 rd gd21 vad22 o14.2.2.2.2 []) H1 := hP1
          have hD : va_D A (xMw cT aM ad20 rd gd21 vad22 o14.2.2.2.2 []) := hD1.weaken (fun k q _ h => hFc q.1 h)
          generalize H1 = H at hP hS ⊢
          have hE9 : ∀ p, p < xct st → vad22 p = vad p := fun p h => (hv23 p (Nat.lt_of_lt_of_le h hN)).trans (hE p h)
          have hE := hE9
          have hN : xct st ≤ xct o14.2.2.2.2 := Nat.le_trans hN hn24
          have ev25 : xv vad9 y1 = xv vad22 y1 := xvE hv23 hg17
          have hl : lv_has ls 5 [(4, .int y4), (3, .int y3), (0, .ref aM), (1, xv vad22 y1), (2, .int y2)] := by first | exact hl | ((try (rw [← ev25])); exact hl)
          rw [hr9]
          refine W.eq (g2 := F0 m 46 ls [xv vad22 o14.2.2.2.1, .null, .ref aM]) (by first | rfl | ((try (rw [ev25])); rfl)) ?_
          obtain ⟨o26, hq27, hf⟩ := xbind hf
          obtain ⟨hg28, hf⟩ := xifn hf
          obtain ⟨hm29, hf⟩ := xmoE hf
          have hFc := xm_free hD hS hA
          refine va_callv (va_runV (C := "ValueBenchModel") (As := [.null, xv vad22 o14.2.2.2.1]) (rest := []) ⟨hx, hb, hml, hown, htx⟩ (gM_wait l hl9 D cT aK aV H.size n aM ad20 rd gd21 vad22 o14.2.2.2.2 0 o14.2.2.2.1 o26 hq27) ⟨callB_of 2 htx (xw_goodC kw_6_112) rfl rfl rfl (htx _ kw_1_5) (htx _ kw_6_109) ⟨by decide, by decide, by decide +kernel⟩ ⟨Nat.le_of_ble_eq_true rfl, Nat.le_of_ble_eq_true rfl⟩, (htx _ kw_6_111), (htx _ kp_M_wait)⟩ ⟨xPre_blind, va_recv hK hP (ci := 5) rfl (q0 := 0) rfl, (fun U hU hW => ⟨rfl, xPre_of hZ hS hFc hP hD hK U hU hW⟩)⟩ rfl rfl hl.1 rfl (xm_room (Nat.le_of_ble_eq_true rfl)) dM_keysOf_46 ⟨hm29.1, hm29.2⟩) hS (fun q _ h => hFc q h) hFc (fun u9 t H1 locs ht hvm hr9 hB hz1 hk1 hS => ?_)
          obtain ⟨hP1, hK1, hD1⟩ := hB
          rw [ht] at hP1
          obtain ⟨ad31, gd32, vad33⟩ := u9
          obtain ⟨hv34, hn35⟩ := hr9
          have hP : va_P D xcl (xMw cT aM ad31 rd gd32 vad33 o26.2.2 []) H1 := hP1
          have hD : va_D A (xMw cT aM ad31 rd gd32 vad33 o26.2.2 []) := hD1.weaken (fun k q _ h => hFc q.1 h)
          generalize H1 = H at hP hS ⊢
          have hE9 : ∀ p, p < xct st → vad33 p = vad p := fun p h => (hv34 p (Nat.lt_of_lt_of_le h hN)).trans (hE p h)
          have hE := hE9
          have hN : xct st ≤ xct o26.2.2 := Nat.le_trans hN hn35
          have ev36 : xv vad22 y1 = xv vad33 y1 := xvE hv34 hg28
          have hl : lv_has ls 5 [(4, .int y4), (3, .int y3), (0, .ref aM), (1, xv vad33 y1), (2, .int y2)] := by first | exact hl | ((try (rw [← ev36])); exact hl)
          refine W.eq (g2 := F0 m 49 ls []) (by first | rfl | ((try (rw [ev36])); rfl)) ?_
          refine lv_iinc (v := (y4 + 1)) (lv' := [(4, .int (y4 + 1)), (3, .int y3), (0, .ref aM), (1, xv vad33 y1), (2, .int y2)]) hx hb dM_keysOf_49 hl (k := 0) rfl rfl (by decide) rfl (fun ls hl => ?_)
          refine lv_goto (tgt := 24) hx hb dM_keysOf_52 (by decide) ?_
          exact ih (1, (y4 + 1), y3, y1, y2, o26.2.2, (((wc + o1.2.1) + o14.2.1) + o26.1), (((wn + o1.2.2.1) + o14.2.2.1) + o26.2.1)) _ _ ls (⟨ad31, gd32, vad33, rfl, hf, hP, hD, hS, lv_sub hl [0, 1, 2, 3, 4] rfl, hE, hN⟩)
        rw [if_neg hk16] at hf
        by_cases hk37 : o14.1 = 1
        · rw [if_pos hk37] at hf
          obtain ⟨hg38, hf⟩ := xifn hf
          obtain ⟨hm39, hf⟩ := xmoE hf
          have hFc := xm_free hD hS hA
          refine xx_thr (vx_runV (C := "ValueBenchModel") (As := [.long y4.toInt64]) (rest := [.null, .ref aM]) ⟨hx, hb, hml, hown, htx⟩ (gM_number_1 l hl9 D cT aK aV H.size n aM ad7 rd gd8 vad9 o1.2.2.2.2 y4.toInt64 o14 hq15 hk37) ⟨callB_of 1 htx (xw_goodC kw_6_88) rfl rfl rfl (htx _ kw_1_5) (htx _ kw_6_85) ⟨by decide, by decide, by decide +kernel⟩ ⟨Nat.le_of_ble_eq_true rfl, Nat.le_of_ble_eq_true rfl⟩, (htx _ kw_6_87), (htx _ kp_M_number)⟩ ⟨xPre_blind, va_recv hK hP (ci := 5) rfl (q0 := 0) rfl, (fun U hU hW => ⟨rfl, xPre_of hZ hS hFc hP hD hK U hU hW⟩)⟩ rfl rfl hl.1 rfl (xm_room (Nat.le_of_ble_eq_true rfl)) dM_keysOf_43 ⟨hm39.1, hm39.2⟩) hS hFc (fun q _ h => hFc q h) (fun E ce q9 u9 t H1 locs ht hvm hr9 hB hz1 hk1 hS hce hcv hcl => ?_)
          obtain ⟨rfl, hP1, hK1, hD1⟩ := hB
          rw [ht] at hP1
          obtain ⟨ad41, gd42, vad43⟩ := u9
          obtain ⟨hv44, hn45⟩ := hr9
          have hP : va_P D xcl (xMw cT aM ad41 rd gd42 vad43 o14.2.2.2.2 []) H1 := hP1
          have hD : va_D A (xMw cT aM ad41 rd gd42 vad43 o14.2.2.2.2 []) := hD1.weaken (fun k q _ h => hFc q.1 h)
          generalize H1 = H at hP hS hce ⊢
          have hE9 : ∀ p, p < xct st → vad43 p = vad p := fun p h => (hv44 p (Nat.lt_of_lt_of_le h hN)).trans (hE p h)
          have hE := hE9
          have hN : xct st ≤ xct o14.2.2.2.2 := Nat.le_trans hN hn45
          have ev46 : xv vad9 y1 = xv vad43 y1 := xvE hv44 hg38
          have hl : lv_has ls 5 [(4, .int y4), (3, .int y3), (0, .ref aM), (1, xv vad43 y1), (2, .int y2)] := by first | exact hl | ((try (rw [← ev46])); exact hl)
          obtain rfl := Option.some.inj hf
          exact vx_out (E := "java/lang/ArithmeticException") (fun x h => (hne x h).elim) hlocks hce hcv hcl (fun t ht ha => ⟨(ad41, gd42, vad43), ⟨hE, hN⟩, ⟨rfl, by rw [ht]; exact hP, va_K.moved ha hK, hD⟩, hS.F ht⟩) hS.2.2 (Nat.le_refl _) (Nat.le_refl _)
        rw [if_neg hk37] at hf
        exact nomatch hf
    rw [if_neg hk3] at hf
    by_cases hk14 : o1.1 = 1
    · rw [if_pos hk14] at hf
      obtain ⟨hg15, hf⟩ := xifn hf
      obtain ⟨hm16, hf⟩ := xmoE hf
      have hFc := xm_free hD hS hA
      refine xx_thr (vx_runV (C := "ValueBenchModel") (As := [xv vadL y1]) (rest := [.int y4]) ⟨hx, hb, hml, hown, htx⟩ (gM_array_1 l hl9 D cT aK aV H.size n aM adL rd gdL vadL ws9 y1 o1 hq2 hk14) ⟨callB_of 1 htx (xw_goodC kw_7_42) rfl rfl rfl (htx _ kw_1_5) (htx _ kw_7_39) ⟨by decide, by decide, by decide +kernel⟩ ⟨Nat.le_of_ble_eq_true rfl, Nat.le_of_ble_eq_true rfl⟩, (htx _ kw_7_41), (htx _ kp_M_array)⟩ ⟨xPre_blind, va_recv hK hP (ci := 5) rfl (q0 := 0) rfl, (fun U hU hW => ⟨rfl, xPre_of hZ hS hFc hP hD hK U hU hW⟩)⟩ rfl rfl hl.1 rfl (xm_room (Nat.le_of_ble_eq_true rfl)) dM_keysOf_28 ⟨hm16.1, hm16.2⟩) hS hFc (fun q _ h => hFc q h) (fun E ce q9 u9 t H1 locs ht hvm hr9 hB hz1 hk1 hS hce hcv hcl => ?_)
      obtain ⟨rfl, hP1, hK1, hD1⟩ := hB
      rw [ht] at hP1
      obtain ⟨ad18, gd19, vad20⟩ := u9
      obtain ⟨hv21, hn22⟩ := hr9
      have hP : va_P D xcl (xMw cT aM ad18 rd gd19 vad20 o1.2.2.2.2 []) H1 := hP1
      have hD : va_D A (xMw cT aM ad18 rd gd19 vad20 o1.2.2.2.2 []) := hD1.weaken (fun k q _ h => hFc q.1 h)
      generalize H1 = H at hP hS hce ⊢
      have hE9 : ∀ p, p < xct st → vad20 p = vad p := fun p h => (hv21 p (Nat.lt_of_lt_of_le h hN)).trans (hE p h)
      have hE := hE9
      have hN : xct st ≤ xct o1.2.2.2.2 := Nat.le_trans hN hn22
      have ev23 : xv vadL y1 = xv vad20 y1 := xvE hv21 hg15
      have hl : lv_has ls 5 [(4, .int y4), (3, .int y3), (0, .ref aM), (1, xv vad20 y1), (2, .int y2)] := by first | exact hl | ((try (rw [← ev23])); exact hl)
      obtain rfl := Option.some.inj hf
      exact vx_out (E := "java/lang/ArithmeticException") (fun x h => (hne x h).elim) hlocks hce hcv hcl (fun t ht ha => ⟨(ad18, gd19, vad20), ⟨hE, hN⟩, ⟨rfl, by rw [ht]; exact hP, va_K.moved ha hK, hD⟩, hS.F ht⟩) hS.2.2 (Nat.le_refl _) (Nat.le_refl _)
    rw [if_neg hk14] at hf
    exact nomatch hf
  refine xm_aload_n hx hb (xvor _ _) dM_keysOf_0 rfl (lv_at hl 1 rfl) ?_
  obtain ⟨hg1, hf⟩ := xifn hf
  refine xm_vget (v := .int ((xpi st 0) (c0 - 1))) hx hb htx hown hK hP 0 (by decide) hg1 rfl ((hZ.1 (93, "kind", "I") (List.mem_of_getElem? (i := 0) rfl)).use rfl) rfl dM_keysOf_1 ?_
  refine lv_bipush (v := 6) hx hb dM_keysOf_4 (by decide) ?_
  refine lv_icmp_ne (tgt := 16) hx hb dM_keysOf_6 (by decide) (fun hc => ?_) (fun hc => ?_)
  · rw [if_neg hc] at hf
    refine lv_aload_n hx hb dM_keysOf_16 rfl (lv_at hl 0 rfl) ?_
    refine xm_get (v := .int (xsi st 12)) hx hb htx hown hK hP 12 (by decide) rfl (htx _ kw_5_99) rfl dM_keysOf_17 ?_
    refine lv_istore_n (lv' := [(3, .int (xsi st 12)), (0, .ref aM), (1, xv vad c0), (2, .int x1)]) hx hb dM_keysOf_20 rfl hl (by decide) rfl (fun ls hl => ?_)
    refine lv_iconst (v := 0) hx hb dM_keysOf_21 (by decide) ?_
    refine lv_istore (lv' := [(4, .int 0), (3, .int (xsi st 12)), (0, .ref aM), (1, xv vad c0), (2, .int x1)]) hx hb dM_keysOf_22 hl (by decide) rfl (fun ls hl => ?_)
    exact key n (1, (0 : Int32), (xsi st 12), c0, x1, st, 0, 0) _ _ ls (⟨ad, gd, vad, rfl, hf, hP, hD, hS, lv_sub hl [0, 1, 2, 3, 4] rfl, hE, hN⟩)
  · rw [if_pos hc] at hf
    refine lv_aload_n hx hb dM_keysOf_9 rfl (lv_at hl 0 rfl) ?_
    refine xm_aload_n hx hb (xvor _ _) dM_keysOf_10 rfl (lv_at hl 1 rfl) ?_
    refine lv_iload_n hx hb dM_keysOf_11 rfl (lv_at hl 2 rfl) ?_
    obtain ⟨o2, hq3, hf⟩ := xbind hf
    have hl := lv_sub (l' := [(0, .ref aM), (2, .int x1)]) hl [0, 2] rfl
    by_cases hk4 : o2.1 = 0
    · rw [if_pos hk4] at hf
      obtain ⟨hm5, hf⟩ := xmoE hf
      have hFc := xm_free hD hS hA
      refine va_callq (va_runV (C := "ValueBenchModel") (As := [xv vad c0, .int x1]) (rest := []) ⟨hx, hb, hml, hown, htx⟩ (gM_keys l hl9 D cT aK aV s.heap.size d n aM ad rd gd vad st c0 x1 o2 hq3 hk4) ⟨callB_of 2 htx (xw_goodC kw_7_17) rfl rfl rfl (htx _ kw_1_5) (htx _ kw_7_14) ⟨by decide, by decide, by decide +kernel⟩ ⟨(by show (16 * d + 9) + 1 ≤ 16 * d + 10; omega), (by show 8 + (5 + 11) + (400 * d + 176) ≤ 400 * d + 200; omega)⟩, (htx _ kw_7_16), (htx _ kp_M_keys)⟩ ⟨xPre_blind, va_recv hK hP (ci := 5) rfl (q0 := 0) rfl, (fun U hU hW => ⟨rfl, xPre_of hZ hS hFc hP hD hK U hU hW⟩)⟩ rfl rfl hl.1 rfl (xm_room (Nat.le_of_ble_eq_true rfl)) dM_keysOf_12 ⟨hm5.1, hm5.2⟩) hS (fun q _ h => hFc q h) hFc (fun r6 u9 t H1 locs ht hvm hr9 hB hz1 hk1 hS => ?_)
      obtain ⟨hP1, hK1, hD1⟩ := hB
      rw [ht] at hP1
      obtain ⟨ad7, gd8, vad9⟩ := u9
      obtain ⟨hr9, hv10, hn11⟩ := hr9
      have hP : va_P D xcl (xMw cT aM ad7 rd gd8 vad9 o2.2.2.2.2 []) H1 := hP1
      have hD : va_D A (xMw cT aM ad7 rd gd8 vad9 o2.2.2.2.2 []) := hD1.weaken (fun k q _ h => hFc q.1 h)
      generalize H1 = H at hP hS ⊢
      have hE9 : ∀ p, p < xct st → vad9 p = vad p := fun p h => (hv10 p (Nat.lt_of_lt_of_le h hN)).trans (hE p h)
      have hE := hE9
      have hN : xct st ≤ xct o2.2.2.2.2 := Nat.le_trans hN hn11
      rw [hr9]
      refine W.eq (g2 := F0 m 15 ls [xv vad9 o2.2.2.2.1]) (by first | rfl | (skip; rfl)) ?_
      obtain rfl := Option.some.inj hf
      exact absurd (show (0 : Nat) = 2 from hkd) (by decide)
    rw [if_neg hk4] at hf
    by_cases hk12 : o2.1 = 1
    · rw [if_pos hk12] at hf
      obtain ⟨hm13, hf⟩ := xmoE hf
      obtain rfl := Option.some.inj hf
      exact absurd (show (1 : Nat) = 2 from hkd) (by decide)
    rw [if_neg hk12] at hf
    exact nomatch hf
set_option maxHeartbeats 400000000 in
set_option maxRecDepth 100000 in
theorem gM_told (l : Launch) (hl9 : l.stackTraces = false) (D : va_G) (cT : Nat → ClassId) (aK aV : Nat → Nat) (sz d n : Nat) (aM : Nat) (ad rd gd vad : Nat → Nat) (st : xS) (c0 : Nat) (out : Nat × Nat × Nat × Nat × xS) (hf : fM_told d n st c0 = some out) (hkd : out.1 = 0) : xMet l yM_told wyM_told (16 * d + 8) out.2.1 out.2.2.1 (400 * d + 142) D cT aK aV sz [.ref aM, xv vad c0] (xMw cT aM ad rd gd vad st []) (fun A => va_Qq (fun (r : Option Nat) (u : xU) => r = xca u.2.2 out.2.2.2.1 ∧ xE vad st out.2.2.2.2 u) (fun u t => xB D xcl cT A (xMw cT aM u.1 rd u.2.1 u.2.2 out.2.2.2.2 []) t) A) := by
  refine Met.ofW (cc := prog_13_method_47_code) (maxL := 6) (ret := (some (.object "ValueBenchModel$V"))) (by decide) rfl ?_
  intro p e s m args below meth c s₁ B hml hv
  obtain ⟨rfl, hsz, hZ, hP, hK, hD0⟩ := hv
  have hx := B.exec
  have hb := B.bytes
  have hr := B.returns
  have hts := atoms_spec (ws := wyM_told) B.pre
  have htx := fun w h => hts w (List.mem_cons_of_mem _ h)
  have hown : s.vm.findClass "ValueBenchModel" = some m.cls := findClass_of_methodNamed B.named
  have hlocks := B.notSynchronized
  subst hsz
  have hD := hD0.self (sz := s.heap.size)
  generalize hAe : va_A (xMw cT aM ad rd gd vad st []) s.heap.size = A at hD hZ ⊢
  have hA : ∀ q : Nat, s.heap.size ≤ q → A q := fun q h => by rw [← hAe]; exact Or.inr h
  have hS : va_S A s.heap s.heap [] := va_S.rf
  have hl := lv_entry ([.ref aM, xv vad c0]) (n := 6) (by simp [lg_sl, xvcat, xrscat, xcI, xcL, xcR, xcN])
  rw [show lv_args 0 [.ref aM, xv vad c0] = [(0, .ref aM), (1, xv vad c0)] from by simp [lv_args, xvcat, xrscat, xcI, xcL, xcR, xcN]] at hl
  rw [lg_entry_eq]
  generalize (lg_sl ([.ref aM, xv vad c0]) ++ List.replicate (6 - (lg_sl ([.ref aM, xv vad c0])).length) Slot.unset).toArray = ls at hl ⊢
  have hl : lv_has ls 6 [(0, .ref aM), (1, xv vad c0)] := hl
  have hE : ∀ p, p < xct st → vad p = vad p := fun _ _ => rfl
  have hN : xct st ≤ xct st := Nat.le_refl _
  unfold fM_told at hf
  refine xloopM (σ := Nat × Int32 × Int32 × Int32 × Int32 × xS × Nat × Nat) (fun n x H locs ls => (∃ (adL gdL vadL : Nat → Nat), x.1 = 1 ∧ fM_told_b d n x.1 x.2.1 x.2.2.1 x.2.2.2.1 x.2.2.2.2.1 x.2.2.2.2.2.1 x.2.2.2.2.2.2.1 x.2.2.2.2.2.2.2 = some out ∧ va_P D xcl (xMw cT aM adL rd gdL vadL x.2.2.2.2.2.1 []) H ∧ va_D A (xMw cT aM adL rd gdL vadL x.2.2.2.2.2.1 []) ∧ va_S A s.heap H locs ∧ lv_has ls 6 [(5, .int x.2.1), (4, .int x.2.2.1), (3, .int x.2.2.2.1), (2, .int x.2.2.2.2.1), (0, .ref aM)] ∧ (∀ p, p < xct st → vadL p = vad p) ∧ xct st ≤ xct x.2.2.2.2.2.1)) (fun x => 32) (fun x => x.2.2.2.2.2.2.1) (fun x => x.2.2.2.2.2.2.2) (fun x H locs ls h => by (obtain ⟨_, _, _, h⟩ := h; exact absurd h.2.1 (by rw [fM_told_b]; exact fun h => nomatch h))) (fun n ih x H locs ls hv => ?_) (fun key => ?_)
  · obtain ⟨lb, y5, y4, y3, y2, ws9, wc, wn⟩ := x
    rcases hv with ⟨adL, gdL, vadL, hj, hf, hP, hD, hS, hl, hE, hN⟩
    subst hj
    have hf : fM_told_b d (n + 1) 1 y5 y4 y3 y2 ws9 wc wn = some out := hf
    rw [fM_told_b] at hf
    obtain ⟨hP, hD⟩ : xPD D xcl A (xMw cT aM adL rd gdL vadL ws9 []) H := ⟨hP, hD⟩
    have hl : lv_has ls 6 [(5, .int y5), (4, .int y4), (3, .int y3), (2, .int y2), (0, .ref aM)] := hl
    refine W.eq (g2 := F0 m 32 ls []) rfl ?_
    show W p l e _ s m _ below meth c H locs wc wn _ _
    obtain ⟨hm0, hf⟩ := xmoE hf
    refine lv_iload hx hb dM_told_32 (lv_at hl 0 rfl) ?_
    refine lv_aload_n hx hb dM_told_34 rfl (lv_at hl 4 rfl) ?_
    refine xm_get (v := .int (xsi ws9 22)) hx hb htx hown hK hP 22 (by decide) rfl (htx _ kw_5_109) rfl dM_told_35 ?_
    refine lv_icmp_ge (tgt := 58) hx hb dM_told_38 (by decide) (fun hc => ?_) (fun hc => ?_)
    · rw [if_pos hc] at hf
      refine lv_aload_n hx hb dM_told_58 rfl (lv_at hl 4 rfl) ?_
      refine lv_iload_n hx hb dM_told_59 rfl (lv_at hl 3 rfl) ?_
      refine xm_put (v := .int y2) (W' := (xMw cT aM adL rd gdL vadL (xsI ws9 22 y2) [])) (ty := .int) hx hb htx hown hK hP hD hS 22 (by decide) rfl (htx _ kw_5_109) rfl rfl (by decide +kernel) rfl rfl dM_told_60 (fun H locs hP hD hS => ?_)
      refine lv_aload_n hx hb dM_told_63 rfl (lv_at hl 4 rfl) ?_
      refine lv_iload_n hx hb dM_told_64 rfl (lv_at hl 2 rfl) ?_
      refine xm_put (v := .int y3) (W' := (xMw cT aM adL rd gdL vadL (xsI (xsI ws9 22 y2) 23 y3) [])) (ty := .int) hx hb htx hown hK hP hD hS 23 (by decide) rfl (htx _ kw_5_110) rfl rfl (by decide +kernel) rfl rfl dM_told_65 (fun H locs hP hD hS => ?_)
      refine lv_aload_n hx hb dM_told_68 rfl (lv_at hl 4 rfl) ?_
      refine lv_iload hx hb dM_told_69 (lv_at hl 1 rfl) ?_
      obtain ⟨o1, hq2, hf⟩ := xbind hf
      by_cases hk3 : o1.1 = 0
      · rw [if_pos hk3] at hf
        obtain ⟨hm4, hf⟩ := xmoE hf
        have hFc := xm_free hD hS hA
        refine va_callq (va_runV (C := "ValueBenchModel") (As := [.int y4]) (rest := []) ⟨hx, hb, hml, hown, htx⟩ (gM_string l hl9 D cT aK aV H.size n aM adL rd gdL vadL (xsI (xsI ws9 22 y2) 23 y3) y4 o1 hq2 hk3) ⟨callB_of 1 htx (xw_goodC kw_6_61) rfl rfl rfl (htx _ kw_1_5) (htx _ kw_6_58) ⟨by decide, by decide, by decide +kernel⟩ ⟨Nat.le_of_ble_eq_true rfl, Nat.le_of_ble_eq_true rfl⟩, (htx _ kw_6_60), (htx _ kp_M_string)⟩ ⟨xPre_blind, va_recv hK hP (ci := 5) rfl (q0 := 0) rfl, (fun U hU hW => ⟨rfl, xPre_of hZ hS hFc hP hD hK U hU hW⟩)⟩ rfl rfl hl.1 rfl (xm_room (Nat.le_of_ble_eq_true rfl)) dM_told_71 ⟨hm4.1, hm4.2⟩) hS (fun q _ h => hFc q h) hFc (fun r5 u9 t H1 locs ht hvm hr9 hB hz1 hk1 hS => ?_)
        obtain ⟨hP1, hK1, hD1⟩ := hB
        rw [ht] at hP1
        obtain ⟨ad6, gd7, vad8⟩ := u9
        obtain ⟨hr9, hv9, hn10⟩ := hr9
        have hP : va_P D xcl (xMw cT aM ad6 rd gd7 vad8 o1.2.2.2.2 []) H1 := hP1
        have hD : va_D A (xMw cT aM ad6 rd gd7 vad8 o1.2.2.2.2 []) := hD1.weaken (fun k q _ h => hFc q.1 h)
        generalize H1 = H at hP hS ⊢
        have hE9 : ∀ p, p < xct st → vad8 p = vad p := fun p h => (hv9 p (Nat.lt_of_lt_of_le h hN)).trans (hE p h)
        have hE := hE9
        have hN : xct st ≤ xct o1.2.2.2.2 := Nat.le_trans hN hn10
        rw [hr9]
        refine W.eq (g2 := F0 m 74 ls [xv vad8 o1.2.2.2.1]) (by first | rfl | (skip; rfl)) ?_
        obtain rfl := Option.some.inj hf
        exact W.aret (v := xv vad8 o1.2.2.2.1) hx hb hr (Or.inl ⟨_, rfl⟩) (xvor _ _) (fun t ht hW => ⟨⟨xca vad8 o1.2.2.2.1, (ad6, gd7, vad8), rfl, ⟨rfl, hE, hN⟩, by rw [ht]; exact hP, va_K.moved hW.alike hK, hD⟩, hS.F ht⟩) hS.2.2 dM_told_74
      rw [if_neg hk3] at hf
      by_cases hk11 : o1.1 = 1
      · rw [if_pos hk11] at hf
        obtain ⟨hm12, hf⟩ := xmoE hf
        obtain rfl := Option.some.inj hf
        exact absurd (show (1 : Nat) = 0 from hkd) (by decide)
      rw [if_neg hk11] at hf
      exact nomatch hf
    · rw [if_neg hc] at hf
      refine lv_aload_n hx hb dM_told_41 rfl (lv_at hl 4 rfl) ?_
      refine lv_aload_n hx hb dM_told_42 rfl (lv_at hl 4 rfl) ?_
      refine xm_get (v := .ref (adL 21)) hx hb htx hown hK hP 21 (by decide) rfl (htx _ kw_5_108) rfl dM_told_43 ?_
      refine lv_iload hx hb dM_told_46 (lv_at hl 0 rfl) ?_
      obtain ⟨hg1, hf⟩ := xifn hf
      refine va_bald hx hb hK hP 9 0 rfl rfl hg1 dM_told_48 ?_
      refine W.eq (g2 := F0 m 49 ls [.int ((xba ws9 21) y5.toNatClampNeg), .ref aM]) rfl ?_
      obtain ⟨o2, hq3, hf⟩ := xbind hf
      obtain ⟨hm4, hf⟩ := xmoE hf
      have hFc := xm_free hD hS hA
      refine va_callv (va_runV (C := "ValueBenchModel") (As := [.int ((xba ws9 21) y5.toNatClampNeg)]) (rest := []) ⟨hx, hb, hml, hown, htx⟩ (gM_letter l hl9 D cT aK aV H.size n aM adL rd gdL vadL ws9 ((xba ws9 21) y5.toNatClampNeg) o2 hq3) ⟨callB_of 1 htx (xw_goodC kw_6_54) rfl rfl rfl (htx _ kw_1_5) (htx _ kw_6_51) ⟨by decide, by decide, by decide +kernel⟩ ⟨Nat.le_of_ble_eq_true rfl, Nat.le_of_ble_eq_true rfl⟩, (htx _ kw_6_53), (htx _ kp_M_letter)⟩ ⟨xPre_blind, va_recv hK hP (ci := 5) rfl (q0 := 0) rfl, (fun U hU hW => ⟨rfl, xPre_of hZ hS hFc hP hD hK U hU hW⟩)⟩ rfl rfl hl.1 rfl (xm_room (Nat.le_of_ble_eq_true rfl)) dM_told_49 ⟨hm4.1, hm4.2⟩) hS (fun q _ h => hFc q h) hFc (fun u9 t H1 locs ht hvm hr9 hB hz1 hk1 hS => ?_)
      obtain ⟨hP1, hK1, hD1⟩ := hB
      rw [ht] at hP1
      obtain ⟨ad6, gd7, vad8⟩ := u9
      obtain ⟨hv9, hn10⟩ := hr9
      have hP : va_P D xcl (xMw cT aM ad6 rd gd7 vad8 o2.2.2 []) H1 := hP1
      have hD : va_D A (xMw cT aM ad6 rd gd7 vad8 o2.2.2 []) := hD1.weaken (fun k q _ h => hFc q.1 h)
      generalize H1 = H at hP hS ⊢
      have hE9 : ∀ p, p < xct st → vad8 p = vad p := fun p h => (hv9 p (Nat.lt_of_lt_of_le h hN)).trans (hE p h)
      have hE := hE9
      have hN : xct st ≤ xct o2.2.2 := Nat.le_trans hN hn10
      refine W.eq (g2 := F0 m 52 ls []) (by first | rfl | (skip; rfl)) ?_
      refine lv_iinc (v := (y5 + 1)) (lv' := [(5, .int (y5 + 1)), (4, .int y4), (3, .int y3), (2, .int y2), (0, .ref aM)]) hx hb dM_told_52 hl (k := 0) rfl rfl (by decide) rfl (fun ls hl => ?_)
      refine lv_goto (tgt := 32) hx hb dM_told_55 (by decide) ?_
      exact ih (1, (y5 + 1), y4, y3, y2, o2.2.2, (wc + o2.1), (wn + o2.2.1)) _ _ ls (⟨ad6, gd7, vad8, rfl, hf, hP, hD, hS, lv_sub hl [0, 1, 2, 3, 4] rfl, hE, hN⟩)
  refine lv_aload_n hx hb dM_told_0 rfl (lv_at hl 0 rfl) ?_
  refine xm_get (v := .int (xsi st 22)) hx hb htx hown hK hP 22 (by decide) rfl (htx _ kw_5_109) rfl dM_told_1 ?_
  refine lv_istore_n (lv' := [(2, .int (xsi st 22)), (0, .ref aM), (1, xv vad c0)]) hx hb dM_told_4 rfl hl (by decide) (by simp only [List.filter, xvcat, xrscat, xcI, xcL, xcR, xcN]; rfl) (fun ls hl => ?_)
  refine lv_aload_n hx hb dM_told_5 rfl (lv_at hl 1 rfl) ?_
  refine xm_get (v := .int (xsi st 23)) hx hb htx hown hK hP 23 (by decide) rfl (htx _ kw_5_110) rfl dM_told_6 ?_
  refine lv_istore_n (lv' := [(3, .int (xsi st 23)), (2, .int (xsi st 22)), (0, .ref aM), (1, xv vad c0)]) hx hb dM_told_9 rfl hl (by decide) rfl (fun ls hl => ?_)
  refine lv_aload_n hx hb dM_told_10 rfl (lv_at hl 2 rfl) ?_
  refine lv_iload_n hx hb dM_told_11 rfl (lv_at hl 1 rfl) ?_
  refine lv_ldc hx hb hown (htx _ kw_6_62) dM_told_12 ?_
  refine lv_iadd hx hb dM_told_14 ?_
  refine xm_put (v := .int ((xsi st 22) + (60000 : Int32))) (W' := (xMw cT aM ad rd gd vad (xsI st 23 ((xsi st 22) + (60000 : Int32))) [])) (ty := .int) hx hb htx hown hK hP hD hS 23 (by decide) rfl (htx _ kw_5_110) rfl rfl (by decide +kernel) rfl rfl dM_told_15 (fun H locs hP hD hS => ?_)
  refine lv_aload_n hx hb dM_told_18 rfl (lv_at hl 2 rfl) ?_
  refine xm_get (v := .int (xsi st 4)) hx hb htx hown hK hP 4 (by decide) rfl (htx _ kw_5_91) rfl dM_told_19 ?_
  refine lv_istore (lv' := [(4, .int (xsi st 4)), (3, .int (xsi st 23)), (2, .int (xsi st 22)), (0, .ref aM), (1, xv vad c0)]) hx hb dM_told_22 hl (by decide) rfl (fun ls hl => ?_)
  refine lv_aload_n hx hb dM_told_24 rfl (lv_at hl 3 rfl) ?_
  refine xm_aload_n hx hb (xvor _ _) dM_told_25 rfl (lv_at hl 4 rfl) ?_
  obtain ⟨o1, hq2, hf⟩ := xbind hf
  have hl := lv_sub (l' := [(4, .int (xsi st 4)), (3, .int (xsi st 23)), (2, .int (xsi st 22)), (0, .ref aM)]) hl [0, 1, 2, 3] rfl
  by_cases hk3 : o1.1 = 0
  · rw [if_pos hk3] at hf
    obtain ⟨hm4, hf⟩ := xmoE hf
    have hFc := xm_free hD hS hA
    refine va_callv (va_runV (C := "ValueBenchModel") (As := [xv vad c0]) (rest := []) ⟨hx, hb, hml, hown, htx⟩ ((gM_print1 l hl9 D cT aK aV d H.size n aM ad rd gd vad (xsI st 23 ((xsi st 22) + (60000 : Int32))) c0 o1 hq2).1 hk3) ⟨callB_of 1 htx (xw_goodC kw_6_128) rfl rfl rfl (htx _ kw_1_5) (htx _ kw_6_125) ⟨by decide, by decide, by decide +kernel⟩ ⟨(by show (16 * d) + 1 ≤ 16 * d + 8; omega), (by show 8 + (3 + 11) + (400 * d) ≤ 400 * d + 142; omega)⟩, (htx _ kw_6_127), (htx _ kp_M_print1)⟩ ⟨xPre_blind, va_recv hK hP (ci := 5) rfl (q0 := 0) rfl, (fun U hU hW => ⟨rfl, xPre_of hZ hS hFc hP hD hK U hU hW⟩)⟩ rfl rfl hl.1 rfl (xm_room (Nat.le_of_ble_eq_true rfl)) dM_told_26 ⟨hm4.1, hm4.2⟩) hS (fun q _ h => hFc q h) hFc (fun u9 t H1 locs ht hvm hr9 hB hz1 hk1 hS => ?_)
    obtain ⟨hP1, hK1, hD1⟩ := hB
    rw [ht] at hP1
    obtain ⟨ad6, gd7, vad8⟩ := u9
    obtain ⟨hv9, hn10⟩ := hr9
    have hP : va_P D xcl (xMw cT aM ad6 rd gd7 vad8 o1.2.2.2 []) H1 := hP1
    have hD : va_D A (xMw cT aM ad6 rd gd7 vad8 o1.2.2.2 []) := hD1.weaken (fun k q _ h => hFc q.1 h)
    generalize H1 = H at hP hS ⊢
    have hE9 : ∀ p, p < xct st → vad8 p = vad p := fun p h => (hv9 p (Nat.lt_of_lt_of_le h hN)).trans (hE p h)
    have hE := hE9
    have hN : xct st ≤ xct o1.2.2.2 := Nat.le_trans hN hn10
    refine W.eq (g2 := F0 m 29 ls []) (by first | rfl | (skip; rfl)) ?_
    refine lv_iload_n hx hb dM_told_29 rfl (lv_at hl 2 rfl) ?_
    refine lv_istore (lv' := [(5, .int (xsi st 22)), (4, .int (xsi st 4)), (3, .int (xsi st 23)), (2, .int (xsi st 22)), (0, .ref aM)]) hx hb dM_told_30 hl (by decide) rfl (fun ls hl => ?_)
    exact key n (1, (xsi st 22), (xsi st 4), (xsi st 23), (xsi st 22), o1.2.2.2, (0 + o1.2.1), (0 + o1.2.2.1)) _ _ ls (⟨ad6, gd7, vad8, rfl, hf, hP, hD, hS, lv_sub hl [0, 1, 2, 3, 4] rfl, hE, hN⟩)
  rw [if_neg hk3] at hf
  by_cases hk11 : o1.1 = 1
  · rw [if_pos hk11] at hf
    obtain ⟨hm12, hf⟩ := xmoE hf
    obtain rfl := Option.some.inj hf
    exact absurd (show (1 : Nat) = 0 from hkd) (by decide)
  rw [if_neg hk11] at hf
  exact nomatch hf
set_option maxHeartbeats 400000000 in
set_option maxRecDepth 100000 in
theorem gM_told_1 (l : Launch) (hl9 : l.stackTraces = false) (D : va_G) (cT : Nat → ClassId) (aK aV : Nat → Nat) (sz d n : Nat) (aM : Nat) (ad rd gd vad : Nat → Nat) (st : xS) (c0 : Nat) (out : Nat × Nat × Nat × Nat × xS) (hf : fM_told d n st c0 = some out) (hkd : out.1 = 1) : xMetY l yM_told wyM_told (16 * d + 8) out.2.1 out.2.2.1 (400 * d + 142) D cT aK aV sz [.ref aM, xv vad c0] (xMw cT aM ad rd gd vad st []) "java/lang/IndexOutOfBoundsException" (fun u => xE vad st out.2.2.2.2 u) (fun A u t => xB D xcl cT A (xMw cT aM u.1 rd u.2.1 u.2.2 out.2.2.2.2 []) t) := by
  refine vx_ofW (cc := prog_13_method_47_code) (maxL := 6) (ret := (some (.object "ValueBenchModel$V"))) (by decide) rfl ?_
  intro p e s m args below meth c s₁ B hml hne hv
  obtain ⟨rfl, hsz, hZ, hP, hK, hD0⟩ := hv
  have hx := B.exec
  have hb := B.bytes
  have hr := B.returns
  have hts := atoms_spec (ws := wyM_told) B.pre
  have htx := fun w h => hts w (List.mem_cons_of_mem _ h)
  have hown : s.vm.findClass "ValueBenchModel" = some m.cls := findClass_of_methodNamed B.named
  have hlocks := B.notSynchronized
  subst hsz
  have hD := hD0.self (sz := s.heap.size)
  generalize hAe : va_A (xMw cT aM ad rd gd vad st []) s.heap.size = A at hD hZ ⊢
  have hA : ∀ q : Nat, s.heap.size ≤ q → A q := fun q h => by rw [← hAe]; exact Or.inr h
  have hS : va_S A s.heap s.heap [] := va_S.rf
  have hl := lv_entry ([.ref aM, xv vad c0]) (n := 6) (by simp [lg_sl, xvcat, xrscat, xcI, xcL, xcR, xcN])
  rw [show lv_args 0 [.ref aM, xv vad c0] = [(0, .ref aM), (1, xv vad c0)] from by simp [lv_args, xvcat, xrscat, xcI, xcL, xcR, xcN]] at hl
  rw [lg_entry_eq]
  generalize (lg_sl ([.ref aM, xv vad c0]) ++ List.replicate (6 - (lg_sl ([.ref aM, xv vad c0])).length) Slot.unset).toArray = ls at hl ⊢
  have hl : lv_has ls 6 [(0, .ref aM), (1, xv vad c0)] := hl
  have hE : ∀ p, p < xct st → vad p = vad p := fun _ _ => rfl
  have hN : xct st ≤ xct st := Nat.le_refl _
  unfold fM_told at hf
  refine xloopM (σ := Nat × Int32 × Int32 × Int32 × Int32 × xS × Nat × Nat) (fun n x H locs ls => (∃ (adL gdL vadL : Nat → Nat), x.1 = 1 ∧ fM_told_b d n x.1 x.2.1 x.2.2.1 x.2.2.2.1 x.2.2.2.2.1 x.2.2.2.2.2.1 x.2.2.2.2.2.2.1 x.2.2.2.2.2.2.2 = some out ∧ va_P D xcl (xMw cT aM adL rd gdL vadL x.2.2.2.2.2.1 []) H ∧ va_D A (xMw cT aM adL rd gdL vadL x.2.2.2.2.2.1 []) ∧ va_S A s.heap H locs ∧ lv_has ls 6 [(5, .int x.2.1), (4, .int x.2.2.1), (3, .int x.2.2.2.1), (2, .int x.2.2.2.2.1), (0, .ref aM)] ∧ (∀ p, p < xct st → vadL p = vad p) ∧ xct st ≤ xct x.2.2.2.2.2.1)) (fun x => 32) (fun x => x.2.2.2.2.2.2.1) (fun x => x.2.2.2.2.2.2.2) (fun x H locs ls h => by (obtain ⟨_, _, _, h⟩ := h; exact absurd h.2.1 (by rw [fM_told_b]; exact fun h => nomatch h))) (fun n ih x H locs ls hv => ?_) (fun key => ?_)
  · obtain ⟨lb, y5, y4, y3, y2, ws9, wc, wn⟩ := x
    rcases hv with ⟨adL, gdL, vadL, hj, hf, hP, hD, hS, hl, hE, hN⟩
    subst hj
    have hf : fM_told_b d (n + 1) 1 y5 y4 y3 y2 ws9 wc wn = some out := hf
    rw [fM_told_b] at hf
    obtain ⟨hP, hD⟩ : xPD D xcl A (xMw cT aM adL rd gdL vadL ws9 []) H := ⟨hP, hD⟩
    have hl : lv_has ls 6 [(5, .int y5), (4, .int y4), (3, .int y3), (2, .int y2), (0, .ref aM)] := hl
    refine W.eq (g2 := F0 m 32 ls []) rfl ?_
    show W p l e _ s m _ below meth c H locs wc wn _ _
    obtain ⟨hm0, hf⟩ := xmoE hf
    refine lv_iload hx hb dM_told_32 (lv_at hl 0 rfl) ?_
    refine lv_aload_n hx hb dM_told_34 rfl (lv_at hl 4 rfl) ?_
    refine xm_get (v := .int (xsi ws9 22)) hx hb htx hown hK hP 22 (by decide) rfl (htx _ kw_5_109) rfl dM_told_35 ?_
    refine lv_icmp_ge (tgt := 58) hx hb dM_told_38 (by decide) (fun hc => ?_) (fun hc => ?_)
    · rw [if_pos hc] at hf
      refine lv_aload_n hx hb dM_told_58 rfl (lv_at hl 4 rfl) ?_
      refine lv_iload_n hx hb dM_told_59 rfl (lv_at hl 3 rfl) ?_
      refine xm_put (v := .int y2) (W' := (xMw cT aM adL rd gdL vadL (xsI ws9 22 y2) [])) (ty := .int) hx hb htx hown hK hP hD hS 22 (by decide) rfl (htx _ kw_5_109) rfl rfl (by decide +kernel) rfl rfl dM_told_60 (fun H locs hP hD hS => ?_)
      refine lv_aload_n hx hb dM_told_63 rfl (lv_at hl 4 rfl) ?_
      refine lv_iload_n hx hb dM_told_64 rfl (lv_at hl 2 rfl) ?_
      refine xm_put (v := .int y3) (W' := (xMw cT aM adL rd gdL vadL (xsI (xsI ws9 22 y2) 23 y3) [])) (ty := .int) hx hb htx hown hK hP hD hS 23 (by decide) rfl (htx _ kw_5_110) rfl rfl (by decide +kernel) rfl rfl dM_told_65 (fun H locs hP hD hS => ?_)
      refine lv_aload_n hx hb dM_told_68 rfl (lv_at hl 4 rfl) ?_
      refine lv_iload hx hb dM_told_69 (lv_at hl 1 rfl) ?_
      obtain ⟨o1, hq2, hf⟩ := xbind hf
      by_cases hk3 : o1.1 = 0
      · rw [if_pos hk3] at hf
        obtain ⟨hm4, hf⟩ := xmoE hf
        have hFc := xm_free hD hS hA
        refine va_callq (va_runV (C := "ValueBenchModel") (As := [.int y4]) (rest := []) ⟨hx, hb, hml, hown, htx⟩ (gM_string l hl9 D cT aK aV H.size n aM adL rd gdL vadL (xsI (xsI ws9 22 y2) 23 y3) y4 o1 hq2 hk3) ⟨callB_of 1 htx (xw_goodC kw_6_61) rfl rfl rfl (htx _ kw_1_5) (htx _ kw_6_58) ⟨by decide, by decide, by decide +kernel⟩ ⟨Nat.le_of_ble_eq_true rfl, Nat.le_of_ble_eq_true rfl⟩, (htx _ kw_6_60), (htx _ kp_M_string)⟩ ⟨xPre_blind, va_recv hK hP (ci := 5) rfl (q0 := 0) rfl, (fun U hU hW => ⟨rfl, xPre_of hZ hS hFc hP hD hK U hU hW⟩)⟩ rfl rfl hl.1 rfl (xm_room (Nat.le_of_ble_eq_true rfl)) dM_told_71 ⟨hm4.1, hm4.2⟩) hS (fun q _ h => hFc q h) hFc (fun r5 u9 t H1 locs ht hvm hr9 hB hz1 hk1 hS => ?_)
        obtain ⟨hP1, hK1, hD1⟩ := hB
        rw [ht] at hP1
        obtain ⟨ad6, gd7, vad8⟩ := u9
        obtain ⟨hr9, hv9, hn10⟩ := hr9
        have hP : va_P D xcl (xMw cT aM ad6 rd gd7 vad8 o1.2.2.2.2 []) H1 := hP1
        have hD : va_D A (xMw cT aM ad6 rd gd7 vad8 o1.2.2.2.2 []) := hD1.weaken (fun k q _ h => hFc q.1 h)
        generalize H1 = H at hP hS ⊢
        have hE9 : ∀ p, p < xct st → vad8 p = vad p := fun p h => (hv9 p (Nat.lt_of_lt_of_le h hN)).trans (hE p h)
        have hE := hE9
        have hN : xct st ≤ xct o1.2.2.2.2 := Nat.le_trans hN hn10
        rw [hr9]
        refine W.eq (g2 := F0 m 74 ls [xv vad8 o1.2.2.2.1]) (by first | rfl | (skip; rfl)) ?_
        obtain rfl := Option.some.inj hf
        exact absurd (show (0 : Nat) = 1 from hkd) (by decide)
      rw [if_neg hk3] at hf
      by_cases hk11 : o1.1 = 1
      · rw [if_pos hk11] at hf
        obtain ⟨hm12, hf⟩ := xmoE hf
        have hFc := xm_free hD hS hA
        refine xx_thr (vx_runV (C := "ValueBenchModel") (As := [.int y4]) (rest := []) ⟨hx, hb, hml, hown, htx⟩ (gM_string_1 l hl9 D cT aK aV H.size n aM adL rd gdL vadL (xsI (xsI ws9 22 y2) 23 y3) y4 o1 hq2 hk11) ⟨callB_of 1 htx (xw_goodC kw_6_61) rfl rfl rfl (htx _ kw_1_5) (htx _ kw_6_58) ⟨by decide, by decide, by decide +kernel⟩ ⟨Nat.le_of_ble_eq_true rfl, Nat.le_of_ble_eq_true rfl⟩, (htx _ kw_6_60), (htx _ kp_M_string)⟩ ⟨xPre_blind, va_recv hK hP (ci := 5) rfl (q0 := 0) rfl, (fun U hU hW => ⟨rfl, xPre_of hZ hS hFc hP hD hK U hU hW⟩)⟩ rfl rfl hl.1 rfl (xm_room (Nat.le_of_ble_eq_true rfl)) dM_told_71 ⟨hm12.1, hm12.2⟩) hS hFc (fun q _ h => hFc q h) (fun E ce q9 u9 t H1 locs ht hvm hr9 hB hz1 hk1 hS hce hcv hcl => ?_)
        obtain ⟨rfl, hP1, hK1, hD1⟩ := hB
        rw [ht] at hP1
        obtain ⟨ad14, gd15, vad16⟩ := u9
        obtain ⟨hv17, hn18⟩ := hr9
        have hP : va_P D xcl (xMw cT aM ad14 rd gd15 vad16 o1.2.2.2.2 []) H1 := hP1
        have hD : va_D A (xMw cT aM ad14 rd gd15 vad16 o1.2.2.2.2 []) := hD1.weaken (fun k q _ h => hFc q.1 h)
        generalize H1 = H at hP hS hce ⊢
        have hE9 : ∀ p, p < xct st → vad16 p = vad p := fun p h => (hv17 p (Nat.lt_of_lt_of_le h hN)).trans (hE p h)
        have hE := hE9
        have hN : xct st ≤ xct o1.2.2.2.2 := Nat.le_trans hN hn18
        obtain rfl := Option.some.inj hf
        exact vx_out (E := "java/lang/IndexOutOfBoundsException") (fun x h => (hne x h).elim) hlocks hce hcv hcl (fun t ht ha => ⟨(ad14, gd15, vad16), ⟨hE, hN⟩, ⟨rfl, by rw [ht]; exact hP, va_K.moved ha hK, hD⟩, hS.F ht⟩) hS.2.2 (Nat.le_refl _) (Nat.le_refl _)
      rw [if_neg hk11] at hf
      exact nomatch hf
    · rw [if_neg hc] at hf
      refine lv_aload_n hx hb dM_told_41 rfl (lv_at hl 4 rfl) ?_
      refine lv_aload_n hx hb dM_told_42 rfl (lv_at hl 4 rfl) ?_
      refine xm_get (v := .ref (adL 21)) hx hb htx hown hK hP 21 (by decide) rfl (htx _ kw_5_108) rfl dM_told_43 ?_
      refine lv_iload hx hb dM_told_46 (lv_at hl 0 rfl) ?_
      obtain ⟨hg1, hf⟩ := xifn hf
      refine va_bald hx hb hK hP 9 0 rfl rfl hg1 dM_told_48 ?_
      refine W.eq (g2 := F0 m 49 ls [.int ((xba ws9 21) y5.toNatClampNeg), .ref aM]) rfl ?_
      obtain ⟨o2, hq3, hf⟩ := xbind hf
      obtain ⟨hm4, hf⟩ := xmoE hf
      have hFc := xm_free hD hS hA
      refine va_callv (va_runV (C := "ValueBenchModel") (As := [.int ((xba ws9 21) y5.toNatClampNeg)]) (rest := []) ⟨hx, hb, hml, hown, htx⟩ (gM_letter l hl9 D cT aK aV H.size n aM adL rd gdL vadL ws9 ((xba ws9 21) y5.toNatClampNeg) o2 hq3) ⟨callB_of 1 htx (xw_goodC kw_6_54) rfl rfl rfl (htx _ kw_1_5) (htx _ kw_6_51) ⟨by decide, by decide, by decide +kernel⟩ ⟨Nat.le_of_ble_eq_true rfl, Nat.le_of_ble_eq_true rfl⟩, (htx _ kw_6_53), (htx _ kp_M_letter)⟩ ⟨xPre_blind, va_recv hK hP (ci := 5) rfl (q0 := 0) rfl, (fun U hU hW => ⟨rfl, xPre_of hZ hS hFc hP hD hK U hU hW⟩)⟩ rfl rfl hl.1 rfl (xm_room (Nat.le_of_ble_eq_true rfl)) dM_told_49 ⟨hm4.1, hm4.2⟩) hS (fun q _ h => hFc q h) hFc (fun u9 t H1 locs ht hvm hr9 hB hz1 hk1 hS => ?_)
      obtain ⟨hP1, hK1, hD1⟩ := hB
      rw [ht] at hP1
      obtain ⟨ad6, gd7, vad8⟩ := u9
      obtain ⟨hv9, hn10⟩ := hr9
      have hP : va_P D xcl (xMw cT aM ad6 rd gd7 vad8 o2.2.2 []) H1 := hP1
      have hD : va_D A (xMw cT aM ad6 rd gd7 vad8 o2.2.2 []) := hD1.weaken (fun k q _ h => hFc q.1 h)
      generalize H1 = H at hP hS ⊢
      have hE9 : ∀ p, p < xct st → vad8 p = vad p := fun p h => (hv9 p (Nat.lt_of_lt_of_le h hN)).trans (hE p h)
      have hE := hE9
      have hN : xct st ≤ xct o2.2.2 := Nat.le_trans hN hn10
      refine W.eq (g2 := F0 m 52 ls []) (by first | rfl | (skip; rfl)) ?_
      refine lv_iinc (v := (y5 + 1)) (lv' := [(5, .int (y5 + 1)), (4, .int y4), (3, .int y3), (2, .int y2), (0, .ref aM)]) hx hb dM_told_52 hl (k := 0) rfl rfl (by decide) rfl (fun ls hl => ?_)
      refine lv_goto (tgt := 32) hx hb dM_told_55 (by decide) ?_
      exact ih (1, (y5 + 1), y4, y3, y2, o2.2.2, (wc + o2.1), (wn + o2.2.1)) _ _ ls (⟨ad6, gd7, vad8, rfl, hf, hP, hD, hS, lv_sub hl [0, 1, 2, 3, 4] rfl, hE, hN⟩)
  refine lv_aload_n hx hb dM_told_0 rfl (lv_at hl 0 rfl) ?_
  refine xm_get (v := .int (xsi st 22)) hx hb htx hown hK hP 22 (by decide) rfl (htx _ kw_5_109) rfl dM_told_1 ?_
  refine lv_istore_n (lv' := [(2, .int (xsi st 22)), (0, .ref aM), (1, xv vad c0)]) hx hb dM_told_4 rfl hl (by decide) (by simp only [List.filter, xvcat, xrscat, xcI, xcL, xcR, xcN]; rfl) (fun ls hl => ?_)
  refine lv_aload_n hx hb dM_told_5 rfl (lv_at hl 1 rfl) ?_
  refine xm_get (v := .int (xsi st 23)) hx hb htx hown hK hP 23 (by decide) rfl (htx _ kw_5_110) rfl dM_told_6 ?_
  refine lv_istore_n (lv' := [(3, .int (xsi st 23)), (2, .int (xsi st 22)), (0, .ref aM), (1, xv vad c0)]) hx hb dM_told_9 rfl hl (by decide) rfl (fun ls hl => ?_)
  refine lv_aload_n hx hb dM_told_10 rfl (lv_at hl 2 rfl) ?_
  refine lv_iload_n hx hb dM_told_11 rfl (lv_at hl 1 rfl) ?_
  refine lv_ldc hx hb hown (htx _ kw_6_62) dM_told_12 ?_
  refine lv_iadd hx hb dM_told_14 ?_
  refine xm_put (v := .int ((xsi st 22) + (60000 : Int32))) (W' := (xMw cT aM ad rd gd vad (xsI st 23 ((xsi st 22) + (60000 : Int32))) [])) (ty := .int) hx hb htx hown hK hP hD hS 23 (by decide) rfl (htx _ kw_5_110) rfl rfl (by decide +kernel) rfl rfl dM_told_15 (fun H locs hP hD hS => ?_)
  refine lv_aload_n hx hb dM_told_18 rfl (lv_at hl 2 rfl) ?_
  refine xm_get (v := .int (xsi st 4)) hx hb htx hown hK hP 4 (by decide) rfl (htx _ kw_5_91) rfl dM_told_19 ?_
  refine lv_istore (lv' := [(4, .int (xsi st 4)), (3, .int (xsi st 23)), (2, .int (xsi st 22)), (0, .ref aM), (1, xv vad c0)]) hx hb dM_told_22 hl (by decide) rfl (fun ls hl => ?_)
  refine lv_aload_n hx hb dM_told_24 rfl (lv_at hl 3 rfl) ?_
  refine xm_aload_n hx hb (xvor _ _) dM_told_25 rfl (lv_at hl 4 rfl) ?_
  obtain ⟨o1, hq2, hf⟩ := xbind hf
  have hl := lv_sub (l' := [(4, .int (xsi st 4)), (3, .int (xsi st 23)), (2, .int (xsi st 22)), (0, .ref aM)]) hl [0, 1, 2, 3] rfl
  by_cases hk3 : o1.1 = 0
  · rw [if_pos hk3] at hf
    obtain ⟨hm4, hf⟩ := xmoE hf
    have hFc := xm_free hD hS hA
    refine va_callv (va_runV (C := "ValueBenchModel") (As := [xv vad c0]) (rest := []) ⟨hx, hb, hml, hown, htx⟩ ((gM_print1 l hl9 D cT aK aV d H.size n aM ad rd gd vad (xsI st 23 ((xsi st 22) + (60000 : Int32))) c0 o1 hq2).1 hk3) ⟨callB_of 1 htx (xw_goodC kw_6_128) rfl rfl rfl (htx _ kw_1_5) (htx _ kw_6_125) ⟨by decide, by decide, by decide +kernel⟩ ⟨(by show (16 * d) + 1 ≤ 16 * d + 8; omega), (by show 8 + (3 + 11) + (400 * d) ≤ 400 * d + 142; omega)⟩, (htx _ kw_6_127), (htx _ kp_M_print1)⟩ ⟨xPre_blind, va_recv hK hP (ci := 5) rfl (q0 := 0) rfl, (fun U hU hW => ⟨rfl, xPre_of hZ hS hFc hP hD hK U hU hW⟩)⟩ rfl rfl hl.1 rfl (xm_room (Nat.le_of_ble_eq_true rfl)) dM_told_26 ⟨hm4.1, hm4.2⟩) hS (fun q _ h => hFc q h) hFc (fun u9 t H1 locs ht hvm hr9 hB hz1 hk1 hS => ?_)
    obtain ⟨hP1, hK1, hD1⟩ := hB
    rw [ht] at hP1
    obtain ⟨ad6, gd7, vad8⟩ := u9
    obtain ⟨hv9, hn10⟩ := hr9
    have hP : va_P D xcl (xMw cT aM ad6 rd gd7 vad8 o1.2.2.2 []) H1 := hP1
    have hD : va_D A (xMw cT aM ad6 rd gd7 vad8 o1.2.2.2 []) := hD1.weaken (fun k q _ h => hFc q.1 h)
    generalize H1 = H at hP hS ⊢
    have hE9 : ∀ p, p < xct st → vad8 p = vad p := fun p h => (hv9 p (Nat.lt_of_lt_of_le h hN)).trans (hE p h)
    have hE := hE9
    have hN : xct st ≤ xct o1.2.2.2 := Nat.le_trans hN hn10
    refine W.eq (g2 := F0 m 29 ls []) (by first | rfl | (skip; rfl)) ?_
    refine lv_iload_n hx hb dM_told_29 rfl (lv_at hl 2 rfl) ?_
    refine lv_istore (lv' := [(5, .int (xsi st 22)), (4, .int (xsi st 4)), (3, .int (xsi st 23)), (2, .int (xsi st 22)), (0, .ref aM)]) hx hb dM_told_30 hl (by decide) rfl (fun ls hl => ?_)
    exact key n (1, (xsi st 22), (xsi st 4), (xsi st 23), (xsi st 22), o1.2.2.2, (0 + o1.2.1), (0 + o1.2.2.1)) _ _ ls (⟨ad6, gd7, vad8, rfl, hf, hP, hD, hS, lv_sub hl [0, 1, 2, 3, 4] rfl, hE, hN⟩)
  rw [if_neg hk3] at hf
  by_cases hk11 : o1.1 = 1
  · rw [if_pos hk11] at hf
    obtain ⟨hm12, hf⟩ := xmoE hf
    have hFc := xm_free hD hS hA
    refine xx_thr (vx_runV (C := "ValueBenchModel") (As := [xv vad c0]) (rest := []) ⟨hx, hb, hml, hown, htx⟩ ((gM_print1 l hl9 D cT aK aV d H.size n aM ad rd gd vad (xsI st 23 ((xsi st 22) + (60000 : Int32))) c0 o1 hq2).2 hk11) ⟨callB_of 1 htx (xw_goodC kw_6_128) rfl rfl rfl (htx _ kw_1_5) (htx _ kw_6_125) ⟨by decide, by decide, by decide +kernel⟩ ⟨(by show (16 * d) + 1 ≤ 16 * d + 8; omega), (by show 8 + (3 + 11) + (400 * d) ≤ 400 * d + 142; omega)⟩, (htx _ kw_6_127), (htx _ kp_M_print1)⟩ ⟨xPre_blind, va_recv hK hP (ci := 5) rfl (q0 := 0) rfl, (fun U hU hW => ⟨rfl, xPre_of hZ hS hFc hP hD hK U hU hW⟩)⟩ rfl rfl hl.1 rfl (xm_room (Nat.le_of_ble_eq_true rfl)) dM_told_26 ⟨hm12.1, hm12.2⟩) hS hFc (fun q _ h => hFc q h) (fun E ce q9 u9 t H1 locs ht hvm hr9 hB hz1 hk1 hS hce hcv hcl => ?_)
    obtain ⟨rfl, hP1, hK1, hD1⟩ := hB
    rw [ht] at hP1
    obtain ⟨ad14, gd15, vad16⟩ := u9
    obtain ⟨hv17, hn18⟩ := hr9
    have hP : va_P D xcl (xMw cT aM ad14 rd gd15 vad16 o1.2.2.2 []) H1 := hP1
    have hD : va_D A (xMw cT aM ad14 rd gd15 vad16 o1.2.2.2 []) := hD1.weaken (fun k q _ h => hFc q.1 h)
    generalize H1 = H at hP hS hce ⊢
    have hE9 : ∀ p, p < xct st → vad16 p = vad p := fun p h => (hv17 p (Nat.lt_of_lt_of_le h hN)).trans (hE p h)
    have hE := hE9
    have hN : xct st ≤ xct o1.2.2.2 := Nat.le_trans hN hn18
    obtain rfl := Option.some.inj hf
    exact vx_out (E := "java/lang/IndexOutOfBoundsException") (fun x h => (hne x h).elim) hlocks hce hcv hcl (fun t ht ha => ⟨(ad14, gd15, vad16), ⟨hE, hN⟩, ⟨rfl, by rw [ht]; exact hP, va_K.moved ha hK, hD⟩, hS.F ht⟩) hS.2.2 (Nat.le_refl _) (Nat.le_refl _)
  rw [if_neg hk11] at hf
  exact nomatch hf
set_option maxHeartbeats 400000000 in
set_option maxRecDepth 100000 in
theorem gM_toNumber (l : Launch) (hl9 : l.stackTraces = false) (D : va_G) (cT : Nat → ClassId) (aK aV : Nat → Nat) (sz n : Nat) (aM : Nat) (ad rd gd vad : Nat → Nat) (st : xS) (c0 : Nat) (out : Nat × Nat × Nat × Nat × xS) (hf : fM_toNumber n st c0 = some out) (hkd : out.1 = 0) : xMet l yM_toNumber wyM_toNumber 8 out.2.1 out.2.2.1 144 D cT aK aV sz [.ref aM, xv vad c0] (xMw cT aM ad rd gd vad st []) (fun A => va_Qq (fun (r : Option Nat) (u : xU) => r = xca u.2.2 out.2.2.2.1 ∧ xE vad st out.2.2.2.2 u) (fun u t => xB D xcl cT A (xMw cT aM u.1 rd u.2.1 u.2.2 out.2.2.2.2 []) t) A) := by
  refine Met.ofW (cc := prog_13_method_59_code) (maxL := 7) (ret := (some (.object "ValueBenchModel$V"))) (by decide) rfl ?_
  intro p e s m args below meth c s₁ B hml hv
  obtain ⟨rfl, hsz, hZ, hP, hK, hD0⟩ := hv
  have hx := B.exec
  have hb := B.bytes
  have hr := B.returns
  have hts := atoms_spec (ws := wyM_toNumber) B.pre
  have htx := fun w h => hts w (List.mem_cons_of_mem _ h)
  have hown : s.vm.findClass "ValueBenchModel" = some m.cls := findClass_of_methodNamed B.named
  have hlocks := B.notSynchronized
  subst hsz
  have hD := hD0.self (sz := s.heap.size)
  generalize hAe : va_A (xMw cT aM ad rd gd vad st []) s.heap.size = A at hD hZ ⊢
  have hA : ∀ q : Nat, s.heap.size ≤ q → A q := fun q h => by rw [← hAe]; exact Or.inr h
  have hS : va_S A s.heap s.heap [] := va_S.rf
  have hl := lv_entry ([.ref aM, xv vad c0]) (n := 7) (by simp [lg_sl, xvcat, xrscat, xcI, xcL, xcR, xcN])
  rw [show lv_args 0 [.ref aM, xv vad c0] = [(0, .ref aM), (1, xv vad c0)] from by simp [lv_args, xvcat, xrscat, xcI, xcL, xcR, xcN]] at hl
  rw [lg_entry_eq]
  generalize (lg_sl ([.ref aM, xv vad c0]) ++ List.replicate (7 - (lg_sl ([.ref aM, xv vad c0])).length) Slot.unset).toArray = ls at hl ⊢
  have hl : lv_has ls 7 [(0, .ref aM), (1, xv vad c0)] := hl
  have hE : ∀ p, p < xct st → vad p = vad p := fun _ _ => rfl
  have hN : xct st ≤ xct st := Nat.le_refl _
  unfold fM_toNumber at hf
  refine xloopM (σ := Nat × Int64 × Int32 × Int32 × Nat × xS × Nat × Nat) (fun n x H locs ls => (∃ (adL gdL vadL : Nat → Nat), x.1 = 1 ∧ fM_toNumber_b n x.1 x.2.1 x.2.2.1 x.2.2.2.1 x.2.2.2.2.1 x.2.2.2.2.2.1 x.2.2.2.2.2.2.1 x.2.2.2.2.2.2.2 = some out ∧ va_P D xcl (xMw cT aM adL rd gdL vadL x.2.2.2.2.2.1 []) H ∧ va_D A (xMw cT aM adL rd gdL vadL x.2.2.2.2.2.1 []) ∧ va_S A s.heap H locs ∧ lv_has ls 7 [(4, .long x.2.1), (3, .int x.2.2.1), (2, .int x.2.2.2.1), (0, .ref aM), (1, xv vadL x.2.2.2.2.1)] ∧ (∀ p, p < xct st → vadL p = vad p) ∧ xct st ≤ xct x.2.2.2.2.2.1)) (fun x => 94) (fun x => x.2.2.2.2.2.2.1) (fun x => x.2.2.2.2.2.2.2) (fun x H locs ls h => by (obtain ⟨_, _, _, h⟩ := h; exact absurd h.2.1 (by rw [fM_toNumber_b]; exact fun h => nomatch h))) (fun n ih x H locs ls hv => ?_) (fun key => ?_)
  · obtain ⟨lb, y4, y3, y2, y1, ws9, wc, wn⟩ := x
    rcases hv with ⟨adL, gdL, vadL, hj, hf, hP, hD, hS, hl, hE, hN⟩
    subst hj
    have hf : fM_toNumber_b (n + 1) 1 y4 y3 y2 y1 ws9 wc wn = some out := hf
    rw [fM_toNumber_b] at hf
    obtain ⟨hP, hD⟩ : xPD D xcl A (xMw cT aM adL rd gdL vadL ws9 []) H := ⟨hP, hD⟩
    have hl : lv_has ls 7 [(4, .long y4), (3, .int y3), (2, .int y2), (0, .ref aM), (1, xv vadL y1)] := hl
    refine W.eq (g2 := F0 m 94 ls []) rfl ?_
    show W p l e _ s m _ below meth c H locs wc wn _ _
    obtain ⟨hm0, hf⟩ := xmoE hf
    refine lv_iload_n hx hb dM_toNumber_94 rfl (lv_at hl 2 rfl) ?_
    refine xm_aload_n hx hb (xvor _ _) dM_toNumber_95 rfl (lv_at hl 4 rfl) ?_
    obtain ⟨hg1, hf⟩ := xifn hf
    refine xm_vget (v := .int ((xpi ws9 3) (y1 - 1))) hx hb htx hown hK hP 3 (by decide) hg1 rfl ((hZ.1 (103, "count", "I") (List.mem_of_getElem? (i := 3) rfl)).use rfl) rfl dM_toNumber_96 ?_
    refine lv_icmp_ge (tgt := 157) hx hb dM_toNumber_99 (by decide) (fun hc => ?_) (fun hc => ?_)
    · rw [if_pos hc] at hf
      refine lv_lload hx hb dM_toNumber_157 (lv_at hl 0 rfl) ?_
      refine lv_ldc2 hx hb hown (htx _ kw_6_84) dM_toNumber_159 ?_
      refine W.lcmp hx hb dM_toNumber_162 ?_
      refine lv_if_le (tgt := 174) hx hb dM_toNumber_163 (by decide) (fun hc => ?_) (fun hc => ?_)
      · rw [if_pos hc] at hf
        refine lv_aload_n hx hb dM_toNumber_174 rfl (lv_at hl 3 rfl) ?_
        refine lv_iload_n hx hb dM_toNumber_175 rfl (lv_at hl 1 rfl) ?_
        refine lv_if_eq (tgt := 185) hx hb dM_toNumber_176 (by decide) (fun hc => ?_) (fun hc => ?_)
        · rw [if_pos hc] at hf
          refine lv_lload hx hb dM_toNumber_185 (lv_at hl 0 rfl) ?_
          obtain ⟨o2, hq3, hf⟩ := xbind hf
          have hl := lv_sub (l' := [(4, .long y4), (3, .int y3), (2, .int y2), (0, .ref aM)]) hl [0, 1, 2, 3] rfl
          by_cases hk4 : o2.1 = 0
          · rw [if_pos hk4] at hf
            obtain ⟨hm5, hf⟩ := xmoE hf
            have hFc := xm_free hD hS hA
            refine va_callq (va_runV (C := "ValueBenchModel") (As := [.long y4]) (rest := []) ⟨hx, hb, hml, hown, htx⟩ (gM_number l hl9 D cT aK aV H.size n aM adL rd gdL vadL ws9 y4 o2 hq3 hk4) ⟨callB_of 1 htx (xw_goodC kw_6_88) rfl rfl rfl (htx _ kw_1_5) (htx _ kw_6_85) ⟨by decide, by decide, by decide +kernel⟩ ⟨Nat.le_of_ble_eq_true rfl, Nat.le_of_ble_eq_true rfl⟩, (htx _ kw_6_87), (htx _ kp_M_number)⟩ ⟨xPre_blind, va_recv hK hP (ci := 5) rfl (q0 := 0) rfl, (fun U hU hW => ⟨rfl, xPre_of hZ hS hFc hP hD hK U hU hW⟩)⟩ rfl rfl hl.1 rfl (xm_room (Nat.le_of_ble_eq_true rfl)) dM_toNumber_187 ⟨hm5.1, hm5.2⟩) hS (fun q _ h => hFc q h) hFc (fun r6 u9 t H1 locs ht hvm hr9 hB hz1 hk1 hS => ?_)
            obtain ⟨hP1, hK1, hD1⟩ := hB
            rw [ht] at hP1
            obtain ⟨ad7, gd8, vad9⟩ := u9
            obtain ⟨hr9, hv10, hn11⟩ := hr9
            have hP : va_P D xcl (xMw cT aM ad7 rd gd8 vad9 o2.2.2.2.2 []) H1 := hP1
            have hD : va_D A (xMw cT aM ad7 rd gd8 vad9 o2.2.2.2.2 []) := hD1.weaken (fun k q _ h => hFc q.1 h)
            generalize H1 = H at hP hS ⊢
            have hE9 : ∀ p, p < xct st → vad9 p = vad p := fun p h => (hv10 p (Nat.lt_of_lt_of_le h hN)).trans (hE p h)
            have hE := hE9
            have hN : xct st ≤ xct o2.2.2.2.2 := Nat.le_trans hN hn11
            rw [hr9]
            refine W.eq (g2 := F0 m 190 ls [xv vad9 o2.2.2.2.1]) (by first | rfl | (skip; rfl)) ?_
            obtain rfl := Option.some.inj hf
            exact W.aret (v := xv vad9 o2.2.2.2.1) hx hb hr (Or.inl ⟨_, rfl⟩) (xvor _ _) (fun t ht hW => ⟨⟨xca vad9 o2.2.2.2.1, (ad7, gd8, vad9), rfl, ⟨rfl, hE, hN⟩, by rw [ht]; exact hP, va_K.moved hW.alike hK, hD⟩, hS.F ht⟩) hS.2.2 dM_toNumber_190
          rw [if_neg hk4] at hf
          by_cases hk12 : o2.1 = 1
          · rw [if_pos hk12] at hf
            obtain ⟨hm13, hf⟩ := xmoE hf
            obtain rfl := Option.some.inj hf
            exact absurd (show (1 : Nat) = 0 from hkd) (by decide)
          rw [if_neg hk12] at hf
          exact nomatch hf
        · rw [if_neg hc] at hf
          refine lv_lload hx hb dM_toNumber_179 (lv_at hl 0 rfl) ?_
          refine lv_lneg hx hb dM_toNumber_181 ?_
          refine lv_goto (tgt := 187) hx hb dM_toNumber_182 (by decide) ?_
          obtain ⟨o2, hq3, hf⟩ := xbind hf
          have hl := lv_sub (l' := [(4, .long y4), (3, .int y3), (2, .int y2), (0, .ref aM)]) hl [0, 1, 2, 3] rfl
          by_cases hk4 : o2.1 = 0
          · rw [if_pos hk4] at hf
            obtain ⟨hm5, hf⟩ := xmoE hf
            have hFc := xm_free hD hS hA
            refine va_callq (va_runV (C := "ValueBenchModel") (As := [.long (-y4)]) (rest := []) ⟨hx, hb, hml, hown, htx⟩ (gM_number l hl9 D cT aK aV H.size n aM adL rd gdL vadL ws9 (-y4) o2 hq3 hk4) ⟨callB_of 1 htx (xw_goodC kw_6_88) rfl rfl rfl (htx _ kw_1_5) (htx _ kw_6_85) ⟨by decide, by decide, by decide +kernel⟩ ⟨Nat.le_of_ble_eq_true rfl, Nat.le_of_ble_eq_true rfl⟩, (htx _ kw_6_87), (htx _ kp_M_number)⟩ ⟨xPre_blind, va_recv hK hP (ci := 5) rfl (q0 := 0) rfl, (fun U hU hW => ⟨rfl, xPre_of hZ hS hFc hP hD hK U hU hW⟩)⟩ rfl rfl hl.1 rfl (xm_room (Nat.le_of_ble_eq_true rfl)) dM_toNumber_187 ⟨hm5.1, hm5.2⟩) hS (fun q _ h => hFc q h) hFc (fun r6 u9 t H1 locs ht hvm hr9 hB hz1 hk1 hS => ?_)
            obtain ⟨hP1, hK1, hD1⟩ := hB
            rw [ht] at hP1
            obtain ⟨ad7, gd8, vad9⟩ := u9
            obtain ⟨hr9, hv10, hn11⟩ := hr9
            have hP : va_P D xcl (xMw cT aM ad7 rd gd8 vad9 o2.2.2.2.2 []) H1 := hP1
            have hD : va_D A (xMw cT aM ad7 rd gd8 vad9 o2.2.2.2.2 []) := hD1.weaken (fun k q _ h => hFc q.1 h)
            generalize H1 = H at hP hS ⊢
            have hE9 : ∀ p, p < xct st → vad9 p = vad p := fun p h => (hv10 p (Nat.lt_of_lt_of_le h hN)).trans (hE p h)
            have hE := hE9
            have hN : xct st ≤ xct o2.2.2.2.2 := Nat.le_trans hN hn11
            rw [hr9]
            refine W.eq (g2 := F0 m 190 ls [xv vad9 o2.2.2.2.1]) (by first | rfl | (skip; rfl)) ?_
            obtain rfl := Option.some.inj hf
            exact W.aret (v := xv vad9 o2.2.2.2.1) hx hb hr (Or.inl ⟨_, rfl⟩) (xvor _ _) (fun t ht hW => ⟨⟨xca vad9 o2.2.2.2.1, (ad7, gd8, vad9), rfl, ⟨rfl, hE, hN⟩, by rw [ht]; exact hP, va_K.moved hW.alike hK, hD⟩, hS.F ht⟩) hS.2.2 dM_toNumber_190
          rw [if_neg hk4] at hf
          by_cases hk12 : o2.1 = 1
          · rw [if_pos hk12] at hf
            obtain ⟨hm13, hf⟩ := xmoE hf
            obtain rfl := Option.some.inj hf
            exact absurd (show (1 : Nat) = 0 from hkd) (by decide)
          rw [if_neg hk12] at hf
          exact nomatch hf
      · rw [if_neg hc] at hf
        refine lv_aload_n hx hb dM_toNumber_166 rfl (lv_at hl 3 rfl) ?_
        refine lv_iconst (v := 4) hx hb dM_toNumber_167 (by decide) ?_
        obtain ⟨o2, hq3, hf⟩ := xbind hf
        have hl := lv_sub (l' := [(4, .long y4), (3, .int y3), (2, .int y2), (0, .ref aM)]) hl [0, 1, 2, 3] rfl
        by_cases hk4 : o2.1 = 1
        · rw [if_pos hk4] at hf
          obtain ⟨hm5, hf⟩ := xmoE hf
          obtain rfl := Option.some.inj hf
          exact absurd (show (1 : Nat) = 0 from hkd) (by decide)
        rw [if_neg hk4] at hf
        exact nomatch hf
    · rw [if_neg hc] at hf
      refine lv_aload_n hx hb dM_toNumber_102 rfl (lv_at hl 3 rfl) ?_
      refine xm_get (v := .ref (adL 3)) hx hb htx hown hK hP 3 (by decide) rfl (htx _ kw_5_90) rfl dM_toNumber_103 ?_
      refine xm_aload_n hx hb (xvor _ _) dM_toNumber_106 rfl (lv_at hl 4 rfl) ?_
      refine xm_vget (v := .int ((xpi ws9 2) (y1 - 1))) hx hb htx hown hK hP 2 (by decide) hg1 rfl ((hZ.1 (100, "off", "I") (List.mem_of_getElem? (i := 2) rfl)).use rfl) rfl dM_toNumber_107 ?_
      refine lv_iload_n hx hb dM_toNumber_110 rfl (lv_at hl 2 rfl) ?_
      refine lv_iadd hx hb dM_toNumber_111 ?_
      obtain ⟨hg2, hf⟩ := xifn hf
      refine va_bald hx hb hK hP 2 0 rfl rfl hg2 dM_toNumber_112 ?_
      refine W.eq (g2 := F0 m 113 ls [.int ((xba ws9 3) (((xpi ws9 2) (y1 - 1)) + y2).toNatClampNeg)]) rfl ?_
      refine lv_istore (lv' := [(6, .int ((xba ws9 3) (((xpi ws9 2) (y1 - 1)) + y2).toNatClampNeg)), (4, .long y4), (3, .int y3), (2, .int y2), (0, .ref aM), (1, xv vadL y1)]) hx hb dM_toNumber_113 hl (by decide) rfl (fun ls hl => ?_)
      refine lv_iload hx hb dM_toNumber_115 (lv_at hl 0 rfl) ?_
      obtain ⟨o3, hq4, hf⟩ := xbind hf
      refine va_calli (va_runS (As := [.int ((xba ws9 3) (((xpi ws9 2) (y1 - 1)) + y2).toNatClampNeg)]) (rest := []) ⟨hx, hb, hml, hown, htx⟩ (gM_digit l hl9 D cT aK aV H.size n ((xba ws9 3) (((xpi ws9 2) (y1 - 1)) + y2).toNatClampNeg) o3 hq4) ⟨callB_of 1 htx (xw_goodC kw_6_73) rfl rfl rfl (htx _ kw_1_5) (htx _ kw_6_71) ⟨by decide, by decide, by decide +kernel⟩ ⟨Nat.le_of_ble_eq_true rfl, Nat.le_of_ble_eq_true rfl⟩, htx _ kw_6_72⟩ ⟨xPre_blind, (fun U hU hW => ⟨rfl, xPre_of hZ hS (xm_free0 hS hA) xm_Pnil xm_Dnil hK U hU hW⟩)⟩ rfl rfl hl.1 rfl (lv_room (Nat.le_of_ble_eq_true rfl)) dM_toNumber_117 ⟨(hm0.1), (hm0.2)⟩) hS (fun q _ h => xm_free0 hS hA q h) (xm_free0 hS hA) (fun r5 u9 t H1 locs ht hvm hr9 hB hz1 hk1 hS => ?_)
      replace hP := xm_keep hP hk1
      generalize H1 = H at hP hS ⊢
      rw [hr9]
      refine W.eq (g2 := F0 m 120 ls [.int o3]) (by first | rfl | rw [xv1 (Nat.succ_ne_zero _)]) ?_
      refine lv_if_ne (tgt := 129) hx hb dM_toNumber_120 (by decide) (fun hc => ?_) (fun hc => ?_)
      · rw [if_neg hc] at hf
        refine lv_ldc2 hx hb hown (htx _ kw_6_78) dM_toNumber_129 ?_
        refine lv_lload hx hb dM_toNumber_132 (lv_at hl 1 rfl) ?_
        refine lv_lmul hx hb dM_toNumber_134 ?_
        refine lv_iload hx hb dM_toNumber_135 (lv_at hl 0 rfl) ?_
        refine lv_i2l hx hb dM_toNumber_137 rfl ?_
        refine lv_ladd hx hb dM_toNumber_138 ?_
        refine lv_ldc2 hx hb hown (htx _ kw_6_79) dM_toNumber_139 ?_
        refine lv_lsub hx hb dM_toNumber_142 ?_
        refine lv_ldc2 hx hb hown (htx _ kw_6_80) dM_toNumber_143 ?_
        refine va_mmin_long hx hb (hml.trans hl.1.symm) hown (htx _ kw_6_81) (htx _ kw_6_82) (htx _ kw_1_15) (htx _ kw_6_83) (Nat.le_of_ble_eq_true rfl) (Nat.le_of_ble_eq_true rfl) (hm0.1) (hm0.2) dM_toNumber_146 ?_
        refine W.eq (g2 := F0 m 149 ls [.long (if (100000000000000000 : Int64) < ((((10 : Int64) * y4) + ((xba ws9 3) (((xpi ws9 2) (y1 - 1)) + y2).toNatClampNeg).toInt64) - (48 : Int64)) then (100000000000000000 : Int64) else ((((10 : Int64) * y4) + ((xba ws9 3) (((xpi ws9 2) (y1 - 1)) + y2).toNatClampNeg).toInt64) - (48 : Int64)))]) rfl ?_
        refine lv_lstore (lv' := [(4, .long (if (100000000000000000 : Int64) < ((((10 : Int64) * y4) + ((xba ws9 3) (((xpi ws9 2) (y1 - 1)) + y2).toNatClampNeg).toInt64) - (48 : Int64)) then (100000000000000000 : Int64) else ((((10 : Int64) * y4) + ((xba ws9 3) (((xpi ws9 2) (y1 - 1)) + y2).toNatClampNeg).toInt64) - (48 : Int64)))), (6, .int ((xba ws9 3) (((xpi ws9 2) (y1 - 1)) + y2).toNatClampNeg)), (3, .int y3), (2, .int y2), (0, .ref aM), (1, xv vadL y1)]) hx hb dM_toNumber_149 hl (by decide) rfl (fun ls hl => ?_)
        refine lv_iinc (v := (y2 + 1)) (lv' := [(2, .int (y2 + 1)), (4, .long (if (100000000000000000 : Int64) < ((((10 : Int64) * y4) + ((xba ws9 3) (((xpi ws9 2) (y1 - 1)) + y2).toNatClampNeg).toInt64) - (48 : Int64)) then (100000000000000000 : Int64) else ((((10 : Int64) * y4) + ((xba ws9 3) (((xpi ws9 2) (y1 - 1)) + y2).toNatClampNeg).toInt64) - (48 : Int64)))), (6, .int ((xba ws9 3) (((xpi ws9 2) (y1 - 1)) + y2).toNatClampNeg)), (3, .int y3), (0, .ref aM), (1, xv vadL y1)]) hx hb dM_toNumber_151 hl (k := 3) rfl rfl (by decide) (by simp only [List.filter, xvcat, xrscat, xcI, xcL, xcR, xcN]; rfl) (fun ls hl => ?_)
        refine lv_goto (tgt := 94) hx hb dM_toNumber_154 (by decide) ?_
        exact ih (1, (if (100000000000000000 : Int64) < ((((10 : Int64) * y4) + ((xba ws9 3) (((xpi ws9 2) (y1 - 1)) + y2).toNatClampNeg).toInt64) - (48 : Int64)) then (100000000000000000 : Int64) else ((((10 : Int64) * y4) + ((xba ws9 3) (((xpi ws9 2) (y1 - 1)) + y2).toNatClampNeg).toInt64) - (48 : Int64))), y3, (y2 + 1), y1, ws9, wc, wn) _ _ ls (⟨adL, gdL, vadL, rfl, hf, hP, hD, hS, lv_sub hl [1, 3, 0, 4, 5] rfl, hE, hN⟩)
      · rw [if_pos hc] at hf
        refine lv_aload_n hx hb dM_toNumber_123 rfl (lv_at hl 4 rfl) ?_
        refine lv_iconst (v := 4) hx hb dM_toNumber_124 (by decide) ?_
        obtain ⟨o6, hq7, hf⟩ := xbind hf
        have hl := lv_sub (l' := [(6, .int ((xba ws9 3) (((xpi ws9 2) (y1 - 1)) + y2).toNatClampNeg)), (4, .long y4), (3, .int y3), (2, .int y2), (0, .ref aM)]) hl [0, 1, 2, 3, 4] rfl
        by_cases hk8 : o6.1 = 1
        · rw [if_pos hk8] at hf
          obtain ⟨hm9, hf⟩ := xmoE hf
          obtain rfl := Option.some.inj hf
          exact absurd (show (1 : Nat) = 0 from hkd) (by decide)
        rw [if_neg hk8] at hf
        exact nomatch hf
  refine xm_aload_n hx hb (xvor _ _) dM_toNumber_0 rfl (lv_at hl 1 rfl) ?_
  obtain ⟨hg1, hf⟩ := xifn hf
  refine xm_vget (v := .int ((xpi st 0) (c0 - 1))) hx hb htx hown hK hP 0 (by decide) hg1 rfl ((hZ.1 (93, "kind", "I") (List.mem_of_getElem? (i := 0) rfl)).use rfl) rfl dM_toNumber_1 ?_
  refine lv_iconst (v := 3) hx hb dM_toNumber_4 (by decide) ?_
  refine lv_icmp_ne (tgt := 10) hx hb dM_toNumber_5 (by decide) (fun hc => ?_) (fun hc => ?_)
  · rw [if_neg hc] at hf
    refine lv_aload_n hx hb dM_toNumber_10 rfl (lv_at hl 0 rfl) ?_
    refine xm_aload_n hx hb (xvor _ _) dM_toNumber_11 rfl (lv_at hl 1 rfl) ?_
    obtain ⟨o2, hq3, hf⟩ := xbind hf
    by_cases hk4 : o2.1 = 0
    · rw [if_pos hk4] at hf
      obtain ⟨hm5, hf⟩ := xmoE hf
      have hFc := xm_free hD hS hA
      refine va_callq (va_runV (C := "ValueBenchModel") (As := [xv vad c0]) (rest := []) ⟨hx, hb, hml, hown, htx⟩ (gM_text l hl9 D cT aK aV s.heap.size n aM ad rd gd vad st c0 o2 hq3 hk4) ⟨callB_of 1 htx (xw_goodC kw_7_54) rfl rfl rfl (htx _ kw_1_5) (htx _ kw_7_51) ⟨by decide, by decide, by decide +kernel⟩ ⟨Nat.le_of_ble_eq_true rfl, Nat.le_of_ble_eq_true rfl⟩, (htx _ kw_7_53), (htx _ kp_M_text)⟩ ⟨xPre_blind, va_recv hK hP (ci := 5) rfl (q0 := 0) rfl, (fun U hU hW => ⟨rfl, xPre_of hZ hS hFc hP hD hK U hU hW⟩)⟩ rfl rfl hl.1 rfl (xm_room (Nat.le_of_ble_eq_true rfl)) dM_toNumber_12 ⟨hm5.1, hm5.2⟩) hS (fun q _ h => hFc q h) hFc (fun r6 u9 t H1 locs ht hvm hr9 hB hz1 hk1 hS => ?_)
      obtain ⟨hP1, hK1, hD1⟩ := hB
      rw [ht] at hP1
      obtain ⟨ad7, gd8, vad9⟩ := u9
      obtain ⟨hr9, hv10, hn11⟩ := hr9
      have hP : va_P D xcl (xMw cT aM ad7 rd gd8 vad9 o2.2.2.2.2 []) H1 := hP1
      have hD : va_D A (xMw cT aM ad7 rd gd8 vad9 o2.2.2.2.2 []) := hD1.weaken (fun k q _ h => hFc q.1 h)
      generalize H1 = H at hP hS ⊢
      have hE9 : ∀ p, p < xct st → vad9 p = vad p := fun p h => (hv10 p (Nat.lt_of_lt_of_le h hN)).trans (hE p h)
      have hE := hE9
      have hN : xct st ≤ xct o2.2.2.2.2 := Nat.le_trans hN hn11
      have ev12 : xv vad c0 = xv vad9 c0 := xvE hv10 (fun h => hg1 (Or.inr h))
      have hl : lv_has ls 7 [(0, .ref aM), (1, xv vad9 c0)] := by first | exact hl | ((try (rw [← ev12])); exact hl)
      rw [hr9]
      refine W.eq (g2 := F0 m 15 ls [xv vad9 o2.2.2.2.1]) (by first | rfl | ((try (rw [ev12])); rfl)) ?_
      refine lv_pop hx hb dM_toNumber_15 (xvcat _ _) ?_
      refine lv_iconst (v := 0) hx hb dM_toNumber_16 (by decide) ?_
      refine lv_istore_n (lv' := [(2, .int 0), (0, .ref aM), (1, xv vad9 c0)]) hx hb dM_toNumber_17 rfl hl (by decide) (by simp only [List.filter, xvcat, xrscat, xcI, xcL, xcR, xcN]; rfl) (fun ls hl => ?_)
      refine xm_aload_n hx hb (xvor _ _) dM_toNumber_18 rfl (lv_at hl 2 rfl) ?_
      obtain ⟨hg13, hf⟩ := xifn hf
      refine xm_vget (v := .int ((xpi o2.2.2.2.2 3) (c0 - 1))) hx hb htx hown hK hP 3 (by decide) hg13 rfl ((hZ.1 (103, "count", "I") (List.mem_of_getElem? (i := 3) rfl)).use rfl) rfl dM_toNumber_19 ?_
      refine lv_if_le (tgt := 43) hx hb dM_toNumber_22 (by decide) (fun hc => ?_) (fun hc => ?_)
      · rw [if_pos hc] at hf
        refine lv_iconst (v := 0) hx hb dM_toNumber_43 (by decide) ?_
        refine lv_istore_n (lv' := [(3, .int 0), (2, .int 0), (0, .ref aM), (1, xv vad9 c0)]) hx hb dM_toNumber_44 rfl hl (by decide) rfl (fun ls hl => ?_)
        refine lv_iload_n hx hb dM_toNumber_45 rfl (lv_at hl 0 rfl) ?_
        refine lv_if_eq (tgt := 51) hx hb dM_toNumber_46 (by decide) (fun _ => ?_) (fun h => ((by revert h; decide : False)).elim)
        refine lv_iload_n hx hb dM_toNumber_51 rfl (lv_at hl 1 rfl) ?_
        refine xm_aload_n hx hb (xvor _ _) dM_toNumber_52 rfl (lv_at hl 3 rfl) ?_
        refine xm_vget (v := .int ((xpi o2.2.2.2.2 3) (c0 - 1))) hx hb htx hown hK hP 3 (by decide) hg13 rfl ((hZ.1 (103, "count", "I") (List.mem_of_getElem? (i := 3) rfl)).use rfl) rfl dM_toNumber_53 ?_
        refine lv_icmp_eq (tgt := 85) hx hb dM_toNumber_56 (by decide) (fun hc => ?_) (fun hc => ?_)
        · rw [if_pos hc] at hf
          refine lv_aload_n hx hb dM_toNumber_85 rfl (lv_at hl 2 rfl) ?_
          refine lv_iconst (v := 4) hx hb dM_toNumber_86 (by decide) ?_
          obtain ⟨o14, hq15, hf⟩ := xbind hf
          have hl := lv_sub (l' := [(3, .int 0), (2, .int 0), (0, .ref aM)]) hl [0, 1, 2] rfl
          by_cases hk16 : o14.1 = 1
          · rw [if_pos hk16] at hf
            obtain ⟨hm17, hf⟩ := xmoE hf
            obtain rfl := Option.some.inj hf
            exact absurd (show (1 : Nat) = 0 from hkd) (by decide)
          rw [if_neg hk16] at hf
          exact nomatch hf
        · rw [if_neg hc] at hf
          refine lv_aload_n hx hb dM_toNumber_59 rfl (lv_at hl 2 rfl) ?_
          refine xm_get (v := .ref (ad7 3)) hx hb htx hown hK hP 3 (by decide) rfl (htx _ kw_5_90) rfl dM_toNumber_60 ?_
          refine xm_aload_n hx hb (xvor _ _) dM_toNumber_63 rfl (lv_at hl 3 rfl) ?_
          refine xm_vget (v := .int ((xpi o2.2.2.2.2 2) (c0 - 1))) hx hb htx hown hK hP 2 (by decide) hg13 rfl ((hZ.1 (100, "off", "I") (List.mem_of_getElem? (i := 2) rfl)).use rfl) rfl dM_toNumber_64 ?_
          refine lv_iload_n hx hb dM_toNumber_67 rfl (lv_at hl 1 rfl) ?_
          refine lv_iadd hx hb dM_toNumber_68 ?_
          obtain ⟨hg14, hf⟩ := xifn hf
          refine va_bald hx hb hK hP 2 0 rfl rfl hg14 dM_toNumber_69 ?_
          refine W.eq (g2 := F0 m 70 ls [.int ((xba o2.2.2.2.2 3) (((xpi o2.2.2.2.2 2) (c0 - 1)) + (0 : Int32)).toNatClampNeg)]) rfl ?_
          refine lv_bipush (v := 48) hx hb dM_toNumber_70 (by decide) ?_
          refine lv_icmp_ne (tgt := 91) hx hb dM_toNumber_72 (by decide) (fun hc => ?_) (fun hc => ?_)
          · rw [if_neg hc] at hf
            refine lv_lconst (v := 0) hx hb dM_toNumber_91 (by decide) ?_
            refine lv_lstore (lv' := [(4, .long 0), (3, .int 0), (2, .int 0), (0, .ref aM), (1, xv vad9 c0)]) hx hb dM_toNumber_92 hl (by decide) rfl (fun ls hl => ?_)
            exact key n (1, (0 : Int64), (0 : Int32), (0 : Int32), c0, o2.2.2.2.2, (0 + o2.2.1), (0 + o2.2.2.1)) _ _ ls (⟨ad7, gd8, vad9, rfl, hf, hP, hD, hS, lv_sub hl [0, 1, 2, 3, 4] rfl, hE, hN⟩)
          · rw [if_pos hc] at hf
            refine lv_iload_n hx hb dM_toNumber_75 rfl (lv_at hl 1 rfl) ?_
            refine lv_iconst (v := 1) hx hb dM_toNumber_76 (by decide) ?_
            refine lv_iadd hx hb dM_toNumber_77 ?_
            refine W.eq (g2 := F0 m 78 ls [.int 1]) rfl ?_
            refine xm_aload_n hx hb (xvor _ _) dM_toNumber_78 rfl (lv_at hl 3 rfl) ?_
            refine xm_vget (v := .int ((xpi o2.2.2.2.2 3) (c0 - 1))) hx hb htx hown hK hP 3 (by decide) hg13 rfl ((hZ.1 (103, "count", "I") (List.mem_of_getElem? (i := 3) rfl)).use rfl) rfl dM_toNumber_79 ?_
            refine lv_icmp_ge (tgt := 91) hx hb dM_toNumber_82 (by decide) (fun hc => ?_) (fun hc => ?_)
            · rw [if_pos hc] at hf
              refine lv_lconst (v := 0) hx hb dM_toNumber_91 (by decide) ?_
              refine lv_lstore (lv' := [(4, .long 0), (3, .int 0), (2, .int 0), (0, .ref aM), (1, xv vad9 c0)]) hx hb dM_toNumber_92 hl (by decide) rfl (fun ls hl => ?_)
              exact key n (1, (0 : Int64), (0 : Int32), (0 : Int32), c0, o2.2.2.2.2, (0 + o2.2.1), (0 + o2.2.2.1)) _ _ ls (⟨ad7, gd8, vad9, rfl, hf, hP, hD, hS, lv_sub hl [0, 1, 2, 3, 4] rfl, hE, hN⟩)
            · rw [if_neg hc] at hf
              refine lv_aload_n hx hb dM_toNumber_85 rfl (lv_at hl 2 rfl) ?_
              refine lv_iconst (v := 4) hx hb dM_toNumber_86 (by decide) ?_
              obtain ⟨o15, hq16, hf⟩ := xbind hf
              have hl := lv_sub (l' := [(3, .int 0), (2, .int 0), (0, .ref aM)]) hl [0, 1, 2] rfl
              by_cases hk17 : o15.1 = 1
              · rw [if_pos hk17] at hf
                obtain ⟨hm18, hf⟩ := xmoE hf
                obtain rfl := Option.some.inj hf
                exact absurd (show (1 : Nat) = 0 from hkd) (by decide)
              rw [if_neg hk17] at hf
              exact nomatch hf
      · rw [if_neg hc] at hf
        refine lv_aload_n hx hb dM_toNumber_25 rfl (lv_at hl 1 rfl) ?_
        refine xm_get (v := .ref (ad7 3)) hx hb htx hown hK hP 3 (by decide) rfl (htx _ kw_5_90) rfl dM_toNumber_26 ?_
        refine xm_aload_n hx hb (xvor _ _) dM_toNumber_29 rfl (lv_at hl 2 rfl) ?_
        refine xm_vget (v := .int ((xpi o2.2.2.2.2 2) (c0 - 1))) hx hb htx hown hK hP 2 (by decide) hg13 rfl ((hZ.1 (100, "off", "I") (List.mem_of_getElem? (i := 2) rfl)).use rfl) rfl dM_toNumber_30 ?_
        obtain ⟨hg14, hf⟩ := xifn hf
        refine va_bald hx hb hK hP 2 0 rfl rfl hg14 dM_toNumber_33 ?_
        refine W.eq (g2 := F0 m 34 ls [.int ((xba o2.2.2.2.2 3) ((xpi o2.2.2.2.2 2) (c0 - 1)).toNatClampNeg)]) rfl ?_
        refine lv_bipush (v := 45) hx hb dM_toNumber_34 (by decide) ?_
        refine lv_icmp_ne (tgt := 43) hx hb dM_toNumber_36 (by decide) (fun hc => ?_) (fun hc => ?_)
        · rw [if_neg hc] at hf
          refine lv_iconst (v := 0) hx hb dM_toNumber_43 (by decide) ?_
          refine lv_istore_n (lv' := [(3, .int 0), (2, .int 0), (0, .ref aM), (1, xv vad9 c0)]) hx hb dM_toNumber_44 rfl hl (by decide) rfl (fun ls hl => ?_)
          refine lv_iload_n hx hb dM_toNumber_45 rfl (lv_at hl 0 rfl) ?_
          refine lv_if_eq (tgt := 51) hx hb dM_toNumber_46 (by decide) (fun _ => ?_) (fun h => ((by revert h; decide : False)).elim)
          refine lv_iload_n hx hb dM_toNumber_51 rfl (lv_at hl 1 rfl) ?_
          refine xm_aload_n hx hb (xvor _ _) dM_toNumber_52 rfl (lv_at hl 3 rfl) ?_
          refine xm_vget (v := .int ((xpi o2.2.2.2.2 3) (c0 - 1))) hx hb htx hown hK hP 3 (by decide) hg13 rfl ((hZ.1 (103, "count", "I") (List.mem_of_getElem? (i := 3) rfl)).use rfl) rfl dM_toNumber_53 ?_
          refine lv_icmp_eq (tgt := 85) hx hb dM_toNumber_56 (by decide) (fun hc => ?_) (fun hc => ?_)
          · rw [if_pos hc] at hf
            refine lv_aload_n hx hb dM_toNumber_85 rfl (lv_at hl 2 rfl) ?_
            refine lv_iconst (v := 4) hx hb dM_toNumber_86 (by decide) ?_
            obtain ⟨o15, hq16, hf⟩ := xbind hf
            have hl := lv_sub (l' := [(3, .int 0), (2, .int 0), (0, .ref aM)]) hl [0, 1, 2] rfl
            by_cases hk17 : o15.1 = 1
            · rw [if_pos hk17] at hf
              obtain ⟨hm18, hf⟩ := xmoE hf
              obtain rfl := Option.some.inj hf
              exact absurd (show (1 : Nat) = 0 from hkd) (by decide)
            rw [if_neg hk17] at hf
            exact nomatch hf
          · rw [if_neg hc] at hf
            refine lv_aload_n hx hb dM_toNumber_59 rfl (lv_at hl 2 rfl) ?_
            refine xm_get (v := .ref (ad7 3)) hx hb htx hown hK hP 3 (by decide) rfl (htx _ kw_5_90) rfl dM_toNumber_60 ?_
            refine xm_aload_n hx hb (xvor _ _) dM_toNumber_63 rfl (lv_at hl 3 rfl) ?_
            refine xm_vget (v := .int ((xpi o2.2.2.2.2 2) (c0 - 1))) hx hb htx hown hK hP 2 (by decide) hg13 rfl ((hZ.1 (100, "off", "I") (List.mem_of_getElem? (i := 2) rfl)).use rfl) rfl dM_toNumber_64 ?_
            refine lv_iload_n hx hb dM_toNumber_67 rfl (lv_at hl 1 rfl) ?_
            refine lv_iadd hx hb dM_toNumber_68 ?_
            obtain ⟨hg15, hf⟩ := xifn hf
            refine va_bald hx hb hK hP 2 0 rfl rfl hg15 dM_toNumber_69 ?_
            refine W.eq (g2 := F0 m 70 ls [.int ((xba o2.2.2.2.2 3) (((xpi o2.2.2.2.2 2) (c0 - 1)) + (0 : Int32)).toNatClampNeg)]) rfl ?_
            refine lv_bipush (v := 48) hx hb dM_toNumber_70 (by decide) ?_
            refine lv_icmp_ne (tgt := 91) hx hb dM_toNumber_72 (by decide) (fun hc => ?_) (fun hc => ?_)
            · rw [if_neg hc] at hf
              refine lv_lconst (v := 0) hx hb dM_toNumber_91 (by decide) ?_
              refine lv_lstore (lv' := [(4, .long 0), (3, .int 0), (2, .int 0), (0, .ref aM), (1, xv vad9 c0)]) hx hb dM_toNumber_92 hl (by decide) rfl (fun ls hl => ?_)
              exact key n (1, (0 : Int64), (0 : Int32), (0 : Int32), c0, o2.2.2.2.2, (0 + o2.2.1), (0 + o2.2.2.1)) _ _ ls (⟨ad7, gd8, vad9, rfl, hf, hP, hD, hS, lv_sub hl [0, 1, 2, 3, 4] rfl, hE, hN⟩)
            · rw [if_pos hc] at hf
              refine lv_iload_n hx hb dM_toNumber_75 rfl (lv_at hl 1 rfl) ?_
              refine lv_iconst (v := 1) hx hb dM_toNumber_76 (by decide) ?_
              refine lv_iadd hx hb dM_toNumber_77 ?_
              refine W.eq (g2 := F0 m 78 ls [.int 1]) rfl ?_
              refine xm_aload_n hx hb (xvor _ _) dM_toNumber_78 rfl (lv_at hl 3 rfl) ?_
              refine xm_vget (v := .int ((xpi o2.2.2.2.2 3) (c0 - 1))) hx hb htx hown hK hP 3 (by decide) hg13 rfl ((hZ.1 (103, "count", "I") (List.mem_of_getElem? (i := 3) rfl)).use rfl) rfl dM_toNumber_79 ?_
              refine lv_icmp_ge (tgt := 91) hx hb dM_toNumber_82 (by decide) (fun hc => ?_) (fun hc => ?_)
              · rw [if_pos hc] at hf
                refine lv_lconst (v := 0) hx hb dM_toNumber_91 (by decide) ?_
                refine lv_lstore (lv' := [(4, .long 0), (3, .int 0), (2, .int 0), (0, .ref aM), (1, xv vad9 c0)]) hx hb dM_toNumber_92 hl (by decide) rfl (fun ls hl => ?_)
                exact key n (1, (0 : Int64), (0 : Int32), (0 : Int32), c0, o2.2.2.2.2, (0 + o2.2.1), (0 + o2.2.2.1)) _ _ ls (⟨ad7, gd8, vad9, rfl, hf, hP, hD, hS, lv_sub hl [0, 1, 2, 3, 4] rfl, hE, hN⟩)
              · rw [if_neg hc] at hf
                refine lv_aload_n hx hb dM_toNumber_85 rfl (lv_at hl 2 rfl) ?_
                refine lv_iconst (v := 4) hx hb dM_toNumber_86 (by decide) ?_
                obtain ⟨o16, hq17, hf⟩ := xbind hf
                have hl := lv_sub (l' := [(3, .int 0), (2, .int 0), (0, .ref aM)]) hl [0, 1, 2] rfl
                by_cases hk18 : o16.1 = 1
                · rw [if_pos hk18] at hf
                  obtain ⟨hm19, hf⟩ := xmoE hf
                  obtain rfl := Option.some.inj hf
                  exact absurd (show (1 : Nat) = 0 from hkd) (by decide)
                rw [if_neg hk18] at hf
                exact nomatch hf
        · rw [if_pos hc] at hf
          refine lv_iconst (v := 1) hx hb dM_toNumber_39 (by decide) ?_
          refine lv_goto (tgt := 44) hx hb dM_toNumber_40 (by decide) ?_
          refine lv_istore_n (lv' := [(3, .int 1), (2, .int 0), (0, .ref aM), (1, xv vad9 c0)]) hx hb dM_toNumber_44 rfl hl (by decide) rfl (fun ls hl => ?_)
          refine lv_iload_n hx hb dM_toNumber_45 rfl (lv_at hl 0 rfl) ?_
          refine lv_if_eq (tgt := 51) hx hb dM_toNumber_46 (by decide) (fun h => ((by revert h; decide : False)).elim) (fun _ => ?_)
          refine lv_iconst (v := 1) hx hb dM_toNumber_49 (by decide) ?_
          refine lv_istore_n (lv' := [(2, .int 1), (3, .int 1), (0, .ref aM), (1, xv vad9 c0)]) hx hb dM_toNumber_50 rfl hl (by decide) (by simp only [List.filter, xvcat, xrscat, xcI, xcL, xcR, xcN]; rfl) (fun ls hl => ?_)
          refine lv_iload_n hx hb dM_toNumber_51 rfl (lv_at hl 0 rfl) ?_
          refine xm_aload_n hx hb (xvor _ _) dM_toNumber_52 rfl (lv_at hl 3 rfl) ?_
          refine xm_vget (v := .int ((xpi o2.2.2.2.2 3) (c0 - 1))) hx hb htx hown hK hP 3 (by decide) hg13 rfl ((hZ.1 (103, "count", "I") (List.mem_of_getElem? (i := 3) rfl)).use rfl) rfl dM_toNumber_53 ?_
          refine lv_icmp_eq (tgt := 85) hx hb dM_toNumber_56 (by decide) (fun hc => ?_) (fun hc => ?_)
          · rw [if_pos hc] at hf
            refine lv_aload_n hx hb dM_toNumber_85 rfl (lv_at hl 2 rfl) ?_
            refine lv_iconst (v := 4) hx hb dM_toNumber_86 (by decide) ?_
            obtain ⟨o15, hq16, hf⟩ := xbind hf
            have hl := lv_sub (l' := [(2, .int 1), (3, .int 1), (0, .ref aM)]) hl [0, 1, 2] rfl
            by_cases hk17 : o15.1 = 1
            · rw [if_pos hk17] at hf
              obtain ⟨hm18, hf⟩ := xmoE hf
              obtain rfl := Option.some.inj hf
              exact absurd (show (1 : Nat) = 0 from hkd) (by decide)
            rw [if_neg hk17] at hf
            exact nomatch hf
          · rw [if_neg hc] at hf
            refine lv_aload_n hx hb dM_toNumber_59 rfl (lv_at hl 2 rfl) ?_
            refine xm_get (v := .ref (ad7 3)) hx hb htx hown hK hP 3 (by decide) rfl (htx _ kw_5_90) rfl dM_toNumber_60 ?_
            refine xm_aload_n hx hb (xvor _ _) dM_toNumber_63 rfl (lv_at hl 3 rfl) ?_
            refine xm_vget (v := .int ((xpi o2.2.2.2.2 2) (c0 - 1))) hx hb htx hown hK hP 2 (by decide) hg13 rfl ((hZ.1 (100, "off", "I") (List.mem_of_getElem? (i := 2) rfl)).use rfl) rfl dM_toNumber_64 ?_
            refine lv_iload_n hx hb dM_toNumber_67 rfl (lv_at hl 0 rfl) ?_
            refine lv_iadd hx hb dM_toNumber_68 ?_
            obtain ⟨hg15, hf⟩ := xifn hf
            refine va_bald hx hb hK hP 2 0 rfl rfl hg15 dM_toNumber_69 ?_
            refine W.eq (g2 := F0 m 70 ls [.int ((xba o2.2.2.2.2 3) (((xpi o2.2.2.2.2 2) (c0 - 1)) + (1 : Int32)).toNatClampNeg)]) rfl ?_
            refine lv_bipush (v := 48) hx hb dM_toNumber_70 (by decide) ?_
            refine lv_icmp_ne (tgt := 91) hx hb dM_toNumber_72 (by decide) (fun hc => ?_) (fun hc => ?_)
            · rw [if_neg hc] at hf
              refine lv_lconst (v := 0) hx hb dM_toNumber_91 (by decide) ?_
              refine lv_lstore (lv' := [(4, .long 0), (2, .int 1), (3, .int 1), (0, .ref aM), (1, xv vad9 c0)]) hx hb dM_toNumber_92 hl (by decide) rfl (fun ls hl => ?_)
              exact key n (1, (0 : Int64), (1 : Int32), (1 : Int32), c0, o2.2.2.2.2, (0 + o2.2.1), (0 + o2.2.2.1)) _ _ ls (⟨ad7, gd8, vad9, rfl, hf, hP, hD, hS, lv_sub hl [0, 2, 1, 3, 4] rfl, hE, hN⟩)
            · rw [if_pos hc] at hf
              refine lv_iload_n hx hb dM_toNumber_75 rfl (lv_at hl 0 rfl) ?_
              refine lv_iconst (v := 1) hx hb dM_toNumber_76 (by decide) ?_
              refine lv_iadd hx hb dM_toNumber_77 ?_
              refine W.eq (g2 := F0 m 78 ls [.int 2]) rfl ?_
              refine xm_aload_n hx hb (xvor _ _) dM_toNumber_78 rfl (lv_at hl 3 rfl) ?_
              refine xm_vget (v := .int ((xpi o2.2.2.2.2 3) (c0 - 1))) hx hb htx hown hK hP 3 (by decide) hg13 rfl ((hZ.1 (103, "count", "I") (List.mem_of_getElem? (i := 3) rfl)).use rfl) rfl dM_toNumber_79 ?_
              refine lv_icmp_ge (tgt := 91) hx hb dM_toNumber_82 (by decide) (fun hc => ?_) (fun hc => ?_)
              · rw [if_pos hc] at hf
                refine lv_lconst (v := 0) hx hb dM_toNumber_91 (by decide) ?_
                refine lv_lstore (lv' := [(4, .long 0), (2, .int 1), (3, .int 1), (0, .ref aM), (1, xv vad9 c0)]) hx hb dM_toNumber_92 hl (by decide) rfl (fun ls hl => ?_)
                exact key n (1, (0 : Int64), (1 : Int32), (1 : Int32), c0, o2.2.2.2.2, (0 + o2.2.1), (0 + o2.2.2.1)) _ _ ls (⟨ad7, gd8, vad9, rfl, hf, hP, hD, hS, lv_sub hl [0, 2, 1, 3, 4] rfl, hE, hN⟩)
              · rw [if_neg hc] at hf
                refine lv_aload_n hx hb dM_toNumber_85 rfl (lv_at hl 2 rfl) ?_
                refine lv_iconst (v := 4) hx hb dM_toNumber_86 (by decide) ?_
                obtain ⟨o16, hq17, hf⟩ := xbind hf
                have hl := lv_sub (l' := [(2, .int 1), (3, .int 1), (0, .ref aM)]) hl [0, 1, 2] rfl
                by_cases hk18 : o16.1 = 1
                · rw [if_pos hk18] at hf
                  obtain ⟨hm19, hf⟩ := xmoE hf
                  obtain rfl := Option.some.inj hf
                  exact absurd (show (1 : Nat) = 0 from hkd) (by decide)
                rw [if_neg hk18] at hf
                exact nomatch hf
    rw [if_neg hk4] at hf
    by_cases hk14 : o2.1 = 1
    · rw [if_pos hk14] at hf
      obtain ⟨hm15, hf⟩ := xmoE hf
      obtain rfl := Option.some.inj hf
      exact absurd (show (1 : Nat) = 0 from hkd) (by decide)
    rw [if_neg hk14] at hf
    exact nomatch hf
  · rw [if_pos hc] at hf
    refine xm_aload_n hx hb (xvor _ _) dM_toNumber_8 rfl (lv_at hl 1 rfl) ?_
    obtain rfl := Option.some.inj hf
    exact W.aret (v := xv vad c0) hx hb hr (Or.inl ⟨_, rfl⟩) (xvor _ _) (fun t ht hW => ⟨⟨xca vad c0, (ad, gd, vad), rfl, ⟨rfl, hE, hN⟩, by rw [ht]; exact hP, va_K.moved hW.alike hK, hD⟩, hS.F ht⟩) hS.2.2 dM_toNumber_9
set_option maxHeartbeats 400000000 in
set_option maxRecDepth 100000 in
theorem gM_toNumber_1 (l : Launch) (hl9 : l.stackTraces = false) (D : va_G) (cT : Nat → ClassId) (aK aV : Nat → Nat) (sz n : Nat) (aM : Nat) (ad rd gd vad : Nat → Nat) (st : xS) (c0 : Nat) (out : Nat × Nat × Nat × Nat × xS) (hf : fM_toNumber n st c0 = some out) (hkd : out.1 = 1) : xMetY l yM_toNumber wyM_toNumber 8 out.2.1 out.2.2.1 144 D cT aK aV sz [.ref aM, xv vad c0] (xMw cT aM ad rd gd vad st []) "java/lang/ArithmeticException" (fun u => xE vad st out.2.2.2.2 u) (fun A u t => xB D xcl cT A (xMw cT aM u.1 rd u.2.1 u.2.2 out.2.2.2.2 []) t) := by
  refine vx_ofW (cc := prog_13_method_59_code) (maxL := 7) (ret := (some (.object "ValueBenchModel$V"))) (by decide) rfl ?_
  intro p e s m args below meth c s₁ B hml hne hv
  obtain ⟨rfl, hsz, hZ, hP, hK, hD0⟩ := hv
  have hx := B.exec
  have hb := B.bytes
  have hr := B.returns
  have hts := atoms_spec (ws := wyM_toNumber) B.pre
  have htx := fun w h => hts w (List.mem_cons_of_mem _ h)
  have hown : s.vm.findClass "ValueBenchModel" = some m.cls := findClass_of_methodNamed B.named
  have hlocks := B.notSynchronized
  subst hsz
  have hD := hD0.self (sz := s.heap.size)
  generalize hAe : va_A (xMw cT aM ad rd gd vad st []) s.heap.size = A at hD hZ ⊢
  have hA : ∀ q : Nat, s.heap.size ≤ q → A q := fun q h => by rw [← hAe]; exact Or.inr h
  have hS : va_S A s.heap s.heap [] := va_S.rf
  have hl := lv_entry ([.ref aM, xv vad c0]) (n := 7) (by simp [lg_sl, xvcat, xrscat, xcI, xcL, xcR, xcN])
  rw [show lv_args 0 [.ref aM, xv vad c0] = [(0, .ref aM), (1, xv vad c0)] from by simp [lv_args, xvcat, xrscat, xcI, xcL, xcR, xcN]] at hl
  rw [lg_entry_eq]
  generalize (lg_sl ([.ref aM, xv vad c0]) ++ List.replicate (7 - (lg_sl ([.ref aM, xv vad c0])).length) Slot.unset).toArray = ls at hl ⊢
  have hl : lv_has ls 7 [(0, .ref aM), (1, xv vad c0)] := hl
  have hE : ∀ p, p < xct st → vad p = vad p := fun _ _ => rfl
  have hN : xct st ≤ xct st := Nat.le_refl _
  unfold fM_toNumber at hf
  refine xloopM (σ := Nat × Int64 × Int32 × Int32 × Nat × xS × Nat × Nat) (fun n x H locs ls => (∃ (adL gdL vadL : Nat → Nat), x.1 = 1 ∧ fM_toNumber_b n x.1 x.2.1 x.2.2.1 x.2.2.2.1 x.2.2.2.2.1 x.2.2.2.2.2.1 x.2.2.2.2.2.2.1 x.2.2.2.2.2.2.2 = some out ∧ va_P D xcl (xMw cT aM adL rd gdL vadL x.2.2.2.2.2.1 []) H ∧ va_D A (xMw cT aM adL rd gdL vadL x.2.2.2.2.2.1 []) ∧ va_S A s.heap H locs ∧ lv_has ls 7 [(4, .long x.2.1), (3, .int x.2.2.1), (2, .int x.2.2.2.1), (0, .ref aM), (1, xv vadL x.2.2.2.2.1)] ∧ (∀ p, p < xct st → vadL p = vad p) ∧ xct st ≤ xct x.2.2.2.2.2.1)) (fun x => 94) (fun x => x.2.2.2.2.2.2.1) (fun x => x.2.2.2.2.2.2.2) (fun x H locs ls h => by (obtain ⟨_, _, _, h⟩ := h; exact absurd h.2.1 (by rw [fM_toNumber_b]; exact fun h => nomatch h))) (fun n ih x H locs ls hv => ?_) (fun key => ?_)
  · obtain ⟨lb, y4, y3, y2, y1, ws9, wc, wn⟩ := x
    rcases hv with ⟨adL, gdL, vadL, hj, hf, hP, hD, hS, hl, hE, hN⟩
    subst hj
    have hf : fM_toNumber_b (n + 1) 1 y4 y3 y2 y1 ws9 wc wn = some out := hf
    rw [fM_toNumber_b] at hf
    obtain ⟨hP, hD⟩ : xPD D xcl A (xMw cT aM adL rd gdL vadL ws9 []) H := ⟨hP, hD⟩
    have hl : lv_has ls 7 [(4, .long y4), (3, .int y3), (2, .int y2), (0, .ref aM), (1, xv vadL y1)] := hl
    refine W.eq (g2 := F0 m 94 ls []) rfl ?_
    show W p l e _ s m _ below meth c H locs wc wn _ _
    obtain ⟨hm0, hf⟩ := xmoE hf
    refine lv_iload_n hx hb dM_toNumber_94 rfl (lv_at hl 2 rfl) ?_
    refine xm_aload_n hx hb (xvor _ _) dM_toNumber_95 rfl (lv_at hl 4 rfl) ?_
    obtain ⟨hg1, hf⟩ := xifn hf
    refine xm_vget (v := .int ((xpi ws9 3) (y1 - 1))) hx hb htx hown hK hP 3 (by decide) hg1 rfl ((hZ.1 (103, "count", "I") (List.mem_of_getElem? (i := 3) rfl)).use rfl) rfl dM_toNumber_96 ?_
    refine lv_icmp_ge (tgt := 157) hx hb dM_toNumber_99 (by decide) (fun hc => ?_) (fun hc => ?_)
    · rw [if_pos hc] at hf
      refine lv_lload hx hb dM_toNumber_157 (lv_at hl 0 rfl) ?_
      refine lv_ldc2 hx hb hown (htx _ kw_6_84) dM_toNumber_159 ?_
      refine W.lcmp hx hb dM_toNumber_162 ?_
      refine lv_if_le (tgt := 174) hx hb dM_toNumber_163 (by decide) (fun hc => ?_) (fun hc => ?_)
      · rw [if_pos hc] at hf
        refine lv_aload_n hx hb dM_toNumber_174 rfl (lv_at hl 3 rfl) ?_
        refine lv_iload_n hx hb dM_toNumber_175 rfl (lv_at hl 1 rfl) ?_
        refine lv_if_eq (tgt := 185) hx hb dM_toNumber_176 (by decide) (fun hc => ?_) (fun hc => ?_)
        · rw [if_pos hc] at hf
          refine lv_lload hx hb dM_toNumber_185 (lv_at hl 0 rfl) ?_
          obtain ⟨o2, hq3, hf⟩ := xbind hf
          have hl := lv_sub (l' := [(4, .long y4), (3, .int y3), (2, .int y2), (0, .ref aM)]) hl [0, 1, 2, 3] rfl
          by_cases hk4 : o2.1 = 0
          · rw [if_pos hk4] at hf
            obtain ⟨hm5, hf⟩ := xmoE hf
            have hFc := xm_free hD hS hA
            refine va_callq (va_runV (C := "ValueBenchModel") (As := [.long y4]) (rest := []) ⟨hx, hb, hml, hown, htx⟩ (gM_number l hl9 D cT aK aV H.size n aM adL rd gdL vadL ws9 y4 o2 hq3 hk4) ⟨callB_of 1 htx (xw_goodC kw_6_88) rfl rfl rfl (htx _ kw_1_5) (htx _ kw_6_85) ⟨by decide, by decide, by decide +kernel⟩ ⟨Nat.le_of_ble_eq_true rfl, Nat.le_of_ble_eq_true rfl⟩, (htx _ kw_6_87), (htx _ kp_M_number)⟩ ⟨xPre_blind, va_recv hK hP (ci := 5) rfl (q0 := 0) rfl, (fun U hU hW => ⟨rfl, xPre_of hZ hS hFc hP hD hK U hU hW⟩)⟩ rfl rfl hl.1 rfl (xm_room (Nat.le_of_ble_eq_true rfl)) dM_toNumber_187 ⟨hm5.1, hm5.2⟩) hS (fun q _ h => hFc q h) hFc (fun r6 u9 t H1 locs ht hvm hr9 hB hz1 hk1 hS => ?_)
            obtain ⟨hP1, hK1, hD1⟩ := hB
            rw [ht] at hP1
            obtain ⟨ad7, gd8, vad9⟩ := u9
            obtain ⟨hr9, hv10, hn11⟩ := hr9
            have hP : va_P D xcl (xMw cT aM ad7 rd gd8 vad9 o2.2.2.2.2 []) H1 := hP1
            have hD : va_D A (xMw cT aM ad7 rd gd8 vad9 o2.2.2.2.2 []) := hD1.weaken (fun k q _ h => hFc q.1 h)
            generalize H1 = H at hP hS ⊢
            have hE9 : ∀ p, p < xct st → vad9 p = vad p := fun p h => (hv10 p (Nat.lt_of_lt_of_le h hN)).trans (hE p h)
            have hE := hE9
            have hN : xct st ≤ xct o2.2.2.2.2 := Nat.le_trans hN hn11
            rw [hr9]
            refine W.eq (g2 := F0 m 190 ls [xv vad9 o2.2.2.2.1]) (by first | rfl | (skip; rfl)) ?_
            obtain rfl := Option.some.inj hf
            exact absurd (show (0 : Nat) = 1 from hkd) (by decide)
          rw [if_neg hk4] at hf
          by_cases hk12 : o2.1 = 1
          · rw [if_pos hk12] at hf
            obtain ⟨hm13, hf⟩ := xmoE hf
            have hFc := xm_free hD hS hA
            refine xx_thr (vx_runV (C := "ValueBenchModel") (As := [.long y4]) (rest := []) ⟨hx, hb, hml, hown, htx⟩ (gM_number_1 l hl9 D cT aK aV H.size n aM adL rd gdL vadL ws9 y4 o2 hq3 hk12) ⟨callB_of 1 htx (xw_goodC kw_6_88) rfl rfl rfl (htx _ kw_1_5) (htx _ kw_6_85) ⟨by decide, by decide, by decide +kernel⟩ ⟨Nat.le_of_ble_eq_true rfl, Nat.le_of_ble_eq_true rfl⟩, (htx _ kw_6_87), (htx _ kp_M_number)⟩ ⟨xPre_blind, va_recv hK hP (ci := 5) rfl (q0 := 0) rfl, (fun U hU hW => ⟨rfl, xPre_of hZ hS hFc hP hD hK U hU hW⟩)⟩ rfl rfl hl.1 rfl (xm_room (Nat.le_of_ble_eq_true rfl)) dM_toNumber_187 ⟨hm13.1, hm13.2⟩) hS hFc (fun q _ h => hFc q h) (fun E ce q9 u9 t H1 locs ht hvm hr9 hB hz1 hk1 hS hce hcv hcl => ?_)
            obtain ⟨rfl, hP1, hK1, hD1⟩ := hB
            rw [ht] at hP1
            obtain ⟨ad15, gd16, vad17⟩ := u9
            obtain ⟨hv18, hn19⟩ := hr9
            have hP : va_P D xcl (xMw cT aM ad15 rd gd16 vad17 o2.2.2.2.2 []) H1 := hP1
            have hD : va_D A (xMw cT aM ad15 rd gd16 vad17 o2.2.2.2.2 []) := hD1.weaken (fun k q _ h => hFc q.1 h)
            generalize H1 = H at hP hS hce ⊢
            have hE9 : ∀ p, p < xct st → vad17 p = vad p := fun p h => (hv18 p (Nat.lt_of_lt_of_le h hN)).trans (hE p h)
            have hE := hE9
            have hN : xct st ≤ xct o2.2.2.2.2 := Nat.le_trans hN hn19
            obtain rfl := Option.some.inj hf
            exact vx_out (E := "java/lang/ArithmeticException") (fun x h => (hne x h).elim) hlocks hce hcv hcl (fun t ht ha => ⟨(ad15, gd16, vad17), ⟨hE, hN⟩, ⟨rfl, by rw [ht]; exact hP, va_K.moved ha hK, hD⟩, hS.F ht⟩) hS.2.2 (Nat.le_refl _) (Nat.le_refl _)
          rw [if_neg hk12] at hf
          exact nomatch hf
        · rw [if_neg hc] at hf
          refine lv_lload hx hb dM_toNumber_179 (lv_at hl 0 rfl) ?_
          refine lv_lneg hx hb dM_toNumber_181 ?_
          refine lv_goto (tgt := 187) hx hb dM_toNumber_182 (by decide) ?_
          obtain ⟨o2, hq3, hf⟩ := xbind hf
          have hl := lv_sub (l' := [(4, .long y4), (3, .int y3), (2, .int y2), (0, .ref aM)]) hl [0, 1, 2, 3] rfl
          by_cases hk4 : o2.1 = 0
          · rw [if_pos hk4] at hf
            obtain ⟨hm5, hf⟩ := xmoE hf
            have hFc := xm_free hD hS hA
            refine va_callq (va_runV (C := "ValueBenchModel") (As := [.long (-y4)]) (rest := []) ⟨hx, hb, hml, hown, htx⟩ (gM_number l hl9 D cT aK aV H.size n aM adL rd gdL vadL ws9 (-y4) o2 hq3 hk4) ⟨callB_of 1 htx (xw_goodC kw_6_88) rfl rfl rfl (htx _ kw_1_5) (htx _ kw_6_85) ⟨by decide, by decide, by decide +kernel⟩ ⟨Nat.le_of_ble_eq_true rfl, Nat.le_of_ble_eq_true rfl⟩, (htx _ kw_6_87), (htx _ kp_M_number)⟩ ⟨xPre_blind, va_recv hK hP (ci := 5) rfl (q0 := 0) rfl, (fun U hU hW => ⟨rfl, xPre_of hZ hS hFc hP hD hK U hU hW⟩)⟩ rfl rfl hl.1 rfl (xm_room (Nat.le_of_ble_eq_true rfl)) dM_toNumber_187 ⟨hm5.1, hm5.2⟩) hS (fun q _ h => hFc q h) hFc (fun r6 u9 t H1 locs ht hvm hr9 hB hz1 hk1 hS => ?_)
            obtain ⟨hP1, hK1, hD1⟩ := hB
            rw [ht] at hP1
            obtain ⟨ad7, gd8, vad9⟩ := u9
            obtain ⟨hr9, hv10, hn11⟩ := hr9
            have hP : va_P D xcl (xMw cT aM ad7 rd gd8 vad9 o2.2.2.2.2 []) H1 := hP1
            have hD : va_D A (xMw cT aM ad7 rd gd8 vad9 o2.2.2.2.2 []) := hD1.weaken (fun k q _ h => hFc q.1 h)
            generalize H1 = H at hP hS ⊢
            have hE9 : ∀ p, p < xct st → vad9 p = vad p := fun p h => (hv10 p (Nat.lt_of_lt_of_le h hN)).trans (hE p h)
            have hE := hE9
            have hN : xct st ≤ xct o2.2.2.2.2 := Nat.le_trans hN hn11
            rw [hr9]
            refine W.eq (g2 := F0 m 190 ls [xv vad9 o2.2.2.2.1]) (by first | rfl | (skip; rfl)) ?_
            obtain rfl := Option.some.inj hf
            exact absurd (show (0 : Nat) = 1 from hkd) (by decide)
          rw [if_neg hk4] at hf
          by_cases hk12 : o2.1 = 1
          · rw [if_pos hk12] at hf
            obtain ⟨hm13, hf⟩ := xmoE hf
            have hFc := xm_free hD hS hA
            refine xx_thr (vx_runV (C := "ValueBenchModel") (As := [.long (-y4)]) (rest := []) ⟨hx, hb, hml, hown, htx⟩ (gM_number_1 l hl9 D cT aK aV H.size n aM adL rd gdL vadL ws9 (-y4) o2 hq3 hk12) ⟨callB_of 1 htx (xw_goodC kw_6_88) rfl rfl rfl (htx _ kw_1_5) (htx _ kw_6_85) ⟨by decide, by decide, by decide +kernel⟩ ⟨Nat.le_of_ble_eq_true rfl, Nat.le_of_ble_eq_true rfl⟩, (htx _ kw_6_87), (htx _ kp_M_number)⟩ ⟨xPre_blind, va_recv hK hP (ci := 5) rfl (q0 := 0) rfl, (fun U hU hW => ⟨rfl, xPre_of hZ hS hFc hP hD hK U hU hW⟩)⟩ rfl rfl hl.1 rfl (xm_room (Nat.le_of_ble_eq_true rfl)) dM_toNumber_187 ⟨hm13.1, hm13.2⟩) hS hFc (fun q _ h => hFc q h) (fun E ce q9 u9 t H1 locs ht hvm hr9 hB hz1 hk1 hS hce hcv hcl => ?_)
            obtain ⟨rfl, hP1, hK1, hD1⟩ := hB
            rw [ht] at hP1
            obtain ⟨ad15, gd16, vad17⟩ := u9
            obtain ⟨hv18, hn19⟩ := hr9
            have hP : va_P D xcl (xMw cT aM ad15 rd gd16 vad17 o2.2.2.2.2 []) H1 := hP1
            have hD : va_D A (xMw cT aM ad15 rd gd16 vad17 o2.2.2.2.2 []) := hD1.weaken (fun k q _ h => hFc q.1 h)
            generalize H1 = H at hP hS hce ⊢
            have hE9 : ∀ p, p < xct st → vad17 p = vad p := fun p h => (hv18 p (Nat.lt_of_lt_of_le h hN)).trans (hE p h)
            have hE := hE9
            have hN : xct st ≤ xct o2.2.2.2.2 := Nat.le_trans hN hn19
            obtain rfl := Option.some.inj hf
            exact vx_out (E := "java/lang/ArithmeticException") (fun x h => (hne x h).elim) hlocks hce hcv hcl (fun t ht ha => ⟨(ad15, gd16, vad17), ⟨hE, hN⟩, ⟨rfl, by rw [ht]; exact hP, va_K.moved ha hK, hD⟩, hS.F ht⟩) hS.2.2 (Nat.le_refl _) (Nat.le_refl _)
          rw [if_neg hk12] at hf
          exact nomatch hf
      · rw [if_neg hc] at hf
        refine lv_aload_n hx hb dM_toNumber_166 rfl (lv_at hl 3 rfl) ?_
        refine lv_iconst (v := 4) hx hb dM_toNumber_167 (by decide) ?_
        obtain ⟨o2, hq3, hf⟩ := xbind hf
        have hl := lv_sub (l' := [(4, .long y4), (3, .int y3), (2, .int y2), (0, .ref aM)]) hl [0, 1, 2, 3] rfl
        by_cases hk4 : o2.1 = 1
        · rw [if_pos hk4] at hf
          obtain ⟨hm5, hf⟩ := xmoE hf
          have hFc := xm_free hD hS hA
          refine xx_thr (vx_runV (C := "ValueBenchModel") (As := [.int 4]) (rest := []) ⟨hx, hb, hml, hown, htx⟩ (gM_refuse_1 l hl9 D cT aK aV H.size n aM adL rd gdL vadL ws9 (4 : Int32) o2 hq3 hk4) ⟨callB_of 1 htx (xw_goodC kw_6_93) rfl rfl rfl (htx _ kw_1_5) (htx _ kw_6_90) ⟨by decide, by decide, by decide +kernel⟩ ⟨Nat.le_of_ble_eq_true rfl, Nat.le_of_ble_eq_true rfl⟩, (htx _ kw_6_92), (htx _ kp_M_refuse)⟩ ⟨xPre_blind, va_recv hK hP (ci := 5) rfl (q0 := 0) rfl, (fun U hU hW => ⟨rfl, xPre_of hZ hS hFc hP hD hK U hU hW⟩)⟩ rfl rfl hl.1 rfl (xm_room (Nat.le_of_ble_eq_true rfl)) dM_toNumber_168 ⟨hm5.1, hm5.2⟩) hS hFc (fun q _ h => hFc q h) (fun E ce q9 u9 t H1 locs ht hvm hr9 hB hz1 hk1 hS hce hcv hcl => ?_)
          obtain ⟨rfl, hP1, hK1, hD1⟩ := hB
          rw [ht] at hP1
          obtain ⟨ad7, gd8, vad9⟩ := u9
          obtain ⟨hv10, hn11⟩ := hr9
          have hP : va_P D xcl (xMw cT aM ad7 rd gd8 vad9 o2.2.2.2.2 []) H1 := hP1
          have hD : va_D A (xMw cT aM ad7 rd gd8 vad9 o2.2.2.2.2 []) := hD1.weaken (fun k q _ h => hFc q.1 h)
          generalize H1 = H at hP hS hce ⊢
          have hE9 : ∀ p, p < xct st → vad9 p = vad p := fun p h => (hv10 p (Nat.lt_of_lt_of_le h hN)).trans (hE p h)
          have hE := hE9
          have hN : xct st ≤ xct o2.2.2.2.2 := Nat.le_trans hN hn11
          obtain rfl := Option.some.inj hf
          exact vx_out (E := "java/lang/ArithmeticException") (fun x h => (hne x h).elim) hlocks hce hcv hcl (fun t ht ha => ⟨(ad7, gd8, vad9), ⟨hE, hN⟩, ⟨rfl, by rw [ht]; exact hP, va_K.moved ha hK, hD⟩, hS.F ht⟩) hS.2.2 (Nat.le_refl _) (Nat.le_refl _)
        rw [if_neg hk4] at hf
        exact nomatch hf
    · rw [if_neg hc] at hf
      refine lv_aload_n hx hb dM_toNumber_102 rfl (lv_at hl 3 rfl) ?_
      refine xm_get (v := .ref (adL 3)) hx hb htx hown hK hP 3 (by decide) rfl (htx _ kw_5_90) rfl dM_toNumber_103 ?_
      refine xm_aload_n hx hb (xvor _ _) dM_toNumber_106 rfl (lv_at hl 4 rfl) ?_
      refine xm_vget (v := .int ((xpi ws9 2) (y1 - 1))) hx hb htx hown hK hP 2 (by decide) hg1 rfl ((hZ.1 (100, "off", "I") (List.mem_of_getElem? (i := 2) rfl)).use rfl) rfl dM_toNumber_107 ?_
      refine lv_iload_n hx hb dM_toNumber_110 rfl (lv_at hl 2 rfl) ?_
      refine lv_iadd hx hb dM_toNumber_111 ?_
      obtain ⟨hg2, hf⟩ := xifn hf
      refine va_bald hx hb hK hP 2 0 rfl rfl hg2 dM_toNumber_112 ?_
      refine W.eq (g2 := F0 m 113 ls [.int ((xba ws9 3) (((xpi ws9 2) (y1 - 1)) + y2).toNatClampNeg)]) rfl ?_
      refine lv_istore (lv' := [(6, .int ((xba ws9 3) (((xpi ws9 2) (y1 - 1)) + y2).toNatClampNeg)), (4, .long y4), (3, .int y3), (2, .int y2), (0, .ref aM), (1, xv vadL y1)]) hx hb dM_toNumber_113 hl (by decide) rfl (fun ls hl => ?_)
      refine lv_iload hx hb dM_toNumber_115 (lv_at hl 0 rfl) ?_
      obtain ⟨o3, hq4, hf⟩ := xbind hf
      refine va_calli (va_runS (As := [.int ((xba ws9 3) (((xpi ws9 2) (y1 - 1)) + y2).toNatClampNeg)]) (rest := []) ⟨hx, hb, hml, hown, htx⟩ (gM_digit l hl9 D cT aK aV H.size n ((xba ws9 3) (((xpi ws9 2) (y1 - 1)) + y2).toNatClampNeg) o3 hq4) ⟨callB_of 1 htx (xw_goodC kw_6_73) rfl rfl rfl (htx _ kw_1_5) (htx _ kw_6_71) ⟨by decide, by decide, by decide +kernel⟩ ⟨Nat.le_of_ble_eq_true rfl, Nat.le_of_ble_eq_true rfl⟩, htx _ kw_6_72⟩ ⟨xPre_blind, (fun U hU hW => ⟨rfl, xPre_of hZ hS (xm_free0 hS hA) xm_Pnil xm_Dnil hK U hU hW⟩)⟩ rfl rfl hl.1 rfl (lv_room (Nat.le_of_ble_eq_true rfl)) dM_toNumber_117 ⟨(hm0.1), (hm0.2)⟩) hS (fun q _ h => xm_free0 hS hA q h) (xm_free0 hS hA) (fun r5 u9 t H1 locs ht hvm hr9 hB hz1 hk1 hS => ?_)
      replace hP := xm_keep hP hk1
      generalize H1 = H at hP hS ⊢
      rw [hr9]
      refine W.eq (g2 := F0 m 120 ls [.int o3]) (by first | rfl | rw [xv1 (Nat.succ_ne_zero _)]) ?_
      refine lv_if_ne (tgt := 129) hx hb dM_toNumber_120 (by decide) (fun hc => ?_) (fun hc => ?_)
      · rw [if_neg hc] at hf
        refine lv_ldc2 hx hb hown (htx _ kw_6_78) dM_toNumber_129 ?_
        refine lv_lload hx hb dM_toNumber_132 (lv_at hl 1 rfl) ?_
        refine lv_lmul hx hb dM_toNumber_134 ?_
        refine lv_iload hx hb dM_toNumber_135 (lv_at hl 0 rfl) ?_
        refine lv_i2l hx hb dM_toNumber_137 rfl ?_
        refine lv_ladd hx hb dM_toNumber_138 ?_
        refine lv_ldc2 hx hb hown (htx _ kw_6_79) dM_toNumber_139 ?_
        refine lv_lsub hx hb dM_toNumber_142 ?_
        refine lv_ldc2 hx hb hown (htx _ kw_6_80) dM_toNumber_143 ?_
        refine va_mmin_long hx hb (hml.trans hl.1.symm) hown (htx _ kw_6_81) (htx _ kw_6_82) (htx _ kw_1_15) (htx _ kw_6_83) (Nat.le_of_ble_eq_true rfl) (Nat.le_of_ble_eq_true rfl) (hm0.1) (hm0.2) dM_toNumber_146 ?_
        refine W.eq (g2 := F0 m 149 ls [.long (if (100000000000000000 : Int64) < ((((10 : Int64) * y4) + ((xba ws9 3) (((xpi ws9 2) (y1 - 1)) + y2).toNatClampNeg).toInt64) - (48 : Int64)) then (100000000000000000 : Int64) else ((((10 : Int64) * y4) + ((xba ws9 3) (((xpi ws9 2) (y1 - 1)) + y2).toNatClampNeg).toInt64) - (48 : Int64)))]) rfl ?_
        refine lv_lstore (lv' := [(4, .long (if (100000000000000000 : Int64) < ((((10 : Int64) * y4) + ((xba ws9 3) (((xpi ws9 2) (y1 - 1)) + y2).toNatClampNeg).toInt64) - (48 : Int64)) then (100000000000000000 : Int64) else ((((10 : Int64) * y4) + ((xba ws9 3) (((xpi ws9 2) (y1 - 1)) + y2).toNatClampNeg).toInt64) - (48 : Int64)))), (6, .int ((xba ws9 3) (((xpi ws9 2) (y1 - 1)) + y2).toNatClampNeg)), (3, .int y3), (2, .int y2), (0, .ref aM), (1, xv vadL y1)]) hx hb dM_toNumber_149 hl (by decide) rfl (fun ls hl => ?_)
        refine lv_iinc (v := (y2 + 1)) (lv' := [(2, .int (y2 + 1)), (4, .long (if (100000000000000000 : Int64) < ((((10 : Int64) * y4) + ((xba ws9 3) (((xpi ws9 2) (y1 - 1)) + y2).toNatClampNeg).toInt64) - (48 : Int64)) then (100000000000000000 : Int64) else ((((10 : Int64) * y4) + ((xba ws9 3) (((xpi ws9 2) (y1 - 1)) + y2).toNatClampNeg).toInt64) - (48 : Int64)))), (6, .int ((xba ws9 3) (((xpi ws9 2) (y1 - 1)) + y2).toNatClampNeg)), (3, .int y3), (0, .ref aM), (1, xv vadL y1)]) hx hb dM_toNumber_151 hl (k := 3) rfl rfl (by decide) (by simp only [List.filter, xvcat, xrscat, xcI, xcL, xcR, xcN]; rfl) (fun ls hl => ?_)
        refine lv_goto (tgt := 94) hx hb dM_toNumber_154 (by decide) ?_
        exact ih (1, (if (100000000000000000 : Int64) < ((((10 : Int64) * y4) + ((xba ws9 3) (((xpi ws9 2) (y1 - 1)) + y2).toNatClampNeg).toInt64) - (48 : Int64)) then (100000000000000000 : Int64) else ((((10 : Int64) * y4) + ((xba ws9 3) (((xpi ws9 2) (y1 - 1)) + y2).toNatClampNeg).toInt64) - (48 : Int64))), y3, (y2 + 1), y1, ws9, wc, wn) _ _ ls (⟨adL, gdL, vadL, rfl, hf, hP, hD, hS, lv_sub hl [1, 3, 0, 4, 5] rfl, hE, hN⟩)
      · rw [if_pos hc] at hf
        refine lv_aload_n hx hb dM_toNumber_123 rfl (lv_at hl 4 rfl) ?_
        refine lv_iconst (v := 4) hx hb dM_toNumber_124 (by decide) ?_
        obtain ⟨o6, hq7, hf⟩ := xbind hf
        have hl := lv_sub (l' := [(6, .int ((xba ws9 3) (((xpi ws9 2) (y1 - 1)) + y2).toNatClampNeg)), (4, .long y4), (3, .int y3), (2, .int y2), (0, .ref aM)]) hl [0, 1, 2, 3, 4] rfl
        by_cases hk8 : o6.1 = 1
        · rw [if_pos hk8] at hf
          obtain ⟨hm9, hf⟩ := xmoE hf
          have hFc := xm_free hD hS hA
          refine xx_thr (vx_runV (C := "ValueBenchModel") (As := [.int 4]) (rest := []) ⟨hx, hb, hml, hown, htx⟩ (gM_refuse_1 l hl9 D cT aK aV H.size n aM adL rd gdL vadL ws9 (4 : Int32) o6 hq7 hk8) ⟨callB_of 1 htx (xw_goodC kw_6_93) rfl rfl rfl (htx _ kw_1_5) (htx _ kw_6_90) ⟨by decide, by decide, by decide +kernel⟩ ⟨Nat.le_of_ble_eq_true rfl, Nat.le_of_ble_eq_true rfl⟩, (htx _ kw_6_92), (htx _ kp_M_refuse)⟩ ⟨xPre_blind, va_recv hK hP (ci := 5) rfl (q0 := 0) rfl, (fun U hU hW => ⟨rfl, xPre_of hZ hS hFc hP hD hK U hU hW⟩)⟩ rfl rfl hl.1 rfl (xm_room (Nat.le_of_ble_eq_true rfl)) dM_toNumber_125 ⟨hm9.1, hm9.2⟩) hS hFc (fun q _ h => hFc q h) (fun E ce q9 u9 t H1 locs ht hvm hr9 hB hz1 hk1 hS hce hcv hcl => ?_)
          obtain ⟨rfl, hP1, hK1, hD1⟩ := hB
          rw [ht] at hP1
          obtain ⟨ad11, gd12, vad13⟩ := u9
          obtain ⟨hv14, hn15⟩ := hr9
          have hP : va_P D xcl (xMw cT aM ad11 rd gd12 vad13 o6.2.2.2.2 []) H1 := hP1
          have hD : va_D A (xMw cT aM ad11 rd gd12 vad13 o6.2.2.2.2 []) := hD1.weaken (fun k q _ h => hFc q.1 h)
          generalize H1 = H at hP hS hce ⊢
          have hE9 : ∀ p, p < xct st → vad13 p = vad p := fun p h => (hv14 p (Nat.lt_of_lt_of_le h hN)).trans (hE p h)
          have hE := hE9
          have hN : xct st ≤ xct o6.2.2.2.2 := Nat.le_trans hN hn15
          obtain rfl := Option.some.inj hf
          exact vx_out (E := "java/lang/ArithmeticException") (fun x h => (hne x h).elim) hlocks hce hcv hcl (fun t ht ha => ⟨(ad11, gd12, vad13), ⟨hE, hN⟩, ⟨rfl, by rw [ht]; exact hP, va_K.moved ha hK, hD⟩, hS.F ht⟩) hS.2.2 (Nat.le_refl _) (Nat.le_refl _)
        rw [if_neg hk8] at hf
        exact nomatch hf
  refine xm_aload_n hx hb (xvor _ _) dM_toNumber_0 rfl (lv_at hl 1 rfl) ?_
  obtain ⟨hg1, hf⟩ := xifn hf
  refine xm_vget (v := .int ((xpi st 0) (c0 - 1))) hx hb htx hown hK hP 0 (by decide) hg1 rfl ((hZ.1 (93, "kind", "I") (List.mem_of_getElem? (i := 0) rfl)).use rfl) rfl dM_toNumber_1 ?_
  refine lv_iconst (v := 3) hx hb dM_toNumber_4 (by decide) ?_
  refine lv_icmp_ne (tgt := 10) hx hb dM_toNumber_5 (by decide) (fun hc => ?_) (fun hc => ?_)
  · rw [if_neg hc] at hf
    refine lv_aload_n hx hb dM_toNumber_10 rfl (lv_at hl 0 rfl) ?_
    refine xm_aload_n hx hb (xvor _ _) dM_toNumber_11 rfl (lv_at hl 1 rfl) ?_
    obtain ⟨o2, hq3, hf⟩ := xbind hf
    by_cases hk4 : o2.1 = 0
    · rw [if_pos hk4] at hf
      obtain ⟨hm5, hf⟩ := xmoE hf
      have hFc := xm_free hD hS hA
      refine va_callq (va_runV (C := "ValueBenchModel") (As := [xv vad c0]) (rest := []) ⟨hx, hb, hml, hown, htx⟩ (gM_text l hl9 D cT aK aV s.heap.size n aM ad rd gd vad st c0 o2 hq3 hk4) ⟨callB_of 1 htx (xw_goodC kw_7_54) rfl rfl rfl (htx _ kw_1_5) (htx _ kw_7_51) ⟨by decide, by decide, by decide +kernel⟩ ⟨Nat.le_of_ble_eq_true rfl, Nat.le_of_ble_eq_true rfl⟩, (htx _ kw_7_53), (htx _ kp_M_text)⟩ ⟨xPre_blind, va_recv hK hP (ci := 5) rfl (q0 := 0) rfl, (fun U hU hW => ⟨rfl, xPre_of hZ hS hFc hP hD hK U hU hW⟩)⟩ rfl rfl hl.1 rfl (xm_room (Nat.le_of_ble_eq_true rfl)) dM_toNumber_12 ⟨hm5.1, hm5.2⟩) hS (fun q _ h => hFc q h) hFc (fun r6 u9 t H1 locs ht hvm hr9 hB hz1 hk1 hS => ?_)
      obtain ⟨hP1, hK1, hD1⟩ := hB
      rw [ht] at hP1
      obtain ⟨ad7, gd8, vad9⟩ := u9
      obtain ⟨hr9, hv10, hn11⟩ := hr9
      have hP : va_P D xcl (xMw cT aM ad7 rd gd8 vad9 o2.2.2.2.2 []) H1 := hP1
      have hD : va_D A (xMw cT aM ad7 rd gd8 vad9 o2.2.2.2.2 []) := hD1.weaken (fun k q _ h => hFc q.1 h)
      generalize H1 = H at hP hS ⊢
      have hE9 : ∀ p, p < xct st → vad9 p = vad p := fun p h => (hv10 p (Nat.lt_of_lt_of_le h hN)).trans (hE p h)
      have hE := hE9
      have hN : xct st ≤ xct o2.2.2.2.2 := Nat.le_trans hN hn11
      have ev12 : xv vad c0 = xv vad9 c0 := xvE hv10 (fun h => hg1 (Or.inr h))
      have hl : lv_has ls 7 [(0, .ref aM), (1, xv vad9 c0)] := by first | exact hl | ((try (rw [← ev12])); exact hl)
      rw [hr9]
      refine W.eq (g2 := F0 m 15 ls [xv vad9 o2.2.2.2.1]) (by first | rfl | ((try (rw [ev12])); rfl)) ?_
      refine lv_pop hx hb dM_toNumber_15 (xvcat _ _) ?_
      refine lv_iconst (v := 0) hx hb dM_toNumber_16 (by decide) ?_
      refine lv_istore_n (lv' := [(2, .int 0), (0, .ref aM), (1, xv vad9 c0)]) hx hb dM_toNumber_17 rfl hl (by decide) (by simp only [List.filter, xvcat, xrscat, xcI, xcL, xcR, xcN]; rfl) (fun ls hl => ?_)
      refine xm_aload_n hx hb (xvor _ _) dM_toNumber_18 rfl (lv_at hl 2 rfl) ?_
      obtain ⟨hg13, hf⟩ := xifn hf
      refine xm_vget (v := .int ((xpi o2.2.2.2.2 3) (c0 - 1))) hx hb htx hown hK hP 3 (by decide) hg13 rfl ((hZ.1 (103, "count", "I") (List.mem_of_getElem? (i := 3) rfl)).use rfl) rfl dM_toNumber_19 ?_
      refine lv_if_le (tgt := 43) hx hb dM_toNumber_22 (by decide) (fun hc => ?_) (fun hc => ?_)
      · rw [if_pos hc] at hf
        refine lv_iconst (v := 0) hx hb dM_toNumber_43 (by decide) ?_
        refine lv_istore_n (lv' := [(3, .int 0), (2, .int 0), (0, .ref aM), (1, xv vad9 c0)]) hx hb dM_toNumber_44 rfl hl (by decide) rfl (fun ls hl => ?_)
        refine lv_iload_n hx hb dM_toNumber_45 rfl (lv_at hl 0 rfl) ?_
        refine lv_if_eq (tgt := 51) hx hb dM_toNumber_46 (by decide) (fun _ => ?_) (fun h => ((by revert h; decide : False)).elim)
        refine lv_iload_n hx hb dM_toNumber_51 rfl (lv_at hl 1 rfl) ?_
        refine xm_aload_n hx hb (xvor _ _) dM_toNumber_52 rfl (lv_at hl 3 rfl) ?_
        refine xm_vget (v := .int ((xpi o2.2.2.2.2 3) (c0 - 1))) hx hb htx hown hK hP 3 (by decide) hg13 rfl ((hZ.1 (103, "count", "I") (List.mem_of_getElem? (i := 3) rfl)).use rfl) rfl dM_toNumber_53 ?_
        refine lv_icmp_eq (tgt := 85) hx hb dM_toNumber_56 (by decide) (fun hc => ?_) (fun hc => ?_)
        · rw [if_pos hc] at hf
          refine lv_aload_n hx hb dM_toNumber_85 rfl (lv_at hl 2 rfl) ?_
          refine lv_iconst (v := 4) hx hb dM_toNumber_86 (by decide) ?_
          obtain ⟨o14, hq15, hf⟩ := xbind hf
          have hl := lv_sub (l' := [(3, .int 0), (2, .int 0), (0, .ref aM)]) hl [0, 1, 2] rfl
          by_cases hk16 : o14.1 = 1
          · rw [if_pos hk16] at hf
            obtain ⟨hm17, hf⟩ := xmoE hf
            have hFc := xm_free hD hS hA
            refine xx_thr (vx_runV (C := "ValueBenchModel") (As := [.int 4]) (rest := []) ⟨hx, hb, hml, hown, htx⟩ (gM_refuse_1 l hl9 D cT aK aV H.size n aM ad7 rd gd8 vad9 o2.2.2.2.2 (4 : Int32) o14 hq15 hk16) ⟨callB_of 1 htx (xw_goodC kw_6_93) rfl rfl rfl (htx _ kw_1_5) (htx _ kw_6_90) ⟨by decide, by decide, by decide +kernel⟩ ⟨Nat.le_of_ble_eq_true rfl, Nat.le_of_ble_eq_true rfl⟩, (htx _ kw_6_92), (htx _ kp_M_refuse)⟩ ⟨xPre_blind, va_recv hK hP (ci := 5) rfl (q0 := 0) rfl, (fun U hU hW => ⟨rfl, xPre_of hZ hS hFc hP hD hK U hU hW⟩)⟩ rfl rfl hl.1 rfl (xm_room (Nat.le_of_ble_eq_true rfl)) dM_toNumber_87 ⟨hm17.1, hm17.2⟩) hS hFc (fun q _ h => hFc q h) (fun E ce q9 u9 t H1 locs ht hvm hr9 hB hz1 hk1 hS hce hcv hcl => ?_)
            obtain ⟨rfl, hP1, hK1, hD1⟩ := hB
            rw [ht] at hP1
            obtain ⟨ad19, gd20, vad21⟩ := u9
            obtain ⟨hv22, hn23⟩ := hr9
            have hP : va_P D xcl (xMw cT aM ad19 rd gd20 vad21 o14.2.2.2.2 []) H1 := hP1
            have hD : va_D A (xMw cT aM ad19 rd gd20 vad21 o14.2.2.2.2 []) := hD1.weaken (fun k q _ h => hFc q.1 h)
            generalize H1 = H at hP hS hce ⊢
            have hE9 : ∀ p, p < xct st → vad21 p = vad p := fun p h => (hv22 p (Nat.lt_of_lt_of_le h hN)).trans (hE p h)
            have hE := hE9
            have hN : xct st ≤ xct o14.2.2.2.2 := Nat.le_trans hN hn23
            obtain rfl := Option.some.inj hf
            exact vx_out (E := "java/lang/ArithmeticException") (fun x h => (hne x h).elim) hlocks hce hcv hcl (fun t ht ha => ⟨(ad19, gd20, vad21), ⟨hE, hN⟩, ⟨rfl, by rw [ht]; exact hP, va_K.moved ha hK, hD⟩, hS.F ht⟩) hS.2.2 (Nat.le_refl _) (Nat.le_refl _)
          rw [if_neg hk16] at hf
          exact nomatch hf
        · rw [if_neg hc] at hf
          refine lv_aload_n hx hb dM_toNumber_59 rfl (lv_at hl 2 rfl) ?_
          refine xm_get (v := .ref (ad7 3)) hx hb htx hown hK hP 3 (by decide) rfl (htx _ kw_5_90) rfl dM_toNumber_60 ?_
          refine xm_aload_n hx hb (xvor _ _) dM_toNumber_63 rfl (lv_at hl 3 rfl) ?_
          refine xm_vget (v := .int ((xpi o2.2.2.2.2 2) (c0 - 1))) hx hb htx hown hK hP 2 (by decide) hg13 rfl ((hZ.1 (100, "off", "I") (List.mem_of_getElem? (i := 2) rfl)).use rfl) rfl dM_toNumber_64 ?_
          refine lv_iload_n hx hb dM_toNumber_67 rfl (lv_at hl 1 rfl) ?_
          refine lv_iadd hx hb dM_toNumber_68 ?_
          obtain ⟨hg14, hf⟩ := xifn hf
          refine va_bald hx hb hK hP 2 0 rfl rfl hg14 dM_toNumber_69 ?_
          refine W.eq (g2 := F0 m 70 ls [.int ((xba o2.2.2.2.2 3) (((xpi o2.2.2.2.2 2) (c0 - 1)) + (0 : Int32)).toNatClampNeg)]) rfl ?_
          refine lv_bipush (v := 48) hx hb dM_toNumber_70 (by decide) ?_
          refine lv_icmp_ne (tgt := 91) hx hb dM_toNumber_72 (by decide) (fun hc => ?_) (fun hc => ?_)
          · rw [if_neg hc] at hf
            refine lv_lconst (v := 0) hx hb dM_toNumber_91 (by decide) ?_
            refine lv_lstore (lv' := [(4, .long 0), (3, .int 0), (2, .int 0), (0, .ref aM), (1, xv vad9 c0)]) hx hb dM_toNumber_92 hl (by decide) rfl (fun ls hl => ?_)
            exact key n (1, (0 : Int64), (0 : Int32), (0 : Int32), c0, o2.2.2.2.2, (0 + o2.2.1), (0 + o2.2.2.1)) _ _ ls (⟨ad7, gd8, vad9, rfl, hf, hP, hD, hS, lv_sub hl [0, 1, 2, 3, 4] rfl, hE, hN⟩)
          · rw [if_pos hc] at hf
            refine lv_iload_n hx hb dM_toNumber_75 rfl (lv_at hl 1 rfl) ?_
            refine lv_iconst (v := 1) hx hb dM_toNumber_76 (by decide) ?_
            refine lv_iadd hx hb dM_toNumber_77 ?_
            refine W.eq (g2 := F0 m 78 ls [.int 1]) rfl ?_
            refine xm_aload_n hx hb (xvor _ _) dM_toNumber_78 rfl (lv_at hl 3 rfl) ?_
            refine xm_vget (v := .int ((xpi o2.2.2.2.2 3) (c0 - 1))) hx hb htx hown hK hP 3 (by decide) hg13 rfl ((hZ.1 (103, "count", "I") (List.mem_of_getElem? (i := 3) rfl)).use rfl) rfl dM_toNumber_79 ?_
            refine lv_icmp_ge (tgt := 91) hx hb dM_toNumber_82 (by decide) (fun hc => ?_) (fun hc => ?_)
            · rw [if_pos hc] at hf
              refine lv_lconst (v := 0) hx hb dM_toNumber_91 (by decide) ?_
              refine lv_lstore (lv' := [(4, .long 0), (3, .int 0), (2, .int 0), (0, .ref aM), (1, xv vad9 c0)]) hx hb dM_toNumber_92 hl (by decide) rfl (fun ls hl => ?_)
              exact key n (1, (0 : Int64), (0 : Int32), (0 : Int32), c0, o2.2.2.2.2, (0 + o2.2.1), (0 + o2.2.2.1)) _ _ ls (⟨ad7, gd8, vad9, rfl, hf, hP, hD, hS, lv_sub hl [0, 1, 2, 3, 4] rfl, hE, hN⟩)
            · rw [if_neg hc] at hf
              refine lv_aload_n hx hb dM_toNumber_85 rfl (lv_at hl 2 rfl) ?_
              refine lv_iconst (v := 4) hx hb dM_toNumber_86 (by decide) ?_
              obtain ⟨o15, hq16, hf⟩ := xbind hf
              have hl := lv_sub (l' := [(3, .int 0), (2, .int 0), (0, .ref aM)]) hl [0, 1, 2] rfl
              by_cases hk17 : o15.1 = 1
              · rw [if_pos hk17] at hf
                obtain ⟨hm18, hf⟩ := xmoE hf
                have hFc := xm_free hD hS hA
                refine xx_thr (vx_runV (C := "ValueBenchModel") (As := [.int 4]) (rest := []) ⟨hx, hb, hml, hown, htx⟩ (gM_refuse_1 l hl9 D cT aK aV H.size n aM ad7 rd gd8 vad9 o2.2.2.2.2 (4 : Int32) o15 hq16 hk17) ⟨callB_of 1 htx (xw_goodC kw_6_93) rfl rfl rfl (htx _ kw_1_5) (htx _ kw_6_90) ⟨by decide, by decide, by decide +kernel⟩ ⟨Nat.le_of_ble_eq_true rfl, Nat.le_of_ble_eq_true rfl⟩, (htx _ kw_6_92), (htx _ kp_M_refuse)⟩ ⟨xPre_blind, va_recv hK hP (ci := 5) rfl (q0 := 0) rfl, (fun U hU hW => ⟨rfl, xPre_of hZ hS hFc hP hD hK U hU hW⟩)⟩ rfl rfl hl.1 rfl (xm_room (Nat.le_of_ble_eq_true rfl)) dM_toNumber_87 ⟨hm18.1, hm18.2⟩) hS hFc (fun q _ h => hFc q h) (fun E ce q9 u9 t H1 locs ht hvm hr9 hB hz1 hk1 hS hce hcv hcl => ?_)
                obtain ⟨rfl, hP1, hK1, hD1⟩ := hB
                rw [ht] at hP1
                obtain ⟨ad20, gd21, vad22⟩ := u9
                obtain ⟨hv23, hn24⟩ := hr9
                have hP : va_P D xcl (xMw cT aM ad20 rd gd21 vad22 o15.2.2.2.2 []) H1 := hP1
                have hD : va_D A (xMw cT aM ad20 rd gd21 vad22 o15.2.2.2.2 []) := hD1.weaken (fun k q _ h => hFc q.1 h)
                generalize H1 = H at hP hS hce ⊢
                have hE9 : ∀ p, p < xct st → vad22 p = vad p := fun p h => (hv23 p (Nat.lt_of_lt_of_le h hN)).trans (hE p h)
                have hE := hE9
                have hN : xct st ≤ xct o15.2.2.2.2 := Nat.le_trans hN hn24
                obtain rfl := Option.some.inj hf
                exact vx_out (E := "java/lang/ArithmeticException") (fun x h => (hne x h).elim) hlocks hce hcv hcl (fun t ht ha => ⟨(ad20, gd21, vad22), ⟨hE, hN⟩, ⟨rfl, by rw [ht]; exact hP, va_K.moved ha hK, hD⟩, hS.F ht⟩) hS.2.2 (Nat.le_refl _) (Nat.le_refl _)
              rw [if_neg hk17] at hf
              exact nomatch hf
      · rw [if_neg hc] at hf
        refine lv_aload_n hx hb dM_toNumber_25 rfl (lv_at hl 1 rfl) ?_
        refine xm_get (v := .ref (ad7 3)) hx hb htx hown hK hP 3 (by decide) rfl (htx _ kw_5_90) rfl dM_toNumber_26 ?_
        refine xm_aload_n hx hb (xvor _ _) dM_toNumber_29 rfl (lv_at hl 2 rfl) ?_
        refine xm_vget (v := .int ((xpi o2.2.2.2.2 2) (c0 - 1))) hx hb htx hown hK hP 2 (by decide) hg13 rfl ((hZ.1 (100, "off", "I") (List.mem_of_getElem? (i := 2) rfl)).use rfl) rfl dM_toNumber_30 ?_
        obtain ⟨hg14, hf⟩ := xifn hf
        refine va_bald hx hb hK hP 2 0 rfl rfl hg14 dM_toNumber_33 ?_
        refine W.eq (g2 := F0 m 34 ls [.int ((xba o2.2.2.2.2 3) ((xpi o2.2.2.2.2 2) (c0 - 1)).toNatClampNeg)]) rfl ?_
        refine lv_bipush (v := 45) hx hb dM_toNumber_34 (by decide) ?_
        refine lv_icmp_ne (tgt := 43) hx hb dM_toNumber_36 (by decide) (fun hc => ?_) (fun hc => ?_)
        · rw [if_neg hc] at hf
          refine lv_iconst (v := 0) hx hb dM_toNumber_43 (by decide) ?_
          refine lv_istore_n (lv' := [(3, .int 0), (2, .int 0), (0, .ref aM), (1, xv vad9 c0)]) hx hb dM_toNumber_44 rfl hl (by decide) rfl (fun ls hl => ?_)
          refine lv_iload_n hx hb dM_toNumber_45 rfl (lv_at hl 0 rfl) ?_
          refine lv_if_eq (tgt := 51) hx hb dM_toNumber_46 (by decide) (fun _ => ?_) (fun h => ((by revert h; decide : False)).elim)
          refine lv_iload_n hx hb dM_toNumber_51 rfl (lv_at hl 1 rfl) ?_
          refine xm_aload_n hx hb (xvor _ _) dM_toNumber_52 rfl (lv_at hl 3 rfl) ?_
          refine xm_vget (v := .int ((xpi o2.2.2.2.2 3) (c0 - 1))) hx hb htx hown hK hP 3 (by decide) hg13 rfl ((hZ.1 (103, "count", "I") (List.mem_of_getElem? (i := 3) rfl)).use rfl) rfl dM_toNumber_53 ?_
          refine lv_icmp_eq (tgt := 85) hx hb dM_toNumber_56 (by decide) (fun hc => ?_) (fun hc => ?_)
          · rw [if_pos hc] at hf
            refine lv_aload_n hx hb dM_toNumber_85 rfl (lv_at hl 2 rfl) ?_
            refine lv_iconst (v := 4) hx hb dM_toNumber_86 (by decide) ?_
            obtain ⟨o15, hq16, hf⟩ := xbind hf
            have hl := lv_sub (l' := [(3, .int 0), (2, .int 0), (0, .ref aM)]) hl [0, 1, 2] rfl
            by_cases hk17 : o15.1 = 1
            · rw [if_pos hk17] at hf
              obtain ⟨hm18, hf⟩ := xmoE hf
              have hFc := xm_free hD hS hA
              refine xx_thr (vx_runV (C := "ValueBenchModel") (As := [.int 4]) (rest := []) ⟨hx, hb, hml, hown, htx⟩ (gM_refuse_1 l hl9 D cT aK aV H.size n aM ad7 rd gd8 vad9 o2.2.2.2.2 (4 : Int32) o15 hq16 hk17) ⟨callB_of 1 htx (xw_goodC kw_6_93) rfl rfl rfl (htx _ kw_1_5) (htx _ kw_6_90) ⟨by decide, by decide, by decide +kernel⟩ ⟨Nat.le_of_ble_eq_true rfl, Nat.le_of_ble_eq_true rfl⟩, (htx _ kw_6_92), (htx _ kp_M_refuse)⟩ ⟨xPre_blind, va_recv hK hP (ci := 5) rfl (q0 := 0) rfl, (fun U hU hW => ⟨rfl, xPre_of hZ hS hFc hP hD hK U hU hW⟩)⟩ rfl rfl hl.1 rfl (xm_room (Nat.le_of_ble_eq_true rfl)) dM_toNumber_87 ⟨hm18.1, hm18.2⟩) hS hFc (fun q _ h => hFc q h) (fun E ce q9 u9 t H1 locs ht hvm hr9 hB hz1 hk1 hS hce hcv hcl => ?_)
              obtain ⟨rfl, hP1, hK1, hD1⟩ := hB
              rw [ht] at hP1
              obtain ⟨ad20, gd21, vad22⟩ := u9
              obtain ⟨hv23, hn24⟩ := hr9
              have hP : va_P D xcl (xMw cT aM ad20 rd gd21 vad22 o15.2.2.2.2 []) H1 := hP1
              have hD : va_D A (xMw cT aM ad20 rd gd21 vad22 o15.2.2.2.2 []) := hD1.weaken (fun k q _ h => hFc q.1 h)
              generalize H1 = H at hP hS hce ⊢
              have hE9 : ∀ p, p < xct st → vad22 p = vad p := fun p h => (hv23 p (Nat.lt_of_lt_of_le h hN)).trans (hE p h)
              have hE := hE9
              have hN : xct st ≤ xct o15.2.2.2.2 := Nat.le_trans hN hn24
              obtain rfl := Option.some.inj hf
              exact vx_out (E := "java/lang/ArithmeticException") (fun x h => (hne x h).elim) hlocks hce hcv hcl (fun t ht ha => ⟨(ad20, gd21, vad22), ⟨hE, hN⟩, ⟨rfl, by rw [ht]; exact hP, va_K.moved ha hK, hD⟩, hS.F ht⟩) hS.2.2 (Nat.le_refl _) (Nat.le_refl _)
            rw [if_neg hk17] at hf
            exact nomatch hf
          · rw [if_neg hc] at hf
            refine lv_aload_n hx hb dM_toNumber_59 rfl (lv_at hl 2 rfl) ?_
            refine xm_get (v := .ref (ad7 3)) hx hb htx hown hK hP 3 (by decide) rfl (htx _ kw_5_90) rfl dM_toNumber_60 ?_
            refine xm_aload_n hx hb (xvor _ _) dM_toNumber_63 rfl (lv_at hl 3 rfl) ?_
            refine xm_vget (v := .int ((xpi o2.2.2.2.2 2) (c0 - 1))) hx hb htx hown hK hP 2 (by decide) hg13 rfl ((hZ.1 (100, "off", "I") (List.mem_of_getElem? (i := 2) rfl)).use rfl) rfl dM_toNumber_64 ?_
            refine lv_iload_n hx hb dM_toNumber_67 rfl (lv_at hl 1 rfl) ?_
            refine lv_iadd hx hb dM_toNumber_68 ?_
            obtain ⟨hg15, hf⟩ := xifn hf
            refine va_bald hx hb hK hP 2 0 rfl rfl hg15 dM_toNumber_69 ?_
            refine W.eq (g2 := F0 m 70 ls [.int ((xba o2.2.2.2.2 3) (((xpi o2.2.2.2.2 2) (c0 - 1)) + (0 : Int32)).toNatClampNeg)]) rfl ?_
            refine lv_bipush (v := 48) hx hb dM_toNumber_70 (by decide) ?_
            refine lv_icmp_ne (tgt := 91) hx hb dM_toNumber_72 (by decide) (fun hc => ?_) (fun hc => ?_)
            · rw [if_neg hc] at hf
              refine lv_lconst (v := 0) hx hb dM_toNumber_91 (by decide) ?_
              refine lv_lstore (lv' := [(4, .long 0), (3, .int 0), (2, .int 0), (0, .ref aM), (1, xv vad9 c0)]) hx hb dM_toNumber_92 hl (by decide) rfl (fun ls hl => ?_)
              exact key n (1, (0 : Int64), (0 : Int32), (0 : Int32), c0, o2.2.2.2.2, (0 + o2.2.1), (0 + o2.2.2.1)) _ _ ls (⟨ad7, gd8, vad9, rfl, hf, hP, hD, hS, lv_sub hl [0, 1, 2, 3, 4] rfl, hE, hN⟩)
            · rw [if_pos hc] at hf
              refine lv_iload_n hx hb dM_toNumber_75 rfl (lv_at hl 1 rfl) ?_
              refine lv_iconst (v := 1) hx hb dM_toNumber_76 (by decide) ?_
              refine lv_iadd hx hb dM_toNumber_77 ?_
              refine W.eq (g2 := F0 m 78 ls [.int 1]) rfl ?_
              refine xm_aload_n hx hb (xvor _ _) dM_toNumber_78 rfl (lv_at hl 3 rfl) ?_
              refine xm_vget (v := .int ((xpi o2.2.2.2.2 3) (c0 - 1))) hx hb htx hown hK hP 3 (by decide) hg13 rfl ((hZ.1 (103, "count", "I") (List.mem_of_getElem? (i := 3) rfl)).use rfl) rfl dM_toNumber_79 ?_
              refine lv_icmp_ge (tgt := 91) hx hb dM_toNumber_82 (by decide) (fun hc => ?_) (fun hc => ?_)
              · rw [if_pos hc] at hf
                refine lv_lconst (v := 0) hx hb dM_toNumber_91 (by decide) ?_
                refine lv_lstore (lv' := [(4, .long 0), (3, .int 0), (2, .int 0), (0, .ref aM), (1, xv vad9 c0)]) hx hb dM_toNumber_92 hl (by decide) rfl (fun ls hl => ?_)
                exact key n (1, (0 : Int64), (0 : Int32), (0 : Int32), c0, o2.2.2.2.2, (0 + o2.2.1), (0 + o2.2.2.1)) _ _ ls (⟨ad7, gd8, vad9, rfl, hf, hP, hD, hS, lv_sub hl [0, 1, 2, 3, 4] rfl, hE, hN⟩)
              · rw [if_neg hc] at hf
                refine lv_aload_n hx hb dM_toNumber_85 rfl (lv_at hl 2 rfl) ?_
                refine lv_iconst (v := 4) hx hb dM_toNumber_86 (by decide) ?_
                obtain ⟨o16, hq17, hf⟩ := xbind hf
                have hl := lv_sub (l' := [(3, .int 0), (2, .int 0), (0, .ref aM)]) hl [0, 1, 2] rfl
                by_cases hk18 : o16.1 = 1
                · rw [if_pos hk18] at hf
                  obtain ⟨hm19, hf⟩ := xmoE hf
                  have hFc := xm_free hD hS hA
                  refine xx_thr (vx_runV (C := "ValueBenchModel") (As := [.int 4]) (rest := []) ⟨hx, hb, hml, hown, htx⟩ (gM_refuse_1 l hl9 D cT aK aV H.size n aM ad7 rd gd8 vad9 o2.2.2.2.2 (4 : Int32) o16 hq17 hk18) ⟨callB_of 1 htx (xw_goodC kw_6_93) rfl rfl rfl (htx _ kw_1_5) (htx _ kw_6_90) ⟨by decide, by decide, by decide +kernel⟩ ⟨Nat.le_of_ble_eq_true rfl, Nat.le_of_ble_eq_true rfl⟩, (htx _ kw_6_92), (htx _ kp_M_refuse)⟩ ⟨xPre_blind, va_recv hK hP (ci := 5) rfl (q0 := 0) rfl, (fun U hU hW => ⟨rfl, xPre_of hZ hS hFc hP hD hK U hU hW⟩)⟩ rfl rfl hl.1 rfl (xm_room (Nat.le_of_ble_eq_true rfl)) dM_toNumber_87 ⟨hm19.1, hm19.2⟩) hS hFc (fun q _ h => hFc q h) (fun E ce q9 u9 t H1 locs ht hvm hr9 hB hz1 hk1 hS hce hcv hcl => ?_)
                  obtain ⟨rfl, hP1, hK1, hD1⟩ := hB
                  rw [ht] at hP1
                  obtain ⟨ad21, gd22, vad23⟩ := u9
                  obtain ⟨hv24, hn25⟩ := hr9
                  have hP : va_P D xcl (xMw cT aM ad21 rd gd22 vad23 o16.2.2.2.2 []) H1 := hP1
                  have hD : va_D A (xMw cT aM ad21 rd gd22 vad23 o16.2.2.2.2 []) := hD1.weaken (fun k q _ h => hFc q.1 h)
                  generalize H1 = H at hP hS hce ⊢
                  have hE9 : ∀ p, p < xct st → vad23 p = vad p := fun p h => (hv24 p (Nat.lt_of_lt_of_le h hN)).trans (hE p h)
                  have hE := hE9
                  have hN : xct st ≤ xct o16.2.2.2.2 := Nat.le_trans hN hn25
                  obtain rfl := Option.some.inj hf
                  exact vx_out (E := "java/lang/ArithmeticException") (fun x h => (hne x h).elim) hlocks hce hcv hcl (fun t ht ha => ⟨(ad21, gd22, vad23), ⟨hE, hN⟩, ⟨rfl, by rw [ht]; exact hP, va_K.moved ha hK, hD⟩, hS.F ht⟩) hS.2.2 (Nat.le_refl _) (Nat.le_refl _)
                rw [if_neg hk18] at hf
                exact nomatch hf
        · rw [if_pos hc] at hf
          refine lv_iconst (v := 1) hx hb dM_toNumber_39 (by decide) ?_
          refine lv_goto (tgt := 44) hx hb dM_toNumber_40 (by decide) ?_
          refine lv_istore_n (lv' := [(3, .int 1), (2, .int 0), (0, .ref aM), (1, xv vad9 c0)]) hx hb dM_toNumber_44 rfl hl (by decide) rfl (fun ls hl => ?_)
          refine lv_iload_n hx hb dM_toNumber_45 rfl (lv_at hl 0 rfl) ?_
          refine lv_if_eq (tgt := 51) hx hb dM_toNumber_46 (by decide) (fun h => ((by revert h; decide : False)).elim) (fun _ => ?_)
          refine lv_iconst (v := 1) hx hb dM_toNumber_49 (by decide) ?_
          refine lv_istore_n (lv' := [(2, .int 1), (3, .int 1), (0, .ref aM), (1, xv vad9 c0)]) hx hb dM_toNumber_50 rfl hl (by decide) (by simp only [List.filter, xvcat, xrscat, xcI, xcL, xcR, xcN]; rfl) (fun ls hl => ?_)
          refine lv_iload_n hx hb dM_toNumber_51 rfl (lv_at hl 0 rfl) ?_
          refine xm_aload_n hx hb (xvor _ _) dM_toNumber_52 rfl (lv_at hl 3 rfl) ?_
          refine xm_vget (v := .int ((xpi o2.2.2.2.2 3) (c0 - 1))) hx hb htx hown hK hP 3 (by decide) hg13 rfl ((hZ.1 (103, "count", "I") (List.mem_of_getElem? (i := 3) rfl)).use rfl) rfl dM_toNumber_53 ?_
          refine lv_icmp_eq (tgt := 85) hx hb dM_toNumber_56 (by decide) (fun hc => ?_) (fun hc => ?_)
          · rw [if_pos hc] at hf
            refine lv_aload_n hx hb dM_toNumber_85 rfl (lv_at hl 2 rfl) ?_
            refine lv_iconst (v := 4) hx hb dM_toNumber_86 (by decide) ?_
            obtain ⟨o15, hq16, hf⟩ := xbind hf
            have hl := lv_sub (l' := [(2, .int 1), (3, .int 1), (0, .ref aM)]) hl [0, 1, 2] rfl
            by_cases hk17 : o15.1 = 1
            · rw [if_pos hk17] at hf
              obtain ⟨hm18, hf⟩ := xmoE hf
              have hFc := xm_free hD hS hA
              refine xx_thr (vx_runV (C := "ValueBenchModel") (As := [.int 4]) (rest := []) ⟨hx, hb, hml, hown, htx⟩ (gM_refuse_1 l hl9 D cT aK aV H.size n aM ad7 rd gd8 vad9 o2.2.2.2.2 (4 : Int32) o15 hq16 hk17) ⟨callB_of 1 htx (xw_goodC kw_6_93) rfl rfl rfl (htx _ kw_1_5) (htx _ kw_6_90) ⟨by decide, by decide, by decide +kernel⟩ ⟨Nat.le_of_ble_eq_true rfl, Nat.le_of_ble_eq_true rfl⟩, (htx _ kw_6_92), (htx _ kp_M_refuse)⟩ ⟨xPre_blind, va_recv hK hP (ci := 5) rfl (q0 := 0) rfl, (fun U hU hW => ⟨rfl, xPre_of hZ hS hFc hP hD hK U hU hW⟩)⟩ rfl rfl hl.1 rfl (xm_room (Nat.le_of_ble_eq_true rfl)) dM_toNumber_87 ⟨hm18.1, hm18.2⟩) hS hFc (fun q _ h => hFc q h) (fun E ce q9 u9 t H1 locs ht hvm hr9 hB hz1 hk1 hS hce hcv hcl => ?_)
              obtain ⟨rfl, hP1, hK1, hD1⟩ := hB
              rw [ht] at hP1
              obtain ⟨ad20, gd21, vad22⟩ := u9
              obtain ⟨hv23, hn24⟩ := hr9
              have hP : va_P D xcl (xMw cT aM ad20 rd gd21 vad22 o15.2.2.2.2 []) H1 := hP1
              have hD : va_D A (xMw cT aM ad20 rd gd21 vad22 o15.2.2.2.2 []) := hD1.weaken (fun k q _ h => hFc q.1 h)
              generalize H1 = H at hP hS hce ⊢
              have hE9 : ∀ p, p < xct st → vad22 p = vad p := fun p h => (hv23 p (Nat.lt_of_lt_of_le h hN)).trans (hE p h)
              have hE := hE9
              have hN : xct st ≤ xct o15.2.2.2.2 := Nat.le_trans hN hn24
              obtain rfl := Option.some.inj hf
              exact vx_out (E := "java/lang/ArithmeticException") (fun x h => (hne x h).elim) hlocks hce hcv hcl (fun t ht ha => ⟨(ad20, gd21, vad22), ⟨hE, hN⟩, ⟨rfl, by rw [ht]; exact hP, va_K.moved ha hK, hD⟩, hS.F ht⟩) hS.2.2 (Nat.le_refl _) (Nat.le_refl _)
            rw [if_neg hk17] at hf
            exact nomatch hf
          · rw [if_neg hc] at hf
            refine lv_aload_n hx hb dM_toNumber_59 rfl (lv_at hl 2 rfl) ?_
            refine xm_get (v := .ref (ad7 3)) hx hb htx hown hK hP 3 (by decide) rfl (htx _ kw_5_90) rfl dM_toNumber_60 ?_
            refine xm_aload_n hx hb (xvor _ _) dM_toNumber_63 rfl (lv_at hl 3 rfl) ?_
            refine xm_vget (v := .int ((xpi o2.2.2.2.2 2) (c0 - 1))) hx hb htx hown hK hP 2 (by decide) hg13 rfl ((hZ.1 (100, "off", "I") (List.mem_of_getElem? (i := 2) rfl)).use rfl) rfl dM_toNumber_64 ?_
            refine lv_iload_n hx hb dM_toNumber_67 rfl (lv_at hl 0 rfl) ?_
            refine lv_iadd hx hb dM_toNumber_68 ?_
            obtain ⟨hg15, hf⟩ := xifn hf
            refine va_bald hx hb hK hP 2 0 rfl rfl hg15 dM_toNumber_69 ?_
            refine W.eq (g2 := F0 m 70 ls [.int ((xba o2.2.2.2.2 3) (((xpi o2.2.2.2.2 2) (c0 - 1)) + (1 : Int32)).toNatClampNeg)]) rfl ?_
            refine lv_bipush (v := 48) hx hb dM_toNumber_70 (by decide) ?_
            refine lv_icmp_ne (tgt := 91) hx hb dM_toNumber_72 (by decide) (fun hc => ?_) (fun hc => ?_)
            · rw [if_neg hc] at hf
              refine lv_lconst (v := 0) hx hb dM_toNumber_91 (by decide) ?_
              refine lv_lstore (lv' := [(4, .long 0), (2, .int 1), (3, .int 1), (0, .ref aM), (1, xv vad9 c0)]) hx hb dM_toNumber_92 hl (by decide) rfl (fun ls hl => ?_)
              exact key n (1, (0 : Int64), (1 : Int32), (1 : Int32), c0, o2.2.2.2.2, (0 + o2.2.1), (0 + o2.2.2.1)) _ _ ls (⟨ad7, gd8, vad9, rfl, hf, hP, hD, hS, lv_sub hl [0, 2, 1, 3, 4] rfl, hE, hN⟩)
            · rw [if_pos hc] at hf
              refine lv_iload_n hx hb dM_toNumber_75 rfl (lv_at hl 0 rfl) ?_
              refine lv_iconst (v := 1) hx hb dM_toNumber_76 (by decide) ?_
              refine lv_iadd hx hb dM_toNumber_77 ?_
              refine W.eq (g2 := F0 m 78 ls [.int 2]) rfl ?_
              refine xm_aload_n hx hb (xvor _ _) dM_toNumber_78 rfl (lv_at hl 3 rfl) ?_
              refine xm_vget (v := .int ((xpi o2.2.2.2.2 3) (c0 - 1))) hx hb htx hown hK hP 3 (by decide) hg13 rfl ((hZ.1 (103, "count", "I") (List.mem_of_getElem? (i := 3) rfl)).use rfl) rfl dM_toNumber_79 ?_
              refine lv_icmp_ge (tgt := 91) hx hb dM_toNumber_82 (by decide) (fun hc => ?_) (fun hc => ?_)
              · rw [if_pos hc] at hf
                refine lv_lconst (v := 0) hx hb dM_toNumber_91 (by decide) ?_
                refine lv_lstore (lv' := [(4, .long 0), (2, .int 1), (3, .int 1), (0, .ref aM), (1, xv vad9 c0)]) hx hb dM_toNumber_92 hl (by decide) rfl (fun ls hl => ?_)
                exact key n (1, (0 : Int64), (1 : Int32), (1 : Int32), c0, o2.2.2.2.2, (0 + o2.2.1), (0 + o2.2.2.1)) _ _ ls (⟨ad7, gd8, vad9, rfl, hf, hP, hD, hS, lv_sub hl [0, 2, 1, 3, 4] rfl, hE, hN⟩)
              · rw [if_neg hc] at hf
                refine lv_aload_n hx hb dM_toNumber_85 rfl (lv_at hl 2 rfl) ?_
                refine lv_iconst (v := 4) hx hb dM_toNumber_86 (by decide) ?_
                obtain ⟨o16, hq17, hf⟩ := xbind hf
                have hl := lv_sub (l' := [(2, .int 1), (3, .int 1), (0, .ref aM)]) hl [0, 1, 2] rfl
                by_cases hk18 : o16.1 = 1
                · rw [if_pos hk18] at hf
                  obtain ⟨hm19, hf⟩ := xmoE hf
                  have hFc := xm_free hD hS hA
                  refine xx_thr (vx_runV (C := "ValueBenchModel") (As := [.int 4]) (rest := []) ⟨hx, hb, hml, hown, htx⟩ (gM_refuse_1 l hl9 D cT aK aV H.size n aM ad7 rd gd8 vad9 o2.2.2.2.2 (4 : Int32) o16 hq17 hk18) ⟨callB_of 1 htx (xw_goodC kw_6_93) rfl rfl rfl (htx _ kw_1_5) (htx _ kw_6_90) ⟨by decide, by decide, by decide +kernel⟩ ⟨Nat.le_of_ble_eq_true rfl, Nat.le_of_ble_eq_true rfl⟩, (htx _ kw_6_92), (htx _ kp_M_refuse)⟩ ⟨xPre_blind, va_recv hK hP (ci := 5) rfl (q0 := 0) rfl, (fun U hU hW => ⟨rfl, xPre_of hZ hS hFc hP hD hK U hU hW⟩)⟩ rfl rfl hl.1 rfl (xm_room (Nat.le_of_ble_eq_true rfl)) dM_toNumber_87 ⟨hm19.1, hm19.2⟩) hS hFc (fun q _ h => hFc q h) (fun E ce q9 u9 t H1 locs ht hvm hr9 hB hz1 hk1 hS hce hcv hcl => ?_)
                  obtain ⟨rfl, hP1, hK1, hD1⟩ := hB
                  rw [ht] at hP1
                  obtain ⟨ad21, gd22, vad23⟩ := u9
                  obtain ⟨hv24, hn25⟩ := hr9
                  have hP : va_P D xcl (xMw cT aM ad21 rd gd22 vad23 o16.2.2.2.2 []) H1 := hP1
                  have hD : va_D A (xMw cT aM ad21 rd gd22 vad23 o16.2.2.2.2 []) := hD1.weaken (fun k q _ h => hFc q.1 h)
                  generalize H1 = H at hP hS hce ⊢
                  have hE9 : ∀ p, p < xct st → vad23 p = vad p := fun p h => (hv24 p (Nat.lt_of_lt_of_le h hN)).trans (hE p h)
                  have hE := hE9
                  have hN : xct st ≤ xct o16.2.2.2.2 := Nat.le_trans hN hn25
                  obtain rfl := Option.some.inj hf
                  exact vx_out (E := "java/lang/ArithmeticException") (fun x h => (hne x h).elim) hlocks hce hcv hcl (fun t ht ha => ⟨(ad21, gd22, vad23), ⟨hE, hN⟩, ⟨rfl, by rw [ht]; exact hP, va_K.moved ha hK, hD⟩, hS.F ht⟩) hS.2.2 (Nat.le_refl _) (Nat.le_refl _)
                rw [if_neg hk18] at hf
                exact nomatch hf
    rw [if_neg hk4] at hf
    by_cases hk14 : o2.1 = 1
    · rw [if_pos hk14] at hf
      obtain ⟨hm15, hf⟩ := xmoE hf
      have hFc := xm_free hD hS hA
      refine xx_thr (vx_runV (C := "ValueBenchModel") (As := [xv vad c0]) (rest := []) ⟨hx, hb, hml, hown, htx⟩ (gM_text_1 l hl9 D cT aK aV s.heap.size n aM ad rd gd vad st c0 o2 hq3 hk14) ⟨callB_of 1 htx (xw_goodC kw_7_54) rfl rfl rfl (htx _ kw_1_5) (htx _ kw_7_51) ⟨by decide, by decide, by decide +kernel⟩ ⟨Nat.le_of_ble_eq_true rfl, Nat.le_of_ble_eq_true rfl⟩, (htx _ kw_7_53), (htx _ kp_M_text)⟩ ⟨xPre_blind, va_recv hK hP (ci := 5) rfl (q0 := 0) rfl, (fun U hU hW => ⟨rfl, xPre_of hZ hS hFc hP hD hK U hU hW⟩)⟩ rfl rfl hl.1 rfl (xm_room (Nat.le_of_ble_eq_true rfl)) dM_toNumber_12 ⟨hm15.1, hm15.2⟩) hS hFc (fun q _ h => hFc q h) (fun E ce q9 u9 t H1 locs ht hvm hr9 hB hz1 hk1 hS hce hcv hcl => ?_)
      obtain ⟨rfl, hP1, hK1, hD1⟩ := hB
      rw [ht] at hP1
      obtain ⟨ad17, gd18, vad19⟩ := u9
      obtain ⟨hv20, hn21⟩ := hr9
      have hP : va_P D xcl (xMw cT aM ad17 rd gd18 vad19 o2.2.2.2.2 []) H1 := hP1
      have hD : va_D A (xMw cT aM ad17 rd gd18 vad19 o2.2.2.2.2 []) := hD1.weaken (fun k q _ h => hFc q.1 h)
      generalize H1 = H at hP hS hce ⊢
      have hE9 : ∀ p, p < xct st → vad19 p = vad p := fun p h => (hv20 p (Nat.lt_of_lt_of_le h hN)).trans (hE p h)
      have hE := hE9
      have hN : xct st ≤ xct o2.2.2.2.2 := Nat.le_trans hN hn21
      have ev22 : xv vad c0 = xv vad19 c0 := xvE hv20 (fun h => hg1 (Or.inr h))
      have hl : lv_has ls 7 [(0, .ref aM), (1, xv vad19 c0)] := by first | exact hl | ((try (rw [← ev22])); exact hl)
      obtain rfl := Option.some.inj hf
      exact vx_out (E := "java/lang/ArithmeticException") (fun x h => (hne x h).elim) hlocks hce hcv hcl (fun t ht ha => ⟨(ad17, gd18, vad19), ⟨hE, hN⟩, ⟨rfl, by rw [ht]; exact hP, va_K.moved ha hK, hD⟩, hS.F ht⟩) hS.2.2 (Nat.le_refl _) (Nat.le_refl _)
    rw [if_neg hk14] at hf
    exact nomatch hf
  · rw [if_pos hc] at hf
    refine xm_aload_n hx hb (xvor _ _) dM_toNumber_8 rfl (lv_at hl 1 rfl) ?_
    obtain rfl := Option.some.inj hf
    exact absurd (show (0 : Nat) = 1 from hkd) (by decide)
