set_option maxHeartbeats 400000000 in
set_option maxRecDepth 100000 in
theorem gM_cased (l : Launch) (hl9 : l.stackTraces = false) (D : va_G) (cT : Nat → ClassId) (aK aV : Nat → Nat) (sz n : Nat) (aM : Nat) (ad rd gd vad : Nat → Nat) (st : xS) (c0 : Nat) (x1 : Int32) (out : Nat × Nat × Nat × Nat × xS) (hf : fM_cased n st c0 x1 = some out) (hkd : out.1 = 0) : xMet l yM_cased wyM_cased 8 out.2.1 out.2.2.1 142 D cT aK aV sz [.ref aM, xv vad c0, .int x1] (xMw cT aM ad rd gd vad st []) (fun A => va_Qq (fun (r : Option Nat) (u : xU) => r = xca u.2.2 out.2.2.2.1 ∧ xE vad st out.2.2.2.2 u) (fun u t => xB D xcl cT A (xMw cT aM u.1 rd u.2.1 u.2.2 out.2.2.2.2 []) t) A) := by
  refine Met.ofW (cc := prog_13_method_64_code) (maxL := 6) (ret := (some (.object "ValueBenchModel$V"))) (by decide) rfl ?_
  intro p e s m args below meth c s₁ B hml hv
  obtain ⟨rfl, hsz, hZ, hP, hK, hD0⟩ := hv
  have hx := B.exec
  have hb := B.bytes
  have hr := B.returns
  have hts := atoms_spec (ws := wyM_cased) B.pre
  have htx := fun w h => hts w (List.mem_cons_of_mem _ h)
  have hown : s.vm.findClass "ValueBenchModel" = some m.cls := findClass_of_methodNamed B.named
  have hlocks := B.notSynchronized
  subst hsz
  have hD := hD0.self (sz := s.heap.size)
  generalize hAe : va_A (xMw cT aM ad rd gd vad st []) s.heap.size = A at hD hZ ⊢
  have hA : ∀ q : Nat, s.heap.size ≤ q → A q := fun q h => by rw [← hAe]; exact Or.inr h
  have hS : va_S A s.heap s.heap [] := va_S.rf
  have hl := lv_entry ([.ref aM, xv vad c0, .int x1]) (n := 6) (by simp [lg_sl, xvcat, xrscat, xcI, xcL, xcR, xcN])
  rw [show lv_args 0 [.ref aM, xv vad c0, .int x1] = [(0, .ref aM), (1, xv vad c0), (2, .int x1)] from by simp [lv_args, xvcat, xrscat, xcI, xcL, xcR, xcN]] at hl
  rw [lg_entry_eq]
  generalize (lg_sl ([.ref aM, xv vad c0, .int x1]) ++ List.replicate (6 - (lg_sl ([.ref aM, xv vad c0, .int x1])).length) Slot.unset).toArray = ls at hl ⊢
  have hl : lv_has ls 6 [(0, .ref aM), (1, xv vad c0), (2, .int x1)] := hl
  have hE : ∀ p, p < xct st → vad p = vad p := fun _ _ => rfl
  have hN : xct st ≤ xct st := Nat.le_refl _
  unfold fM_cased at hf
  refine xloopM (σ := Nat × Int32 × Int32 × Nat × Int32 × xS × Nat × Nat) (fun n x H locs ls => (∃ (adL gdL vadL : Nat → Nat), x.1 = 1 ∧ fM_cased_b n x.1 x.2.1 x.2.2.1 x.2.2.2.1 x.2.2.2.2.1 x.2.2.2.2.2.1 x.2.2.2.2.2.2.1 x.2.2.2.2.2.2.2 = some out ∧ va_P D xcl (xMw cT aM adL rd gdL vadL x.2.2.2.2.2.1 []) H ∧ va_D A (xMw cT aM adL rd gdL vadL x.2.2.2.2.2.1 []) ∧ va_S A s.heap H locs ∧ lv_has ls 6 [(4, .int x.2.1), (3, .int x.2.2.1), (0, .ref aM), (1, xv vadL x.2.2.2.1), (2, .int x.2.2.2.2.1)] ∧ (∀ p, p < xct st → vadL p = vad p) ∧ xct st ≤ xct x.2.2.2.2.2.1)) (fun x => 8) (fun x => x.2.2.2.2.2.2.1) (fun x => x.2.2.2.2.2.2.2) (fun x H locs ls h => by (obtain ⟨_, _, _, h⟩ := h; exact absurd h.2.1 (by rw [fM_cased_b]; exact fun h => nomatch h))) (fun n ih x H locs ls hv => ?_) (fun key => ?_)
  · obtain ⟨lb, y4, y3, y1, y2, ws9, wc, wn⟩ := x
    rcases hv with ⟨adL, gdL, vadL, hj, hf, hP, hD, hS, hl, hE, hN⟩
    subst hj
    have hf : fM_cased_b (n + 1) 1 y4 y3 y1 y2 ws9 wc wn = some out := hf
    rw [fM_cased_b] at hf
    obtain ⟨hP, hD⟩ : xPD D xcl A (xMw cT aM adL rd gdL vadL ws9 []) H := ⟨hP, hD⟩
    have hl : lv_has ls 6 [(4, .int y4), (3, .int y3), (0, .ref aM), (1, xv vadL y1), (2, .int y2)] := hl
    refine W.eq (g2 := F0 m 8 ls []) rfl ?_
    show W p l e _ s m _ below meth c H locs wc wn _ _
    obtain ⟨hm0, hf⟩ := xmoE hf
    refine lv_iload hx hb dM_cased_8 (lv_at hl 0 rfl) ?_
    refine lv_aload_n hx hb dM_cased_10 rfl (lv_at hl 2 rfl) ?_
    refine xm_aload_n hx hb (xvor _ _) dM_cased_11 rfl (lv_at hl 3 rfl) ?_
    obtain ⟨o1, hq2, hf⟩ := xbind hf
    by_cases hk3 : o1.1 = 0
    · rw [if_pos hk3] at hf
      obtain ⟨hg4, hf⟩ := xifn hf
      obtain ⟨hm5, hf⟩ := xmoE hf
      have hFc := xm_free hD hS hA
      refine va_callq (va_runV (C := "ValueBenchModel") (As := [xv vadL y1]) (rest := [.int y4]) ⟨hx, hb, hml, hown, htx⟩ (gM_text l hl9 D cT aK aV H.size n aM adL rd gdL vadL ws9 y1 o1 hq2 hk3) ⟨callB_of 1 htx (xw_goodC kw_7_54) rfl rfl rfl (htx _ kw_1_5) (htx _ kw_7_51) ⟨by decide, by decide, by decide +kernel⟩ ⟨Nat.le_of_ble_eq_true rfl, Nat.le_of_ble_eq_true rfl⟩, (htx _ kw_7_53), (htx _ kp_M_text)⟩ ⟨xPre_blind, va_recv hK hP (ci := 5) rfl (q0 := 0) rfl, (fun U hU hW => ⟨rfl, xPre_of hZ hS hFc hP hD hK U hU hW⟩)⟩ rfl rfl hl.1 rfl (xm_room (Nat.le_of_ble_eq_true rfl)) dM_cased_12 ⟨hm5.1, hm5.2⟩) hS (fun q _ h => hFc q h) hFc (fun r6 u9 t H1 locs ht hvm hr9 hB hz1 hk1 hS => ?_)
      obtain ⟨hP1, hK1, hD1⟩ := hB
      rw [ht] at hP1
      obtain ⟨ad7, gd8, vad9⟩ := u9
      obtain ⟨hr9, hv10, hn11⟩ := hr9
      have hP : va_P D xcl (xMw cT aM ad7 rd gd8 vad9 o1.2.2.2.2 []) H1 := hP1
      have hD : va_D A (xMw cT aM ad7 rd gd8 vad9 o1.2.2.2.2 []) := hD1.weaken (fun k q _ h => hFc q.1 h)
      generalize H1 = H at hP hS ⊢
      have hE9 : ∀ p, p < xct st → vad9 p = vad p := fun p h => (hv10 p (Nat.lt_of_lt_of_le h hN)).trans (hE p h)
      have hE := hE9
      have hN : xct st ≤ xct o1.2.2.2.2 := Nat.le_trans hN hn11
      have ev12 : xv vadL y1 = xv vad9 y1 := xvE hv10 hg4
      have hl : lv_has ls 6 [(4, .int y4), (3, .int y3), (0, .ref aM), (1, xv vad9 y1), (2, .int y2)] := by first | exact hl | ((try (rw [← ev12])); exact hl)
      rw [hr9]
      refine W.eq (g2 := F0 m 15 ls [xv vad9 o1.2.2.2.1, .int y4]) (by first | rfl | ((try (rw [ev12])); rfl)) ?_
      obtain ⟨hg13, hf⟩ := xifn hf
      refine xm_vget (v := .int ((xpi o1.2.2.2.2 3) (o1.2.2.2.1 - 1))) hx hb htx hown hK hP 3 (by decide) hg13 rfl ((hZ.1 (103, "count", "I") (List.mem_of_getElem? (i := 3) rfl)).use rfl) rfl dM_cased_15 ?_
      refine lv_icmp_ge (tgt := 92) hx hb dM_cased_18 (by decide) (fun hc => ?_) (fun hc => ?_)
      · rw [if_pos hc] at hf
        refine lv_aload_n hx hb dM_cased_92 rfl (lv_at hl 2 rfl) ?_
        refine lv_iload_n hx hb dM_cased_93 rfl (lv_at hl 1 rfl) ?_
        obtain ⟨o14, hq15, hf⟩ := xbind hf
        have hl := lv_sub (l' := [(4, .int y4), (3, .int y3), (0, .ref aM), (2, .int y2)]) hl [0, 1, 2, 4] rfl
        by_cases hk16 : o14.1 = 0
        · rw [if_pos hk16] at hf
          obtain ⟨hm17, hf⟩ := xmoE hf
          have hFc := xm_free hD hS hA
          refine va_callq (va_runV (C := "ValueBenchModel") (As := [.int y3]) (rest := []) ⟨hx, hb, hml, hown, htx⟩ (gM_string l hl9 D cT aK aV H.size n aM ad7 rd gd8 vad9 o1.2.2.2.2 y3 o14 hq15 hk16) ⟨callB_of 1 htx (xw_goodC kw_6_61) rfl rfl rfl (htx _ kw_1_5) (htx _ kw_6_58) ⟨by decide, by decide, by decide +kernel⟩ ⟨Nat.le_of_ble_eq_true rfl, Nat.le_of_ble_eq_true rfl⟩, (htx _ kw_6_60), (htx _ kp_M_string)⟩ ⟨xPre_blind, va_recv hK hP (ci := 5) rfl (q0 := 0) rfl, (fun U hU hW => ⟨rfl, xPre_of hZ hS hFc hP hD hK U hU hW⟩)⟩ rfl rfl hl.1 rfl (xm_room (Nat.le_of_ble_eq_true rfl)) dM_cased_94 ⟨hm17.1, hm17.2⟩) hS (fun q _ h => hFc q h) hFc (fun r18 u9 t H1 locs ht hvm hr9 hB hz1 hk1 hS => ?_)
          obtain ⟨hP1, hK1, hD1⟩ := hB
          rw [ht] at hP1
          obtain ⟨ad19, gd20, vad21⟩ := u9
          obtain ⟨hr9, hv22, hn23⟩ := hr9
          have hP : va_P D xcl (xMw cT aM ad19 rd gd20 vad21 o14.2.2.2.2 []) H1 := hP1
          have hD : va_D A (xMw cT aM ad19 rd gd20 vad21 o14.2.2.2.2 []) := hD1.weaken (fun k q _ h => hFc q.1 h)
          generalize H1 = H at hP hS ⊢
          have hE9 : ∀ p, p < xct st → vad21 p = vad p := fun p h => (hv22 p (Nat.lt_of_lt_of_le h hN)).trans (hE p h)
          have hE := hE9
          have hN : xct st ≤ xct o14.2.2.2.2 := Nat.le_trans hN hn23
          rw [hr9]
          refine W.eq (g2 := F0 m 97 ls [xv vad21 o14.2.2.2.1]) (by first | rfl | (skip; rfl)) ?_
          obtain rfl := Option.some.inj hf
          exact W.aret (v := xv vad21 o14.2.2.2.1) hx hb hr (Or.inl ⟨_, rfl⟩) (xvor _ _) (fun t ht hW => ⟨⟨xca vad21 o14.2.2.2.1, (ad19, gd20, vad21), rfl, ⟨rfl, hE, hN⟩, by rw [ht]; exact hP, va_K.moved hW.alike hK, hD⟩, hS.F ht⟩) hS.2.2 dM_cased_97
        rw [if_neg hk16] at hf
        by_cases hk24 : o14.1 = 1
        · rw [if_pos hk24] at hf
          obtain ⟨hm25, hf⟩ := xmoE hf
          obtain rfl := Option.some.inj hf
          exact absurd (show (1 : Nat) = 0 from hkd) (by decide)
        rw [if_neg hk24] at hf
        exact nomatch hf
      · rw [if_neg hc] at hf
        refine lv_aload_n hx hb dM_cased_21 rfl (lv_at hl 2 rfl) ?_
        refine xm_get (v := .ref (ad7 3)) hx hb htx hown hK hP 3 (by decide) rfl (htx _ kw_5_90) rfl dM_cased_22 ?_
        refine xm_aload_n hx hb (xvor _ _) dM_cased_25 rfl (lv_at hl 3 rfl) ?_
        obtain ⟨hg14, hf⟩ := xifn hf
        refine xm_vget (v := .int ((xpi o1.2.2.2.2 2) (y1 - 1))) hx hb htx hown hK hP 2 (by decide) hg14 rfl ((hZ.1 (100, "off", "I") (List.mem_of_getElem? (i := 2) rfl)).use rfl) rfl dM_cased_26 ?_
        refine lv_iload hx hb dM_cased_29 (lv_at hl 0 rfl) ?_
        refine lv_iadd hx hb dM_cased_31 ?_
        obtain ⟨hg15, hf⟩ := xifn hf
        refine va_bald hx hb hK hP 2 0 rfl rfl hg15 dM_cased_32 ?_
        refine W.eq (g2 := F0 m 33 ls [.int ((xba o1.2.2.2.2 3) (((xpi o1.2.2.2.2 2) (y1 - 1)) + y4).toNatClampNeg)]) rfl ?_
        refine lv_istore (lv' := [(5, .int ((xba o1.2.2.2.2 3) (((xpi o1.2.2.2.2 2) (y1 - 1)) + y4).toNatClampNeg)), (4, .int y4), (3, .int y3), (0, .ref aM), (1, xv vad9 y1), (2, .int y2)]) hx hb dM_cased_33 hl (by decide) rfl (fun ls hl => ?_)
        refine lv_iload_n hx hb dM_cased_35 rfl (lv_at hl 5 rfl) ?_
        refine lv_if_eq (tgt := 59) hx hb dM_cased_36 (by decide) (fun hc => ?_) (fun hc => ?_)
        · rw [if_pos hc] at hf
          refine lv_iload_n hx hb dM_cased_59 rfl (lv_at hl 5 rfl) ?_
          refine lv_if_ne (tgt := 80) hx hb dM_cased_60 (by decide) (fun hc => ?_) (fun hc => ?_)
          · rw [if_neg hc] at hf
            refine lv_aload_n hx hb dM_cased_80 rfl (lv_at hl 3 rfl) ?_
            refine lv_iload hx hb dM_cased_81 (lv_at hl 0 rfl) ?_
            obtain ⟨o16, hq17, hf⟩ := xbind hf
            obtain ⟨hm18, hf⟩ := xmoE hf
            have hFc := xm_free hD hS hA
            refine va_callv (va_runV (C := "ValueBenchModel") (As := [.int ((xba o1.2.2.2.2 3) (((xpi o1.2.2.2.2 2) (y1 - 1)) + y4).toNatClampNeg)]) (rest := []) ⟨hx, hb, hml, hown, htx⟩ (gM_letter l hl9 D cT aK aV H.size n aM ad7 rd gd8 vad9 o1.2.2.2.2 ((xba o1.2.2.2.2 3) (((xpi o1.2.2.2.2 2) (y1 - 1)) + y4).toNatClampNeg) o16 hq17) ⟨callB_of 1 htx (xw_goodC kw_6_54) rfl rfl rfl (htx _ kw_1_5) (htx _ kw_6_51) ⟨by decide, by decide, by decide +kernel⟩ ⟨Nat.le_of_ble_eq_true rfl, Nat.le_of_ble_eq_true rfl⟩, (htx _ kw_6_53), (htx _ kp_M_letter)⟩ ⟨xPre_blind, va_recv hK hP (ci := 5) rfl (q0 := 0) rfl, (fun U hU hW => ⟨rfl, xPre_of hZ hS hFc hP hD hK U hU hW⟩)⟩ rfl rfl hl.1 rfl (xm_room (Nat.le_of_ble_eq_true rfl)) dM_cased_83 ⟨hm18.1, hm18.2⟩) hS (fun q _ h => hFc q h) hFc (fun u9 t H1 locs ht hvm hr9 hB hz1 hk1 hS => ?_)
            obtain ⟨hP1, hK1, hD1⟩ := hB
            rw [ht] at hP1
            obtain ⟨ad20, gd21, vad22⟩ := u9
            obtain ⟨hv23, hn24⟩ := hr9
            have hP : va_P D xcl (xMw cT aM ad20 rd gd21 vad22 o16.2.2 []) H1 := hP1
            have hD : va_D A (xMw cT aM ad20 rd gd21 vad22 o16.2.2 []) := hD1.weaken (fun k q _ h => hFc q.1 h)
            generalize H1 = H at hP hS ⊢
            have hE9 : ∀ p, p < xct st → vad22 p = vad p := fun p h => (hv23 p (Nat.lt_of_lt_of_le h hN)).trans (hE p h)
            have hE := hE9
            have hN : xct st ≤ xct o16.2.2 := Nat.le_trans hN hn24
            have ev25 : xv vad9 y1 = xv vad22 y1 := xvE hv23 (fun h => hg14 (Or.inr h))
            have hl : lv_has ls 6 [(5, .int ((xba o1.2.2.2.2 3) (((xpi o1.2.2.2.2 2) (y1 - 1)) + y4).toNatClampNeg)), (4, .int y4), (3, .int y3), (0, .ref aM), (1, xv vad22 y1), (2, .int y2)] := by first | exact hl | ((try (rw [← ev25])); exact hl)
            refine W.eq (g2 := F0 m 86 ls []) (by first | rfl | ((try (rw [ev25])); rfl)) ?_
            refine lv_iinc (v := (y4 + 1)) (lv' := [(4, .int (y4 + 1)), (5, .int ((xba o1.2.2.2.2 3) (((xpi o1.2.2.2.2 2) (y1 - 1)) + y4).toNatClampNeg)), (3, .int y3), (0, .ref aM), (1, xv vad22 y1), (2, .int y2)]) hx hb dM_cased_86 hl (k := 1) rfl rfl (by decide) rfl (fun ls hl => ?_)
            refine lv_goto (tgt := 8) hx hb dM_cased_89 (by decide) ?_
            exact ih (1, (y4 + 1), y3, y1, y2, o16.2.2, ((wc + o1.2.1) + o16.1), ((wn + o1.2.2.1) + o16.2.1)) _ _ ls (⟨ad20, gd21, vad22, rfl, hf, hP, hD, hS, lv_sub hl [0, 2, 3, 4, 5] rfl, hE, hN⟩)
          · rw [if_pos hc] at hf
            refine lv_iload hx hb dM_cased_63 (lv_at hl 0 rfl) ?_
            refine lv_bipush (v := 65) hx hb dM_cased_65 (by decide) ?_
            refine lv_icmp_lt (tgt := 80) hx hb dM_cased_67 (by decide) (fun hc => ?_) (fun hc => ?_)
            · rw [if_pos hc] at hf
              refine lv_aload_n hx hb dM_cased_80 rfl (lv_at hl 3 rfl) ?_
              refine lv_iload hx hb dM_cased_81 (lv_at hl 0 rfl) ?_
              obtain ⟨o16, hq17, hf⟩ := xbind hf
              obtain ⟨hm18, hf⟩ := xmoE hf
              have hFc := xm_free hD hS hA
              refine va_callv (va_runV (C := "ValueBenchModel") (As := [.int ((xba o1.2.2.2.2 3) (((xpi o1.2.2.2.2 2) (y1 - 1)) + y4).toNatClampNeg)]) (rest := []) ⟨hx, hb, hml, hown, htx⟩ (gM_letter l hl9 D cT aK aV H.size n aM ad7 rd gd8 vad9 o1.2.2.2.2 ((xba o1.2.2.2.2 3) (((xpi o1.2.2.2.2 2) (y1 - 1)) + y4).toNatClampNeg) o16 hq17) ⟨callB_of 1 htx (xw_goodC kw_6_54) rfl rfl rfl (htx _ kw_1_5) (htx _ kw_6_51) ⟨by decide, by decide, by decide +kernel⟩ ⟨Nat.le_of_ble_eq_true rfl, Nat.le_of_ble_eq_true rfl⟩, (htx _ kw_6_53), (htx _ kp_M_letter)⟩ ⟨xPre_blind, va_recv hK hP (ci := 5) rfl (q0 := 0) rfl, (fun U hU hW => ⟨rfl, xPre_of hZ hS hFc hP hD hK U hU hW⟩)⟩ rfl rfl hl.1 rfl (xm_room (Nat.le_of_ble_eq_true rfl)) dM_cased_83 ⟨hm18.1, hm18.2⟩) hS (fun q _ h => hFc q h) hFc (fun u9 t H1 locs ht hvm hr9 hB hz1 hk1 hS => ?_)
              obtain ⟨hP1, hK1, hD1⟩ := hB
              rw [ht] at hP1
              obtain ⟨ad20, gd21, vad22⟩ := u9
              obtain ⟨hv23, hn24⟩ := hr9
              have hP : va_P D xcl (xMw cT aM ad20 rd gd21 vad22 o16.2.2 []) H1 := hP1
              have hD : va_D A (xMw cT aM ad20 rd gd21 vad22 o16.2.2 []) := hD1.weaken (fun k q _ h => hFc q.1 h)
              generalize H1 = H at hP hS ⊢
              have hE9 : ∀ p, p < xct st → vad22 p = vad p := fun p h => (hv23 p (Nat.lt_of_lt_of_le h hN)).trans (hE p h)
              have hE := hE9
              have hN : xct st ≤ xct o16.2.2 := Nat.le_trans hN hn24
              have ev25 : xv vad9 y1 = xv vad22 y1 := xvE hv23 (fun h => hg14 (Or.inr h))
              have hl : lv_has ls 6 [(5, .int ((xba o1.2.2.2.2 3) (((xpi o1.2.2.2.2 2) (y1 - 1)) + y4).toNatClampNeg)), (4, .int y4), (3, .int y3), (0, .ref aM), (1, xv vad22 y1), (2, .int y2)] := by first | exact hl | ((try (rw [← ev25])); exact hl)
              refine W.eq (g2 := F0 m 86 ls []) (by first | rfl | ((try (rw [ev25])); rfl)) ?_
              refine lv_iinc (v := (y4 + 1)) (lv' := [(4, .int (y4 + 1)), (5, .int ((xba o1.2.2.2.2 3) (((xpi o1.2.2.2.2 2) (y1 - 1)) + y4).toNatClampNeg)), (3, .int y3), (0, .ref aM), (1, xv vad22 y1), (2, .int y2)]) hx hb dM_cased_86 hl (k := 1) rfl rfl (by decide) rfl (fun ls hl => ?_)
              refine lv_goto (tgt := 8) hx hb dM_cased_89 (by decide) ?_
              exact ih (1, (y4 + 1), y3, y1, y2, o16.2.2, ((wc + o1.2.1) + o16.1), ((wn + o1.2.2.1) + o16.2.1)) _ _ ls (⟨ad20, gd21, vad22, rfl, hf, hP, hD, hS, lv_sub hl [0, 2, 3, 4, 5] rfl, hE, hN⟩)
            · rw [if_neg hc] at hf
              refine lv_iload hx hb dM_cased_70 (lv_at hl 0 rfl) ?_
              refine lv_bipush (v := 90) hx hb dM_cased_72 (by decide) ?_
              refine lv_icmp_gt (tgt := 80) hx hb dM_cased_74 (by decide) (fun hc => ?_) (fun hc => ?_)
              · rw [if_pos hc] at hf
                refine lv_aload_n hx hb dM_cased_80 rfl (lv_at hl 3 rfl) ?_
                refine lv_iload hx hb dM_cased_81 (lv_at hl 0 rfl) ?_
                obtain ⟨o16, hq17, hf⟩ := xbind hf
                obtain ⟨hm18, hf⟩ := xmoE hf
                have hFc := xm_free hD hS hA
                refine va_callv (va_runV (C := "ValueBenchModel") (As := [.int ((xba o1.2.2.2.2 3) (((xpi o1.2.2.2.2 2) (y1 - 1)) + y4).toNatClampNeg)]) (rest := []) ⟨hx, hb, hml, hown, htx⟩ (gM_letter l hl9 D cT aK aV H.size n aM ad7 rd gd8 vad9 o1.2.2.2.2 ((xba o1.2.2.2.2 3) (((xpi o1.2.2.2.2 2) (y1 - 1)) + y4).toNatClampNeg) o16 hq17) ⟨callB_of 1 htx (xw_goodC kw_6_54) rfl rfl rfl (htx _ kw_1_5) (htx _ kw_6_51) ⟨by decide, by decide, by decide +kernel⟩ ⟨Nat.le_of_ble_eq_true rfl, Nat.le_of_ble_eq_true rfl⟩, (htx _ kw_6_53), (htx _ kp_M_letter)⟩ ⟨xPre_blind, va_recv hK hP (ci := 5) rfl (q0 := 0) rfl, (fun U hU hW => ⟨rfl, xPre_of hZ hS hFc hP hD hK U hU hW⟩)⟩ rfl rfl hl.1 rfl (xm_room (Nat.le_of_ble_eq_true rfl)) dM_cased_83 ⟨hm18.1, hm18.2⟩) hS (fun q _ h => hFc q h) hFc (fun u9 t H1 locs ht hvm hr9 hB hz1 hk1 hS => ?_)
                obtain ⟨hP1, hK1, hD1⟩ := hB
                rw [ht] at hP1
                obtain ⟨ad20, gd21, vad22⟩ := u9
                obtain ⟨hv23, hn24⟩ := hr9
                have hP : va_P D xcl (xMw cT aM ad20 rd gd21 vad22 o16.2.2 []) H1 := hP1
                have hD : va_D A (xMw cT aM ad20 rd gd21 vad22 o16.2.2 []) := hD1.weaken (fun k q _ h => hFc q.1 h)
                generalize H1 = H at hP hS ⊢
                have hE9 : ∀ p, p < xct st → vad22 p = vad p := fun p h => (hv23 p (Nat.lt_of_lt_of_le h hN)).trans (hE p h)
                have hE := hE9
                have hN : xct st ≤ xct o16.2.2 := Nat.le_trans hN hn24
                have ev25 : xv vad9 y1 = xv vad22 y1 := xvE hv23 (fun h => hg14 (Or.inr h))
                have hl : lv_has ls 6 [(5, .int ((xba o1.2.2.2.2 3) (((xpi o1.2.2.2.2 2) (y1 - 1)) + y4).toNatClampNeg)), (4, .int y4), (3, .int y3), (0, .ref aM), (1, xv vad22 y1), (2, .int y2)] := by first | exact hl | ((try (rw [← ev25])); exact hl)
                refine W.eq (g2 := F0 m 86 ls []) (by first | rfl | ((try (rw [ev25])); rfl)) ?_
                refine lv_iinc (v := (y4 + 1)) (lv' := [(4, .int (y4 + 1)), (5, .int ((xba o1.2.2.2.2 3) (((xpi o1.2.2.2.2 2) (y1 - 1)) + y4).toNatClampNeg)), (3, .int y3), (0, .ref aM), (1, xv vad22 y1), (2, .int y2)]) hx hb dM_cased_86 hl (k := 1) rfl rfl (by decide) rfl (fun ls hl => ?_)
                refine lv_goto (tgt := 8) hx hb dM_cased_89 (by decide) ?_
                exact ih (1, (y4 + 1), y3, y1, y2, o16.2.2, ((wc + o1.2.1) + o16.1), ((wn + o1.2.2.1) + o16.2.1)) _ _ ls (⟨ad20, gd21, vad22, rfl, hf, hP, hD, hS, lv_sub hl [0, 2, 3, 4, 5] rfl, hE, hN⟩)
              · rw [if_neg hc] at hf
                refine lv_iinc (v := (((xba o1.2.2.2.2 3) (((xpi o1.2.2.2.2 2) (y1 - 1)) + y4).toNatClampNeg) + 32)) (lv' := [(5, .int (((xba o1.2.2.2.2 3) (((xpi o1.2.2.2.2 2) (y1 - 1)) + y4).toNatClampNeg) + 32)), (4, .int y4), (3, .int y3), (0, .ref aM), (1, xv vad9 y1), (2, .int y2)]) hx hb dM_cased_77 hl (k := 0) rfl rfl (by decide) rfl (fun ls hl => ?_)
                refine lv_aload_n hx hb dM_cased_80 rfl (lv_at hl 3 rfl) ?_
                refine lv_iload hx hb dM_cased_81 (lv_at hl 0 rfl) ?_
                obtain ⟨o16, hq17, hf⟩ := xbind hf
                obtain ⟨hm18, hf⟩ := xmoE hf
                have hFc := xm_free hD hS hA
                refine va_callv (va_runV (C := "ValueBenchModel") (As := [.int (((xba o1.2.2.2.2 3) (((xpi o1.2.2.2.2 2) (y1 - 1)) + y4).toNatClampNeg) + 32)]) (rest := []) ⟨hx, hb, hml, hown, htx⟩ (gM_letter l hl9 D cT aK aV H.size n aM ad7 rd gd8 vad9 o1.2.2.2.2 (((xba o1.2.2.2.2 3) (((xpi o1.2.2.2.2 2) (y1 - 1)) + y4).toNatClampNeg) + 32) o16 hq17) ⟨callB_of 1 htx (xw_goodC kw_6_54) rfl rfl rfl (htx _ kw_1_5) (htx _ kw_6_51) ⟨by decide, by decide, by decide +kernel⟩ ⟨Nat.le_of_ble_eq_true rfl, Nat.le_of_ble_eq_true rfl⟩, (htx _ kw_6_53), (htx _ kp_M_letter)⟩ ⟨xPre_blind, va_recv hK hP (ci := 5) rfl (q0 := 0) rfl, (fun U hU hW => ⟨rfl, xPre_of hZ hS hFc hP hD hK U hU hW⟩)⟩ rfl rfl hl.1 rfl (xm_room (Nat.le_of_ble_eq_true rfl)) dM_cased_83 ⟨hm18.1, hm18.2⟩) hS (fun q _ h => hFc q h) hFc (fun u9 t H1 locs ht hvm hr9 hB hz1 hk1 hS => ?_)
                obtain ⟨hP1, hK1, hD1⟩ := hB
                rw [ht] at hP1
                obtain ⟨ad20, gd21, vad22⟩ := u9
                obtain ⟨hv23, hn24⟩ := hr9
                have hP : va_P D xcl (xMw cT aM ad20 rd gd21 vad22 o16.2.2 []) H1 := hP1
                have hD : va_D A (xMw cT aM ad20 rd gd21 vad22 o16.2.2 []) := hD1.weaken (fun k q _ h => hFc q.1 h)
                generalize H1 = H at hP hS ⊢
                have hE9 : ∀ p, p < xct st → vad22 p = vad p := fun p h => (hv23 p (Nat.lt_of_lt_of_le h hN)).trans (hE p h)
                have hE := hE9
                have hN : xct st ≤ xct o16.2.2 := Nat.le_trans hN hn24
                have ev25 : xv vad9 y1 = xv vad22 y1 := xvE hv23 (fun h => hg14 (Or.inr h))
                have hl : lv_has ls 6 [(5, .int (((xba o1.2.2.2.2 3) (((xpi o1.2.2.2.2 2) (y1 - 1)) + y4).toNatClampNeg) + 32)), (4, .int y4), (3, .int y3), (0, .ref aM), (1, xv vad22 y1), (2, .int y2)] := by first | exact hl | ((try (rw [← ev25])); exact hl)
                refine W.eq (g2 := F0 m 86 ls []) (by first | rfl | ((try (rw [ev25])); rfl)) ?_
                refine lv_iinc (v := (y4 + 1)) (lv' := [(4, .int (y4 + 1)), (5, .int (((xba o1.2.2.2.2 3) (((xpi o1.2.2.2.2 2) (y1 - 1)) + y4).toNatClampNeg) + 32)), (3, .int y3), (0, .ref aM), (1, xv vad22 y1), (2, .int y2)]) hx hb dM_cased_86 hl (k := 1) rfl rfl (by decide) rfl (fun ls hl => ?_)
                refine lv_goto (tgt := 8) hx hb dM_cased_89 (by decide) ?_
                exact ih (1, (y4 + 1), y3, y1, y2, o16.2.2, ((wc + o1.2.1) + o16.1), ((wn + o1.2.2.1) + o16.2.1)) _ _ ls (⟨ad20, gd21, vad22, rfl, hf, hP, hD, hS, lv_sub hl [0, 2, 3, 4, 5] rfl, hE, hN⟩)
        · rw [if_neg hc] at hf
          refine lv_iload hx hb dM_cased_39 (lv_at hl 0 rfl) ?_
          refine lv_bipush (v := 97) hx hb dM_cased_41 (by decide) ?_
          refine lv_icmp_lt (tgt := 59) hx hb dM_cased_43 (by decide) (fun hc => ?_) (fun hc => ?_)
          · rw [if_pos hc] at hf
            refine lv_iload_n hx hb dM_cased_59 rfl (lv_at hl 5 rfl) ?_
            refine lv_if_ne (tgt := 80) hx hb dM_cased_60 (by decide) (fun hc => ?_) (fun hc => ?_)
            · rw [if_neg hc] at hf
              refine lv_aload_n hx hb dM_cased_80 rfl (lv_at hl 3 rfl) ?_
              refine lv_iload hx hb dM_cased_81 (lv_at hl 0 rfl) ?_
              obtain ⟨o16, hq17, hf⟩ := xbind hf
              obtain ⟨hm18, hf⟩ := xmoE hf
              have hFc := xm_free hD hS hA
              refine va_callv (va_runV (C := "ValueBenchModel") (As := [.int ((xba o1.2.2.2.2 3) (((xpi o1.2.2.2.2 2) (y1 - 1)) + y4).toNatClampNeg)]) (rest := []) ⟨hx, hb, hml, hown, htx⟩ (gM_letter l hl9 D cT aK aV H.size n aM ad7 rd gd8 vad9 o1.2.2.2.2 ((xba o1.2.2.2.2 3) (((xpi o1.2.2.2.2 2) (y1 - 1)) + y4).toNatClampNeg) o16 hq17) ⟨callB_of 1 htx (xw_goodC kw_6_54) rfl rfl rfl (htx _ kw_1_5) (htx _ kw_6_51) ⟨by decide, by decide, by decide +kernel⟩ ⟨Nat.le_of_ble_eq_true rfl, Nat.le_of_ble_eq_true rfl⟩, (htx _ kw_6_53), (htx _ kp_M_letter)⟩ ⟨xPre_blind, va_recv hK hP (ci := 5) rfl (q0 := 0) rfl, (fun U hU hW => ⟨rfl, xPre_of hZ hS hFc hP hD hK U hU hW⟩)⟩ rfl rfl hl.1 rfl (xm_room (Nat.le_of_ble_eq_true rfl)) dM_cased_83 ⟨hm18.1, hm18.2⟩) hS (fun q _ h => hFc q h) hFc (fun u9 t H1 locs ht hvm hr9 hB hz1 hk1 hS => ?_)
              obtain ⟨hP1, hK1, hD1⟩ := hB
              rw [ht] at hP1
              obtain ⟨ad20, gd21, vad22⟩ := u9
              obtain ⟨hv23, hn24⟩ := hr9
              have hP : va_P D xcl (xMw cT aM ad20 rd gd21 vad22 o16.2.2 []) H1 := hP1
              have hD : va_D A (xMw cT aM ad20 rd gd21 vad22 o16.2.2 []) := hD1.weaken (fun k q _ h => hFc q.1 h)
              generalize H1 = H at hP hS ⊢
              have hE9 : ∀ p, p < xct st → vad22 p = vad p := fun p h => (hv23 p (Nat.lt_of_lt_of_le h hN)).trans (hE p h)
              have hE := hE9
              have hN : xct st ≤ xct o16.2.2 := Nat.le_trans hN hn24
              have ev25 : xv vad9 y1 = xv vad22 y1 := xvE hv23 (fun h => hg14 (Or.inr h))
              have hl : lv_has ls 6 [(5, .int ((xba o1.2.2.2.2 3) (((xpi o1.2.2.2.2 2) (y1 - 1)) + y4).toNatClampNeg)), (4, .int y4), (3, .int y3), (0, .ref aM), (1, xv vad22 y1), (2, .int y2)] := by first | exact hl | ((try (rw [← ev25])); exact hl)
              refine W.eq (g2 := F0 m 86 ls []) (by first | rfl | ((try (rw [ev25])); rfl)) ?_
              refine lv_iinc (v := (y4 + 1)) (lv' := [(4, .int (y4 + 1)), (5, .int ((xba o1.2.2.2.2 3) (((xpi o1.2.2.2.2 2) (y1 - 1)) + y4).toNatClampNeg)), (3, .int y3), (0, .ref aM), (1, xv vad22 y1), (2, .int y2)]) hx hb dM_cased_86 hl (k := 1) rfl rfl (by decide) rfl (fun ls hl => ?_)
              refine lv_goto (tgt := 8) hx hb dM_cased_89 (by decide) ?_
              exact ih (1, (y4 + 1), y3, y1, y2, o16.2.2, ((wc + o1.2.1) + o16.1), ((wn + o1.2.2.1) + o16.2.1)) _ _ ls (⟨ad20, gd21, vad22, rfl, hf, hP, hD, hS, lv_sub hl [0, 2, 3, 4, 5] rfl, hE, hN⟩)
            · rw [if_pos hc] at hf
              refine lv_iload hx hb dM_cased_63 (lv_at hl 0 rfl) ?_
              refine lv_bipush (v := 65) hx hb dM_cased_65 (by decide) ?_
              refine lv_icmp_lt (tgt := 80) hx hb dM_cased_67 (by decide) (fun hc => ?_) (fun hc => ?_)
              · rw [if_pos hc] at hf
                refine lv_aload_n hx hb dM_cased_80 rfl (lv_at hl 3 rfl) ?_
                refine lv_iload hx hb dM_cased_81 (lv_at hl 0 rfl) ?_
                obtain ⟨o16, hq17, hf⟩ := xbind hf
                obtain ⟨hm18, hf⟩ := xmoE hf
                have hFc := xm_free hD hS hA
                refine va_callv (va_runV (C := "ValueBenchModel") (As := [.int ((xba o1.2.2.2.2 3) (((xpi o1.2.2.2.2 2) (y1 - 1)) + y4).toNatClampNeg)]) (rest := []) ⟨hx, hb, hml, hown, htx⟩ (gM_letter l hl9 D cT aK aV H.size n aM ad7 rd gd8 vad9 o1.2.2.2.2 ((xba o1.2.2.2.2 3) (((xpi o1.2.2.2.2 2) (y1 - 1)) + y4).toNatClampNeg) o16 hq17) ⟨callB_of 1 htx (xw_goodC kw_6_54) rfl rfl rfl (htx _ kw_1_5) (htx _ kw_6_51) ⟨by decide, by decide, by decide +kernel⟩ ⟨Nat.le_of_ble_eq_true rfl, Nat.le_of_ble_eq_true rfl⟩, (htx _ kw_6_53), (htx _ kp_M_letter)⟩ ⟨xPre_blind, va_recv hK hP (ci := 5) rfl (q0 := 0) rfl, (fun U hU hW => ⟨rfl, xPre_of hZ hS hFc hP hD hK U hU hW⟩)⟩ rfl rfl hl.1 rfl (xm_room (Nat.le_of_ble_eq_true rfl)) dM_cased_83 ⟨hm18.1, hm18.2⟩) hS (fun q _ h => hFc q h) hFc (fun u9 t H1 locs ht hvm hr9 hB hz1 hk1 hS => ?_)
                obtain ⟨hP1, hK1, hD1⟩ := hB
                rw [ht] at hP1
                obtain ⟨ad20, gd21, vad22⟩ := u9
                obtain ⟨hv23, hn24⟩ := hr9
                have hP : va_P D xcl (xMw cT aM ad20 rd gd21 vad22 o16.2.2 []) H1 := hP1
                have hD : va_D A (xMw cT aM ad20 rd gd21 vad22 o16.2.2 []) := hD1.weaken (fun k q _ h => hFc q.1 h)
                generalize H1 = H at hP hS ⊢
                have hE9 : ∀ p, p < xct st → vad22 p = vad p := fun p h => (hv23 p (Nat.lt_of_lt_of_le h hN)).trans (hE p h)
                have hE := hE9
                have hN : xct st ≤ xct o16.2.2 := Nat.le_trans hN hn24
                have ev25 : xv vad9 y1 = xv vad22 y1 := xvE hv23 (fun h => hg14 (Or.inr h))
                have hl : lv_has ls 6 [(5, .int ((xba o1.2.2.2.2 3) (((xpi o1.2.2.2.2 2) (y1 - 1)) + y4).toNatClampNeg)), (4, .int y4), (3, .int y3), (0, .ref aM), (1, xv vad22 y1), (2, .int y2)] := by first | exact hl | ((try (rw [← ev25])); exact hl)
                refine W.eq (g2 := F0 m 86 ls []) (by first | rfl | ((try (rw [ev25])); rfl)) ?_
                refine lv_iinc (v := (y4 + 1)) (lv' := [(4, .int (y4 + 1)), (5, .int ((xba o1.2.2.2.2 3) (((xpi o1.2.2.2.2 2) (y1 - 1)) + y4).toNatClampNeg)), (3, .int y3), (0, .ref aM), (1, xv vad22 y1), (2, .int y2)]) hx hb dM_cased_86 hl (k := 1) rfl rfl (by decide) rfl (fun ls hl => ?_)
                refine lv_goto (tgt := 8) hx hb dM_cased_89 (by decide) ?_
                exact ih (1, (y4 + 1), y3, y1, y2, o16.2.2, ((wc + o1.2.1) + o16.1), ((wn + o1.2.2.1) + o16.2.1)) _ _ ls (⟨ad20, gd21, vad22, rfl, hf, hP, hD, hS, lv_sub hl [0, 2, 3, 4, 5] rfl, hE, hN⟩)
              · rw [if_neg hc] at hf
                refine lv_iload hx hb dM_cased_70 (lv_at hl 0 rfl) ?_
                refine lv_bipush (v := 90) hx hb dM_cased_72 (by decide) ?_
                refine lv_icmp_gt (tgt := 80) hx hb dM_cased_74 (by decide) (fun hc => ?_) (fun hc => ?_)
                · rw [if_pos hc] at hf
                  refine lv_aload_n hx hb dM_cased_80 rfl (lv_at hl 3 rfl) ?_
                  refine lv_iload hx hb dM_cased_81 (lv_at hl 0 rfl) ?_
                  obtain ⟨o16, hq17, hf⟩ := xbind hf
                  obtain ⟨hm18, hf⟩ := xmoE hf
                  have hFc := xm_free hD hS hA
                  refine va_callv (va_runV (C := "ValueBenchModel") (As := [.int ((xba o1.2.2.2.2 3) (((xpi o1.2.2.2.2 2) (y1 - 1)) + y4).toNatClampNeg)]) (rest := []) ⟨hx, hb, hml, hown, htx⟩ (gM_letter l hl9 D cT aK aV H.size n aM ad7 rd gd8 vad9 o1.2.2.2.2 ((xba o1.2.2.2.2 3) (((xpi o1.2.2.2.2 2) (y1 - 1)) + y4).toNatClampNeg) o16 hq17) ⟨callB_of 1 htx (xw_goodC kw_6_54) rfl rfl rfl (htx _ kw_1_5) (htx _ kw_6_51) ⟨by decide, by decide, by decide +kernel⟩ ⟨Nat.le_of_ble_eq_true rfl, Nat.le_of_ble_eq_true rfl⟩, (htx _ kw_6_53), (htx _ kp_M_letter)⟩ ⟨xPre_blind, va_recv hK hP (ci := 5) rfl (q0 := 0) rfl, (fun U hU hW => ⟨rfl, xPre_of hZ hS hFc hP hD hK U hU hW⟩)⟩ rfl rfl hl.1 rfl (xm_room (Nat.le_of_ble_eq_true rfl)) dM_cased_83 ⟨hm18.1, hm18.2⟩) hS (fun q _ h => hFc q h) hFc (fun u9 t H1 locs ht hvm hr9 hB hz1 hk1 hS => ?_)
                  obtain ⟨hP1, hK1, hD1⟩ := hB
                  rw [ht] at hP1
                  obtain ⟨ad20, gd21, vad22⟩ := u9
                  obtain ⟨hv23, hn24⟩ := hr9
                  have hP : va_P D xcl (xMw cT aM ad20 rd gd21 vad22 o16.2.2 []) H1 := hP1
                  have hD : va_D A (xMw cT aM ad20 rd gd21 vad22 o16.2.2 []) := hD1.weaken (fun k q _ h => hFc q.1 h)
                  generalize H1 = H at hP hS ⊢
                  have hE9 : ∀ p, p < xct st → vad22 p = vad p := fun p h => (hv23 p (Nat.lt_of_lt_of_le h hN)).trans (hE p h)
                  have hE := hE9
                  have hN : xct st ≤ xct o16.2.2 := Nat.le_trans hN hn24
                  have ev25 : xv vad9 y1 = xv vad22 y1 := xvE hv23 (fun h => hg14 (Or.inr h))
                  have hl : lv_has ls 6 [(5, .int ((xba o1.2.2.2.2 3) (((xpi o1.2.2.2.2 2) (y1 - 1)) + y4).toNatClampNeg)), (4, .int y4), (3, .int y3), (0, .ref aM), (1, xv vad22 y1), (2, .int y2)] := by first | exact hl | ((try (rw [← ev25])); exact hl)
                  refine W.eq (g2 := F0 m 86 ls []) (by first | rfl | ((try (rw [ev25])); rfl)) ?_
                  refine lv_iinc (v := (y4 + 1)) (lv' := [(4, .int (y4 + 1)), (5, .int ((xba o1.2.2.2.2 3) (((xpi o1.2.2.2.2 2) (y1 - 1)) + y4).toNatClampNeg)), (3, .int y3), (0, .ref aM), (1, xv vad22 y1), (2, .int y2)]) hx hb dM_cased_86 hl (k := 1) rfl rfl (by decide) rfl (fun ls hl => ?_)
                  refine lv_goto (tgt := 8) hx hb dM_cased_89 (by decide) ?_
                  exact ih (1, (y4 + 1), y3, y1, y2, o16.2.2, ((wc + o1.2.1) + o16.1), ((wn + o1.2.2.1) + o16.2.1)) _ _ ls (⟨ad20, gd21, vad22, rfl, hf, hP, hD, hS, lv_sub hl [0, 2, 3, 4, 5] rfl, hE, hN⟩)
                · rw [if_neg hc] at hf
                  refine lv_iinc (v := (((xba o1.2.2.2.2 3) (((xpi o1.2.2.2.2 2) (y1 - 1)) + y4).toNatClampNeg) + 32)) (lv' := [(5, .int (((xba o1.2.2.2.2 3) (((xpi o1.2.2.2.2 2) (y1 - 1)) + y4).toNatClampNeg) + 32)), (4, .int y4), (3, .int y3), (0, .ref aM), (1, xv vad9 y1), (2, .int y2)]) hx hb dM_cased_77 hl (k := 0) rfl rfl (by decide) rfl (fun ls hl => ?_)
                  refine lv_aload_n hx hb dM_cased_80 rfl (lv_at hl 3 rfl) ?_
                  refine lv_iload hx hb dM_cased_81 (lv_at hl 0 rfl) ?_
                  obtain ⟨o16, hq17, hf⟩ := xbind hf
                  obtain ⟨hm18, hf⟩ := xmoE hf
                  have hFc := xm_free hD hS hA
                  refine va_callv (va_runV (C := "ValueBenchModel") (As := [.int (((xba o1.2.2.2.2 3) (((xpi o1.2.2.2.2 2) (y1 - 1)) + y4).toNatClampNeg) + 32)]) (rest := []) ⟨hx, hb, hml, hown, htx⟩ (gM_letter l hl9 D cT aK aV H.size n aM ad7 rd gd8 vad9 o1.2.2.2.2 (((xba o1.2.2.2.2 3) (((xpi o1.2.2.2.2 2) (y1 - 1)) + y4).toNatClampNeg) + 32) o16 hq17) ⟨callB_of 1 htx (xw_goodC kw_6_54) rfl rfl rfl (htx _ kw_1_5) (htx _ kw_6_51) ⟨by decide, by decide, by decide +kernel⟩ ⟨Nat.le_of_ble_eq_true rfl, Nat.le_of_ble_eq_true rfl⟩, (htx _ kw_6_53), (htx _ kp_M_letter)⟩ ⟨xPre_blind, va_recv hK hP (ci := 5) rfl (q0 := 0) rfl, (fun U hU hW => ⟨rfl, xPre_of hZ hS hFc hP hD hK U hU hW⟩)⟩ rfl rfl hl.1 rfl (xm_room (Nat.le_of_ble_eq_true rfl)) dM_cased_83 ⟨hm18.1, hm18.2⟩) hS (fun q _ h => hFc q h) hFc (fun u9 t H1 locs ht hvm hr9 hB hz1 hk1 hS => ?_)
                  obtain ⟨hP1, hK1, hD1⟩ := hB
                  rw [ht] at hP1
                  obtain ⟨ad20, gd21, vad22⟩ := u9
                  obtain ⟨hv23, hn24⟩ := hr9
                  have hP : va_P D xcl (xMw cT aM ad20 rd gd21 vad22 o16.2.2 []) H1 := hP1
                  have hD : va_D A (xMw cT aM ad20 rd gd21 vad22 o16.2.2 []) := hD1.weaken (fun k q _ h => hFc q.1 h)
                  generalize H1 = H at hP hS ⊢
                  have hE9 : ∀ p, p < xct st → vad22 p = vad p := fun p h => (hv23 p (Nat.lt_of_lt_of_le h hN)).trans (hE p h)
                  have hE := hE9
                  have hN : xct st ≤ xct o16.2.2 := Nat.le_trans hN hn24
                  have ev25 : xv vad9 y1 = xv vad22 y1 := xvE hv23 (fun h => hg14 (Or.inr h))
                  have hl : lv_has ls 6 [(5, .int (((xba o1.2.2.2.2 3) (((xpi o1.2.2.2.2 2) (y1 - 1)) + y4).toNatClampNeg) + 32)), (4, .int y4), (3, .int y3), (0, .ref aM), (1, xv vad22 y1), (2, .int y2)] := by first | exact hl | ((try (rw [← ev25])); exact hl)
                  refine W.eq (g2 := F0 m 86 ls []) (by first | rfl | ((try (rw [ev25])); rfl)) ?_
                  refine lv_iinc (v := (y4 + 1)) (lv' := [(4, .int (y4 + 1)), (5, .int (((xba o1.2.2.2.2 3) (((xpi o1.2.2.2.2 2) (y1 - 1)) + y4).toNatClampNeg) + 32)), (3, .int y3), (0, .ref aM), (1, xv vad22 y1), (2, .int y2)]) hx hb dM_cased_86 hl (k := 1) rfl rfl (by decide) rfl (fun ls hl => ?_)
                  refine lv_goto (tgt := 8) hx hb dM_cased_89 (by decide) ?_
                  exact ih (1, (y4 + 1), y3, y1, y2, o16.2.2, ((wc + o1.2.1) + o16.1), ((wn + o1.2.2.1) + o16.2.1)) _ _ ls (⟨ad20, gd21, vad22, rfl, hf, hP, hD, hS, lv_sub hl [0, 2, 3, 4, 5] rfl, hE, hN⟩)
          · rw [if_neg hc] at hf
            refine lv_iload hx hb dM_cased_46 (lv_at hl 0 rfl) ?_
            refine lv_bipush (v := 122) hx hb dM_cased_48 (by decide) ?_
            refine lv_icmp_gt (tgt := 59) hx hb dM_cased_50 (by decide) (fun hc => ?_) (fun hc => ?_)
            · rw [if_pos hc] at hf
              refine lv_iload_n hx hb dM_cased_59 rfl (lv_at hl 5 rfl) ?_
              refine lv_if_ne (tgt := 80) hx hb dM_cased_60 (by decide) (fun hc => ?_) (fun hc => ?_)
              · rw [if_neg hc] at hf
                refine lv_aload_n hx hb dM_cased_80 rfl (lv_at hl 3 rfl) ?_
                refine lv_iload hx hb dM_cased_81 (lv_at hl 0 rfl) ?_
                obtain ⟨o16, hq17, hf⟩ := xbind hf
                obtain ⟨hm18, hf⟩ := xmoE hf
                have hFc := xm_free hD hS hA
                refine va_callv (va_runV (C := "ValueBenchModel") (As := [.int ((xba o1.2.2.2.2 3) (((xpi o1.2.2.2.2 2) (y1 - 1)) + y4).toNatClampNeg)]) (rest := []) ⟨hx, hb, hml, hown, htx⟩ (gM_letter l hl9 D cT aK aV H.size n aM ad7 rd gd8 vad9 o1.2.2.2.2 ((xba o1.2.2.2.2 3) (((xpi o1.2.2.2.2 2) (y1 - 1)) + y4).toNatClampNeg) o16 hq17) ⟨callB_of 1 htx (xw_goodC kw_6_54) rfl rfl rfl (htx _ kw_1_5) (htx _ kw_6_51) ⟨by decide, by decide, by decide +kernel⟩ ⟨Nat.le_of_ble_eq_true rfl, Nat.le_of_ble_eq_true rfl⟩, (htx _ kw_6_53), (htx _ kp_M_letter)⟩ ⟨xPre_blind, va_recv hK hP (ci := 5) rfl (q0 := 0) rfl, (fun U hU hW => ⟨rfl, xPre_of hZ hS hFc hP hD hK U hU hW⟩)⟩ rfl rfl hl.1 rfl (xm_room (Nat.le_of_ble_eq_true rfl)) dM_cased_83 ⟨hm18.1, hm18.2⟩) hS (fun q _ h => hFc q h) hFc (fun u9 t H1 locs ht hvm hr9 hB hz1 hk1 hS => ?_)
                obtain ⟨hP1, hK1, hD1⟩ := hB
                rw [ht] at hP1
                obtain ⟨ad20, gd21, vad22⟩ := u9
                obtain ⟨hv23, hn24⟩ := hr9
                have hP : va_P D xcl (xMw cT aM ad20 rd gd21 vad22 o16.2.2 []) H1 := hP1
                have hD : va_D A (xMw cT aM ad20 rd gd21 vad22 o16.2.2 []) := hD1.weaken (fun k q _ h => hFc q.1 h)
                generalize H1 = H at hP hS ⊢
                have hE9 : ∀ p, p < xct st → vad22 p = vad p := fun p h => (hv23 p (Nat.lt_of_lt_of_le h hN)).trans (hE p h)
                have hE := hE9
                have hN : xct st ≤ xct o16.2.2 := Nat.le_trans hN hn24
                have ev25 : xv vad9 y1 = xv vad22 y1 := xvE hv23 (fun h => hg14 (Or.inr h))
                have hl : lv_has ls 6 [(5, .int ((xba o1.2.2.2.2 3) (((xpi o1.2.2.2.2 2) (y1 - 1)) + y4).toNatClampNeg)), (4, .int y4), (3, .int y3), (0, .ref aM), (1, xv vad22 y1), (2, .int y2)] := by first | exact hl | ((try (rw [← ev25])); exact hl)
                refine W.eq (g2 := F0 m 86 ls []) (by first | rfl | ((try (rw [ev25])); rfl)) ?_
                refine lv_iinc (v := (y4 + 1)) (lv' := [(4, .int (y4 + 1)), (5, .int ((xba o1.2.2.2.2 3) (((xpi o1.2.2.2.2 2) (y1 - 1)) + y4).toNatClampNeg)), (3, .int y3), (0, .ref aM), (1, xv vad22 y1), (2, .int y2)]) hx hb dM_cased_86 hl (k := 1) rfl rfl (by decide) rfl (fun ls hl => ?_)
                refine lv_goto (tgt := 8) hx hb dM_cased_89 (by decide) ?_
                exact ih (1, (y4 + 1), y3, y1, y2, o16.2.2, ((wc + o1.2.1) + o16.1), ((wn + o1.2.2.1) + o16.2.1)) _ _ ls (⟨ad20, gd21, vad22, rfl, hf, hP, hD, hS, lv_sub hl [0, 2, 3, 4, 5] rfl, hE, hN⟩)
              · rw [if_pos hc] at hf
                refine lv_iload hx hb dM_cased_63 (lv_at hl 0 rfl) ?_
                refine lv_bipush (v := 65) hx hb dM_cased_65 (by decide) ?_
                refine lv_icmp_lt (tgt := 80) hx hb dM_cased_67 (by decide) (fun hc => ?_) (fun hc => ?_)
                · rw [if_pos hc] at hf
                  refine lv_aload_n hx hb dM_cased_80 rfl (lv_at hl 3 rfl) ?_
                  refine lv_iload hx hb dM_cased_81 (lv_at hl 0 rfl) ?_
                  obtain ⟨o16, hq17, hf⟩ := xbind hf
                  obtain ⟨hm18, hf⟩ := xmoE hf
                  have hFc := xm_free hD hS hA
                  refine va_callv (va_runV (C := "ValueBenchModel") (As := [.int ((xba o1.2.2.2.2 3) (((xpi o1.2.2.2.2 2) (y1 - 1)) + y4).toNatClampNeg)]) (rest := []) ⟨hx, hb, hml, hown, htx⟩ (gM_letter l hl9 D cT aK aV H.size n aM ad7 rd gd8 vad9 o1.2.2.2.2 ((xba o1.2.2.2.2 3) (((xpi o1.2.2.2.2 2) (y1 - 1)) + y4).toNatClampNeg) o16 hq17) ⟨callB_of 1 htx (xw_goodC kw_6_54) rfl rfl rfl (htx _ kw_1_5) (htx _ kw_6_51) ⟨by decide, by decide, by decide +kernel⟩ ⟨Nat.le_of_ble_eq_true rfl, Nat.le_of_ble_eq_true rfl⟩, (htx _ kw_6_53), (htx _ kp_M_letter)⟩ ⟨xPre_blind, va_recv hK hP (ci := 5) rfl (q0 := 0) rfl, (fun U hU hW => ⟨rfl, xPre_of hZ hS hFc hP hD hK U hU hW⟩)⟩ rfl rfl hl.1 rfl (xm_room (Nat.le_of_ble_eq_true rfl)) dM_cased_83 ⟨hm18.1, hm18.2⟩) hS (fun q _ h => hFc q h) hFc (fun u9 t H1 locs ht hvm hr9 hB hz1 hk1 hS => ?_)
                  obtain ⟨hP1, hK1, hD1⟩ := hB
                  rw [ht] at hP1
                  obtain ⟨ad20, gd21, vad22⟩ := u9
                  obtain ⟨hv23, hn24⟩ := hr9
                  have hP : va_P D xcl (xMw cT aM ad20 rd gd21 vad22 o16.2.2 []) H1 := hP1
                  have hD : va_D A (xMw cT aM ad20 rd gd21 vad22 o16.2.2 []) := hD1.weaken (fun k q _ h => hFc q.1 h)
                  generalize H1 = H at hP hS ⊢
                  have hE9 : ∀ p, p < xct st → vad22 p = vad p := fun p h => (hv23 p (Nat.lt_of_lt_of_le h hN)).trans (hE p h)
                  have hE := hE9
                  have hN : xct st ≤ xct o16.2.2 := Nat.le_trans hN hn24
                  have ev25 : xv vad9 y1 = xv vad22 y1 := xvE hv23 (fun h => hg14 (Or.inr h))
                  have hl : lv_has ls 6 [(5, .int ((xba o1.2.2.2.2 3) (((xpi o1.2.2.2.2 2) (y1 - 1)) + y4).toNatClampNeg)), (4, .int y4), (3, .int y3), (0, .ref aM), (1, xv vad22 y1), (2, .int y2)] := by first | exact hl | ((try (rw [← ev25])); exact hl)
                  refine W.eq (g2 := F0 m 86 ls []) (by first | rfl | ((try (rw [ev25])); rfl)) ?_
                  refine lv_iinc (v := (y4 + 1)) (lv' := [(4, .int (y4 + 1)), (5, .int ((xba o1.2.2.2.2 3) (((xpi o1.2.2.2.2 2) (y1 - 1)) + y4).toNatClampNeg)), (3, .int y3), (0, .ref aM), (1, xv vad22 y1), (2, .int y2)]) hx hb dM_cased_86 hl (k := 1) rfl rfl (by decide) rfl (fun ls hl => ?_)
                  refine lv_goto (tgt := 8) hx hb dM_cased_89 (by decide) ?_
                  exact ih (1, (y4 + 1), y3, y1, y2, o16.2.2, ((wc + o1.2.1) + o16.1), ((wn + o1.2.2.1) + o16.2.1)) _ _ ls (⟨ad20, gd21, vad22, rfl, hf, hP, hD, hS, lv_sub hl [0, 2, 3, 4, 5] rfl, hE, hN⟩)
                · rw [if_neg hc] at hf
                  refine lv_iload hx hb dM_cased_70 (lv_at hl 0 rfl) ?_
                  refine lv_bipush (v := 90) hx hb dM_cased_72 (by decide) ?_
                  refine lv_icmp_gt (tgt := 80) hx hb dM_cased_74 (by decide) (fun hc => ?_) (fun hc => ?_)
                  · rw [if_pos hc] at hf
                    refine lv_aload_n hx hb dM_cased_80 rfl (lv_at hl 3 rfl) ?_
                    refine lv_iload hx hb dM_cased_81 (lv_at hl 0 rfl) ?_
                    obtain ⟨o16, hq17, hf⟩ := xbind hf
                    obtain ⟨hm18, hf⟩ := xmoE hf
                    have hFc := xm_free hD hS hA
                    refine va_callv (va_runV (C := "ValueBenchModel") (As := [.int ((xba o1.2.2.2.2 3) (((xpi o1.2.2.2.2 2) (y1 - 1)) + y4).toNatClampNeg)]) (rest := []) ⟨hx, hb, hml, hown, htx⟩ (gM_letter l hl9 D cT aK aV H.size n aM ad7 rd gd8 vad9 o1.2.2.2.2 ((xba o1.2.2.2.2 3) (((xpi o1.2.2.2.2 2) (y1 - 1)) + y4).toNatClampNeg) o16 hq17) ⟨callB_of 1 htx (xw_goodC kw_6_54) rfl rfl rfl (htx _ kw_1_5) (htx _ kw_6_51) ⟨by decide, by decide, by decide +kernel⟩ ⟨Nat.le_of_ble_eq_true rfl, Nat.le_of_ble_eq_true rfl⟩, (htx _ kw_6_53), (htx _ kp_M_letter)⟩ ⟨xPre_blind, va_recv hK hP (ci := 5) rfl (q0 := 0) rfl, (fun U hU hW => ⟨rfl, xPre_of hZ hS hFc hP hD hK U hU hW⟩)⟩ rfl rfl hl.1 rfl (xm_room (Nat.le_of_ble_eq_true rfl)) dM_cased_83 ⟨hm18.1, hm18.2⟩) hS (fun q _ h => hFc q h) hFc (fun u9 t H1 locs ht hvm hr9 hB hz1 hk1 hS => ?_)
                    obtain ⟨hP1, hK1, hD1⟩ := hB
                    rw [ht] at hP1
                    obtain ⟨ad20, gd21, vad22⟩ := u9
                    obtain ⟨hv23, hn24⟩ := hr9
                    have hP : va_P D xcl (xMw cT aM ad20 rd gd21 vad22 o16.2.2 []) H1 := hP1
                    have hD : va_D A (xMw cT aM ad20 rd gd21 vad22 o16.2.2 []) := hD1.weaken (fun k q _ h => hFc q.1 h)
                    generalize H1 = H at hP hS ⊢
                    have hE9 : ∀ p, p < xct st → vad22 p = vad p := fun p h => (hv23 p (Nat.lt_of_lt_of_le h hN)).trans (hE p h)
                    have hE := hE9
                    have hN : xct st ≤ xct o16.2.2 := Nat.le_trans hN hn24
                    have ev25 : xv vad9 y1 = xv vad22 y1 := xvE hv23 (fun h => hg14 (Or.inr h))
                    have hl : lv_has ls 6 [(5, .int ((xba o1.2.2.2.2 3) (((xpi o1.2.2.2.2 2) (y1 - 1)) + y4).toNatClampNeg)), (4, .int y4), (3, .int y3), (0, .ref aM), (1, xv vad22 y1), (2, .int y2)] := by first | exact hl | ((try (rw [← ev25])); exact hl)
                    refine W.eq (g2 := F0 m 86 ls []) (by first | rfl | ((try (rw [ev25])); rfl)) ?_
                    refine lv_iinc (v := (y4 + 1)) (lv' := [(4, .int (y4 + 1)), (5, .int ((xba o1.2.2.2.2 3) (((xpi o1.2.2.2.2 2) (y1 - 1)) + y4).toNatClampNeg)), (3, .int y3), (0, .ref aM), (1, xv vad22 y1), (2, .int y2)]) hx hb dM_cased_86 hl (k := 1) rfl rfl (by decide) rfl (fun ls hl => ?_)
                    refine lv_goto (tgt := 8) hx hb dM_cased_89 (by decide) ?_
                    exact ih (1, (y4 + 1), y3, y1, y2, o16.2.2, ((wc + o1.2.1) + o16.1), ((wn + o1.2.2.1) + o16.2.1)) _ _ ls (⟨ad20, gd21, vad22, rfl, hf, hP, hD, hS, lv_sub hl [0, 2, 3, 4, 5] rfl, hE, hN⟩)
                  · rw [if_neg hc] at hf
                    refine lv_iinc (v := (((xba o1.2.2.2.2 3) (((xpi o1.2.2.2.2 2) (y1 - 1)) + y4).toNatClampNeg) + 32)) (lv' := [(5, .int (((xba o1.2.2.2.2 3) (((xpi o1.2.2.2.2 2) (y1 - 1)) + y4).toNatClampNeg) + 32)), (4, .int y4), (3, .int y3), (0, .ref aM), (1, xv vad9 y1), (2, .int y2)]) hx hb dM_cased_77 hl (k := 0) rfl rfl (by decide) rfl (fun ls hl => ?_)
                    refine lv_aload_n hx hb dM_cased_80 rfl (lv_at hl 3 rfl) ?_
                    refine lv_iload hx hb dM_cased_81 (lv_at hl 0 rfl) ?_
                    obtain ⟨o16, hq17, hf⟩ := xbind hf
                    obtain ⟨hm18, hf⟩ := xmoE hf
                    have hFc := xm_free hD hS hA
                    refine va_callv (va_runV (C := "ValueBenchModel") (As := [.int (((xba o1.2.2.2.2 3) (((xpi o1.2.2.2.2 2) (y1 - 1)) + y4).toNatClampNeg) + 32)]) (rest := []) ⟨hx, hb, hml, hown, htx⟩ (gM_letter l hl9 D cT aK aV H.size n aM ad7 rd gd8 vad9 o1.2.2.2.2 (((xba o1.2.2.2.2 3) (((xpi o1.2.2.2.2 2) (y1 - 1)) + y4).toNatClampNeg) + 32) o16 hq17) ⟨callB_of 1 htx (xw_goodC kw_6_54) rfl rfl rfl (htx _ kw_1_5) (htx _ kw_6_51) ⟨by decide, by decide, by decide +kernel⟩ ⟨Nat.le_of_ble_eq_true rfl, Nat.le_of_ble_eq_true rfl⟩, (htx _ kw_6_53), (htx _ kp_M_letter)⟩ ⟨xPre_blind, va_recv hK hP (ci := 5) rfl (q0 := 0) rfl, (fun U hU hW => ⟨rfl, xPre_of hZ hS hFc hP hD hK U hU hW⟩)⟩ rfl rfl hl.1 rfl (xm_room (Nat.le_of_ble_eq_true rfl)) dM_cased_83 ⟨hm18.1, hm18.2⟩) hS (fun q _ h => hFc q h) hFc (fun u9 t H1 locs ht hvm hr9 hB hz1 hk1 hS => ?_)
                    obtain ⟨hP1, hK1, hD1⟩ := hB
                    rw [ht] at hP1
                    obtain ⟨ad20, gd21, vad22⟩ := u9
                    obtain ⟨hv23, hn24⟩ := hr9
                    have hP : va_P D xcl (xMw cT aM ad20 rd gd21 vad22 o16.2.2 []) H1 := hP1
                    have hD : va_D A (xMw cT aM ad20 rd gd21 vad22 o16.2.2 []) := hD1.weaken (fun k q _ h => hFc q.1 h)
                    generalize H1 = H at hP hS ⊢
                    have hE9 : ∀ p, p < xct st → vad22 p = vad p := fun p h => (hv23 p (Nat.lt_of_lt_of_le h hN)).trans (hE p h)
                    have hE := hE9
                    have hN : xct st ≤ xct o16.2.2 := Nat.le_trans hN hn24
                    have ev25 : xv vad9 y1 = xv vad22 y1 := xvE hv23 (fun h => hg14 (Or.inr h))
                    have hl : lv_has ls 6 [(5, .int (((xba o1.2.2.2.2 3) (((xpi o1.2.2.2.2 2) (y1 - 1)) + y4).toNatClampNeg) + 32)), (4, .int y4), (3, .int y3), (0, .ref aM), (1, xv vad22 y1), (2, .int y2)] := by first | exact hl | ((try (rw [← ev25])); exact hl)
                    refine W.eq (g2 := F0 m 86 ls []) (by first | rfl | ((try (rw [ev25])); rfl)) ?_
                    refine lv_iinc (v := (y4 + 1)) (lv' := [(4, .int (y4 + 1)), (5, .int (((xba o1.2.2.2.2 3) (((xpi o1.2.2.2.2 2) (y1 - 1)) + y4).toNatClampNeg) + 32)), (3, .int y3), (0, .ref aM), (1, xv vad22 y1), (2, .int y2)]) hx hb dM_cased_86 hl (k := 1) rfl rfl (by decide) rfl (fun ls hl => ?_)
                    refine lv_goto (tgt := 8) hx hb dM_cased_89 (by decide) ?_
                    exact ih (1, (y4 + 1), y3, y1, y2, o16.2.2, ((wc + o1.2.1) + o16.1), ((wn + o1.2.2.1) + o16.2.1)) _ _ ls (⟨ad20, gd21, vad22, rfl, hf, hP, hD, hS, lv_sub hl [0, 2, 3, 4, 5] rfl, hE, hN⟩)
            · rw [if_neg hc] at hf
              refine lv_iinc (v := (((xba o1.2.2.2.2 3) (((xpi o1.2.2.2.2 2) (y1 - 1)) + y4).toNatClampNeg) + (-32))) (lv' := [(5, .int (((xba o1.2.2.2.2 3) (((xpi o1.2.2.2.2 2) (y1 - 1)) + y4).toNatClampNeg) + (-32))), (4, .int y4), (3, .int y3), (0, .ref aM), (1, xv vad9 y1), (2, .int y2)]) hx hb dM_cased_53 hl (k := 0) rfl rfl (by decide) rfl (fun ls hl => ?_)
              refine lv_goto (tgt := 80) hx hb dM_cased_56 (by decide) ?_
              refine lv_aload_n hx hb dM_cased_80 rfl (lv_at hl 3 rfl) ?_
              refine lv_iload hx hb dM_cased_81 (lv_at hl 0 rfl) ?_
              obtain ⟨o16, hq17, hf⟩ := xbind hf
              obtain ⟨hm18, hf⟩ := xmoE hf
              have hFc := xm_free hD hS hA
              refine va_callv (va_runV (C := "ValueBenchModel") (As := [.int (((xba o1.2.2.2.2 3) (((xpi o1.2.2.2.2 2) (y1 - 1)) + y4).toNatClampNeg) + (-32))]) (rest := []) ⟨hx, hb, hml, hown, htx⟩ (gM_letter l hl9 D cT aK aV H.size n aM ad7 rd gd8 vad9 o1.2.2.2.2 (((xba o1.2.2.2.2 3) (((xpi o1.2.2.2.2 2) (y1 - 1)) + y4).toNatClampNeg) + (-32)) o16 hq17) ⟨callB_of 1 htx (xw_goodC kw_6_54) rfl rfl rfl (htx _ kw_1_5) (htx _ kw_6_51) ⟨by decide, by decide, by decide +kernel⟩ ⟨Nat.le_of_ble_eq_true rfl, Nat.le_of_ble_eq_true rfl⟩, (htx _ kw_6_53), (htx _ kp_M_letter)⟩ ⟨xPre_blind, va_recv hK hP (ci := 5) rfl (q0 := 0) rfl, (fun U hU hW => ⟨rfl, xPre_of hZ hS hFc hP hD hK U hU hW⟩)⟩ rfl rfl hl.1 rfl (xm_room (Nat.le_of_ble_eq_true rfl)) dM_cased_83 ⟨hm18.1, hm18.2⟩) hS (fun q _ h => hFc q h) hFc (fun u9 t H1 locs ht hvm hr9 hB hz1 hk1 hS => ?_)
              obtain ⟨hP1, hK1, hD1⟩ := hB
              rw [ht] at hP1
              obtain ⟨ad20, gd21, vad22⟩ := u9
              obtain ⟨hv23, hn24⟩ := hr9
              have hP : va_P D xcl (xMw cT aM ad20 rd gd21 vad22 o16.2.2 []) H1 := hP1
              have hD : va_D A (xMw cT aM ad20 rd gd21 vad22 o16.2.2 []) := hD1.weaken (fun k q _ h => hFc q.1 h)
              generalize H1 = H at hP hS ⊢
              have hE9 : ∀ p, p < xct st → vad22 p = vad p := fun p h => (hv23 p (Nat.lt_of_lt_of_le h hN)).trans (hE p h)
              have hE := hE9
              have hN : xct st ≤ xct o16.2.2 := Nat.le_trans hN hn24
              have ev25 : xv vad9 y1 = xv vad22 y1 := xvE hv23 (fun h => hg14 (Or.inr h))
              have hl : lv_has ls 6 [(5, .int (((xba o1.2.2.2.2 3) (((xpi o1.2.2.2.2 2) (y1 - 1)) + y4).toNatClampNeg) + (-32))), (4, .int y4), (3, .int y3), (0, .ref aM), (1, xv vad22 y1), (2, .int y2)] := by first | exact hl | ((try (rw [← ev25])); exact hl)
              refine W.eq (g2 := F0 m 86 ls []) (by first | rfl | ((try (rw [ev25])); rfl)) ?_
              refine lv_iinc (v := (y4 + 1)) (lv' := [(4, .int (y4 + 1)), (5, .int (((xba o1.2.2.2.2 3) (((xpi o1.2.2.2.2 2) (y1 - 1)) + y4).toNatClampNeg) + (-32))), (3, .int y3), (0, .ref aM), (1, xv vad22 y1), (2, .int y2)]) hx hb dM_cased_86 hl (k := 1) rfl rfl (by decide) rfl (fun ls hl => ?_)
              refine lv_goto (tgt := 8) hx hb dM_cased_89 (by decide) ?_
              exact ih (1, (y4 + 1), y3, y1, y2, o16.2.2, ((wc + o1.2.1) + o16.1), ((wn + o1.2.2.1) + o16.2.1)) _ _ ls (⟨ad20, gd21, vad22, rfl, hf, hP, hD, hS, lv_sub hl [0, 2, 3, 4, 5] rfl, hE, hN⟩)
    rw [if_neg hk3] at hf
    by_cases hk14 : o1.1 = 1
    · rw [if_pos hk14] at hf
      obtain ⟨hg15, hf⟩ := xifn hf
      obtain ⟨hm16, hf⟩ := xmoE hf
      obtain rfl := Option.some.inj hf
      exact absurd (show (2 : Nat) = 0 from hkd) (by decide)
    rw [if_neg hk14] at hf
    exact nomatch hf
  refine lv_aload_n hx hb dM_cased_0 rfl (lv_at hl 0 rfl) ?_
  refine xm_get (v := .int (xsi st 4)) hx hb htx hown hK hP 4 (by decide) rfl (htx _ kw_5_91) rfl dM_cased_1 ?_
  refine lv_istore_n (lv' := [(3, .int (xsi st 4)), (0, .ref aM), (1, xv vad c0), (2, .int x1)]) hx hb dM_cased_4 rfl hl (by decide) rfl (fun ls hl => ?_)
  refine lv_iconst (v := 0) hx hb dM_cased_5 (by decide) ?_
  refine lv_istore (lv' := [(4, .int 0), (3, .int (xsi st 4)), (0, .ref aM), (1, xv vad c0), (2, .int x1)]) hx hb dM_cased_6 hl (by decide) rfl (fun ls hl => ?_)
  exact key n (1, (0 : Int32), (xsi st 4), c0, x1, st, 0, 0) _ _ ls (⟨ad, gd, vad, rfl, hf, hP, hD, hS, lv_sub hl [0, 1, 2, 3, 4] rfl, hE, hN⟩)
set_option maxHeartbeats 400000000 in
set_option maxRecDepth 100000 in
theorem gM_cased_1 (l : Launch) (hl9 : l.stackTraces = false) (D : va_G) (cT : Nat → ClassId) (aK aV : Nat → Nat) (sz n : Nat) (aM : Nat) (ad rd gd vad : Nat → Nat) (st : xS) (c0 : Nat) (x1 : Int32) (out : Nat × Nat × Nat × Nat × xS) (hf : fM_cased n st c0 x1 = some out) (hkd : out.1 = 1) : xMetY l yM_cased wyM_cased 8 out.2.1 out.2.2.1 142 D cT aK aV sz [.ref aM, xv vad c0, .int x1] (xMw cT aM ad rd gd vad st []) "java/lang/IndexOutOfBoundsException" (fun u => xE vad st out.2.2.2.2 u) (fun A u t => xB D xcl cT A (xMw cT aM u.1 rd u.2.1 u.2.2 out.2.2.2.2 []) t) := by
  refine vx_ofW (cc := prog_13_method_64_code) (maxL := 6) (ret := (some (.object "ValueBenchModel$V"))) (by decide) rfl ?_
  intro p e s m args below meth c s₁ B hml hne hv
  obtain ⟨rfl, hsz, hZ, hP, hK, hD0⟩ := hv
  have hx := B.exec
  have hb := B.bytes
  have hr := B.returns
  have hts := atoms_spec (ws := wyM_cased) B.pre
  have htx := fun w h => hts w (List.mem_cons_of_mem _ h)
  have hown : s.vm.findClass "ValueBenchModel" = some m.cls := findClass_of_methodNamed B.named
  have hlocks := B.notSynchronized
  subst hsz
  have hD := hD0.self (sz := s.heap.size)
  generalize hAe : va_A (xMw cT aM ad rd gd vad st []) s.heap.size = A at hD hZ ⊢
  have hA : ∀ q : Nat, s.heap.size ≤ q → A q := fun q h => by rw [← hAe]; exact Or.inr h
  have hS : va_S A s.heap s.heap [] := va_S.rf
  have hl := lv_entry ([.ref aM, xv vad c0, .int x1]) (n := 6) (by simp [lg_sl, xvcat, xrscat, xcI, xcL, xcR, xcN])
  rw [show lv_args 0 [.ref aM, xv vad c0, .int x1] = [(0, .ref aM), (1, xv vad c0), (2, .int x1)] from by simp [lv_args, xvcat, xrscat, xcI, xcL, xcR, xcN]] at hl
  rw [lg_entry_eq]
  generalize (lg_sl ([.ref aM, xv vad c0, .int x1]) ++ List.replicate (6 - (lg_sl ([.ref aM, xv vad c0, .int x1])).length) Slot.unset).toArray = ls at hl ⊢
  have hl : lv_has ls 6 [(0, .ref aM), (1, xv vad c0), (2, .int x1)] := hl
  have hE : ∀ p, p < xct st → vad p = vad p := fun _ _ => rfl
  have hN : xct st ≤ xct st := Nat.le_refl _
  unfold fM_cased at hf
  refine xloopM (σ := Nat × Int32 × Int32 × Nat × Int32 × xS × Nat × Nat) (fun n x H locs ls => (∃ (adL gdL vadL : Nat → Nat), x.1 = 1 ∧ fM_cased_b n x.1 x.2.1 x.2.2.1 x.2.2.2.1 x.2.2.2.2.1 x.2.2.2.2.2.1 x.2.2.2.2.2.2.1 x.2.2.2.2.2.2.2 = some out ∧ va_P D xcl (xMw cT aM adL rd gdL vadL x.2.2.2.2.2.1 []) H ∧ va_D A (xMw cT aM adL rd gdL vadL x.2.2.2.2.2.1 []) ∧ va_S A s.heap H locs ∧ lv_has ls 6 [(4, .int x.2.1), (3, .int x.2.2.1), (0, .ref aM), (1, xv vadL x.2.2.2.1), (2, .int x.2.2.2.2.1)] ∧ (∀ p, p < xct st → vadL p = vad p) ∧ xct st ≤ xct x.2.2.2.2.2.1)) (fun x => 8) (fun x => x.2.2.2.2.2.2.1) (fun x => x.2.2.2.2.2.2.2) (fun x H locs ls h => by (obtain ⟨_, _, _, h⟩ := h; exact absurd h.2.1 (by rw [fM_cased_b]; exact fun h => nomatch h))) (fun n ih x H locs ls hv => ?_) (fun key => ?_)
  · obtain ⟨lb, y4, y3, y1, y2, ws9, wc, wn⟩ := x
    rcases hv with ⟨adL, gdL, vadL, hj, hf, hP, hD, hS, hl, hE, hN⟩
    subst hj
    have hf : fM_cased_b (n + 1) 1 y4 y3 y1 y2 ws9 wc wn = some out := hf
    rw [fM_cased_b] at hf
    obtain ⟨hP, hD⟩ : xPD D xcl A (xMw cT aM adL rd gdL vadL ws9 []) H := ⟨hP, hD⟩
    have hl : lv_has ls 6 [(4, .int y4), (3, .int y3), (0, .ref aM), (1, xv vadL y1), (2, .int y2)] := hl
    refine W.eq (g2 := F0 m 8 ls []) rfl ?_
    show W p l e _ s m _ below meth c H locs wc wn _ _
    obtain ⟨hm0, hf⟩ := xmoE hf
    refine lv_iload hx hb dM_cased_8 (lv_at hl 0 rfl) ?_
    refine lv_aload_n hx hb dM_cased_10 rfl (lv_at hl 2 rfl) ?_
    refine xm_aload_n hx hb (xvor _ _) dM_cased_11 rfl (lv_at hl 3 rfl) ?_
    obtain ⟨o1, hq2, hf⟩ := xbind hf
    by_cases hk3 : o1.1 = 0
    · rw [if_pos hk3] at hf
      obtain ⟨hg4, hf⟩ := xifn hf
      obtain ⟨hm5, hf⟩ := xmoE hf
      have hFc := xm_free hD hS hA
      refine va_callq (va_runV (C := "ValueBenchModel") (As := [xv vadL y1]) (rest := [.int y4]) ⟨hx, hb, hml, hown, htx⟩ (gM_text l hl9 D cT aK aV H.size n aM adL rd gdL vadL ws9 y1 o1 hq2 hk3) ⟨callB_of 1 htx (xw_goodC kw_7_54) rfl rfl rfl (htx _ kw_1_5) (htx _ kw_7_51) ⟨by decide, by decide, by decide +kernel⟩ ⟨Nat.le_of_ble_eq_true rfl, Nat.le_of_ble_eq_true rfl⟩, (htx _ kw_7_53), (htx _ kp_M_text)⟩ ⟨xPre_blind, va_recv hK hP (ci := 5) rfl (q0 := 0) rfl, (fun U hU hW => ⟨rfl, xPre_of hZ hS hFc hP hD hK U hU hW⟩)⟩ rfl rfl hl.1 rfl (xm_room (Nat.le_of_ble_eq_true rfl)) dM_cased_12 ⟨hm5.1, hm5.2⟩) hS (fun q _ h => hFc q h) hFc (fun r6 u9 t H1 locs ht hvm hr9 hB hz1 hk1 hS => ?_)
      obtain ⟨hP1, hK1, hD1⟩ := hB
      rw [ht] at hP1
      obtain ⟨ad7, gd8, vad9⟩ := u9
      obtain ⟨hr9, hv10, hn11⟩ := hr9
      have hP : va_P D xcl (xMw cT aM ad7 rd gd8 vad9 o1.2.2.2.2 []) H1 := hP1
      have hD : va_D A (xMw cT aM ad7 rd gd8 vad9 o1.2.2.2.2 []) := hD1.weaken (fun k q _ h => hFc q.1 h)
      generalize H1 = H at hP hS ⊢
      have hE9 : ∀ p, p < xct st → vad9 p = vad p := fun p h => (hv10 p (Nat.lt_of_lt_of_le h hN)).trans (hE p h)
      have hE := hE9
      have hN : xct st ≤ xct o1.2.2.2.2 := Nat.le_trans hN hn11
      have ev12 : xv vadL y1 = xv vad9 y1 := xvE hv10 hg4
      have hl : lv_has ls 6 [(4, .int y4), (3, .int y3), (0, .ref aM), (1, xv vad9 y1), (2, .int y2)] := by first | exact hl | ((try (rw [← ev12])); exact hl)
      rw [hr9]
      refine W.eq (g2 := F0 m 15 ls [xv vad9 o1.2.2.2.1, .int y4]) (by first | rfl | ((try (rw [ev12])); rfl)) ?_
      obtain ⟨hg13, hf⟩ := xifn hf
      refine xm_vget (v := .int ((xpi o1.2.2.2.2 3) (o1.2.2.2.1 - 1))) hx hb htx hown hK hP 3 (by decide) hg13 rfl ((hZ.1 (103, "count", "I") (List.mem_of_getElem? (i := 3) rfl)).use rfl) rfl dM_cased_15 ?_
      refine lv_icmp_ge (tgt := 92) hx hb dM_cased_18 (by decide) (fun hc => ?_) (fun hc => ?_)
      · rw [if_pos hc] at hf
        refine lv_aload_n hx hb dM_cased_92 rfl (lv_at hl 2 rfl) ?_
        refine lv_iload_n hx hb dM_cased_93 rfl (lv_at hl 1 rfl) ?_
        obtain ⟨o14, hq15, hf⟩ := xbind hf
        have hl := lv_sub (l' := [(4, .int y4), (3, .int y3), (0, .ref aM), (2, .int y2)]) hl [0, 1, 2, 4] rfl
        by_cases hk16 : o14.1 = 0
        · rw [if_pos hk16] at hf
          obtain ⟨hm17, hf⟩ := xmoE hf
          have hFc := xm_free hD hS hA
          refine va_callq (va_runV (C := "ValueBenchModel") (As := [.int y3]) (rest := []) ⟨hx, hb, hml, hown, htx⟩ (gM_string l hl9 D cT aK aV H.size n aM ad7 rd gd8 vad9 o1.2.2.2.2 y3 o14 hq15 hk16) ⟨callB_of 1 htx (xw_goodC kw_6_61) rfl rfl rfl (htx _ kw_1_5) (htx _ kw_6_58) ⟨by decide, by decide, by decide +kernel⟩ ⟨Nat.le_of_ble_eq_true rfl, Nat.le_of_ble_eq_true rfl⟩, (htx _ kw_6_60), (htx _ kp_M_string)⟩ ⟨xPre_blind, va_recv hK hP (ci := 5) rfl (q0 := 0) rfl, (fun U hU hW => ⟨rfl, xPre_of hZ hS hFc hP hD hK U hU hW⟩)⟩ rfl rfl hl.1 rfl (xm_room (Nat.le_of_ble_eq_true rfl)) dM_cased_94 ⟨hm17.1, hm17.2⟩) hS (fun q _ h => hFc q h) hFc (fun r18 u9 t H1 locs ht hvm hr9 hB hz1 hk1 hS => ?_)
          obtain ⟨hP1, hK1, hD1⟩ := hB
          rw [ht] at hP1
          obtain ⟨ad19, gd20, vad21⟩ := u9
          obtain ⟨hr9, hv22, hn23⟩ := hr9
          have hP : va_P D xcl (xMw cT aM ad19 rd gd20 vad21 o14.2.2.2.2 []) H1 := hP1
          have hD : va_D A (xMw cT aM ad19 rd gd20 vad21 o14.2.2.2.2 []) := hD1.weaken (fun k q _ h => hFc q.1 h)
          generalize H1 = H at hP hS ⊢
          have hE9 : ∀ p, p < xct st → vad21 p = vad p := fun p h => (hv22 p (Nat.lt_of_lt_of_le h hN)).trans (hE p h)
          have hE := hE9
          have hN : xct st ≤ xct o14.2.2.2.2 := Nat.le_trans hN hn23
          rw [hr9]
          refine W.eq (g2 := F0 m 97 ls [xv vad21 o14.2.2.2.1]) (by first | rfl | (skip; rfl)) ?_
          obtain rfl := Option.some.inj hf
          exact absurd (show (0 : Nat) = 1 from hkd) (by decide)
        rw [if_neg hk16] at hf
        by_cases hk24 : o14.1 = 1
        · rw [if_pos hk24] at hf
          obtain ⟨hm25, hf⟩ := xmoE hf
          have hFc := xm_free hD hS hA
          refine xx_thr (vx_runV (C := "ValueBenchModel") (As := [.int y3]) (rest := []) ⟨hx, hb, hml, hown, htx⟩ (gM_string_1 l hl9 D cT aK aV H.size n aM ad7 rd gd8 vad9 o1.2.2.2.2 y3 o14 hq15 hk24) ⟨callB_of 1 htx (xw_goodC kw_6_61) rfl rfl rfl (htx _ kw_1_5) (htx _ kw_6_58) ⟨by decide, by decide, by decide +kernel⟩ ⟨Nat.le_of_ble_eq_true rfl, Nat.le_of_ble_eq_true rfl⟩, (htx _ kw_6_60), (htx _ kp_M_string)⟩ ⟨xPre_blind, va_recv hK hP (ci := 5) rfl (q0 := 0) rfl, (fun U hU hW => ⟨rfl, xPre_of hZ hS hFc hP hD hK U hU hW⟩)⟩ rfl rfl hl.1 rfl (xm_room (Nat.le_of_ble_eq_true rfl)) dM_cased_94 ⟨hm25.1, hm25.2⟩) hS hFc (fun q _ h => hFc q h) (fun E ce q9 u9 t H1 locs ht hvm hr9 hB hz1 hk1 hS hce hcv hcl => ?_)
          obtain ⟨rfl, hP1, hK1, hD1⟩ := hB
          rw [ht] at hP1
          obtain ⟨ad27, gd28, vad29⟩ := u9
          obtain ⟨hv30, hn31⟩ := hr9
          have hP : va_P D xcl (xMw cT aM ad27 rd gd28 vad29 o14.2.2.2.2 []) H1 := hP1
          have hD : va_D A (xMw cT aM ad27 rd gd28 vad29 o14.2.2.2.2 []) := hD1.weaken (fun k q _ h => hFc q.1 h)
          generalize H1 = H at hP hS hce ⊢
          have hE9 : ∀ p, p < xct st → vad29 p = vad p := fun p h => (hv30 p (Nat.lt_of_lt_of_le h hN)).trans (hE p h)
          have hE := hE9
          have hN : xct st ≤ xct o14.2.2.2.2 := Nat.le_trans hN hn31
          obtain rfl := Option.some.inj hf
          exact vx_out (E := "java/lang/IndexOutOfBoundsException") (fun x h => (hne x h).elim) hlocks hce hcv hcl (fun t ht ha => ⟨(ad27, gd28, vad29), ⟨hE, hN⟩, ⟨rfl, by rw [ht]; exact hP, va_K.moved ha hK, hD⟩, hS.F ht⟩) hS.2.2 (Nat.le_refl _) (Nat.le_refl _)
        rw [if_neg hk24] at hf
        exact nomatch hf
      · rw [if_neg hc] at hf
        refine lv_aload_n hx hb dM_cased_21 rfl (lv_at hl 2 rfl) ?_
        refine xm_get (v := .ref (ad7 3)) hx hb htx hown hK hP 3 (by decide) rfl (htx _ kw_5_90) rfl dM_cased_22 ?_
        refine xm_aload_n hx hb (xvor _ _) dM_cased_25 rfl (lv_at hl 3 rfl) ?_
        obtain ⟨hg14, hf⟩ := xifn hf
        refine xm_vget (v := .int ((xpi o1.2.2.2.2 2) (y1 - 1))) hx hb htx hown hK hP 2 (by decide) hg14 rfl ((hZ.1 (100, "off", "I") (List.mem_of_getElem? (i := 2) rfl)).use rfl) rfl dM_cased_26 ?_
        refine lv_iload hx hb dM_cased_29 (lv_at hl 0 rfl) ?_
        refine lv_iadd hx hb dM_cased_31 ?_
        obtain ⟨hg15, hf⟩ := xifn hf
        refine va_bald hx hb hK hP 2 0 rfl rfl hg15 dM_cased_32 ?_
        refine W.eq (g2 := F0 m 33 ls [.int ((xba o1.2.2.2.2 3) (((xpi o1.2.2.2.2 2) (y1 - 1)) + y4).toNatClampNeg)]) rfl ?_
        refine lv_istore (lv' := [(5, .int ((xba o1.2.2.2.2 3) (((xpi o1.2.2.2.2 2) (y1 - 1)) + y4).toNatClampNeg)), (4, .int y4), (3, .int y3), (0, .ref aM), (1, xv vad9 y1), (2, .int y2)]) hx hb dM_cased_33 hl (by decide) rfl (fun ls hl => ?_)
        refine lv_iload_n hx hb dM_cased_35 rfl (lv_at hl 5 rfl) ?_
        refine lv_if_eq (tgt := 59) hx hb dM_cased_36 (by decide) (fun hc => ?_) (fun hc => ?_)
        · rw [if_pos hc] at hf
          refine lv_iload_n hx hb dM_cased_59 rfl (lv_at hl 5 rfl) ?_
          refine lv_if_ne (tgt := 80) hx hb dM_cased_60 (by decide) (fun hc => ?_) (fun hc => ?_)
          · rw [if_neg hc] at hf
            refine lv_aload_n hx hb dM_cased_80 rfl (lv_at hl 3 rfl) ?_
            refine lv_iload hx hb dM_cased_81 (lv_at hl 0 rfl) ?_
            obtain ⟨o16, hq17, hf⟩ := xbind hf
            obtain ⟨hm18, hf⟩ := xmoE hf
            have hFc := xm_free hD hS hA
            refine va_callv (va_runV (C := "ValueBenchModel") (As := [.int ((xba o1.2.2.2.2 3) (((xpi o1.2.2.2.2 2) (y1 - 1)) + y4).toNatClampNeg)]) (rest := []) ⟨hx, hb, hml, hown, htx⟩ (gM_letter l hl9 D cT aK aV H.size n aM ad7 rd gd8 vad9 o1.2.2.2.2 ((xba o1.2.2.2.2 3) (((xpi o1.2.2.2.2 2) (y1 - 1)) + y4).toNatClampNeg) o16 hq17) ⟨callB_of 1 htx (xw_goodC kw_6_54) rfl rfl rfl (htx _ kw_1_5) (htx _ kw_6_51) ⟨by decide, by decide, by decide +kernel⟩ ⟨Nat.le_of_ble_eq_true rfl, Nat.le_of_ble_eq_true rfl⟩, (htx _ kw_6_53), (htx _ kp_M_letter)⟩ ⟨xPre_blind, va_recv hK hP (ci := 5) rfl (q0 := 0) rfl, (fun U hU hW => ⟨rfl, xPre_of hZ hS hFc hP hD hK U hU hW⟩)⟩ rfl rfl hl.1 rfl (xm_room (Nat.le_of_ble_eq_true rfl)) dM_cased_83 ⟨hm18.1, hm18.2⟩) hS (fun q _ h => hFc q h) hFc (fun u9 t H1 locs ht hvm hr9 hB hz1 hk1 hS => ?_)
            obtain ⟨hP1, hK1, hD1⟩ := hB
            rw [ht] at hP1
            obtain ⟨ad20, gd21, vad22⟩ := u9
            obtain ⟨hv23, hn24⟩ := hr9
            have hP : va_P D xcl (xMw cT aM ad20 rd gd21 vad22 o16.2.2 []) H1 := hP1
            have hD : va_D A (xMw cT aM ad20 rd gd21 vad22 o16.2.2 []) := hD1.weaken (fun k q _ h => hFc q.1 h)
            generalize H1 = H at hP hS ⊢
            have hE9 : ∀ p, p < xct st → vad22 p = vad p := fun p h => (hv23 p (Nat.lt_of_lt_of_le h hN)).trans (hE p h)
            have hE := hE9
            have hN : xct st ≤ xct o16.2.2 := Nat.le_trans hN hn24
            have ev25 : xv vad9 y1 = xv vad22 y1 := xvE hv23 (fun h => hg14 (Or.inr h))
            have hl : lv_has ls 6 [(5, .int ((xba o1.2.2.2.2 3) (((xpi o1.2.2.2.2 2) (y1 - 1)) + y4).toNatClampNeg)), (4, .int y4), (3, .int y3), (0, .ref aM), (1, xv vad22 y1), (2, .int y2)] := by first | exact hl | ((try (rw [← ev25])); exact hl)
            refine W.eq (g2 := F0 m 86 ls []) (by first | rfl | ((try (rw [ev25])); rfl)) ?_
            refine lv_iinc (v := (y4 + 1)) (lv' := [(4, .int (y4 + 1)), (5, .int ((xba o1.2.2.2.2 3) (((xpi o1.2.2.2.2 2) (y1 - 1)) + y4).toNatClampNeg)), (3, .int y3), (0, .ref aM), (1, xv vad22 y1), (2, .int y2)]) hx hb dM_cased_86 hl (k := 1) rfl rfl (by decide) rfl (fun ls hl => ?_)
            refine lv_goto (tgt := 8) hx hb dM_cased_89 (by decide) ?_
            exact ih (1, (y4 + 1), y3, y1, y2, o16.2.2, ((wc + o1.2.1) + o16.1), ((wn + o1.2.2.1) + o16.2.1)) _ _ ls (⟨ad20, gd21, vad22, rfl, hf, hP, hD, hS, lv_sub hl [0, 2, 3, 4, 5] rfl, hE, hN⟩)
          · rw [if_pos hc] at hf
            refine lv_iload hx hb dM_cased_63 (lv_at hl 0 rfl) ?_
            refine lv_bipush (v := 65) hx hb dM_cased_65 (by decide) ?_
            refine lv_icmp_lt (tgt := 80) hx hb dM_cased_67 (by decide) (fun hc => ?_) (fun hc => ?_)
            · rw [if_pos hc] at hf
              refine lv_aload_n hx hb dM_cased_80 rfl (lv_at hl 3 rfl) ?_
              refine lv_iload hx hb dM_cased_81 (lv_at hl 0 rfl) ?_
              obtain ⟨o16, hq17, hf⟩ := xbind hf
              obtain ⟨hm18, hf⟩ := xmoE hf
              have hFc := xm_free hD hS hA
              refine va_callv (va_runV (C := "ValueBenchModel") (As := [.int ((xba o1.2.2.2.2 3) (((xpi o1.2.2.2.2 2) (y1 - 1)) + y4).toNatClampNeg)]) (rest := []) ⟨hx, hb, hml, hown, htx⟩ (gM_letter l hl9 D cT aK aV H.size n aM ad7 rd gd8 vad9 o1.2.2.2.2 ((xba o1.2.2.2.2 3) (((xpi o1.2.2.2.2 2) (y1 - 1)) + y4).toNatClampNeg) o16 hq17) ⟨callB_of 1 htx (xw_goodC kw_6_54) rfl rfl rfl (htx _ kw_1_5) (htx _ kw_6_51) ⟨by decide, by decide, by decide +kernel⟩ ⟨Nat.le_of_ble_eq_true rfl, Nat.le_of_ble_eq_true rfl⟩, (htx _ kw_6_53), (htx _ kp_M_letter)⟩ ⟨xPre_blind, va_recv hK hP (ci := 5) rfl (q0 := 0) rfl, (fun U hU hW => ⟨rfl, xPre_of hZ hS hFc hP hD hK U hU hW⟩)⟩ rfl rfl hl.1 rfl (xm_room (Nat.le_of_ble_eq_true rfl)) dM_cased_83 ⟨hm18.1, hm18.2⟩) hS (fun q _ h => hFc q h) hFc (fun u9 t H1 locs ht hvm hr9 hB hz1 hk1 hS => ?_)
              obtain ⟨hP1, hK1, hD1⟩ := hB
              rw [ht] at hP1
              obtain ⟨ad20, gd21, vad22⟩ := u9
              obtain ⟨hv23, hn24⟩ := hr9
              have hP : va_P D xcl (xMw cT aM ad20 rd gd21 vad22 o16.2.2 []) H1 := hP1
              have hD : va_D A (xMw cT aM ad20 rd gd21 vad22 o16.2.2 []) := hD1.weaken (fun k q _ h => hFc q.1 h)
              generalize H1 = H at hP hS ⊢
              have hE9 : ∀ p, p < xct st → vad22 p = vad p := fun p h => (hv23 p (Nat.lt_of_lt_of_le h hN)).trans (hE p h)
              have hE := hE9
              have hN : xct st ≤ xct o16.2.2 := Nat.le_trans hN hn24
              have ev25 : xv vad9 y1 = xv vad22 y1 := xvE hv23 (fun h => hg14 (Or.inr h))
              have hl : lv_has ls 6 [(5, .int ((xba o1.2.2.2.2 3) (((xpi o1.2.2.2.2 2) (y1 - 1)) + y4).toNatClampNeg)), (4, .int y4), (3, .int y3), (0, .ref aM), (1, xv vad22 y1), (2, .int y2)] := by first | exact hl | ((try (rw [← ev25])); exact hl)
              refine W.eq (g2 := F0 m 86 ls []) (by first | rfl | ((try (rw [ev25])); rfl)) ?_
              refine lv_iinc (v := (y4 + 1)) (lv' := [(4, .int (y4 + 1)), (5, .int ((xba o1.2.2.2.2 3) (((xpi o1.2.2.2.2 2) (y1 - 1)) + y4).toNatClampNeg)), (3, .int y3), (0, .ref aM), (1, xv vad22 y1), (2, .int y2)]) hx hb dM_cased_86 hl (k := 1) rfl rfl (by decide) rfl (fun ls hl => ?_)
              refine lv_goto (tgt := 8) hx hb dM_cased_89 (by decide) ?_
              exact ih (1, (y4 + 1), y3, y1, y2, o16.2.2, ((wc + o1.2.1) + o16.1), ((wn + o1.2.2.1) + o16.2.1)) _ _ ls (⟨ad20, gd21, vad22, rfl, hf, hP, hD, hS, lv_sub hl [0, 2, 3, 4, 5] rfl, hE, hN⟩)
            · rw [if_neg hc] at hf
              refine lv_iload hx hb dM_cased_70 (lv_at hl 0 rfl) ?_
              refine lv_bipush (v := 90) hx hb dM_cased_72 (by decide) ?_
              refine lv_icmp_gt (tgt := 80) hx hb dM_cased_74 (by decide) (fun hc => ?_) (fun hc => ?_)
              · rw [if_pos hc] at hf
                refine lv_aload_n hx hb dM_cased_80 rfl (lv_at hl 3 rfl) ?_
                refine lv_iload hx hb dM_cased_81 (lv_at hl 0 rfl) ?_
                obtain ⟨o16, hq17, hf⟩ := xbind hf
                obtain ⟨hm18, hf⟩ := xmoE hf
                have hFc := xm_free hD hS hA
                refine va_callv (va_runV (C := "ValueBenchModel") (As := [.int ((xba o1.2.2.2.2 3) (((xpi o1.2.2.2.2 2) (y1 - 1)) + y4).toNatClampNeg)]) (rest := []) ⟨hx, hb, hml, hown, htx⟩ (gM_letter l hl9 D cT aK aV H.size n aM ad7 rd gd8 vad9 o1.2.2.2.2 ((xba o1.2.2.2.2 3) (((xpi o1.2.2.2.2 2) (y1 - 1)) + y4).toNatClampNeg) o16 hq17) ⟨callB_of 1 htx (xw_goodC kw_6_54) rfl rfl rfl (htx _ kw_1_5) (htx _ kw_6_51) ⟨by decide, by decide, by decide +kernel⟩ ⟨Nat.le_of_ble_eq_true rfl, Nat.le_of_ble_eq_true rfl⟩, (htx _ kw_6_53), (htx _ kp_M_letter)⟩ ⟨xPre_blind, va_recv hK hP (ci := 5) rfl (q0 := 0) rfl, (fun U hU hW => ⟨rfl, xPre_of hZ hS hFc hP hD hK U hU hW⟩)⟩ rfl rfl hl.1 rfl (xm_room (Nat.le_of_ble_eq_true rfl)) dM_cased_83 ⟨hm18.1, hm18.2⟩) hS (fun q _ h => hFc q h) hFc (fun u9 t H1 locs ht hvm hr9 hB hz1 hk1 hS => ?_)
                obtain ⟨hP1, hK1, hD1⟩ := hB
                rw [ht] at hP1
                obtain ⟨ad20, gd21, vad22⟩ := u9
                obtain ⟨hv23, hn24⟩ := hr9
                have hP : va_P D xcl (xMw cT aM ad20 rd gd21 vad22 o16.2.2 []) H1 := hP1
                have hD : va_D A (xMw cT aM ad20 rd gd21 vad22 o16.2.2 []) := hD1.weaken (fun k q _ h => hFc q.1 h)
                generalize H1 = H at hP hS ⊢
                have hE9 : ∀ p, p < xct st → vad22 p = vad p := fun p h => (hv23 p (Nat.lt_of_lt_of_le h hN)).trans (hE p h)
                have hE := hE9
                have hN : xct st ≤ xct o16.2.2 := Nat.le_trans hN hn24
                have ev25 : xv vad9 y1 = xv vad22 y1 := xvE hv23 (fun h => hg14 (Or.inr h))
                have hl : lv_has ls 6 [(5, .int ((xba o1.2.2.2.2 3) (((xpi o1.2.2.2.2 2) (y1 - 1)) + y4).toNatClampNeg)), (4, .int y4), (3, .int y3), (0, .ref aM), (1, xv vad22 y1), (2, .int y2)] := by first | exact hl | ((try (rw [← ev25])); exact hl)
                refine W.eq (g2 := F0 m 86 ls []) (by first | rfl | ((try (rw [ev25])); rfl)) ?_
                refine lv_iinc (v := (y4 + 1)) (lv' := [(4, .int (y4 + 1)), (5, .int ((xba o1.2.2.2.2 3) (((xpi o1.2.2.2.2 2) (y1 - 1)) + y4).toNatClampNeg)), (3, .int y3), (0, .ref aM), (1, xv vad22 y1), (2, .int y2)]) hx hb dM_cased_86 hl (k := 1) rfl rfl (by decide) rfl (fun ls hl => ?_)
                refine lv_goto (tgt := 8) hx hb dM_cased_89 (by decide) ?_
                exact ih (1, (y4 + 1), y3, y1, y2, o16.2.2, ((wc + o1.2.1) + o16.1), ((wn + o1.2.2.1) + o16.2.1)) _ _ ls (⟨ad20, gd21, vad22, rfl, hf, hP, hD, hS, lv_sub hl [0, 2, 3, 4, 5] rfl, hE, hN⟩)
              · rw [if_neg hc] at hf
                refine lv_iinc (v := (((xba o1.2.2.2.2 3) (((xpi o1.2.2.2.2 2) (y1 - 1)) + y4).toNatClampNeg) + 32)) (lv' := [(5, .int (((xba o1.2.2.2.2 3) (((xpi o1.2.2.2.2 2) (y1 - 1)) + y4).toNatClampNeg) + 32)), (4, .int y4), (3, .int y3), (0, .ref aM), (1, xv vad9 y1), (2, .int y2)]) hx hb dM_cased_77 hl (k := 0) rfl rfl (by decide) rfl (fun ls hl => ?_)
                refine lv_aload_n hx hb dM_cased_80 rfl (lv_at hl 3 rfl) ?_
                refine lv_iload hx hb dM_cased_81 (lv_at hl 0 rfl) ?_
                obtain ⟨o16, hq17, hf⟩ := xbind hf
                obtain ⟨hm18, hf⟩ := xmoE hf
                have hFc := xm_free hD hS hA
                refine va_callv (va_runV (C := "ValueBenchModel") (As := [.int (((xba o1.2.2.2.2 3) (((xpi o1.2.2.2.2 2) (y1 - 1)) + y4).toNatClampNeg) + 32)]) (rest := []) ⟨hx, hb, hml, hown, htx⟩ (gM_letter l hl9 D cT aK aV H.size n aM ad7 rd gd8 vad9 o1.2.2.2.2 (((xba o1.2.2.2.2 3) (((xpi o1.2.2.2.2 2) (y1 - 1)) + y4).toNatClampNeg) + 32) o16 hq17) ⟨callB_of 1 htx (xw_goodC kw_6_54) rfl rfl rfl (htx _ kw_1_5) (htx _ kw_6_51) ⟨by decide, by decide, by decide +kernel⟩ ⟨Nat.le_of_ble_eq_true rfl, Nat.le_of_ble_eq_true rfl⟩, (htx _ kw_6_53), (htx _ kp_M_letter)⟩ ⟨xPre_blind, va_recv hK hP (ci := 5) rfl (q0 := 0) rfl, (fun U hU hW => ⟨rfl, xPre_of hZ hS hFc hP hD hK U hU hW⟩)⟩ rfl rfl hl.1 rfl (xm_room (Nat.le_of_ble_eq_true rfl)) dM_cased_83 ⟨hm18.1, hm18.2⟩) hS (fun q _ h => hFc q h) hFc (fun u9 t H1 locs ht hvm hr9 hB hz1 hk1 hS => ?_)
                obtain ⟨hP1, hK1, hD1⟩ := hB
                rw [ht] at hP1
                obtain ⟨ad20, gd21, vad22⟩ := u9
                obtain ⟨hv23, hn24⟩ := hr9
                have hP : va_P D xcl (xMw cT aM ad20 rd gd21 vad22 o16.2.2 []) H1 := hP1
                have hD : va_D A (xMw cT aM ad20 rd gd21 vad22 o16.2.2 []) := hD1.weaken (fun k q _ h => hFc q.1 h)
                generalize H1 = H at hP hS ⊢
                have hE9 : ∀ p, p < xct st → vad22 p = vad p := fun p h => (hv23 p (Nat.lt_of_lt_of_le h hN)).trans (hE p h)
                have hE := hE9
                have hN : xct st ≤ xct o16.2.2 := Nat.le_trans hN hn24
                have ev25 : xv vad9 y1 = xv vad22 y1 := xvE hv23 (fun h => hg14 (Or.inr h))
                have hl : lv_has ls 6 [(5, .int (((xba o1.2.2.2.2 3) (((xpi o1.2.2.2.2 2) (y1 - 1)) + y4).toNatClampNeg) + 32)), (4, .int y4), (3, .int y3), (0, .ref aM), (1, xv vad22 y1), (2, .int y2)] := by first | exact hl | ((try (rw [← ev25])); exact hl)
                refine W.eq (g2 := F0 m 86 ls []) (by first | rfl | ((try (rw [ev25])); rfl)) ?_
                refine lv_iinc (v := (y4 + 1)) (lv' := [(4, .int (y4 + 1)), (5, .int (((xba o1.2.2.2.2 3) (((xpi o1.2.2.2.2 2) (y1 - 1)) + y4).toNatClampNeg) + 32)), (3, .int y3), (0, .ref aM), (1, xv vad22 y1), (2, .int y2)]) hx hb dM_cased_86 hl (k := 1) rfl rfl (by decide) rfl (fun ls hl => ?_)
                refine lv_goto (tgt := 8) hx hb dM_cased_89 (by decide) ?_
                exact ih (1, (y4 + 1), y3, y1, y2, o16.2.2, ((wc + o1.2.1) + o16.1), ((wn + o1.2.2.1) + o16.2.1)) _ _ ls (⟨ad20, gd21, vad22, rfl, hf, hP, hD, hS, lv_sub hl [0, 2, 3, 4, 5] rfl, hE, hN⟩)
        · rw [if_neg hc] at hf
          refine lv_iload hx hb dM_cased_39 (lv_at hl 0 rfl) ?_
          refine lv_bipush (v := 97) hx hb dM_cased_41 (by decide) ?_
          refine lv_icmp_lt (tgt := 59) hx hb dM_cased_43 (by decide) (fun hc => ?_) (fun hc => ?_)
          · rw [if_pos hc] at hf
            refine lv_iload_n hx hb dM_cased_59 rfl (lv_at hl 5 rfl) ?_
            refine lv_if_ne (tgt := 80) hx hb dM_cased_60 (by decide) (fun hc => ?_) (fun hc => ?_)
            · rw [if_neg hc] at hf
              refine lv_aload_n hx hb dM_cased_80 rfl (lv_at hl 3 rfl) ?_
              refine lv_iload hx hb dM_cased_81 (lv_at hl 0 rfl) ?_
              obtain ⟨o16, hq17, hf⟩ := xbind hf
              obtain ⟨hm18, hf⟩ := xmoE hf
              have hFc := xm_free hD hS hA
              refine va_callv (va_runV (C := "ValueBenchModel") (As := [.int ((xba o1.2.2.2.2 3) (((xpi o1.2.2.2.2 2) (y1 - 1)) + y4).toNatClampNeg)]) (rest := []) ⟨hx, hb, hml, hown, htx⟩ (gM_letter l hl9 D cT aK aV H.size n aM ad7 rd gd8 vad9 o1.2.2.2.2 ((xba o1.2.2.2.2 3) (((xpi o1.2.2.2.2 2) (y1 - 1)) + y4).toNatClampNeg) o16 hq17) ⟨callB_of 1 htx (xw_goodC kw_6_54) rfl rfl rfl (htx _ kw_1_5) (htx _ kw_6_51) ⟨by decide, by decide, by decide +kernel⟩ ⟨Nat.le_of_ble_eq_true rfl, Nat.le_of_ble_eq_true rfl⟩, (htx _ kw_6_53), (htx _ kp_M_letter)⟩ ⟨xPre_blind, va_recv hK hP (ci := 5) rfl (q0 := 0) rfl, (fun U hU hW => ⟨rfl, xPre_of hZ hS hFc hP hD hK U hU hW⟩)⟩ rfl rfl hl.1 rfl (xm_room (Nat.le_of_ble_eq_true rfl)) dM_cased_83 ⟨hm18.1, hm18.2⟩) hS (fun q _ h => hFc q h) hFc (fun u9 t H1 locs ht hvm hr9 hB hz1 hk1 hS => ?_)
              obtain ⟨hP1, hK1, hD1⟩ := hB
              rw [ht] at hP1
              obtain ⟨ad20, gd21, vad22⟩ := u9
              obtain ⟨hv23, hn24⟩ := hr9
              have hP : va_P D xcl (xMw cT aM ad20 rd gd21 vad22 o16.2.2 []) H1 := hP1
              have hD : va_D A (xMw cT aM ad20 rd gd21 vad22 o16.2.2 []) := hD1.weaken (fun k q _ h => hFc q.1 h)
              generalize H1 = H at hP hS ⊢
              have hE9 : ∀ p, p < xct st → vad22 p = vad p := fun p h => (hv23 p (Nat.lt_of_lt_of_le h hN)).trans (hE p h)
              have hE := hE9
              have hN : xct st ≤ xct o16.2.2 := Nat.le_trans hN hn24
              have ev25 : xv vad9 y1 = xv vad22 y1 := xvE hv23 (fun h => hg14 (Or.inr h))
              have hl : lv_has ls 6 [(5, .int ((xba o1.2.2.2.2 3) (((xpi o1.2.2.2.2 2) (y1 - 1)) + y4).toNatClampNeg)), (4, .int y4), (3, .int y3), (0, .ref aM), (1, xv vad22 y1), (2, .int y2)] := by first | exact hl | ((try (rw [← ev25])); exact hl)
              refine W.eq (g2 := F0 m 86 ls []) (by first | rfl | ((try (rw [ev25])); rfl)) ?_
              refine lv_iinc (v := (y4 + 1)) (lv' := [(4, .int (y4 + 1)), (5, .int ((xba o1.2.2.2.2 3) (((xpi o1.2.2.2.2 2) (y1 - 1)) + y4).toNatClampNeg)), (3, .int y3), (0, .ref aM), (1, xv vad22 y1), (2, .int y2)]) hx hb dM_cased_86 hl (k := 1) rfl rfl (by decide) rfl (fun ls hl => ?_)
              refine lv_goto (tgt := 8) hx hb dM_cased_89 (by decide) ?_
              exact ih (1, (y4 + 1), y3, y1, y2, o16.2.2, ((wc + o1.2.1) + o16.1), ((wn + o1.2.2.1) + o16.2.1)) _ _ ls (⟨ad20, gd21, vad22, rfl, hf, hP, hD, hS, lv_sub hl [0, 2, 3, 4, 5] rfl, hE, hN⟩)
            · rw [if_pos hc] at hf
              refine lv_iload hx hb dM_cased_63 (lv_at hl 0 rfl) ?_
              refine lv_bipush (v := 65) hx hb dM_cased_65 (by decide) ?_
              refine lv_icmp_lt (tgt := 80) hx hb dM_cased_67 (by decide) (fun hc => ?_) (fun hc => ?_)
              · rw [if_pos hc] at hf
                refine lv_aload_n hx hb dM_cased_80 rfl (lv_at hl 3 rfl) ?_
                refine lv_iload hx hb dM_cased_81 (lv_at hl 0 rfl) ?_
                obtain ⟨o16, hq17, hf⟩ := xbind hf
                obtain ⟨hm18, hf⟩ := xmoE hf
                have hFc := xm_free hD hS hA
                refine va_callv (va_runV (C := "ValueBenchModel") (As := [.int ((xba o1.2.2.2.2 3) (((xpi o1.2.2.2.2 2) (y1 - 1)) + y4).toNatClampNeg)]) (rest := []) ⟨hx, hb, hml, hown, htx⟩ (gM_letter l hl9 D cT aK aV H.size n aM ad7 rd gd8 vad9 o1.2.2.2.2 ((xba o1.2.2.2.2 3) (((xpi o1.2.2.2.2 2) (y1 - 1)) + y4).toNatClampNeg) o16 hq17) ⟨callB_of 1 htx (xw_goodC kw_6_54) rfl rfl rfl (htx _ kw_1_5) (htx _ kw_6_51) ⟨by decide, by decide, by decide +kernel⟩ ⟨Nat.le_of_ble_eq_true rfl, Nat.le_of_ble_eq_true rfl⟩, (htx _ kw_6_53), (htx _ kp_M_letter)⟩ ⟨xPre_blind, va_recv hK hP (ci := 5) rfl (q0 := 0) rfl, (fun U hU hW => ⟨rfl, xPre_of hZ hS hFc hP hD hK U hU hW⟩)⟩ rfl rfl hl.1 rfl (xm_room (Nat.le_of_ble_eq_true rfl)) dM_cased_83 ⟨hm18.1, hm18.2⟩) hS (fun q _ h => hFc q h) hFc (fun u9 t H1 locs ht hvm hr9 hB hz1 hk1 hS => ?_)
                obtain ⟨hP1, hK1, hD1⟩ := hB
                rw [ht] at hP1
                obtain ⟨ad20, gd21, vad22⟩ := u9
                obtain ⟨hv23, hn24⟩ := hr9
                have hP : va_P D xcl (xMw cT aM ad20 rd gd21 vad22 o16.2.2 []) H1 := hP1
                have hD : va_D A (xMw cT aM ad20 rd gd21 vad22 o16.2.2 []) := hD1.weaken (fun k q _ h => hFc q.1 h)
                generalize H1 = H at hP hS ⊢
                have hE9 : ∀ p, p < xct st → vad22 p = vad p := fun p h => (hv23 p (Nat.lt_of_lt_of_le h hN)).trans (hE p h)
                have hE := hE9
                have hN : xct st ≤ xct o16.2.2 := Nat.le_trans hN hn24
                have ev25 : xv vad9 y1 = xv vad22 y1 := xvE hv23 (fun h => hg14 (Or.inr h))
                have hl : lv_has ls 6 [(5, .int ((xba o1.2.2.2.2 3) (((xpi o1.2.2.2.2 2) (y1 - 1)) + y4).toNatClampNeg)), (4, .int y4), (3, .int y3), (0, .ref aM), (1, xv vad22 y1), (2, .int y2)] := by first | exact hl | ((try (rw [← ev25])); exact hl)
                refine W.eq (g2 := F0 m 86 ls []) (by first | rfl | ((try (rw [ev25])); rfl)) ?_
                refine lv_iinc (v := (y4 + 1)) (lv' := [(4, .int (y4 + 1)), (5, .int ((xba o1.2.2.2.2 3) (((xpi o1.2.2.2.2 2) (y1 - 1)) + y4).toNatClampNeg)), (3, .int y3), (0, .ref aM), (1, xv vad22 y1), (2, .int y2)]) hx hb dM_cased_86 hl (k := 1) rfl rfl (by decide) rfl (fun ls hl => ?_)
                refine lv_goto (tgt := 8) hx hb dM_cased_89 (by decide) ?_
                exact ih (1, (y4 + 1), y3, y1, y2, o16.2.2, ((wc + o1.2.1) + o16.1), ((wn + o1.2.2.1) + o16.2.1)) _ _ ls (⟨ad20, gd21, vad22, rfl, hf, hP, hD, hS, lv_sub hl [0, 2, 3, 4, 5] rfl, hE, hN⟩)
              · rw [if_neg hc] at hf
                refine lv_iload hx hb dM_cased_70 (lv_at hl 0 rfl) ?_
                refine lv_bipush (v := 90) hx hb dM_cased_72 (by decide) ?_
                refine lv_icmp_gt (tgt := 80) hx hb dM_cased_74 (by decide) (fun hc => ?_) (fun hc => ?_)
                · rw [if_pos hc] at hf
                  refine lv_aload_n hx hb dM_cased_80 rfl (lv_at hl 3 rfl) ?_
                  refine lv_iload hx hb dM_cased_81 (lv_at hl 0 rfl) ?_
                  obtain ⟨o16, hq17, hf⟩ := xbind hf
                  obtain ⟨hm18, hf⟩ := xmoE hf
                  have hFc := xm_free hD hS hA
                  refine va_callv (va_runV (C := "ValueBenchModel") (As := [.int ((xba o1.2.2.2.2 3) (((xpi o1.2.2.2.2 2) (y1 - 1)) + y4).toNatClampNeg)]) (rest := []) ⟨hx, hb, hml, hown, htx⟩ (gM_letter l hl9 D cT aK aV H.size n aM ad7 rd gd8 vad9 o1.2.2.2.2 ((xba o1.2.2.2.2 3) (((xpi o1.2.2.2.2 2) (y1 - 1)) + y4).toNatClampNeg) o16 hq17) ⟨callB_of 1 htx (xw_goodC kw_6_54) rfl rfl rfl (htx _ kw_1_5) (htx _ kw_6_51) ⟨by decide, by decide, by decide +kernel⟩ ⟨Nat.le_of_ble_eq_true rfl, Nat.le_of_ble_eq_true rfl⟩, (htx _ kw_6_53), (htx _ kp_M_letter)⟩ ⟨xPre_blind, va_recv hK hP (ci := 5) rfl (q0 := 0) rfl, (fun U hU hW => ⟨rfl, xPre_of hZ hS hFc hP hD hK U hU hW⟩)⟩ rfl rfl hl.1 rfl (xm_room (Nat.le_of_ble_eq_true rfl)) dM_cased_83 ⟨hm18.1, hm18.2⟩) hS (fun q _ h => hFc q h) hFc (fun u9 t H1 locs ht hvm hr9 hB hz1 hk1 hS => ?_)
                  obtain ⟨hP1, hK1, hD1⟩ := hB
                  rw [ht] at hP1
                  obtain ⟨ad20, gd21, vad22⟩ := u9
                  obtain ⟨hv23, hn24⟩ := hr9
                  have hP : va_P D xcl (xMw cT aM ad20 rd gd21 vad22 o16.2.2 []) H1 := hP1
                  have hD : va_D A (xMw cT aM ad20 rd gd21 vad22 o16.2.2 []) := hD1.weaken (fun k q _ h => hFc q.1 h)
                  generalize H1 = H at hP hS ⊢
                  have hE9 : ∀ p, p < xct st → vad22 p = vad p := fun p h => (hv23 p (Nat.lt_of_lt_of_le h hN)).trans (hE p h)
                  have hE := hE9
                  have hN : xct st ≤ xct o16.2.2 := Nat.le_trans hN hn24
                  have ev25 : xv vad9 y1 = xv vad22 y1 := xvE hv23 (fun h => hg14 (Or.inr h))
                  have hl : lv_has ls 6 [(5, .int ((xba o1.2.2.2.2 3) (((xpi o1.2.2.2.2 2) (y1 - 1)) + y4).toNatClampNeg)), (4, .int y4), (3, .int y3), (0, .ref aM), (1, xv vad22 y1), (2, .int y2)] := by first | exact hl | ((try (rw [← ev25])); exact hl)
                  refine W.eq (g2 := F0 m 86 ls []) (by first | rfl | ((try (rw [ev25])); rfl)) ?_
                  refine lv_iinc (v := (y4 + 1)) (lv' := [(4, .int (y4 + 1)), (5, .int ((xba o1.2.2.2.2 3) (((xpi o1.2.2.2.2 2) (y1 - 1)) + y4).toNatClampNeg)), (3, .int y3), (0, .ref aM), (1, xv vad22 y1), (2, .int y2)]) hx hb dM_cased_86 hl (k := 1) rfl rfl (by decide) rfl (fun ls hl => ?_)
                  refine lv_goto (tgt := 8) hx hb dM_cased_89 (by decide) ?_
                  exact ih (1, (y4 + 1), y3, y1, y2, o16.2.2, ((wc + o1.2.1) + o16.1), ((wn + o1.2.2.1) + o16.2.1)) _ _ ls (⟨ad20, gd21, vad22, rfl, hf, hP, hD, hS, lv_sub hl [0, 2, 3, 4, 5] rfl, hE, hN⟩)
                · rw [if_neg hc] at hf
                  refine lv_iinc (v := (((xba o1.2.2.2.2 3) (((xpi o1.2.2.2.2 2) (y1 - 1)) + y4).toNatClampNeg) + 32)) (lv' := [(5, .int (((xba o1.2.2.2.2 3) (((xpi o1.2.2.2.2 2) (y1 - 1)) + y4).toNatClampNeg) + 32)), (4, .int y4), (3, .int y3), (0, .ref aM), (1, xv vad9 y1), (2, .int y2)]) hx hb dM_cased_77 hl (k := 0) rfl rfl (by decide) rfl (fun ls hl => ?_)
                  refine lv_aload_n hx hb dM_cased_80 rfl (lv_at hl 3 rfl) ?_
                  refine lv_iload hx hb dM_cased_81 (lv_at hl 0 rfl) ?_
                  obtain ⟨o16, hq17, hf⟩ := xbind hf
                  obtain ⟨hm18, hf⟩ := xmoE hf
                  have hFc := xm_free hD hS hA
                  refine va_callv (va_runV (C := "ValueBenchModel") (As := [.int (((xba o1.2.2.2.2 3) (((xpi o1.2.2.2.2 2) (y1 - 1)) + y4).toNatClampNeg) + 32)]) (rest := []) ⟨hx, hb, hml, hown, htx⟩ (gM_letter l hl9 D cT aK aV H.size n aM ad7 rd gd8 vad9 o1.2.2.2.2 (((xba o1.2.2.2.2 3) (((xpi o1.2.2.2.2 2) (y1 - 1)) + y4).toNatClampNeg) + 32) o16 hq17) ⟨callB_of 1 htx (xw_goodC kw_6_54) rfl rfl rfl (htx _ kw_1_5) (htx _ kw_6_51) ⟨by decide, by decide, by decide +kernel⟩ ⟨Nat.le_of_ble_eq_true rfl, Nat.le_of_ble_eq_true rfl⟩, (htx _ kw_6_53), (htx _ kp_M_letter)⟩ ⟨xPre_blind, va_recv hK hP (ci := 5) rfl (q0 := 0) rfl, (fun U hU hW => ⟨rfl, xPre_of hZ hS hFc hP hD hK U hU hW⟩)⟩ rfl rfl hl.1 rfl (xm_room (Nat.le_of_ble_eq_true rfl)) dM_cased_83 ⟨hm18.1, hm18.2⟩) hS (fun q _ h => hFc q h) hFc (fun u9 t H1 locs ht hvm hr9 hB hz1 hk1 hS => ?_)
                  obtain ⟨hP1, hK1, hD1⟩ := hB
                  rw [ht] at hP1
                  obtain ⟨ad20, gd21, vad22⟩ := u9
                  obtain ⟨hv23, hn24⟩ := hr9
                  have hP : va_P D xcl (xMw cT aM ad20 rd gd21 vad22 o16.2.2 []) H1 := hP1
                  have hD : va_D A (xMw cT aM ad20 rd gd21 vad22 o16.2.2 []) := hD1.weaken (fun k q _ h => hFc q.1 h)
                  generalize H1 = H at hP hS ⊢
                  have hE9 : ∀ p, p < xct st → vad22 p = vad p := fun p h => (hv23 p (Nat.lt_of_lt_of_le h hN)).trans (hE p h)
                  have hE := hE9
                  have hN : xct st ≤ xct o16.2.2 := Nat.le_trans hN hn24
                  have ev25 : xv vad9 y1 = xv vad22 y1 := xvE hv23 (fun h => hg14 (Or.inr h))
                  have hl : lv_has ls 6 [(5, .int (((xba o1.2.2.2.2 3) (((xpi o1.2.2.2.2 2) (y1 - 1)) + y4).toNatClampNeg) + 32)), (4, .int y4), (3, .int y3), (0, .ref aM), (1, xv vad22 y1), (2, .int y2)] := by first | exact hl | ((try (rw [← ev25])); exact hl)
                  refine W.eq (g2 := F0 m 86 ls []) (by first | rfl | ((try (rw [ev25])); rfl)) ?_
                  refine lv_iinc (v := (y4 + 1)) (lv' := [(4, .int (y4 + 1)), (5, .int (((xba o1.2.2.2.2 3) (((xpi o1.2.2.2.2 2) (y1 - 1)) + y4).toNatClampNeg) + 32)), (3, .int y3), (0, .ref aM), (1, xv vad22 y1), (2, .int y2)]) hx hb dM_cased_86 hl (k := 1) rfl rfl (by decide) rfl (fun ls hl => ?_)
                  refine lv_goto (tgt := 8) hx hb dM_cased_89 (by decide) ?_
                  exact ih (1, (y4 + 1), y3, y1, y2, o16.2.2, ((wc + o1.2.1) + o16.1), ((wn + o1.2.2.1) + o16.2.1)) _ _ ls (⟨ad20, gd21, vad22, rfl, hf, hP, hD, hS, lv_sub hl [0, 2, 3, 4, 5] rfl, hE, hN⟩)
          · rw [if_neg hc] at hf
            refine lv_iload hx hb dM_cased_46 (lv_at hl 0 rfl) ?_
            refine lv_bipush (v := 122) hx hb dM_cased_48 (by decide) ?_
            refine lv_icmp_gt (tgt := 59) hx hb dM_cased_50 (by decide) (fun hc => ?_) (fun hc => ?_)
            · rw [if_pos hc] at hf
              refine lv_iload_n hx hb dM_cased_59 rfl (lv_at hl 5 rfl) ?_
              refine lv_if_ne (tgt := 80) hx hb dM_cased_60 (by decide) (fun hc => ?_) (fun hc => ?_)
              · rw [if_neg hc] at hf
                refine lv_aload_n hx hb dM_cased_80 rfl (lv_at hl 3 rfl) ?_
                refine lv_iload hx hb dM_cased_81 (lv_at hl 0 rfl) ?_
                obtain ⟨o16, hq17, hf⟩ := xbind hf
                obtain ⟨hm18, hf⟩ := xmoE hf
                have hFc := xm_free hD hS hA
                refine va_callv (va_runV (C := "ValueBenchModel") (As := [.int ((xba o1.2.2.2.2 3) (((xpi o1.2.2.2.2 2) (y1 - 1)) + y4).toNatClampNeg)]) (rest := []) ⟨hx, hb, hml, hown, htx⟩ (gM_letter l hl9 D cT aK aV H.size n aM ad7 rd gd8 vad9 o1.2.2.2.2 ((xba o1.2.2.2.2 3) (((xpi o1.2.2.2.2 2) (y1 - 1)) + y4).toNatClampNeg) o16 hq17) ⟨callB_of 1 htx (xw_goodC kw_6_54) rfl rfl rfl (htx _ kw_1_5) (htx _ kw_6_51) ⟨by decide, by decide, by decide +kernel⟩ ⟨Nat.le_of_ble_eq_true rfl, Nat.le_of_ble_eq_true rfl⟩, (htx _ kw_6_53), (htx _ kp_M_letter)⟩ ⟨xPre_blind, va_recv hK hP (ci := 5) rfl (q0 := 0) rfl, (fun U hU hW => ⟨rfl, xPre_of hZ hS hFc hP hD hK U hU hW⟩)⟩ rfl rfl hl.1 rfl (xm_room (Nat.le_of_ble_eq_true rfl)) dM_cased_83 ⟨hm18.1, hm18.2⟩) hS (fun q _ h => hFc q h) hFc (fun u9 t H1 locs ht hvm hr9 hB hz1 hk1 hS => ?_)
                obtain ⟨hP1, hK1, hD1⟩ := hB
                rw [ht] at hP1
                obtain ⟨ad20, gd21, vad22⟩ := u9
                obtain ⟨hv23, hn24⟩ := hr9
                have hP : va_P D xcl (xMw cT aM ad20 rd gd21 vad22 o16.2.2 []) H1 := hP1
                have hD : va_D A (xMw cT aM ad20 rd gd21 vad22 o16.2.2 []) := hD1.weaken (fun k q _ h => hFc q.1 h)
                generalize H1 = H at hP hS ⊢
                have hE9 : ∀ p, p < xct st → vad22 p = vad p := fun p h => (hv23 p (Nat.lt_of_lt_of_le h hN)).trans (hE p h)
                have hE := hE9
                have hN : xct st ≤ xct o16.2.2 := Nat.le_trans hN hn24
                have ev25 : xv vad9 y1 = xv vad22 y1 := xvE hv23 (fun h => hg14 (Or.inr h))
                have hl : lv_has ls 6 [(5, .int ((xba o1.2.2.2.2 3) (((xpi o1.2.2.2.2 2) (y1 - 1)) + y4).toNatClampNeg)), (4, .int y4), (3, .int y3), (0, .ref aM), (1, xv vad22 y1), (2, .int y2)] := by first | exact hl | ((try (rw [← ev25])); exact hl)
                refine W.eq (g2 := F0 m 86 ls []) (by first | rfl | ((try (rw [ev25])); rfl)) ?_
                refine lv_iinc (v := (y4 + 1)) (lv' := [(4, .int (y4 + 1)), (5, .int ((xba o1.2.2.2.2 3) (((xpi o1.2.2.2.2 2) (y1 - 1)) + y4).toNatClampNeg)), (3, .int y3), (0, .ref aM), (1, xv vad22 y1), (2, .int y2)]) hx hb dM_cased_86 hl (k := 1) rfl rfl (by decide) rfl (fun ls hl => ?_)
                refine lv_goto (tgt := 8) hx hb dM_cased_89 (by decide) ?_
                exact ih (1, (y4 + 1), y3, y1, y2, o16.2.2, ((wc + o1.2.1) + o16.1), ((wn + o1.2.2.1) + o16.2.1)) _ _ ls (⟨ad20, gd21, vad22, rfl, hf, hP, hD, hS, lv_sub hl [0, 2, 3, 4, 5] rfl, hE, hN⟩)
              · rw [if_pos hc] at hf
                refine lv_iload hx hb dM_cased_63 (lv_at hl 0 rfl) ?_
                refine lv_bipush (v := 65) hx hb dM_cased_65 (by decide) ?_
                refine lv_icmp_lt (tgt := 80) hx hb dM_cased_67 (by decide) (fun hc => ?_) (fun hc => ?_)
                · rw [if_pos hc] at hf
                  refine lv_aload_n hx hb dM_cased_80 rfl (lv_at hl 3 rfl) ?_
                  refine lv_iload hx hb dM_cased_81 (lv_at hl 0 rfl) ?_
                  obtain ⟨o16, hq17, hf⟩ := xbind hf
                  obtain ⟨hm18, hf⟩ := xmoE hf
                  have hFc := xm_free hD hS hA
                  refine va_callv (va_runV (C := "ValueBenchModel") (As := [.int ((xba o1.2.2.2.2 3) (((xpi o1.2.2.2.2 2) (y1 - 1)) + y4).toNatClampNeg)]) (rest := []) ⟨hx, hb, hml, hown, htx⟩ (gM_letter l hl9 D cT aK aV H.size n aM ad7 rd gd8 vad9 o1.2.2.2.2 ((xba o1.2.2.2.2 3) (((xpi o1.2.2.2.2 2) (y1 - 1)) + y4).toNatClampNeg) o16 hq17) ⟨callB_of 1 htx (xw_goodC kw_6_54) rfl rfl rfl (htx _ kw_1_5) (htx _ kw_6_51) ⟨by decide, by decide, by decide +kernel⟩ ⟨Nat.le_of_ble_eq_true rfl, Nat.le_of_ble_eq_true rfl⟩, (htx _ kw_6_53), (htx _ kp_M_letter)⟩ ⟨xPre_blind, va_recv hK hP (ci := 5) rfl (q0 := 0) rfl, (fun U hU hW => ⟨rfl, xPre_of hZ hS hFc hP hD hK U hU hW⟩)⟩ rfl rfl hl.1 rfl (xm_room (Nat.le_of_ble_eq_true rfl)) dM_cased_83 ⟨hm18.1, hm18.2⟩) hS (fun q _ h => hFc q h) hFc (fun u9 t H1 locs ht hvm hr9 hB hz1 hk1 hS => ?_)
                  obtain ⟨hP1, hK1, hD1⟩ := hB
                  rw [ht] at hP1
                  obtain ⟨ad20, gd21, vad22⟩ := u9
                  obtain ⟨hv23, hn24⟩ := hr9
                  have hP : va_P D xcl (xMw cT aM ad20 rd gd21 vad22 o16.2.2 []) H1 := hP1
                  have hD : va_D A (xMw cT aM ad20 rd gd21 vad22 o16.2.2 []) := hD1.weaken (fun k q _ h => hFc q.1 h)
                  generalize H1 = H at hP hS ⊢
                  have hE9 : ∀ p, p < xct st → vad22 p = vad p := fun p h => (hv23 p (Nat.lt_of_lt_of_le h hN)).trans (hE p h)
                  have hE := hE9
                  have hN : xct st ≤ xct o16.2.2 := Nat.le_trans hN hn24
                  have ev25 : xv vad9 y1 = xv vad22 y1 := xvE hv23 (fun h => hg14 (Or.inr h))
                  have hl : lv_has ls 6 [(5, .int ((xba o1.2.2.2.2 3) (((xpi o1.2.2.2.2 2) (y1 - 1)) + y4).toNatClampNeg)), (4, .int y4), (3, .int y3), (0, .ref aM), (1, xv vad22 y1), (2, .int y2)] := by first | exact hl | ((try (rw [← ev25])); exact hl)
                  refine W.eq (g2 := F0 m 86 ls []) (by first | rfl | ((try (rw [ev25])); rfl)) ?_
                  refine lv_iinc (v := (y4 + 1)) (lv' := [(4, .int (y4 + 1)), (5, .int ((xba o1.2.2.2.2 3) (((xpi o1.2.2.2.2 2) (y1 - 1)) + y4).toNatClampNeg)), (3, .int y3), (0, .ref aM), (1, xv vad22 y1), (2, .int y2)]) hx hb dM_cased_86 hl (k := 1) rfl rfl (by decide) rfl (fun ls hl => ?_)
                  refine lv_goto (tgt := 8) hx hb dM_cased_89 (by decide) ?_
                  exact ih (1, (y4 + 1), y3, y1, y2, o16.2.2, ((wc + o1.2.1) + o16.1), ((wn + o1.2.2.1) + o16.2.1)) _ _ ls (⟨ad20, gd21, vad22, rfl, hf, hP, hD, hS, lv_sub hl [0, 2, 3, 4, 5] rfl, hE, hN⟩)
                · rw [if_neg hc] at hf
                  refine lv_iload hx hb dM_cased_70 (lv_at hl 0 rfl) ?_
                  refine lv_bipush (v := 90) hx hb dM_cased_72 (by decide) ?_
                  refine lv_icmp_gt (tgt := 80) hx hb dM_cased_74 (by decide) (fun hc => ?_) (fun hc => ?_)
                  · rw [if_pos hc] at hf
                    refine lv_aload_n hx hb dM_cased_80 rfl (lv_at hl 3 rfl) ?_
                    refine lv_iload hx hb dM_cased_81 (lv_at hl 0 rfl) ?_
                    obtain ⟨o16, hq17, hf⟩ := xbind hf
                    obtain ⟨hm18, hf⟩ := xmoE hf
                    have hFc := xm_free hD hS hA
                    refine va_callv (va_runV (C := "ValueBenchModel") (As := [.int ((xba o1.2.2.2.2 3) (((xpi o1.2.2.2.2 2) (y1 - 1)) + y4).toNatClampNeg)]) (rest := []) ⟨hx, hb, hml, hown, htx⟩ (gM_letter l hl9 D cT aK aV H.size n aM ad7 rd gd8 vad9 o1.2.2.2.2 ((xba o1.2.2.2.2 3) (((xpi o1.2.2.2.2 2) (y1 - 1)) + y4).toNatClampNeg) o16 hq17) ⟨callB_of 1 htx (xw_goodC kw_6_54) rfl rfl rfl (htx _ kw_1_5) (htx _ kw_6_51) ⟨by decide, by decide, by decide +kernel⟩ ⟨Nat.le_of_ble_eq_true rfl, Nat.le_of_ble_eq_true rfl⟩, (htx _ kw_6_53), (htx _ kp_M_letter)⟩ ⟨xPre_blind, va_recv hK hP (ci := 5) rfl (q0 := 0) rfl, (fun U hU hW => ⟨rfl, xPre_of hZ hS hFc hP hD hK U hU hW⟩)⟩ rfl rfl hl.1 rfl (xm_room (Nat.le_of_ble_eq_true rfl)) dM_cased_83 ⟨hm18.1, hm18.2⟩) hS (fun q _ h => hFc q h) hFc (fun u9 t H1 locs ht hvm hr9 hB hz1 hk1 hS => ?_)
                    obtain ⟨hP1, hK1, hD1⟩ := hB
                    rw [ht] at hP1
                    obtain ⟨ad20, gd21, vad22⟩ := u9
                    obtain ⟨hv23, hn24⟩ := hr9
                    have hP : va_P D xcl (xMw cT aM ad20 rd gd21 vad22 o16.2.2 []) H1 := hP1
                    have hD : va_D A (xMw cT aM ad20 rd gd21 vad22 o16.2.2 []) := hD1.weaken (fun k q _ h => hFc q.1 h)
                    generalize H1 = H at hP hS ⊢
                    have hE9 : ∀ p, p < xct st → vad22 p = vad p := fun p h => (hv23 p (Nat.lt_of_lt_of_le h hN)).trans (hE p h)
                    have hE := hE9
                    have hN : xct st ≤ xct o16.2.2 := Nat.le_trans hN hn24
                    have ev25 : xv vad9 y1 = xv vad22 y1 := xvE hv23 (fun h => hg14 (Or.inr h))
                    have hl : lv_has ls 6 [(5, .int ((xba o1.2.2.2.2 3) (((xpi o1.2.2.2.2 2) (y1 - 1)) + y4).toNatClampNeg)), (4, .int y4), (3, .int y3), (0, .ref aM), (1, xv vad22 y1), (2, .int y2)] := by first | exact hl | ((try (rw [← ev25])); exact hl)
                    refine W.eq (g2 := F0 m 86 ls []) (by first | rfl | ((try (rw [ev25])); rfl)) ?_
                    refine lv_iinc (v := (y4 + 1)) (lv' := [(4, .int (y4 + 1)), (5, .int ((xba o1.2.2.2.2 3) (((xpi o1.2.2.2.2 2) (y1 - 1)) + y4).toNatClampNeg)), (3, .int y3), (0, .ref aM), (1, xv vad22 y1), (2, .int y2)]) hx hb dM_cased_86 hl (k := 1) rfl rfl (by decide) rfl (fun ls hl => ?_)
                    refine lv_goto (tgt := 8) hx hb dM_cased_89 (by decide) ?_
                    exact ih (1, (y4 + 1), y3, y1, y2, o16.2.2, ((wc + o1.2.1) + o16.1), ((wn + o1.2.2.1) + o16.2.1)) _ _ ls (⟨ad20, gd21, vad22, rfl, hf, hP, hD, hS, lv_sub hl [0, 2, 3, 4, 5] rfl, hE, hN⟩)
                  · rw [if_neg hc] at hf
                    refine lv_iinc (v := (((xba o1.2.2.2.2 3) (((xpi o1.2.2.2.2 2) (y1 - 1)) + y4).toNatClampNeg) + 32)) (lv' := [(5, .int (((xba o1.2.2.2.2 3) (((xpi o1.2.2.2.2 2) (y1 - 1)) + y4).toNatClampNeg) + 32)), (4, .int y4), (3, .int y3), (0, .ref aM), (1, xv vad9 y1), (2, .int y2)]) hx hb dM_cased_77 hl (k := 0) rfl rfl (by decide) rfl (fun ls hl => ?_)
                    refine lv_aload_n hx hb dM_cased_80 rfl (lv_at hl 3 rfl) ?_
                    refine lv_iload hx hb dM_cased_81 (lv_at hl 0 rfl) ?_
                    obtain ⟨o16, hq17, hf⟩ := xbind hf
                    obtain ⟨hm18, hf⟩ := xmoE hf
                    have hFc := xm_free hD hS hA
                    refine va_callv (va_runV (C := "ValueBenchModel") (As := [.int (((xba o1.2.2.2.2 3) (((xpi o1.2.2.2.2 2) (y1 - 1)) + y4).toNatClampNeg) + 32)]) (rest := []) ⟨hx, hb, hml, hown, htx⟩ (gM_letter l hl9 D cT aK aV H.size n aM ad7 rd gd8 vad9 o1.2.2.2.2 (((xba o1.2.2.2.2 3) (((xpi o1.2.2.2.2 2) (y1 - 1)) + y4).toNatClampNeg) + 32) o16 hq17) ⟨callB_of 1 htx (xw_goodC kw_6_54) rfl rfl rfl (htx _ kw_1_5) (htx _ kw_6_51) ⟨by decide, by decide, by decide +kernel⟩ ⟨Nat.le_of_ble_eq_true rfl, Nat.le_of_ble_eq_true rfl⟩, (htx _ kw_6_53), (htx _ kp_M_letter)⟩ ⟨xPre_blind, va_recv hK hP (ci := 5) rfl (q0 := 0) rfl, (fun U hU hW => ⟨rfl, xPre_of hZ hS hFc hP hD hK U hU hW⟩)⟩ rfl rfl hl.1 rfl (xm_room (Nat.le_of_ble_eq_true rfl)) dM_cased_83 ⟨hm18.1, hm18.2⟩) hS (fun q _ h => hFc q h) hFc (fun u9 t H1 locs ht hvm hr9 hB hz1 hk1 hS => ?_)
                    obtain ⟨hP1, hK1, hD1⟩ := hB
                    rw [ht] at hP1
                    obtain ⟨ad20, gd21, vad22⟩ := u9
                    obtain ⟨hv23, hn24⟩ := hr9
                    have hP : va_P D xcl (xMw cT aM ad20 rd gd21 vad22 o16.2.2 []) H1 := hP1
                    have hD : va_D A (xMw cT aM ad20 rd gd21 vad22 o16.2.2 []) := hD1.weaken (fun k q _ h => hFc q.1 h)
                    generalize H1 = H at hP hS ⊢
                    have hE9 : ∀ p, p < xct st → vad22 p = vad p := fun p h => (hv23 p (Nat.lt_of_lt_of_le h hN)).trans (hE p h)
                    have hE := hE9
                    have hN : xct st ≤ xct o16.2.2 := Nat.le_trans hN hn24
                    have ev25 : xv vad9 y1 = xv vad22 y1 := xvE hv23 (fun h => hg14 (Or.inr h))
                    have hl : lv_has ls 6 [(5, .int (((xba o1.2.2.2.2 3) (((xpi o1.2.2.2.2 2) (y1 - 1)) + y4).toNatClampNeg) + 32)), (4, .int y4), (3, .int y3), (0, .ref aM), (1, xv vad22 y1), (2, .int y2)] := by first | exact hl | ((try (rw [← ev25])); exact hl)
                    refine W.eq (g2 := F0 m 86 ls []) (by first | rfl | ((try (rw [ev25])); rfl)) ?_
                    refine lv_iinc (v := (y4 + 1)) (lv' := [(4, .int (y4 + 1)), (5, .int (((xba o1.2.2.2.2 3) (((xpi o1.2.2.2.2 2) (y1 - 1)) + y4).toNatClampNeg) + 32)), (3, .int y3), (0, .ref aM), (1, xv vad22 y1), (2, .int y2)]) hx hb dM_cased_86 hl (k := 1) rfl rfl (by decide) rfl (fun ls hl => ?_)
                    refine lv_goto (tgt := 8) hx hb dM_cased_89 (by decide) ?_
                    exact ih (1, (y4 + 1), y3, y1, y2, o16.2.2, ((wc + o1.2.1) + o16.1), ((wn + o1.2.2.1) + o16.2.1)) _ _ ls (⟨ad20, gd21, vad22, rfl, hf, hP, hD, hS, lv_sub hl [0, 2, 3, 4, 5] rfl, hE, hN⟩)
            · rw [if_neg hc] at hf
              refine lv_iinc (v := (((xba o1.2.2.2.2 3) (((xpi o1.2.2.2.2 2) (y1 - 1)) + y4).toNatClampNeg) + (-32))) (lv' := [(5, .int (((xba o1.2.2.2.2 3) (((xpi o1.2.2.2.2 2) (y1 - 1)) + y4).toNatClampNeg) + (-32))), (4, .int y4), (3, .int y3), (0, .ref aM), (1, xv vad9 y1), (2, .int y2)]) hx hb dM_cased_53 hl (k := 0) rfl rfl (by decide) rfl (fun ls hl => ?_)
              refine lv_goto (tgt := 80) hx hb dM_cased_56 (by decide) ?_
              refine lv_aload_n hx hb dM_cased_80 rfl (lv_at hl 3 rfl) ?_
              refine lv_iload hx hb dM_cased_81 (lv_at hl 0 rfl) ?_
              obtain ⟨o16, hq17, hf⟩ := xbind hf
              obtain ⟨hm18, hf⟩ := xmoE hf
              have hFc := xm_free hD hS hA
              refine va_callv (va_runV (C := "ValueBenchModel") (As := [.int (((xba o1.2.2.2.2 3) (((xpi o1.2.2.2.2 2) (y1 - 1)) + y4).toNatClampNeg) + (-32))]) (rest := []) ⟨hx, hb, hml, hown, htx⟩ (gM_letter l hl9 D cT aK aV H.size n aM ad7 rd gd8 vad9 o1.2.2.2.2 (((xba o1.2.2.2.2 3) (((xpi o1.2.2.2.2 2) (y1 - 1)) + y4).toNatClampNeg) + (-32)) o16 hq17) ⟨callB_of 1 htx (xw_goodC kw_6_54) rfl rfl rfl (htx _ kw_1_5) (htx _ kw_6_51) ⟨by decide, by decide, by decide +kernel⟩ ⟨Nat.le_of_ble_eq_true rfl, Nat.le_of_ble_eq_true rfl⟩, (htx _ kw_6_53), (htx _ kp_M_letter)⟩ ⟨xPre_blind, va_recv hK hP (ci := 5) rfl (q0 := 0) rfl, (fun U hU hW => ⟨rfl, xPre_of hZ hS hFc hP hD hK U hU hW⟩)⟩ rfl rfl hl.1 rfl (xm_room (Nat.le_of_ble_eq_true rfl)) dM_cased_83 ⟨hm18.1, hm18.2⟩) hS (fun q _ h => hFc q h) hFc (fun u9 t H1 locs ht hvm hr9 hB hz1 hk1 hS => ?_)
              obtain ⟨hP1, hK1, hD1⟩ := hB
              rw [ht] at hP1
              obtain ⟨ad20, gd21, vad22⟩ := u9
              obtain ⟨hv23, hn24⟩ := hr9
              have hP : va_P D xcl (xMw cT aM ad20 rd gd21 vad22 o16.2.2 []) H1 := hP1
              have hD : va_D A (xMw cT aM ad20 rd gd21 vad22 o16.2.2 []) := hD1.weaken (fun k q _ h => hFc q.1 h)
              generalize H1 = H at hP hS ⊢
              have hE9 : ∀ p, p < xct st → vad22 p = vad p := fun p h => (hv23 p (Nat.lt_of_lt_of_le h hN)).trans (hE p h)
              have hE := hE9
              have hN : xct st ≤ xct o16.2.2 := Nat.le_trans hN hn24
              have ev25 : xv vad9 y1 = xv vad22 y1 := xvE hv23 (fun h => hg14 (Or.inr h))
              have hl : lv_has ls 6 [(5, .int (((xba o1.2.2.2.2 3) (((xpi o1.2.2.2.2 2) (y1 - 1)) + y4).toNatClampNeg) + (-32))), (4, .int y4), (3, .int y3), (0, .ref aM), (1, xv vad22 y1), (2, .int y2)] := by first | exact hl | ((try (rw [← ev25])); exact hl)
              refine W.eq (g2 := F0 m 86 ls []) (by first | rfl | ((try (rw [ev25])); rfl)) ?_
              refine lv_iinc (v := (y4 + 1)) (lv' := [(4, .int (y4 + 1)), (5, .int (((xba o1.2.2.2.2 3) (((xpi o1.2.2.2.2 2) (y1 - 1)) + y4).toNatClampNeg) + (-32))), (3, .int y3), (0, .ref aM), (1, xv vad22 y1), (2, .int y2)]) hx hb dM_cased_86 hl (k := 1) rfl rfl (by decide) rfl (fun ls hl => ?_)
              refine lv_goto (tgt := 8) hx hb dM_cased_89 (by decide) ?_
              exact ih (1, (y4 + 1), y3, y1, y2, o16.2.2, ((wc + o1.2.1) + o16.1), ((wn + o1.2.2.1) + o16.2.1)) _ _ ls (⟨ad20, gd21, vad22, rfl, hf, hP, hD, hS, lv_sub hl [0, 2, 3, 4, 5] rfl, hE, hN⟩)
    rw [if_neg hk3] at hf
    by_cases hk14 : o1.1 = 1
    · rw [if_pos hk14] at hf
      obtain ⟨hg15, hf⟩ := xifn hf
      obtain ⟨hm16, hf⟩ := xmoE hf
      obtain rfl := Option.some.inj hf
      exact absurd (show (2 : Nat) = 1 from hkd) (by decide)
    rw [if_neg hk14] at hf
    exact nomatch hf
  refine lv_aload_n hx hb dM_cased_0 rfl (lv_at hl 0 rfl) ?_
  refine xm_get (v := .int (xsi st 4)) hx hb htx hown hK hP 4 (by decide) rfl (htx _ kw_5_91) rfl dM_cased_1 ?_
  refine lv_istore_n (lv' := [(3, .int (xsi st 4)), (0, .ref aM), (1, xv vad c0), (2, .int x1)]) hx hb dM_cased_4 rfl hl (by decide) rfl (fun ls hl => ?_)
  refine lv_iconst (v := 0) hx hb dM_cased_5 (by decide) ?_
  refine lv_istore (lv' := [(4, .int 0), (3, .int (xsi st 4)), (0, .ref aM), (1, xv vad c0), (2, .int x1)]) hx hb dM_cased_6 hl (by decide) rfl (fun ls hl => ?_)
  exact key n (1, (0 : Int32), (xsi st 4), c0, x1, st, 0, 0) _ _ ls (⟨ad, gd, vad, rfl, hf, hP, hD, hS, lv_sub hl [0, 1, 2, 3, 4] rfl, hE, hN⟩)
set_option maxHeartbeats 400000000 in
set_option maxRecDepth 100000 in
theorem gM_cased_2 (l : Launch) (hl9 : l.stackTraces = false) (D : va_G) (cT : Nat → ClassId) (aK aV : Nat → Nat) (sz n : Nat) (aM : Nat) (ad rd gd vad : Nat → Nat) (st : xS) (c0 : Nat) (x1 : Int32) (out : Nat × Nat × Nat × Nat × xS) (hf : fM_cased n st c0 x1 = some out) (hkd : out.1 = 2) : xMetY l yM_cased wyM_cased 8 out.2.1 out.2.2.1 142 D cT aK aV sz [.ref aM, xv vad c0, .int x1] (xMw cT aM ad rd gd vad st []) "java/lang/ArithmeticException" (fun u => xE vad st out.2.2.2.2 u) (fun A u t => xB D xcl cT A (xMw cT aM u.1 rd u.2.1 u.2.2 out.2.2.2.2 []) t) := by
  refine vx_ofW (cc := prog_13_method_64_code) (maxL := 6) (ret := (some (.object "ValueBenchModel$V"))) (by decide) rfl ?_
  intro p e s m args below meth c s₁ B hml hne hv
  obtain ⟨rfl, hsz, hZ, hP, hK, hD0⟩ := hv
  have hx := B.exec
  have hb := B.bytes
  have hr := B.returns
  have hts := atoms_spec (ws := wyM_cased) B.pre
  have htx := fun w h => hts w (List.mem_cons_of_mem _ h)
  have hown : s.vm.findClass "ValueBenchModel" = some m.cls := findClass_of_methodNamed B.named
  have hlocks := B.notSynchronized
  subst hsz
  have hD := hD0.self (sz := s.heap.size)
  generalize hAe : va_A (xMw cT aM ad rd gd vad st []) s.heap.size = A at hD hZ ⊢
  have hA : ∀ q : Nat, s.heap.size ≤ q → A q := fun q h => by rw [← hAe]; exact Or.inr h
  have hS : va_S A s.heap s.heap [] := va_S.rf
  have hl := lv_entry ([.ref aM, xv vad c0, .int x1]) (n := 6) (by simp [lg_sl, xvcat, xrscat, xcI, xcL, xcR, xcN])
  rw [show lv_args 0 [.ref aM, xv vad c0, .int x1] = [(0, .ref aM), (1, xv vad c0), (2, .int x1)] from by simp [lv_args, xvcat, xrscat, xcI, xcL, xcR, xcN]] at hl
  rw [lg_entry_eq]
  generalize (lg_sl ([.ref aM, xv vad c0, .int x1]) ++ List.replicate (6 - (lg_sl ([.ref aM, xv vad c0, .int x1])).length) Slot.unset).toArray = ls at hl ⊢
  have hl : lv_has ls 6 [(0, .ref aM), (1, xv vad c0), (2, .int x1)] := hl
  have hE : ∀ p, p < xct st → vad p = vad p := fun _ _ => rfl
  have hN : xct st ≤ xct st := Nat.le_refl _
  unfold fM_cased at hf
  refine xloopM (σ := Nat × Int32 × Int32 × Nat × Int32 × xS × Nat × Nat) (fun n x H locs ls => (∃ (adL gdL vadL : Nat → Nat), x.1 = 1 ∧ fM_cased_b n x.1 x.2.1 x.2.2.1 x.2.2.2.1 x.2.2.2.2.1 x.2.2.2.2.2.1 x.2.2.2.2.2.2.1 x.2.2.2.2.2.2.2 = some out ∧ va_P D xcl (xMw cT aM adL rd gdL vadL x.2.2.2.2.2.1 []) H ∧ va_D A (xMw cT aM adL rd gdL vadL x.2.2.2.2.2.1 []) ∧ va_S A s.heap H locs ∧ lv_has ls 6 [(4, .int x.2.1), (3, .int x.2.2.1), (0, .ref aM), (1, xv vadL x.2.2.2.1), (2, .int x.2.2.2.2.1)] ∧ (∀ p, p < xct st → vadL p = vad p) ∧ xct st ≤ xct x.2.2.2.2.2.1)) (fun x => 8) (fun x => x.2.2.2.2.2.2.1) (fun x => x.2.2.2.2.2.2.2) (fun x H locs ls h => by (obtain ⟨_, _, _, h⟩ := h; exact absurd h.2.1 (by rw [fM_cased_b]; exact fun h => nomatch h))) (fun n ih x H locs ls hv => ?_) (fun key => ?_)
  · obtain ⟨lb, y4, y3, y1, y2, ws9, wc, wn⟩ := x
    rcases hv with ⟨adL, gdL, vadL, hj, hf, hP, hD, hS, hl, hE, hN⟩
    subst hj
    have hf : fM_cased_b (n + 1) 1 y4 y3 y1 y2 ws9 wc wn = some out := hf
    rw [fM_cased_b] at hf
    obtain ⟨hP, hD⟩ : xPD D xcl A (xMw cT aM adL rd gdL vadL ws9 []) H := ⟨hP, hD⟩
    have hl : lv_has ls 6 [(4, .int y4), (3, .int y3), (0, .ref aM), (1, xv vadL y1), (2, .int y2)] := hl
    refine W.eq (g2 := F0 m 8 ls []) rfl ?_
    show W p l e _ s m _ below meth c H locs wc wn _ _
    obtain ⟨hm0, hf⟩ := xmoE hf
    refine lv_iload hx hb dM_cased_8 (lv_at hl 0 rfl) ?_
    refine lv_aload_n hx hb dM_cased_10 rfl (lv_at hl 2 rfl) ?_
    refine xm_aload_n hx hb (xvor _ _) dM_cased_11 rfl (lv_at hl 3 rfl) ?_
    obtain ⟨o1, hq2, hf⟩ := xbind hf
    by_cases hk3 : o1.1 = 0
    · rw [if_pos hk3] at hf
      obtain ⟨hg4, hf⟩ := xifn hf
      obtain ⟨hm5, hf⟩ := xmoE hf
      have hFc := xm_free hD hS hA
      refine va_callq (va_runV (C := "ValueBenchModel") (As := [xv vadL y1]) (rest := [.int y4]) ⟨hx, hb, hml, hown, htx⟩ (gM_text l hl9 D cT aK aV H.size n aM adL rd gdL vadL ws9 y1 o1 hq2 hk3) ⟨callB_of 1 htx (xw_goodC kw_7_54) rfl rfl rfl (htx _ kw_1_5) (htx _ kw_7_51) ⟨by decide, by decide, by decide +kernel⟩ ⟨Nat.le_of_ble_eq_true rfl, Nat.le_of_ble_eq_true rfl⟩, (htx _ kw_7_53), (htx _ kp_M_text)⟩ ⟨xPre_blind, va_recv hK hP (ci := 5) rfl (q0 := 0) rfl, (fun U hU hW => ⟨rfl, xPre_of hZ hS hFc hP hD hK U hU hW⟩)⟩ rfl rfl hl.1 rfl (xm_room (Nat.le_of_ble_eq_true rfl)) dM_cased_12 ⟨hm5.1, hm5.2⟩) hS (fun q _ h => hFc q h) hFc (fun r6 u9 t H1 locs ht hvm hr9 hB hz1 hk1 hS => ?_)
      obtain ⟨hP1, hK1, hD1⟩ := hB
      rw [ht] at hP1
      obtain ⟨ad7, gd8, vad9⟩ := u9
      obtain ⟨hr9, hv10, hn11⟩ := hr9
      have hP : va_P D xcl (xMw cT aM ad7 rd gd8 vad9 o1.2.2.2.2 []) H1 := hP1
      have hD : va_D A (xMw cT aM ad7 rd gd8 vad9 o1.2.2.2.2 []) := hD1.weaken (fun k q _ h => hFc q.1 h)
      generalize H1 = H at hP hS ⊢
      have hE9 : ∀ p, p < xct st → vad9 p = vad p := fun p h => (hv10 p (Nat.lt_of_lt_of_le h hN)).trans (hE p h)
      have hE := hE9
      have hN : xct st ≤ xct o1.2.2.2.2 := Nat.le_trans hN hn11
      have ev12 : xv vadL y1 = xv vad9 y1 := xvE hv10 hg4
      have hl : lv_has ls 6 [(4, .int y4), (3, .int y3), (0, .ref aM), (1, xv vad9 y1), (2, .int y2)] := by first | exact hl | ((try (rw [← ev12])); exact hl)
      rw [hr9]
      refine W.eq (g2 := F0 m 15 ls [xv vad9 o1.2.2.2.1, .int y4]) (by first | rfl | ((try (rw [ev12])); rfl)) ?_
      obtain ⟨hg13, hf⟩ := xifn hf
      refine xm_vget (v := .int ((xpi o1.2.2.2.2 3) (o1.2.2.2.1 - 1))) hx hb htx hown hK hP 3 (by decide) hg13 rfl ((hZ.1 (103, "count", "I") (List.mem_of_getElem? (i := 3) rfl)).use rfl) rfl dM_cased_15 ?_
      refine lv_icmp_ge (tgt := 92) hx hb dM_cased_18 (by decide) (fun hc => ?_) (fun hc => ?_)
      · rw [if_pos hc] at hf
        refine lv_aload_n hx hb dM_cased_92 rfl (lv_at hl 2 rfl) ?_
        refine lv_iload_n hx hb dM_cased_93 rfl (lv_at hl 1 rfl) ?_
        obtain ⟨o14, hq15, hf⟩ := xbind hf
        have hl := lv_sub (l' := [(4, .int y4), (3, .int y3), (0, .ref aM), (2, .int y2)]) hl [0, 1, 2, 4] rfl
        by_cases hk16 : o14.1 = 0
        · rw [if_pos hk16] at hf
          obtain ⟨hm17, hf⟩ := xmoE hf
          have hFc := xm_free hD hS hA
          refine va_callq (va_runV (C := "ValueBenchModel") (As := [.int y3]) (rest := []) ⟨hx, hb, hml, hown, htx⟩ (gM_string l hl9 D cT aK aV H.size n aM ad7 rd gd8 vad9 o1.2.2.2.2 y3 o14 hq15 hk16) ⟨callB_of 1 htx (xw_goodC kw_6_61) rfl rfl rfl (htx _ kw_1_5) (htx _ kw_6_58) ⟨by decide, by decide, by decide +kernel⟩ ⟨Nat.le_of_ble_eq_true rfl, Nat.le_of_ble_eq_true rfl⟩, (htx _ kw_6_60), (htx _ kp_M_string)⟩ ⟨xPre_blind, va_recv hK hP (ci := 5) rfl (q0 := 0) rfl, (fun U hU hW => ⟨rfl, xPre_of hZ hS hFc hP hD hK U hU hW⟩)⟩ rfl rfl hl.1 rfl (xm_room (Nat.le_of_ble_eq_true rfl)) dM_cased_94 ⟨hm17.1, hm17.2⟩) hS (fun q _ h => hFc q h) hFc (fun r18 u9 t H1 locs ht hvm hr9 hB hz1 hk1 hS => ?_)
          obtain ⟨hP1, hK1, hD1⟩ := hB
          rw [ht] at hP1
          obtain ⟨ad19, gd20, vad21⟩ := u9
          obtain ⟨hr9, hv22, hn23⟩ := hr9
          have hP : va_P D xcl (xMw cT aM ad19 rd gd20 vad21 o14.2.2.2.2 []) H1 := hP1
          have hD : va_D A (xMw cT aM ad19 rd gd20 vad21 o14.2.2.2.2 []) := hD1.weaken (fun k q _ h => hFc q.1 h)
          generalize H1 = H at hP hS ⊢
          have hE9 : ∀ p, p < xct st → vad21 p = vad p := fun p h => (hv22 p (Nat.lt_of_lt_of_le h hN)).trans (hE p h)
          have hE := hE9
          have hN : xct st ≤ xct o14.2.2.2.2 := Nat.le_trans hN hn23
          rw [hr9]
          refine W.eq (g2 := F0 m 97 ls [xv vad21 o14.2.2.2.1]) (by first | rfl | (skip; rfl)) ?_
          obtain rfl := Option.some.inj hf
          exact absurd (show (0 : Nat) = 2 from hkd) (by decide)
        rw [if_neg hk16] at hf
        by_cases hk24 : o14.1 = 1
        · rw [if_pos hk24] at hf
          obtain ⟨hm25, hf⟩ := xmoE hf
          obtain rfl := Option.some.inj hf
          exact absurd (show (1 : Nat) = 2 from hkd) (by decide)
        rw [if_neg hk24] at hf
        exact nomatch hf
      · rw [if_neg hc] at hf
        refine lv_aload_n hx hb dM_cased_21 rfl (lv_at hl 2 rfl) ?_
        refine xm_get (v := .ref (ad7 3)) hx hb htx hown hK hP 3 (by decide) rfl (htx _ kw_5_90) rfl dM_cased_22 ?_
        refine xm_aload_n hx hb (xvor _ _) dM_cased_25 rfl (lv_at hl 3 rfl) ?_
        obtain ⟨hg14, hf⟩ := xifn hf
        refine xm_vget (v := .int ((xpi o1.2.2.2.2 2) (y1 - 1))) hx hb htx hown hK hP 2 (by decide) hg14 rfl ((hZ.1 (100, "off", "I") (List.mem_of_getElem? (i := 2) rfl)).use rfl) rfl dM_cased_26 ?_
        refine lv_iload hx hb dM_cased_29 (lv_at hl 0 rfl) ?_
        refine lv_iadd hx hb dM_cased_31 ?_
        obtain ⟨hg15, hf⟩ := xifn hf
        refine va_bald hx hb hK hP 2 0 rfl rfl hg15 dM_cased_32 ?_
        refine W.eq (g2 := F0 m 33 ls [.int ((xba o1.2.2.2.2 3) (((xpi o1.2.2.2.2 2) (y1 - 1)) + y4).toNatClampNeg)]) rfl ?_
        refine lv_istore (lv' := [(5, .int ((xba o1.2.2.2.2 3) (((xpi o1.2.2.2.2 2) (y1 - 1)) + y4).toNatClampNeg)), (4, .int y4), (3, .int y3), (0, .ref aM), (1, xv vad9 y1), (2, .int y2)]) hx hb dM_cased_33 hl (by decide) rfl (fun ls hl => ?_)
        refine lv_iload_n hx hb dM_cased_35 rfl (lv_at hl 5 rfl) ?_
        refine lv_if_eq (tgt := 59) hx hb dM_cased_36 (by decide) (fun hc => ?_) (fun hc => ?_)
        · rw [if_pos hc] at hf
          refine lv_iload_n hx hb dM_cased_59 rfl (lv_at hl 5 rfl) ?_
          refine lv_if_ne (tgt := 80) hx hb dM_cased_60 (by decide) (fun hc => ?_) (fun hc => ?_)
          · rw [if_neg hc] at hf
            refine lv_aload_n hx hb dM_cased_80 rfl (lv_at hl 3 rfl) ?_
            refine lv_iload hx hb dM_cased_81 (lv_at hl 0 rfl) ?_
            obtain ⟨o16, hq17, hf⟩ := xbind hf
            obtain ⟨hm18, hf⟩ := xmoE hf
            have hFc := xm_free hD hS hA
            refine va_callv (va_runV (C := "ValueBenchModel") (As := [.int ((xba o1.2.2.2.2 3) (((xpi o1.2.2.2.2 2) (y1 - 1)) + y4).toNatClampNeg)]) (rest := []) ⟨hx, hb, hml, hown, htx⟩ (gM_letter l hl9 D cT aK aV H.size n aM ad7 rd gd8 vad9 o1.2.2.2.2 ((xba o1.2.2.2.2 3) (((xpi o1.2.2.2.2 2) (y1 - 1)) + y4).toNatClampNeg) o16 hq17) ⟨callB_of 1 htx (xw_goodC kw_6_54) rfl rfl rfl (htx _ kw_1_5) (htx _ kw_6_51) ⟨by decide, by decide, by decide +kernel⟩ ⟨Nat.le_of_ble_eq_true rfl, Nat.le_of_ble_eq_true rfl⟩, (htx _ kw_6_53), (htx _ kp_M_letter)⟩ ⟨xPre_blind, va_recv hK hP (ci := 5) rfl (q0 := 0) rfl, (fun U hU hW => ⟨rfl, xPre_of hZ hS hFc hP hD hK U hU hW⟩)⟩ rfl rfl hl.1 rfl (xm_room (Nat.le_of_ble_eq_true rfl)) dM_cased_83 ⟨hm18.1, hm18.2⟩) hS (fun q _ h => hFc q h) hFc (fun u9 t H1 locs ht hvm hr9 hB hz1 hk1 hS => ?_)
            obtain ⟨hP1, hK1, hD1⟩ := hB
            rw [ht] at hP1
            obtain ⟨ad20, gd21, vad22⟩ := u9
            obtain ⟨hv23, hn24⟩ := hr9
            have hP : va_P D xcl (xMw cT aM ad20 rd gd21 vad22 o16.2.2 []) H1 := hP1
            have hD : va_D A (xMw cT aM ad20 rd gd21 vad22 o16.2.2 []) := hD1.weaken (fun k q _ h => hFc q.1 h)
            generalize H1 = H at hP hS ⊢
            have hE9 : ∀ p, p < xct st → vad22 p = vad p := fun p h => (hv23 p (Nat.lt_of_lt_of_le h hN)).trans (hE p h)
            have hE := hE9
            have hN : xct st ≤ xct o16.2.2 := Nat.le_trans hN hn24
            have ev25 : xv vad9 y1 = xv vad22 y1 := xvE hv23 (fun h => hg14 (Or.inr h))
            have hl : lv_has ls 6 [(5, .int ((xba o1.2.2.2.2 3) (((xpi o1.2.2.2.2 2) (y1 - 1)) + y4).toNatClampNeg)), (4, .int y4), (3, .int y3), (0, .ref aM), (1, xv vad22 y1), (2, .int y2)] := by first | exact hl | ((try (rw [← ev25])); exact hl)
            refine W.eq (g2 := F0 m 86 ls []) (by first | rfl | ((try (rw [ev25])); rfl)) ?_
            refine lv_iinc (v := (y4 + 1)) (lv' := [(4, .int (y4 + 1)), (5, .int ((xba o1.2.2.2.2 3) (((xpi o1.2.2.2.2 2) (y1 - 1)) + y4).toNatClampNeg)), (3, .int y3), (0, .ref aM), (1, xv vad22 y1), (2, .int y2)]) hx hb dM_cased_86 hl (k := 1) rfl rfl (by decide) rfl (fun ls hl => ?_)
            refine lv_goto (tgt := 8) hx hb dM_cased_89 (by decide) ?_
            exact ih (1, (y4 + 1), y3, y1, y2, o16.2.2, ((wc + o1.2.1) + o16.1), ((wn + o1.2.2.1) + o16.2.1)) _ _ ls (⟨ad20, gd21, vad22, rfl, hf, hP, hD, hS, lv_sub hl [0, 2, 3, 4, 5] rfl, hE, hN⟩)
          · rw [if_pos hc] at hf
            refine lv_iload hx hb dM_cased_63 (lv_at hl 0 rfl) ?_
            refine lv_bipush (v := 65) hx hb dM_cased_65 (by decide) ?_
            refine lv_icmp_lt (tgt := 80) hx hb dM_cased_67 (by decide) (fun hc => ?_) (fun hc => ?_)
            · rw [if_pos hc] at hf
              refine lv_aload_n hx hb dM_cased_80 rfl (lv_at hl 3 rfl) ?_
              refine lv_iload hx hb dM_cased_81 (lv_at hl 0 rfl) ?_
              obtain ⟨o16, hq17, hf⟩ := xbind hf
              obtain ⟨hm18, hf⟩ := xmoE hf
              have hFc := xm_free hD hS hA
              refine va_callv (va_runV (C := "ValueBenchModel") (As := [.int ((xba o1.2.2.2.2 3) (((xpi o1.2.2.2.2 2) (y1 - 1)) + y4).toNatClampNeg)]) (rest := []) ⟨hx, hb, hml, hown, htx⟩ (gM_letter l hl9 D cT aK aV H.size n aM ad7 rd gd8 vad9 o1.2.2.2.2 ((xba o1.2.2.2.2 3) (((xpi o1.2.2.2.2 2) (y1 - 1)) + y4).toNatClampNeg) o16 hq17) ⟨callB_of 1 htx (xw_goodC kw_6_54) rfl rfl rfl (htx _ kw_1_5) (htx _ kw_6_51) ⟨by decide, by decide, by decide +kernel⟩ ⟨Nat.le_of_ble_eq_true rfl, Nat.le_of_ble_eq_true rfl⟩, (htx _ kw_6_53), (htx _ kp_M_letter)⟩ ⟨xPre_blind, va_recv hK hP (ci := 5) rfl (q0 := 0) rfl, (fun U hU hW => ⟨rfl, xPre_of hZ hS hFc hP hD hK U hU hW⟩)⟩ rfl rfl hl.1 rfl (xm_room (Nat.le_of_ble_eq_true rfl)) dM_cased_83 ⟨hm18.1, hm18.2⟩) hS (fun q _ h => hFc q h) hFc (fun u9 t H1 locs ht hvm hr9 hB hz1 hk1 hS => ?_)
              obtain ⟨hP1, hK1, hD1⟩ := hB
              rw [ht] at hP1
              obtain ⟨ad20, gd21, vad22⟩ := u9
              obtain ⟨hv23, hn24⟩ := hr9
              have hP : va_P D xcl (xMw cT aM ad20 rd gd21 vad22 o16.2.2 []) H1 := hP1
              have hD : va_D A (xMw cT aM ad20 rd gd21 vad22 o16.2.2 []) := hD1.weaken (fun k q _ h => hFc q.1 h)
              generalize H1 = H at hP hS ⊢
              have hE9 : ∀ p, p < xct st → vad22 p = vad p := fun p h => (hv23 p (Nat.lt_of_lt_of_le h hN)).trans (hE p h)
              have hE := hE9
              have hN : xct st ≤ xct o16.2.2 := Nat.le_trans hN hn24
              have ev25 : xv vad9 y1 = xv vad22 y1 := xvE hv23 (fun h => hg14 (Or.inr h))
              have hl : lv_has ls 6 [(5, .int ((xba o1.2.2.2.2 3) (((xpi o1.2.2.2.2 2) (y1 - 1)) + y4).toNatClampNeg)), (4, .int y4), (3, .int y3), (0, .ref aM), (1, xv vad22 y1), (2, .int y2)] := by first | exact hl | ((try (rw [← ev25])); exact hl)
              refine W.eq (g2 := F0 m 86 ls []) (by first | rfl | ((try (rw [ev25])); rfl)) ?_
              refine lv_iinc (v := (y4 + 1)) (lv' := [(4, .int (y4 + 1)), (5, .int ((xba o1.2.2.2.2 3) (((xpi o1.2.2.2.2 2) (y1 - 1)) + y4).toNatClampNeg)), (3, .int y3), (0, .ref aM), (1, xv vad22 y1), (2, .int y2)]) hx hb dM_cased_86 hl (k := 1) rfl rfl (by decide) rfl (fun ls hl => ?_)
              refine lv_goto (tgt := 8) hx hb dM_cased_89 (by decide) ?_
              exact ih (1, (y4 + 1), y3, y1, y2, o16.2.2, ((wc + o1.2.1) + o16.1), ((wn + o1.2.2.1) + o16.2.1)) _ _ ls (⟨ad20, gd21, vad22, rfl, hf, hP, hD, hS, lv_sub hl [0, 2, 3, 4, 5] rfl, hE, hN⟩)
            · rw [if_neg hc] at hf
              refine lv_iload hx hb dM_cased_70 (lv_at hl 0 rfl) ?_
              refine lv_bipush (v := 90) hx hb dM_cased_72 (by decide) ?_
              refine lv_icmp_gt (tgt := 80) hx hb dM_cased_74 (by decide) (fun hc => ?_) (fun hc => ?_)
              · rw [if_pos hc] at hf
                refine lv_aload_n hx hb dM_cased_80 rfl (lv_at hl 3 rfl) ?_
                refine lv_iload hx hb dM_cased_81 (lv_at hl 0 rfl) ?_
                obtain ⟨o16, hq17, hf⟩ := xbind hf
                obtain ⟨hm18, hf⟩ := xmoE hf
                have hFc := xm_free hD hS hA
                refine va_callv (va_runV (C := "ValueBenchModel") (As := [.int ((xba o1.2.2.2.2 3) (((xpi o1.2.2.2.2 2) (y1 - 1)) + y4).toNatClampNeg)]) (rest := []) ⟨hx, hb, hml, hown, htx⟩ (gM_letter l hl9 D cT aK aV H.size n aM ad7 rd gd8 vad9 o1.2.2.2.2 ((xba o1.2.2.2.2 3) (((xpi o1.2.2.2.2 2) (y1 - 1)) + y4).toNatClampNeg) o16 hq17) ⟨callB_of 1 htx (xw_goodC kw_6_54) rfl rfl rfl (htx _ kw_1_5) (htx _ kw_6_51) ⟨by decide, by decide, by decide +kernel⟩ ⟨Nat.le_of_ble_eq_true rfl, Nat.le_of_ble_eq_true rfl⟩, (htx _ kw_6_53), (htx _ kp_M_letter)⟩ ⟨xPre_blind, va_recv hK hP (ci := 5) rfl (q0 := 0) rfl, (fun U hU hW => ⟨rfl, xPre_of hZ hS hFc hP hD hK U hU hW⟩)⟩ rfl rfl hl.1 rfl (xm_room (Nat.le_of_ble_eq_true rfl)) dM_cased_83 ⟨hm18.1, hm18.2⟩) hS (fun q _ h => hFc q h) hFc (fun u9 t H1 locs ht hvm hr9 hB hz1 hk1 hS => ?_)
                obtain ⟨hP1, hK1, hD1⟩ := hB
                rw [ht] at hP1
                obtain ⟨ad20, gd21, vad22⟩ := u9
                obtain ⟨hv23, hn24⟩ := hr9
                have hP : va_P D xcl (xMw cT aM ad20 rd gd21 vad22 o16.2.2 []) H1 := hP1
                have hD : va_D A (xMw cT aM ad20 rd gd21 vad22 o16.2.2 []) := hD1.weaken (fun k q _ h => hFc q.1 h)
                generalize H1 = H at hP hS ⊢
                have hE9 : ∀ p, p < xct st → vad22 p = vad p := fun p h => (hv23 p (Nat.lt_of_lt_of_le h hN)).trans (hE p h)
                have hE := hE9
                have hN : xct st ≤ xct o16.2.2 := Nat.le_trans hN hn24
                have ev25 : xv vad9 y1 = xv vad22 y1 := xvE hv23 (fun h => hg14 (Or.inr h))
                have hl : lv_has ls 6 [(5, .int ((xba o1.2.2.2.2 3) (((xpi o1.2.2.2.2 2) (y1 - 1)) + y4).toNatClampNeg)), (4, .int y4), (3, .int y3), (0, .ref aM), (1, xv vad22 y1), (2, .int y2)] := by first | exact hl | ((try (rw [← ev25])); exact hl)
                refine W.eq (g2 := F0 m 86 ls []) (by first | rfl | ((try (rw [ev25])); rfl)) ?_
                refine lv_iinc (v := (y4 + 1)) (lv' := [(4, .int (y4 + 1)), (5, .int ((xba o1.2.2.2.2 3) (((xpi o1.2.2.2.2 2) (y1 - 1)) + y4).toNatClampNeg)), (3, .int y3), (0, .ref aM), (1, xv vad22 y1), (2, .int y2)]) hx hb dM_cased_86 hl (k := 1) rfl rfl (by decide) rfl (fun ls hl => ?_)
                refine lv_goto (tgt := 8) hx hb dM_cased_89 (by decide) ?_
                exact ih (1, (y4 + 1), y3, y1, y2, o16.2.2, ((wc + o1.2.1) + o16.1), ((wn + o1.2.2.1) + o16.2.1)) _ _ ls (⟨ad20, gd21, vad22, rfl, hf, hP, hD, hS, lv_sub hl [0, 2, 3, 4, 5] rfl, hE, hN⟩)
              · rw [if_neg hc] at hf
                refine lv_iinc (v := (((xba o1.2.2.2.2 3) (((xpi o1.2.2.2.2 2) (y1 - 1)) + y4).toNatClampNeg) + 32)) (lv' := [(5, .int (((xba o1.2.2.2.2 3) (((xpi o1.2.2.2.2 2) (y1 - 1)) + y4).toNatClampNeg) + 32)), (4, .int y4), (3, .int y3), (0, .ref aM), (1, xv vad9 y1), (2, .int y2)]) hx hb dM_cased_77 hl (k := 0) rfl rfl (by decide) rfl (fun ls hl => ?_)
                refine lv_aload_n hx hb dM_cased_80 rfl (lv_at hl 3 rfl) ?_
                refine lv_iload hx hb dM_cased_81 (lv_at hl 0 rfl) ?_
                obtain ⟨o16, hq17, hf⟩ := xbind hf
                obtain ⟨hm18, hf⟩ := xmoE hf
                have hFc := xm_free hD hS hA
                refine va_callv (va_runV (C := "ValueBenchModel") (As := [.int (((xba o1.2.2.2.2 3) (((xpi o1.2.2.2.2 2) (y1 - 1)) + y4).toNatClampNeg) + 32)]) (rest := []) ⟨hx, hb, hml, hown, htx⟩ (gM_letter l hl9 D cT aK aV H.size n aM ad7 rd gd8 vad9 o1.2.2.2.2 (((xba o1.2.2.2.2 3) (((xpi o1.2.2.2.2 2) (y1 - 1)) + y4).toNatClampNeg) + 32) o16 hq17) ⟨callB_of 1 htx (xw_goodC kw_6_54) rfl rfl rfl (htx _ kw_1_5) (htx _ kw_6_51) ⟨by decide, by decide, by decide +kernel⟩ ⟨Nat.le_of_ble_eq_true rfl, Nat.le_of_ble_eq_true rfl⟩, (htx _ kw_6_53), (htx _ kp_M_letter)⟩ ⟨xPre_blind, va_recv hK hP (ci := 5) rfl (q0 := 0) rfl, (fun U hU hW => ⟨rfl, xPre_of hZ hS hFc hP hD hK U hU hW⟩)⟩ rfl rfl hl.1 rfl (xm_room (Nat.le_of_ble_eq_true rfl)) dM_cased_83 ⟨hm18.1, hm18.2⟩) hS (fun q _ h => hFc q h) hFc (fun u9 t H1 locs ht hvm hr9 hB hz1 hk1 hS => ?_)
                obtain ⟨hP1, hK1, hD1⟩ := hB
                rw [ht] at hP1
                obtain ⟨ad20, gd21, vad22⟩ := u9
                obtain ⟨hv23, hn24⟩ := hr9
                have hP : va_P D xcl (xMw cT aM ad20 rd gd21 vad22 o16.2.2 []) H1 := hP1
                have hD : va_D A (xMw cT aM ad20 rd gd21 vad22 o16.2.2 []) := hD1.weaken (fun k q _ h => hFc q.1 h)
                generalize H1 = H at hP hS ⊢
                have hE9 : ∀ p, p < xct st → vad22 p = vad p := fun p h => (hv23 p (Nat.lt_of_lt_of_le h hN)).trans (hE p h)
                have hE := hE9
                have hN : xct st ≤ xct o16.2.2 := Nat.le_trans hN hn24
                have ev25 : xv vad9 y1 = xv vad22 y1 := xvE hv23 (fun h => hg14 (Or.inr h))
                have hl : lv_has ls 6 [(5, .int (((xba o1.2.2.2.2 3) (((xpi o1.2.2.2.2 2) (y1 - 1)) + y4).toNatClampNeg) + 32)), (4, .int y4), (3, .int y3), (0, .ref aM), (1, xv vad22 y1), (2, .int y2)] := by first | exact hl | ((try (rw [← ev25])); exact hl)
                refine W.eq (g2 := F0 m 86 ls []) (by first | rfl | ((try (rw [ev25])); rfl)) ?_
                refine lv_iinc (v := (y4 + 1)) (lv' := [(4, .int (y4 + 1)), (5, .int (((xba o1.2.2.2.2 3) (((xpi o1.2.2.2.2 2) (y1 - 1)) + y4).toNatClampNeg) + 32)), (3, .int y3), (0, .ref aM), (1, xv vad22 y1), (2, .int y2)]) hx hb dM_cased_86 hl (k := 1) rfl rfl (by decide) rfl (fun ls hl => ?_)
                refine lv_goto (tgt := 8) hx hb dM_cased_89 (by decide) ?_
                exact ih (1, (y4 + 1), y3, y1, y2, o16.2.2, ((wc + o1.2.1) + o16.1), ((wn + o1.2.2.1) + o16.2.1)) _ _ ls (⟨ad20, gd21, vad22, rfl, hf, hP, hD, hS, lv_sub hl [0, 2, 3, 4, 5] rfl, hE, hN⟩)
        · rw [if_neg hc] at hf
          refine lv_iload hx hb dM_cased_39 (lv_at hl 0 rfl) ?_
          refine lv_bipush (v := 97) hx hb dM_cased_41 (by decide) ?_
          refine lv_icmp_lt (tgt := 59) hx hb dM_cased_43 (by decide) (fun hc => ?_) (fun hc => ?_)
          · rw [if_pos hc] at hf
            refine lv_iload_n hx hb dM_cased_59 rfl (lv_at hl 5 rfl) ?_
            refine lv_if_ne (tgt := 80) hx hb dM_cased_60 (by decide) (fun hc => ?_) (fun hc => ?_)
            · rw [if_neg hc] at hf
              refine lv_aload_n hx hb dM_cased_80 rfl (lv_at hl 3 rfl) ?_
              refine lv_iload hx hb dM_cased_81 (lv_at hl 0 rfl) ?_
              obtain ⟨o16, hq17, hf⟩ := xbind hf
              obtain ⟨hm18, hf⟩ := xmoE hf
              have hFc := xm_free hD hS hA
              refine va_callv (va_runV (C := "ValueBenchModel") (As := [.int ((xba o1.2.2.2.2 3) (((xpi o1.2.2.2.2 2) (y1 - 1)) + y4).toNatClampNeg)]) (rest := []) ⟨hx, hb, hml, hown, htx⟩ (gM_letter l hl9 D cT aK aV H.size n aM ad7 rd gd8 vad9 o1.2.2.2.2 ((xba o1.2.2.2.2 3) (((xpi o1.2.2.2.2 2) (y1 - 1)) + y4).toNatClampNeg) o16 hq17) ⟨callB_of 1 htx (xw_goodC kw_6_54) rfl rfl rfl (htx _ kw_1_5) (htx _ kw_6_51) ⟨by decide, by decide, by decide +kernel⟩ ⟨Nat.le_of_ble_eq_true rfl, Nat.le_of_ble_eq_true rfl⟩, (htx _ kw_6_53), (htx _ kp_M_letter)⟩ ⟨xPre_blind, va_recv hK hP (ci := 5) rfl (q0 := 0) rfl, (fun U hU hW => ⟨rfl, xPre_of hZ hS hFc hP hD hK U hU hW⟩)⟩ rfl rfl hl.1 rfl (xm_room (Nat.le_of_ble_eq_true rfl)) dM_cased_83 ⟨hm18.1, hm18.2⟩) hS (fun q _ h => hFc q h) hFc (fun u9 t H1 locs ht hvm hr9 hB hz1 hk1 hS => ?_)
              obtain ⟨hP1, hK1, hD1⟩ := hB
              rw [ht] at hP1
              obtain ⟨ad20, gd21, vad22⟩ := u9
              obtain ⟨hv23, hn24⟩ := hr9
              have hP : va_P D xcl (xMw cT aM ad20 rd gd21 vad22 o16.2.2 []) H1 := hP1
              have hD : va_D A (xMw cT aM ad20 rd gd21 vad22 o16.2.2 []) := hD1.weaken (fun k q _ h => hFc q.1 h)
              generalize H1 = H at hP hS ⊢
              have hE9 : ∀ p, p < xct st → vad22 p = vad p := fun p h => (hv23 p (Nat.lt_of_lt_of_le h hN)).trans (hE p h)
              have hE := hE9
              have hN : xct st ≤ xct o16.2.2 := Nat.le_trans hN hn24
              have ev25 : xv vad9 y1 = xv vad22 y1 := xvE hv23 (fun h => hg14 (Or.inr h))
              have hl : lv_has ls 6 [(5, .int ((xba o1.2.2.2.2 3) (((xpi o1.2.2.2.2 2) (y1 - 1)) + y4).toNatClampNeg)), (4, .int y4), (3, .int y3), (0, .ref aM), (1, xv vad22 y1), (2, .int y2)] := by first | exact hl | ((try (rw [← ev25])); exact hl)
              refine W.eq (g2 := F0 m 86 ls []) (by first | rfl | ((try (rw [ev25])); rfl)) ?_
              refine lv_iinc (v := (y4 + 1)) (lv' := [(4, .int (y4 + 1)), (5, .int ((xba o1.2.2.2.2 3) (((xpi o1.2.2.2.2 2) (y1 - 1)) + y4).toNatClampNeg)), (3, .int y3), (0, .ref aM), (1, xv vad22 y1), (2, .int y2)]) hx hb dM_cased_86 hl (k := 1) rfl rfl (by decide) rfl (fun ls hl => ?_)
              refine lv_goto (tgt := 8) hx hb dM_cased_89 (by decide) ?_
              exact ih (1, (y4 + 1), y3, y1, y2, o16.2.2, ((wc + o1.2.1) + o16.1), ((wn + o1.2.2.1) + o16.2.1)) _ _ ls (⟨ad20, gd21, vad22, rfl, hf, hP, hD, hS, lv_sub hl [0, 2, 3, 4, 5] rfl, hE, hN⟩)
            · rw [if_pos hc] at hf
              refine lv_iload hx hb dM_cased_63 (lv_at hl 0 rfl) ?_
              refine lv_bipush (v := 65) hx hb dM_cased_65 (by decide) ?_
              refine lv_icmp_lt (tgt := 80) hx hb dM_cased_67 (by decide) (fun hc => ?_) (fun hc => ?_)
              · rw [if_pos hc] at hf
                refine lv_aload_n hx hb dM_cased_80 rfl (lv_at hl 3 rfl) ?_
                refine lv_iload hx hb dM_cased_81 (lv_at hl 0 rfl) ?_
                obtain ⟨o16, hq17, hf⟩ := xbind hf
                obtain ⟨hm18, hf⟩ := xmoE hf
                have hFc := xm_free hD hS hA
                refine va_callv (va_runV (C := "ValueBenchModel") (As := [.int ((xba o1.2.2.2.2 3) (((xpi o1.2.2.2.2 2) (y1 - 1)) + y4).toNatClampNeg)]) (rest := []) ⟨hx, hb, hml, hown, htx⟩ (gM_letter l hl9 D cT aK aV H.size n aM ad7 rd gd8 vad9 o1.2.2.2.2 ((xba o1.2.2.2.2 3) (((xpi o1.2.2.2.2 2) (y1 - 1)) + y4).toNatClampNeg) o16 hq17) ⟨callB_of 1 htx (xw_goodC kw_6_54) rfl rfl rfl (htx _ kw_1_5) (htx _ kw_6_51) ⟨by decide, by decide, by decide +kernel⟩ ⟨Nat.le_of_ble_eq_true rfl, Nat.le_of_ble_eq_true rfl⟩, (htx _ kw_6_53), (htx _ kp_M_letter)⟩ ⟨xPre_blind, va_recv hK hP (ci := 5) rfl (q0 := 0) rfl, (fun U hU hW => ⟨rfl, xPre_of hZ hS hFc hP hD hK U hU hW⟩)⟩ rfl rfl hl.1 rfl (xm_room (Nat.le_of_ble_eq_true rfl)) dM_cased_83 ⟨hm18.1, hm18.2⟩) hS (fun q _ h => hFc q h) hFc (fun u9 t H1 locs ht hvm hr9 hB hz1 hk1 hS => ?_)
                obtain ⟨hP1, hK1, hD1⟩ := hB
                rw [ht] at hP1
                obtain ⟨ad20, gd21, vad22⟩ := u9
                obtain ⟨hv23, hn24⟩ := hr9
                have hP : va_P D xcl (xMw cT aM ad20 rd gd21 vad22 o16.2.2 []) H1 := hP1
                have hD : va_D A (xMw cT aM ad20 rd gd21 vad22 o16.2.2 []) := hD1.weaken (fun k q _ h => hFc q.1 h)
                generalize H1 = H at hP hS ⊢
                have hE9 : ∀ p, p < xct st → vad22 p = vad p := fun p h => (hv23 p (Nat.lt_of_lt_of_le h hN)).trans (hE p h)
                have hE := hE9
                have hN : xct st ≤ xct o16.2.2 := Nat.le_trans hN hn24
                have ev25 : xv vad9 y1 = xv vad22 y1 := xvE hv23 (fun h => hg14 (Or.inr h))
                have hl : lv_has ls 6 [(5, .int ((xba o1.2.2.2.2 3) (((xpi o1.2.2.2.2 2) (y1 - 1)) + y4).toNatClampNeg)), (4, .int y4), (3, .int y3), (0, .ref aM), (1, xv vad22 y1), (2, .int y2)] := by first | exact hl | ((try (rw [← ev25])); exact hl)
                refine W.eq (g2 := F0 m 86 ls []) (by first | rfl | ((try (rw [ev25])); rfl)) ?_
                refine lv_iinc (v := (y4 + 1)) (lv' := [(4, .int (y4 + 1)), (5, .int ((xba o1.2.2.2.2 3) (((xpi o1.2.2.2.2 2) (y1 - 1)) + y4).toNatClampNeg)), (3, .int y3), (0, .ref aM), (1, xv vad22 y1), (2, .int y2)]) hx hb dM_cased_86 hl (k := 1) rfl rfl (by decide) rfl (fun ls hl => ?_)
                refine lv_goto (tgt := 8) hx hb dM_cased_89 (by decide) ?_
                exact ih (1, (y4 + 1), y3, y1, y2, o16.2.2, ((wc + o1.2.1) + o16.1), ((wn + o1.2.2.1) + o16.2.1)) _ _ ls (⟨ad20, gd21, vad22, rfl, hf, hP, hD, hS, lv_sub hl [0, 2, 3, 4, 5] rfl, hE, hN⟩)
              · rw [if_neg hc] at hf
                refine lv_iload hx hb dM_cased_70 (lv_at hl 0 rfl) ?_
                refine lv_bipush (v := 90) hx hb dM_cased_72 (by decide) ?_
                refine lv_icmp_gt (tgt := 80) hx hb dM_cased_74 (by decide) (fun hc => ?_) (fun hc => ?_)
                · rw [if_pos hc] at hf
                  refine lv_aload_n hx hb dM_cased_80 rfl (lv_at hl 3 rfl) ?_
                  refine lv_iload hx hb dM_cased_81 (lv_at hl 0 rfl) ?_
                  obtain ⟨o16, hq17, hf⟩ := xbind hf
                  obtain ⟨hm18, hf⟩ := xmoE hf
                  have hFc := xm_free hD hS hA
                  refine va_callv (va_runV (C := "ValueBenchModel") (As := [.int ((xba o1.2.2.2.2 3) (((xpi o1.2.2.2.2 2) (y1 - 1)) + y4).toNatClampNeg)]) (rest := []) ⟨hx, hb, hml, hown, htx⟩ (gM_letter l hl9 D cT aK aV H.size n aM ad7 rd gd8 vad9 o1.2.2.2.2 ((xba o1.2.2.2.2 3) (((xpi o1.2.2.2.2 2) (y1 - 1)) + y4).toNatClampNeg) o16 hq17) ⟨callB_of 1 htx (xw_goodC kw_6_54) rfl rfl rfl (htx _ kw_1_5) (htx _ kw_6_51) ⟨by decide, by decide, by decide +kernel⟩ ⟨Nat.le_of_ble_eq_true rfl, Nat.le_of_ble_eq_true rfl⟩, (htx _ kw_6_53), (htx _ kp_M_letter)⟩ ⟨xPre_blind, va_recv hK hP (ci := 5) rfl (q0 := 0) rfl, (fun U hU hW => ⟨rfl, xPre_of hZ hS hFc hP hD hK U hU hW⟩)⟩ rfl rfl hl.1 rfl (xm_room (Nat.le_of_ble_eq_true rfl)) dM_cased_83 ⟨hm18.1, hm18.2⟩) hS (fun q _ h => hFc q h) hFc (fun u9 t H1 locs ht hvm hr9 hB hz1 hk1 hS => ?_)
                  obtain ⟨hP1, hK1, hD1⟩ := hB
                  rw [ht] at hP1
                  obtain ⟨ad20, gd21, vad22⟩ := u9
                  obtain ⟨hv23, hn24⟩ := hr9
                  have hP : va_P D xcl (xMw cT aM ad20 rd gd21 vad22 o16.2.2 []) H1 := hP1
                  have hD : va_D A (xMw cT aM ad20 rd gd21 vad22 o16.2.2 []) := hD1.weaken (fun k q _ h => hFc q.1 h)
                  generalize H1 = H at hP hS ⊢
                  have hE9 : ∀ p, p < xct st → vad22 p = vad p := fun p h => (hv23 p (Nat.lt_of_lt_of_le h hN)).trans (hE p h)
                  have hE := hE9
                  have hN : xct st ≤ xct o16.2.2 := Nat.le_trans hN hn24
                  have ev25 : xv vad9 y1 = xv vad22 y1 := xvE hv23 (fun h => hg14 (Or.inr h))
                  have hl : lv_has ls 6 [(5, .int ((xba o1.2.2.2.2 3) (((xpi o1.2.2.2.2 2) (y1 - 1)) + y4).toNatClampNeg)), (4, .int y4), (3, .int y3), (0, .ref aM), (1, xv vad22 y1), (2, .int y2)] := by first | exact hl | ((try (rw [← ev25])); exact hl)
                  refine W.eq (g2 := F0 m 86 ls []) (by first | rfl | ((try (rw [ev25])); rfl)) ?_
                  refine lv_iinc (v := (y4 + 1)) (lv' := [(4, .int (y4 + 1)), (5, .int ((xba o1.2.2.2.2 3) (((xpi o1.2.2.2.2 2) (y1 - 1)) + y4).toNatClampNeg)), (3, .int y3), (0, .ref aM), (1, xv vad22 y1), (2, .int y2)]) hx hb dM_cased_86 hl (k := 1) rfl rfl (by decide) rfl (fun ls hl => ?_)
                  refine lv_goto (tgt := 8) hx hb dM_cased_89 (by decide) ?_
                  exact ih (1, (y4 + 1), y3, y1, y2, o16.2.2, ((wc + o1.2.1) + o16.1), ((wn + o1.2.2.1) + o16.2.1)) _ _ ls (⟨ad20, gd21, vad22, rfl, hf, hP, hD, hS, lv_sub hl [0, 2, 3, 4, 5] rfl, hE, hN⟩)
                · rw [if_neg hc] at hf
                  refine lv_iinc (v := (((xba o1.2.2.2.2 3) (((xpi o1.2.2.2.2 2) (y1 - 1)) + y4).toNatClampNeg) + 32)) (lv' := [(5, .int (((xba o1.2.2.2.2 3) (((xpi o1.2.2.2.2 2) (y1 - 1)) + y4).toNatClampNeg) + 32)), (4, .int y4), (3, .int y3), (0, .ref aM), (1, xv vad9 y1), (2, .int y2)]) hx hb dM_cased_77 hl (k := 0) rfl rfl (by decide) rfl (fun ls hl => ?_)
                  refine lv_aload_n hx hb dM_cased_80 rfl (lv_at hl 3 rfl) ?_
                  refine lv_iload hx hb dM_cased_81 (lv_at hl 0 rfl) ?_
                  obtain ⟨o16, hq17, hf⟩ := xbind hf
                  obtain ⟨hm18, hf⟩ := xmoE hf
                  have hFc := xm_free hD hS hA
                  refine va_callv (va_runV (C := "ValueBenchModel") (As := [.int (((xba o1.2.2.2.2 3) (((xpi o1.2.2.2.2 2) (y1 - 1)) + y4).toNatClampNeg) + 32)]) (rest := []) ⟨hx, hb, hml, hown, htx⟩ (gM_letter l hl9 D cT aK aV H.size n aM ad7 rd gd8 vad9 o1.2.2.2.2 (((xba o1.2.2.2.2 3) (((xpi o1.2.2.2.2 2) (y1 - 1)) + y4).toNatClampNeg) + 32) o16 hq17) ⟨callB_of 1 htx (xw_goodC kw_6_54) rfl rfl rfl (htx _ kw_1_5) (htx _ kw_6_51) ⟨by decide, by decide, by decide +kernel⟩ ⟨Nat.le_of_ble_eq_true rfl, Nat.le_of_ble_eq_true rfl⟩, (htx _ kw_6_53), (htx _ kp_M_letter)⟩ ⟨xPre_blind, va_recv hK hP (ci := 5) rfl (q0 := 0) rfl, (fun U hU hW => ⟨rfl, xPre_of hZ hS hFc hP hD hK U hU hW⟩)⟩ rfl rfl hl.1 rfl (xm_room (Nat.le_of_ble_eq_true rfl)) dM_cased_83 ⟨hm18.1, hm18.2⟩) hS (fun q _ h => hFc q h) hFc (fun u9 t H1 locs ht hvm hr9 hB hz1 hk1 hS => ?_)
                  obtain ⟨hP1, hK1, hD1⟩ := hB
                  rw [ht] at hP1
                  obtain ⟨ad20, gd21, vad22⟩ := u9
                  obtain ⟨hv23, hn24⟩ := hr9
                  have hP : va_P D xcl (xMw cT aM ad20 rd gd21 vad22 o16.2.2 []) H1 := hP1
                  have hD : va_D A (xMw cT aM ad20 rd gd21 vad22 o16.2.2 []) := hD1.weaken (fun k q _ h => hFc q.1 h)
                  generalize H1 = H at hP hS ⊢
                  have hE9 : ∀ p, p < xct st → vad22 p = vad p := fun p h => (hv23 p (Nat.lt_of_lt_of_le h hN)).trans (hE p h)
                  have hE := hE9
                  have hN : xct st ≤ xct o16.2.2 := Nat.le_trans hN hn24
                  have ev25 : xv vad9 y1 = xv vad22 y1 := xvE hv23 (fun h => hg14 (Or.inr h))
                  have hl : lv_has ls 6 [(5, .int (((xba o1.2.2.2.2 3) (((xpi o1.2.2.2.2 2) (y1 - 1)) + y4).toNatClampNeg) + 32)), (4, .int y4), (3, .int y3), (0, .ref aM), (1, xv vad22 y1), (2, .int y2)] := by first | exact hl | ((try (rw [← ev25])); exact hl)
                  refine W.eq (g2 := F0 m 86 ls []) (by first | rfl | ((try (rw [ev25])); rfl)) ?_
                  refine lv_iinc (v := (y4 + 1)) (lv' := [(4, .int (y4 + 1)), (5, .int (((xba o1.2.2.2.2 3) (((xpi o1.2.2.2.2 2) (y1 - 1)) + y4).toNatClampNeg) + 32)), (3, .int y3), (0, .ref aM), (1, xv vad22 y1), (2, .int y2)]) hx hb dM_cased_86 hl (k := 1) rfl rfl (by decide) rfl (fun ls hl => ?_)
                  refine lv_goto (tgt := 8) hx hb dM_cased_89 (by decide) ?_
                  exact ih (1, (y4 + 1), y3, y1, y2, o16.2.2, ((wc + o1.2.1) + o16.1), ((wn + o1.2.2.1) + o16.2.1)) _ _ ls (⟨ad20, gd21, vad22, rfl, hf, hP, hD, hS, lv_sub hl [0, 2, 3, 4, 5] rfl, hE, hN⟩)
          · rw [if_neg hc] at hf
            refine lv_iload hx hb dM_cased_46 (lv_at hl 0 rfl) ?_
            refine lv_bipush (v := 122) hx hb dM_cased_48 (by decide) ?_
            refine lv_icmp_gt (tgt := 59) hx hb dM_cased_50 (by decide) (fun hc => ?_) (fun hc => ?_)
            · rw [if_pos hc] at hf
              refine lv_iload_n hx hb dM_cased_59 rfl (lv_at hl 5 rfl) ?_
              refine lv_if_ne (tgt := 80) hx hb dM_cased_60 (by decide) (fun hc => ?_) (fun hc => ?_)
              · rw [if_neg hc] at hf
                refine lv_aload_n hx hb dM_cased_80 rfl (lv_at hl 3 rfl) ?_
                refine lv_iload hx hb dM_cased_81 (lv_at hl 0 rfl) ?_
                obtain ⟨o16, hq17, hf⟩ := xbind hf
                obtain ⟨hm18, hf⟩ := xmoE hf
                have hFc := xm_free hD hS hA
                refine va_callv (va_runV (C := "ValueBenchModel") (As := [.int ((xba o1.2.2.2.2 3) (((xpi o1.2.2.2.2 2) (y1 - 1)) + y4).toNatClampNeg)]) (rest := []) ⟨hx, hb, hml, hown, htx⟩ (gM_letter l hl9 D cT aK aV H.size n aM ad7 rd gd8 vad9 o1.2.2.2.2 ((xba o1.2.2.2.2 3) (((xpi o1.2.2.2.2 2) (y1 - 1)) + y4).toNatClampNeg) o16 hq17) ⟨callB_of 1 htx (xw_goodC kw_6_54) rfl rfl rfl (htx _ kw_1_5) (htx _ kw_6_51) ⟨by decide, by decide, by decide +kernel⟩ ⟨Nat.le_of_ble_eq_true rfl, Nat.le_of_ble_eq_true rfl⟩, (htx _ kw_6_53), (htx _ kp_M_letter)⟩ ⟨xPre_blind, va_recv hK hP (ci := 5) rfl (q0 := 0) rfl, (fun U hU hW => ⟨rfl, xPre_of hZ hS hFc hP hD hK U hU hW⟩)⟩ rfl rfl hl.1 rfl (xm_room (Nat.le_of_ble_eq_true rfl)) dM_cased_83 ⟨hm18.1, hm18.2⟩) hS (fun q _ h => hFc q h) hFc (fun u9 t H1 locs ht hvm hr9 hB hz1 hk1 hS => ?_)
                obtain ⟨hP1, hK1, hD1⟩ := hB
                rw [ht] at hP1
                obtain ⟨ad20, gd21, vad22⟩ := u9
                obtain ⟨hv23, hn24⟩ := hr9
                have hP : va_P D xcl (xMw cT aM ad20 rd gd21 vad22 o16.2.2 []) H1 := hP1
                have hD : va_D A (xMw cT aM ad20 rd gd21 vad22 o16.2.2 []) := hD1.weaken (fun k q _ h => hFc q.1 h)
                generalize H1 = H at hP hS ⊢
                have hE9 : ∀ p, p < xct st → vad22 p = vad p := fun p h => (hv23 p (Nat.lt_of_lt_of_le h hN)).trans (hE p h)
                have hE := hE9
                have hN : xct st ≤ xct o16.2.2 := Nat.le_trans hN hn24
                have ev25 : xv vad9 y1 = xv vad22 y1 := xvE hv23 (fun h => hg14 (Or.inr h))
                have hl : lv_has ls 6 [(5, .int ((xba o1.2.2.2.2 3) (((xpi o1.2.2.2.2 2) (y1 - 1)) + y4).toNatClampNeg)), (4, .int y4), (3, .int y3), (0, .ref aM), (1, xv vad22 y1), (2, .int y2)] := by first | exact hl | ((try (rw [← ev25])); exact hl)
                refine W.eq (g2 := F0 m 86 ls []) (by first | rfl | ((try (rw [ev25])); rfl)) ?_
                refine lv_iinc (v := (y4 + 1)) (lv' := [(4, .int (y4 + 1)), (5, .int ((xba o1.2.2.2.2 3) (((xpi o1.2.2.2.2 2) (y1 - 1)) + y4).toNatClampNeg)), (3, .int y3), (0, .ref aM), (1, xv vad22 y1), (2, .int y2)]) hx hb dM_cased_86 hl (k := 1) rfl rfl (by decide) rfl (fun ls hl => ?_)
                refine lv_goto (tgt := 8) hx hb dM_cased_89 (by decide) ?_
                exact ih (1, (y4 + 1), y3, y1, y2, o16.2.2, ((wc + o1.2.1) + o16.1), ((wn + o1.2.2.1) + o16.2.1)) _ _ ls (⟨ad20, gd21, vad22, rfl, hf, hP, hD, hS, lv_sub hl [0, 2, 3, 4, 5] rfl, hE, hN⟩)
              · rw [if_pos hc] at hf
                refine lv_iload hx hb dM_cased_63 (lv_at hl 0 rfl) ?_
                refine lv_bipush (v := 65) hx hb dM_cased_65 (by decide) ?_
                refine lv_icmp_lt (tgt := 80) hx hb dM_cased_67 (by decide) (fun hc => ?_) (fun hc => ?_)
                · rw [if_pos hc] at hf
                  refine lv_aload_n hx hb dM_cased_80 rfl (lv_at hl 3 rfl) ?_
                  refine lv_iload hx hb dM_cased_81 (lv_at hl 0 rfl) ?_
                  obtain ⟨o16, hq17, hf⟩ := xbind hf
                  obtain ⟨hm18, hf⟩ := xmoE hf
                  have hFc := xm_free hD hS hA
                  refine va_callv (va_runV (C := "ValueBenchModel") (As := [.int ((xba o1.2.2.2.2 3) (((xpi o1.2.2.2.2 2) (y1 - 1)) + y4).toNatClampNeg)]) (rest := []) ⟨hx, hb, hml, hown, htx⟩ (gM_letter l hl9 D cT aK aV H.size n aM ad7 rd gd8 vad9 o1.2.2.2.2 ((xba o1.2.2.2.2 3) (((xpi o1.2.2.2.2 2) (y1 - 1)) + y4).toNatClampNeg) o16 hq17) ⟨callB_of 1 htx (xw_goodC kw_6_54) rfl rfl rfl (htx _ kw_1_5) (htx _ kw_6_51) ⟨by decide, by decide, by decide +kernel⟩ ⟨Nat.le_of_ble_eq_true rfl, Nat.le_of_ble_eq_true rfl⟩, (htx _ kw_6_53), (htx _ kp_M_letter)⟩ ⟨xPre_blind, va_recv hK hP (ci := 5) rfl (q0 := 0) rfl, (fun U hU hW => ⟨rfl, xPre_of hZ hS hFc hP hD hK U hU hW⟩)⟩ rfl rfl hl.1 rfl (xm_room (Nat.le_of_ble_eq_true rfl)) dM_cased_83 ⟨hm18.1, hm18.2⟩) hS (fun q _ h => hFc q h) hFc (fun u9 t H1 locs ht hvm hr9 hB hz1 hk1 hS => ?_)
                  obtain ⟨hP1, hK1, hD1⟩ := hB
                  rw [ht] at hP1
                  obtain ⟨ad20, gd21, vad22⟩ := u9
                  obtain ⟨hv23, hn24⟩ := hr9
                  have hP : va_P D xcl (xMw cT aM ad20 rd gd21 vad22 o16.2.2 []) H1 := hP1
                  have hD : va_D A (xMw cT aM ad20 rd gd21 vad22 o16.2.2 []) := hD1.weaken (fun k q _ h => hFc q.1 h)
                  generalize H1 = H at hP hS ⊢
                  have hE9 : ∀ p, p < xct st → vad22 p = vad p := fun p h => (hv23 p (Nat.lt_of_lt_of_le h hN)).trans (hE p h)
                  have hE := hE9
                  have hN : xct st ≤ xct o16.2.2 := Nat.le_trans hN hn24
                  have ev25 : xv vad9 y1 = xv vad22 y1 := xvE hv23 (fun h => hg14 (Or.inr h))
                  have hl : lv_has ls 6 [(5, .int ((xba o1.2.2.2.2 3) (((xpi o1.2.2.2.2 2) (y1 - 1)) + y4).toNatClampNeg)), (4, .int y4), (3, .int y3), (0, .ref aM), (1, xv vad22 y1), (2, .int y2)] := by first | exact hl | ((try (rw [← ev25])); exact hl)
                  refine W.eq (g2 := F0 m 86 ls []) (by first | rfl | ((try (rw [ev25])); rfl)) ?_
                  refine lv_iinc (v := (y4 + 1)) (lv' := [(4, .int (y4 + 1)), (5, .int ((xba o1.2.2.2.2 3) (((xpi o1.2.2.2.2 2) (y1 - 1)) + y4).toNatClampNeg)), (3, .int y3), (0, .ref aM), (1, xv vad22 y1), (2, .int y2)]) hx hb dM_cased_86 hl (k := 1) rfl rfl (by decide) rfl (fun ls hl => ?_)
                  refine lv_goto (tgt := 8) hx hb dM_cased_89 (by decide) ?_
                  exact ih (1, (y4 + 1), y3, y1, y2, o16.2.2, ((wc + o1.2.1) + o16.1), ((wn + o1.2.2.1) + o16.2.1)) _ _ ls (⟨ad20, gd21, vad22, rfl, hf, hP, hD, hS, lv_sub hl [0, 2, 3, 4, 5] rfl, hE, hN⟩)
                · rw [if_neg hc] at hf
                  refine lv_iload hx hb dM_cased_70 (lv_at hl 0 rfl) ?_
                  refine lv_bipush (v := 90) hx hb dM_cased_72 (by decide) ?_
                  refine lv_icmp_gt (tgt := 80) hx hb dM_cased_74 (by decide) (fun hc => ?_) (fun hc => ?_)
                  · rw [if_pos hc] at hf
                    refine lv_aload_n hx hb dM_cased_80 rfl (lv_at hl 3 rfl) ?_
                    refine lv_iload hx hb dM_cased_81 (lv_at hl 0 rfl) ?_
                    obtain ⟨o16, hq17, hf⟩ := xbind hf
                    obtain ⟨hm18, hf⟩ := xmoE hf
                    have hFc := xm_free hD hS hA
                    refine va_callv (va_runV (C := "ValueBenchModel") (As := [.int ((xba o1.2.2.2.2 3) (((xpi o1.2.2.2.2 2) (y1 - 1)) + y4).toNatClampNeg)]) (rest := []) ⟨hx, hb, hml, hown, htx⟩ (gM_letter l hl9 D cT aK aV H.size n aM ad7 rd gd8 vad9 o1.2.2.2.2 ((xba o1.2.2.2.2 3) (((xpi o1.2.2.2.2 2) (y1 - 1)) + y4).toNatClampNeg) o16 hq17) ⟨callB_of 1 htx (xw_goodC kw_6_54) rfl rfl rfl (htx _ kw_1_5) (htx _ kw_6_51) ⟨by decide, by decide, by decide +kernel⟩ ⟨Nat.le_of_ble_eq_true rfl, Nat.le_of_ble_eq_true rfl⟩, (htx _ kw_6_53), (htx _ kp_M_letter)⟩ ⟨xPre_blind, va_recv hK hP (ci := 5) rfl (q0 := 0) rfl, (fun U hU hW => ⟨rfl, xPre_of hZ hS hFc hP hD hK U hU hW⟩)⟩ rfl rfl hl.1 rfl (xm_room (Nat.le_of_ble_eq_true rfl)) dM_cased_83 ⟨hm18.1, hm18.2⟩) hS (fun q _ h => hFc q h) hFc (fun u9 t H1 locs ht hvm hr9 hB hz1 hk1 hS => ?_)
                    obtain ⟨hP1, hK1, hD1⟩ := hB
                    rw [ht] at hP1
                    obtain ⟨ad20, gd21, vad22⟩ := u9
                    obtain ⟨hv23, hn24⟩ := hr9
                    have hP : va_P D xcl (xMw cT aM ad20 rd gd21 vad22 o16.2.2 []) H1 := hP1
                    have hD : va_D A (xMw cT aM ad20 rd gd21 vad22 o16.2.2 []) := hD1.weaken (fun k q _ h => hFc q.1 h)
                    generalize H1 = H at hP hS ⊢
                    have hE9 : ∀ p, p < xct st → vad22 p = vad p := fun p h => (hv23 p (Nat.lt_of_lt_of_le h hN)).trans (hE p h)
                    have hE := hE9
                    have hN : xct st ≤ xct o16.2.2 := Nat.le_trans hN hn24
                    have ev25 : xv vad9 y1 = xv vad22 y1 := xvE hv23 (fun h => hg14 (Or.inr h))
                    have hl : lv_has ls 6 [(5, .int ((xba o1.2.2.2.2 3) (((xpi o1.2.2.2.2 2) (y1 - 1)) + y4).toNatClampNeg)), (4, .int y4), (3, .int y3), (0, .ref aM), (1, xv vad22 y1), (2, .int y2)] := by first | exact hl | ((try (rw [← ev25])); exact hl)
                    refine W.eq (g2 := F0 m 86 ls []) (by first | rfl | ((try (rw [ev25])); rfl)) ?_
                    refine lv_iinc (v := (y4 + 1)) (lv' := [(4, .int (y4 + 1)), (5, .int ((xba o1.2.2.2.2 3) (((xpi o1.2.2.2.2 2) (y1 - 1)) + y4).toNatClampNeg)), (3, .int y3), (0, .ref aM), (1, xv vad22 y1), (2, .int y2)]) hx hb dM_cased_86 hl (k := 1) rfl rfl (by decide) rfl (fun ls hl => ?_)
                    refine lv_goto (tgt := 8) hx hb dM_cased_89 (by decide) ?_
                    exact ih (1, (y4 + 1), y3, y1, y2, o16.2.2, ((wc + o1.2.1) + o16.1), ((wn + o1.2.2.1) + o16.2.1)) _ _ ls (⟨ad20, gd21, vad22, rfl, hf, hP, hD, hS, lv_sub hl [0, 2, 3, 4, 5] rfl, hE, hN⟩)
                  · rw [if_neg hc] at hf
                    refine lv_iinc (v := (((xba o1.2.2.2.2 3) (((xpi o1.2.2.2.2 2) (y1 - 1)) + y4).toNatClampNeg) + 32)) (lv' := [(5, .int (((xba o1.2.2.2.2 3) (((xpi o1.2.2.2.2 2) (y1 - 1)) + y4).toNatClampNeg) + 32)), (4, .int y4), (3, .int y3), (0, .ref aM), (1, xv vad9 y1), (2, .int y2)]) hx hb dM_cased_77 hl (k := 0) rfl rfl (by decide) rfl (fun ls hl => ?_)
                    refine lv_aload_n hx hb dM_cased_80 rfl (lv_at hl 3 rfl) ?_
                    refine lv_iload hx hb dM_cased_81 (lv_at hl 0 rfl) ?_
                    obtain ⟨o16, hq17, hf⟩ := xbind hf
                    obtain ⟨hm18, hf⟩ := xmoE hf
                    have hFc := xm_free hD hS hA
                    refine va_callv (va_runV (C := "ValueBenchModel") (As := [.int (((xba o1.2.2.2.2 3) (((xpi o1.2.2.2.2 2) (y1 - 1)) + y4).toNatClampNeg) + 32)]) (rest := []) ⟨hx, hb, hml, hown, htx⟩ (gM_letter l hl9 D cT aK aV H.size n aM ad7 rd gd8 vad9 o1.2.2.2.2 (((xba o1.2.2.2.2 3) (((xpi o1.2.2.2.2 2) (y1 - 1)) + y4).toNatClampNeg) + 32) o16 hq17) ⟨callB_of 1 htx (xw_goodC kw_6_54) rfl rfl rfl (htx _ kw_1_5) (htx _ kw_6_51) ⟨by decide, by decide, by decide +kernel⟩ ⟨Nat.le_of_ble_eq_true rfl, Nat.le_of_ble_eq_true rfl⟩, (htx _ kw_6_53), (htx _ kp_M_letter)⟩ ⟨xPre_blind, va_recv hK hP (ci := 5) rfl (q0 := 0) rfl, (fun U hU hW => ⟨rfl, xPre_of hZ hS hFc hP hD hK U hU hW⟩)⟩ rfl rfl hl.1 rfl (xm_room (Nat.le_of_ble_eq_true rfl)) dM_cased_83 ⟨hm18.1, hm18.2⟩) hS (fun q _ h => hFc q h) hFc (fun u9 t H1 locs ht hvm hr9 hB hz1 hk1 hS => ?_)
                    obtain ⟨hP1, hK1, hD1⟩ := hB
                    rw [ht] at hP1
                    obtain ⟨ad20, gd21, vad22⟩ := u9
                    obtain ⟨hv23, hn24⟩ := hr9
                    have hP : va_P D xcl (xMw cT aM ad20 rd gd21 vad22 o16.2.2 []) H1 := hP1
                    have hD : va_D A (xMw cT aM ad20 rd gd21 vad22 o16.2.2 []) := hD1.weaken (fun k q _ h => hFc q.1 h)
                    generalize H1 = H at hP hS ⊢
                    have hE9 : ∀ p, p < xct st → vad22 p = vad p := fun p h => (hv23 p (Nat.lt_of_lt_of_le h hN)).trans (hE p h)
                    have hE := hE9
                    have hN : xct st ≤ xct o16.2.2 := Nat.le_trans hN hn24
                    have ev25 : xv vad9 y1 = xv vad22 y1 := xvE hv23 (fun h => hg14 (Or.inr h))
                    have hl : lv_has ls 6 [(5, .int (((xba o1.2.2.2.2 3) (((xpi o1.2.2.2.2 2) (y1 - 1)) + y4).toNatClampNeg) + 32)), (4, .int y4), (3, .int y3), (0, .ref aM), (1, xv vad22 y1), (2, .int y2)] := by first | exact hl | ((try (rw [← ev25])); exact hl)
                    refine W.eq (g2 := F0 m 86 ls []) (by first | rfl | ((try (rw [ev25])); rfl)) ?_
                    refine lv_iinc (v := (y4 + 1)) (lv' := [(4, .int (y4 + 1)), (5, .int (((xba o1.2.2.2.2 3) (((xpi o1.2.2.2.2 2) (y1 - 1)) + y4).toNatClampNeg) + 32)), (3, .int y3), (0, .ref aM), (1, xv vad22 y1), (2, .int y2)]) hx hb dM_cased_86 hl (k := 1) rfl rfl (by decide) rfl (fun ls hl => ?_)
                    refine lv_goto (tgt := 8) hx hb dM_cased_89 (by decide) ?_
                    exact ih (1, (y4 + 1), y3, y1, y2, o16.2.2, ((wc + o1.2.1) + o16.1), ((wn + o1.2.2.1) + o16.2.1)) _ _ ls (⟨ad20, gd21, vad22, rfl, hf, hP, hD, hS, lv_sub hl [0, 2, 3, 4, 5] rfl, hE, hN⟩)
            · rw [if_neg hc] at hf
              refine lv_iinc (v := (((xba o1.2.2.2.2 3) (((xpi o1.2.2.2.2 2) (y1 - 1)) + y4).toNatClampNeg) + (-32))) (lv' := [(5, .int (((xba o1.2.2.2.2 3) (((xpi o1.2.2.2.2 2) (y1 - 1)) + y4).toNatClampNeg) + (-32))), (4, .int y4), (3, .int y3), (0, .ref aM), (1, xv vad9 y1), (2, .int y2)]) hx hb dM_cased_53 hl (k := 0) rfl rfl (by decide) rfl (fun ls hl => ?_)
              refine lv_goto (tgt := 80) hx hb dM_cased_56 (by decide) ?_
              refine lv_aload_n hx hb dM_cased_80 rfl (lv_at hl 3 rfl) ?_
              refine lv_iload hx hb dM_cased_81 (lv_at hl 0 rfl) ?_
              obtain ⟨o16, hq17, hf⟩ := xbind hf
              obtain ⟨hm18, hf⟩ := xmoE hf
              have hFc := xm_free hD hS hA
              refine va_callv (va_runV (C := "ValueBenchModel") (As := [.int (((xba o1.2.2.2.2 3) (((xpi o1.2.2.2.2 2) (y1 - 1)) + y4).toNatClampNeg) + (-32))]) (rest := []) ⟨hx, hb, hml, hown, htx⟩ (gM_letter l hl9 D cT aK aV H.size n aM ad7 rd gd8 vad9 o1.2.2.2.2 (((xba o1.2.2.2.2 3) (((xpi o1.2.2.2.2 2) (y1 - 1)) + y4).toNatClampNeg) + (-32)) o16 hq17) ⟨callB_of 1 htx (xw_goodC kw_6_54) rfl rfl rfl (htx _ kw_1_5) (htx _ kw_6_51) ⟨by decide, by decide, by decide +kernel⟩ ⟨Nat.le_of_ble_eq_true rfl, Nat.le_of_ble_eq_true rfl⟩, (htx _ kw_6_53), (htx _ kp_M_letter)⟩ ⟨xPre_blind, va_recv hK hP (ci := 5) rfl (q0 := 0) rfl, (fun U hU hW => ⟨rfl, xPre_of hZ hS hFc hP hD hK U hU hW⟩)⟩ rfl rfl hl.1 rfl (xm_room (Nat.le_of_ble_eq_true rfl)) dM_cased_83 ⟨hm18.1, hm18.2⟩) hS (fun q _ h => hFc q h) hFc (fun u9 t H1 locs ht hvm hr9 hB hz1 hk1 hS => ?_)
              obtain ⟨hP1, hK1, hD1⟩ := hB
              rw [ht] at hP1
              obtain ⟨ad20, gd21, vad22⟩ := u9
              obtain ⟨hv23, hn24⟩ := hr9
              have hP : va_P D xcl (xMw cT aM ad20 rd gd21 vad22 o16.2.2 []) H1 := hP1
              have hD : va_D A (xMw cT aM ad20 rd gd21 vad22 o16.2.2 []) := hD1.weaken (fun k q _ h => hFc q.1 h)
              generalize H1 = H at hP hS ⊢
              have hE9 : ∀ p, p < xct st → vad22 p = vad p := fun p h => (hv23 p (Nat.lt_of_lt_of_le h hN)).trans (hE p h)
              have hE := hE9
              have hN : xct st ≤ xct o16.2.2 := Nat.le_trans hN hn24
              have ev25 : xv vad9 y1 = xv vad22 y1 := xvE hv23 (fun h => hg14 (Or.inr h))
              have hl : lv_has ls 6 [(5, .int (((xba o1.2.2.2.2 3) (((xpi o1.2.2.2.2 2) (y1 - 1)) + y4).toNatClampNeg) + (-32))), (4, .int y4), (3, .int y3), (0, .ref aM), (1, xv vad22 y1), (2, .int y2)] := by first | exact hl | ((try (rw [← ev25])); exact hl)
              refine W.eq (g2 := F0 m 86 ls []) (by first | rfl | ((try (rw [ev25])); rfl)) ?_
              refine lv_iinc (v := (y4 + 1)) (lv' := [(4, .int (y4 + 1)), (5, .int (((xba o1.2.2.2.2 3) (((xpi o1.2.2.2.2 2) (y1 - 1)) + y4).toNatClampNeg) + (-32))), (3, .int y3), (0, .ref aM), (1, xv vad22 y1), (2, .int y2)]) hx hb dM_cased_86 hl (k := 1) rfl rfl (by decide) rfl (fun ls hl => ?_)
              refine lv_goto (tgt := 8) hx hb dM_cased_89 (by decide) ?_
              exact ih (1, (y4 + 1), y3, y1, y2, o16.2.2, ((wc + o1.2.1) + o16.1), ((wn + o1.2.2.1) + o16.2.1)) _ _ ls (⟨ad20, gd21, vad22, rfl, hf, hP, hD, hS, lv_sub hl [0, 2, 3, 4, 5] rfl, hE, hN⟩)
    rw [if_neg hk3] at hf
    by_cases hk14 : o1.1 = 1
    · rw [if_pos hk14] at hf
      obtain ⟨hg15, hf⟩ := xifn hf
      obtain ⟨hm16, hf⟩ := xmoE hf
      have hFc := xm_free hD hS hA
      refine xx_thr (vx_runV (C := "ValueBenchModel") (As := [xv vadL y1]) (rest := [.int y4]) ⟨hx, hb, hml, hown, htx⟩ (gM_text_1 l hl9 D cT aK aV H.size n aM adL rd gdL vadL ws9 y1 o1 hq2 hk14) ⟨callB_of 1 htx (xw_goodC kw_7_54) rfl rfl rfl (htx _ kw_1_5) (htx _ kw_7_51) ⟨by decide, by decide, by decide +kernel⟩ ⟨Nat.le_of_ble_eq_true rfl, Nat.le_of_ble_eq_true rfl⟩, (htx _ kw_7_53), (htx _ kp_M_text)⟩ ⟨xPre_blind, va_recv hK hP (ci := 5) rfl (q0 := 0) rfl, (fun U hU hW => ⟨rfl, xPre_of hZ hS hFc hP hD hK U hU hW⟩)⟩ rfl rfl hl.1 rfl (xm_room (Nat.le_of_ble_eq_true rfl)) dM_cased_12 ⟨hm16.1, hm16.2⟩) hS hFc (fun q _ h => hFc q h) (fun E ce q9 u9 t H1 locs ht hvm hr9 hB hz1 hk1 hS hce hcv hcl => ?_)
      obtain ⟨rfl, hP1, hK1, hD1⟩ := hB
      rw [ht] at hP1
      obtain ⟨ad18, gd19, vad20⟩ := u9
      obtain ⟨hv21, hn22⟩ := hr9
      have hP : va_P D xcl (xMw cT aM ad18 rd gd19 vad20 o1.2.2.2.2 []) H1 := hP1
      have hD : va_D A (xMw cT aM ad18 rd gd19 vad20 o1.2.2.2.2 []) := hD1.weaken (fun k q _ h => hFc q.1 h)
      generalize H1 = H at hP hS hce ⊢
      have hE9 : ∀ p, p < xct st → vad20 p = vad p := fun p h => (hv21 p (Nat.lt_of_lt_of_le h hN)).trans (hE p h)
      have hE := hE9
      have hN : xct st ≤ xct o1.2.2.2.2 := Nat.le_trans hN hn22
      have ev23 : xv vadL y1 = xv vad20 y1 := xvE hv21 hg15
      have hl : lv_has ls 6 [(4, .int y4), (3, .int y3), (0, .ref aM), (1, xv vad20 y1), (2, .int y2)] := by first | exact hl | ((try (rw [← ev23])); exact hl)
      obtain rfl := Option.some.inj hf
      exact vx_out (E := "java/lang/ArithmeticException") (fun x h => (hne x h).elim) hlocks hce hcv hcl (fun t ht ha => ⟨(ad18, gd19, vad20), ⟨hE, hN⟩, ⟨rfl, by rw [ht]; exact hP, va_K.moved ha hK, hD⟩, hS.F ht⟩) hS.2.2 (Nat.le_refl _) (Nat.le_refl _)
    rw [if_neg hk14] at hf
    exact nomatch hf
  refine lv_aload_n hx hb dM_cased_0 rfl (lv_at hl 0 rfl) ?_
  refine xm_get (v := .int (xsi st 4)) hx hb htx hown hK hP 4 (by decide) rfl (htx _ kw_5_91) rfl dM_cased_1 ?_
  refine lv_istore_n (lv' := [(3, .int (xsi st 4)), (0, .ref aM), (1, xv vad c0), (2, .int x1)]) hx hb dM_cased_4 rfl hl (by decide) rfl (fun ls hl => ?_)
  refine lv_iconst (v := 0) hx hb dM_cased_5 (by decide) ?_
  refine lv_istore (lv' := [(4, .int 0), (3, .int (xsi st 4)), (0, .ref aM), (1, xv vad c0), (2, .int x1)]) hx hb dM_cased_6 hl (by decide) rfl (fun ls hl => ?_)
  exact key n (1, (0 : Int32), (xsi st 4), c0, x1, st, 0, 0) _ _ ls (⟨ad, gd, vad, rfl, hf, hP, hD, hS, lv_sub hl [0, 1, 2, 3, 4] rfl, hE, hN⟩)
set_option maxHeartbeats 400000000 in
set_option maxRecDepth 100000 in
theorem gM_one1 (l : Launch) (hl9 : l.stackTraces = false) (D : va_G) (cT : Nat → ClassId) (aK aV : Nat → Nat) (sz d n : Nat) (aM : Nat) (ad rd gd vad : Nat → Nat) (st : xS) (x0 : Int32) (c1 : Nat) (out : Nat × Nat × Nat × Nat × xS) (hf : fM_one1 d n st x0 c1 = some out) (hkd : out.1 = 0) : xMet l yM_one1 wyM_one1 (16 * d + 11) out.2.1 out.2.2.1 (400 * d + 224) D cT aK aV sz [.ref aM, .int x0, xv vad c1] (xMw cT aM ad rd gd vad st []) (fun A => va_Qq (fun (r : Option Nat) (u : xU) => r = xca u.2.2 out.2.2.2.1 ∧ xE vad st out.2.2.2.2 u) (fun u t => xB D xcl cT A (xMw cT aM u.1 rd u.2.1 u.2.2 out.2.2.2.2 []) t) A) := by
  refine Met.ofW (cc := prog_13_method_66_code) (maxL := 3) (ret := (some (.object "ValueBenchModel$V"))) (by decide) rfl ?_
  intro p e s m args below meth c s₁ B hml hv
  obtain ⟨rfl, hsz, hZ, hP, hK, hD0⟩ := hv
  have hx := B.exec
  have hb := B.bytes
  have hr := B.returns
  have hts := atoms_spec (ws := wyM_one1) B.pre
  have htx := fun w h => hts w (List.mem_cons_of_mem _ h)
  have hown : s.vm.findClass "ValueBenchModel" = some m.cls := findClass_of_methodNamed B.named
  have hlocks := B.notSynchronized
  subst hsz
  have hD := hD0.self (sz := s.heap.size)
  generalize hAe : va_A (xMw cT aM ad rd gd vad st []) s.heap.size = A at hD hZ ⊢
  have hA : ∀ q : Nat, s.heap.size ≤ q → A q := fun q h => by rw [← hAe]; exact Or.inr h
  have hS : va_S A s.heap s.heap [] := va_S.rf
  have hl := lv_entry ([.ref aM, .int x0, xv vad c1]) (n := 3) (by simp [lg_sl, xvcat, xrscat, xcI, xcL, xcR, xcN])
  rw [show lv_args 0 [.ref aM, .int x0, xv vad c1] = [(0, .ref aM), (1, .int x0), (2, xv vad c1)] from by simp [lv_args, xvcat, xrscat, xcI, xcL, xcR, xcN]] at hl
  rw [lg_entry_eq]
  generalize (lg_sl ([.ref aM, .int x0, xv vad c1]) ++ List.replicate (3 - (lg_sl ([.ref aM, .int x0, xv vad c1])).length) Slot.unset).toArray = ls at hl ⊢
  have hl : lv_has ls 3 [(0, .ref aM), (1, .int x0), (2, xv vad c1)] := hl
  have hE : ∀ p, p < xct st → vad p = vad p := fun _ _ => rfl
  have hN : xct st ≤ xct st := Nat.le_refl _
  unfold fM_one1 at hf
  refine lv_iload_n hx hb dM_one1_0 rfl (lv_at hl 1 rfl) ?_
  by_cases hc1 : x0 = 0
  · rw [if_pos hc1] at hf
    refine lv_tableIn (off := 67) (tgt := 68) hx hb dM_one1_1 (by rw [hc1]; decide) (by rw [hc1]; decide) (by rw [hc1]; decide) (by decide) ?_
    refine lv_aload_n hx hb dM_one1_68 rfl (lv_at hl 0 rfl) ?_
    refine lv_aload_n hx hb dM_one1_69 rfl (lv_at hl 0 rfl) ?_
    refine xm_aload_n hx hb (xvor _ _) dM_one1_70 rfl (lv_at hl 2 rfl) ?_
    obtain ⟨o2, hq3, hf⟩ := xbind hf
    have hl := lv_sub (l' := [(0, .ref aM), (1, .int x0)]) hl [0, 1] rfl
    have hFc := xm_free hD hS hA
    refine va_calli (va_runV (C := "ValueBenchModel") (As := [xv vad c1]) (rest := [.ref aM]) ⟨hx, hb, hml, hown, htx⟩ (gM_isTrue l hl9 D cT aK aV s.heap.size n aM ad rd gd vad st c1 o2 hq3) ⟨callB_of 1 htx (xw_goodC kw_7_1) rfl rfl rfl (htx _ kw_1_5) (htx _ kw_6_238) ⟨by decide, by decide, by decide +kernel⟩ ⟨Nat.le_of_ble_eq_true rfl, Nat.le_of_ble_eq_true rfl⟩, (htx _ kw_7_0), (htx _ kp_M_isTrue)⟩ ⟨xPre_blind, va_recv hK hP (ci := 5) rfl (q0 := 0) rfl, (fun U hU hW => ⟨rfl, xPre_of hZ hS hFc hP hD hK U hU hW⟩)⟩ rfl rfl hl.1 rfl (xm_room (Nat.le_of_ble_eq_true rfl)) dM_one1_71 ⟨Nat.zero_le _, Nat.zero_le _⟩) hS (fun q _ h => hFc q h) hFc (fun r4 u9 t H1 locs ht hvm hr9 hB hz1 hk1 hS => ?_)
    obtain ⟨hP1, hK1, hD1⟩ := hB
    rw [ht] at hP1
    have hP : va_P D xcl (xMw cT aM ad rd gd vad st []) H1 := hP1
    have hD : va_D A (xMw cT aM ad rd gd vad st []) := hD1.weaken (fun k q _ h => hFc q.1 h)
    generalize H1 = H at hP hS ⊢
    rw [hr9]
    refine W.eq (g2 := F0 m 74 ls [.int o2, .ref aM]) (by first | rfl | (skip; rfl)) ?_
    refine lv_if_ne (tgt := 81) hx hb dM_one1_74 (by decide) (fun hc => ?_) (fun hc => ?_)
    · rw [if_neg hc] at hf
      refine lv_iconst (v := 0) hx hb dM_one1_81 (by decide) ?_
      obtain ⟨o5, hq6, hf⟩ := xbind hf
      obtain ⟨hm7, hf⟩ := xmoE hf
      have hFc := xm_free hD hS hA
      refine va_callq (va_runV (C := "ValueBenchModel") (As := [.int 0]) (rest := []) ⟨hx, hb, hml, hown, htx⟩ (gM_truth l hl9 D cT aK aV H.size n aM ad rd gd vad st (0 : Int32) o5 hq6) ⟨callB_of 1 htx (xw_goodC kw_7_5) rfl rfl rfl (htx _ kw_1_5) (htx _ kw_7_2) ⟨by decide, by decide, by decide +kernel⟩ ⟨Nat.le_of_ble_eq_true rfl, Nat.le_of_ble_eq_true rfl⟩, (htx _ kw_7_4), (htx _ kp_M_truth)⟩ ⟨xPre_blind, va_recv hK hP (ci := 5) rfl (q0 := 0) rfl, (fun U hU hW => ⟨rfl, xPre_of hZ hS hFc hP hD hK U hU hW⟩)⟩ rfl rfl hl.1 rfl (xm_room (Nat.le_of_ble_eq_true rfl)) dM_one1_82 ⟨hm7.1, hm7.2⟩) hS (fun q _ h => hFc q h) hFc (fun r8 u9 t H1 locs ht hvm hr9 hB hz1 hk1 hS => ?_)
      obtain ⟨hP1, hK1, hD1⟩ := hB
      rw [ht] at hP1
      obtain ⟨ad9, gd10, vad11⟩ := u9
      obtain ⟨hr9, hv12, hn13⟩ := hr9
      have hP : va_P D xcl (xMw cT aM ad9 rd gd10 vad11 o5.2.2.2 []) H1 := hP1
      have hD : va_D A (xMw cT aM ad9 rd gd10 vad11 o5.2.2.2 []) := hD1.weaken (fun k q _ h => hFc q.1 h)
      generalize H1 = H at hP hS ⊢
      have hE9 : ∀ p, p < xct st → vad11 p = vad p := fun p h => (hv12 p (Nat.lt_of_lt_of_le h hN)).trans (hE p h)
      have hE := hE9
      have hN : xct st ≤ xct o5.2.2.2 := Nat.le_trans hN hn13
      rw [hr9]
      refine W.eq (g2 := F0 m 85 ls [xv vad11 o5.2.2.1]) (by first | rfl | (skip; rfl)) ?_
      obtain rfl := Option.some.inj hf
      exact W.aret (v := xv vad11 o5.2.2.1) hx hb hr (Or.inl ⟨_, rfl⟩) (xvor _ _) (fun t ht hW => ⟨⟨xca vad11 o5.2.2.1, (ad9, gd10, vad11), rfl, ⟨rfl, hE, hN⟩, by rw [ht]; exact hP, va_K.moved hW.alike hK, hD⟩, hS.F ht⟩) hS.2.2 dM_one1_85
    · rw [if_pos hc] at hf
      refine lv_iconst (v := 1) hx hb dM_one1_77 (by decide) ?_
      refine lv_goto (tgt := 82) hx hb dM_one1_78 (by decide) ?_
      obtain ⟨o5, hq6, hf⟩ := xbind hf
      obtain ⟨hm7, hf⟩ := xmoE hf
      have hFc := xm_free hD hS hA
      refine va_callq (va_runV (C := "ValueBenchModel") (As := [.int 1]) (rest := []) ⟨hx, hb, hml, hown, htx⟩ (gM_truth l hl9 D cT aK aV H.size n aM ad rd gd vad st (1 : Int32) o5 hq6) ⟨callB_of 1 htx (xw_goodC kw_7_5) rfl rfl rfl (htx _ kw_1_5) (htx _ kw_7_2) ⟨by decide, by decide, by decide +kernel⟩ ⟨Nat.le_of_ble_eq_true rfl, Nat.le_of_ble_eq_true rfl⟩, (htx _ kw_7_4), (htx _ kp_M_truth)⟩ ⟨xPre_blind, va_recv hK hP (ci := 5) rfl (q0 := 0) rfl, (fun U hU hW => ⟨rfl, xPre_of hZ hS hFc hP hD hK U hU hW⟩)⟩ rfl rfl hl.1 rfl (xm_room (Nat.le_of_ble_eq_true rfl)) dM_one1_82 ⟨hm7.1, hm7.2⟩) hS (fun q _ h => hFc q h) hFc (fun r8 u9 t H1 locs ht hvm hr9 hB hz1 hk1 hS => ?_)
      obtain ⟨hP1, hK1, hD1⟩ := hB
      rw [ht] at hP1
      obtain ⟨ad9, gd10, vad11⟩ := u9
      obtain ⟨hr9, hv12, hn13⟩ := hr9
      have hP : va_P D xcl (xMw cT aM ad9 rd gd10 vad11 o5.2.2.2 []) H1 := hP1
      have hD : va_D A (xMw cT aM ad9 rd gd10 vad11 o5.2.2.2 []) := hD1.weaken (fun k q _ h => hFc q.1 h)
      generalize H1 = H at hP hS ⊢
      have hE9 : ∀ p, p < xct st → vad11 p = vad p := fun p h => (hv12 p (Nat.lt_of_lt_of_le h hN)).trans (hE p h)
      have hE := hE9
      have hN : xct st ≤ xct o5.2.2.2 := Nat.le_trans hN hn13
      rw [hr9]
      refine W.eq (g2 := F0 m 85 ls [xv vad11 o5.2.2.1]) (by first | rfl | (skip; rfl)) ?_
      obtain rfl := Option.some.inj hf
      exact W.aret (v := xv vad11 o5.2.2.1) hx hb hr (Or.inl ⟨_, rfl⟩) (xvor _ _) (fun t ht hW => ⟨⟨xca vad11 o5.2.2.1, (ad9, gd10, vad11), rfl, ⟨rfl, hE, hN⟩, by rw [ht]; exact hP, va_K.moved hW.alike hK, hD⟩, hS.F ht⟩) hS.2.2 dM_one1_85
  rw [if_neg hc1] at hf
  by_cases hc5 : x0 = 1
  · rw [if_pos hc5] at hf
    refine lv_tableIn (off := 85) (tgt := 86) hx hb dM_one1_1 (by rw [hc5]; decide) (by rw [hc5]; decide) (by rw [hc5]; decide) (by decide) ?_
    refine lv_aload_n hx hb dM_one1_86 rfl (lv_at hl 0 rfl) ?_
    refine xm_aload_n hx hb (xvor _ _) dM_one1_87 rfl (lv_at hl 2 rfl) ?_
    obtain ⟨o6, hq7, hf⟩ := xbind hf
    have hl := lv_sub (l' := [(0, .ref aM), (1, .int x0)]) hl [0, 1] rfl
    by_cases hk8 : o6.1 = 0
    · rw [if_pos hk8] at hf
      obtain ⟨hm9, hf⟩ := xmoE hf
      have hFc := xm_free hD hS hA
      refine va_callq (va_runV (C := "ValueBenchModel") (As := [xv vad c1]) (rest := []) ⟨hx, hb, hml, hown, htx⟩ (gM_length l hl9 D cT aK aV s.heap.size n aM ad rd gd vad st c1 o6 hq7 hk8) ⟨callB_of 1 htx (xw_goodC kw_7_9) rfl rfl rfl (htx _ kw_1_5) (htx _ kw_7_6) ⟨by decide, by decide, by decide +kernel⟩ ⟨Nat.le_of_ble_eq_true rfl, Nat.le_of_ble_eq_true rfl⟩, (htx _ kw_7_8), (htx _ kp_M_length)⟩ ⟨xPre_blind, va_recv hK hP (ci := 5) rfl (q0 := 0) rfl, (fun U hU hW => ⟨rfl, xPre_of hZ hS hFc hP hD hK U hU hW⟩)⟩ rfl rfl hl.1 rfl (xm_room (Nat.le_of_ble_eq_true rfl)) dM_one1_88 ⟨hm9.1, hm9.2⟩) hS (fun q _ h => hFc q h) hFc (fun r10 u9 t H1 locs ht hvm hr9 hB hz1 hk1 hS => ?_)
      obtain ⟨hP1, hK1, hD1⟩ := hB
      rw [ht] at hP1
      obtain ⟨ad11, gd12, vad13⟩ := u9
      obtain ⟨hr9, hv14, hn15⟩ := hr9
      have hP : va_P D xcl (xMw cT aM ad11 rd gd12 vad13 o6.2.2.2.2 []) H1 := hP1
      have hD : va_D A (xMw cT aM ad11 rd gd12 vad13 o6.2.2.2.2 []) := hD1.weaken (fun k q _ h => hFc q.1 h)
      generalize H1 = H at hP hS ⊢
      have hE9 : ∀ p, p < xct st → vad13 p = vad p := fun p h => (hv14 p (Nat.lt_of_lt_of_le h hN)).trans (hE p h)
      have hE := hE9
      have hN : xct st ≤ xct o6.2.2.2.2 := Nat.le_trans hN hn15
      rw [hr9]
      refine W.eq (g2 := F0 m 91 ls [xv vad13 o6.2.2.2.1]) (by first | rfl | (skip; rfl)) ?_
      obtain rfl := Option.some.inj hf
      exact W.aret (v := xv vad13 o6.2.2.2.1) hx hb hr (Or.inl ⟨_, rfl⟩) (xvor _ _) (fun t ht hW => ⟨⟨xca vad13 o6.2.2.2.1, (ad11, gd12, vad13), rfl, ⟨rfl, hE, hN⟩, by rw [ht]; exact hP, va_K.moved hW.alike hK, hD⟩, hS.F ht⟩) hS.2.2 dM_one1_91
    rw [if_neg hk8] at hf
    by_cases hk16 : o6.1 = 1
    · rw [if_pos hk16] at hf
      obtain ⟨hm17, hf⟩ := xmoE hf
      obtain rfl := Option.some.inj hf
      exact absurd (show (1 : Nat) = 0 from hkd) (by decide)
    rw [if_neg hk16] at hf
    exact nomatch hf
  rw [if_neg hc5] at hf
  by_cases hc24 : x0 = 2
  · rw [if_pos hc24] at hf
    refine lv_tableIn (off := 91) (tgt := 92) hx hb dM_one1_1 (by rw [hc24]; decide) (by rw [hc24]; decide) (by rw [hc24]; decide) (by decide) ?_
    refine lv_aload_n hx hb dM_one1_92 rfl (lv_at hl 0 rfl) ?_
    refine xm_aload_n hx hb (xvor _ _) dM_one1_93 rfl (lv_at hl 2 rfl) ?_
    refine lv_iconst (v := 1) hx hb dM_one1_94 (by decide) ?_
    obtain ⟨o25, hq26, hf⟩ := xbind hf
    have hl := lv_sub (l' := [(0, .ref aM), (1, .int x0)]) hl [0, 1] rfl
    by_cases hk27 : o25.1 = 0
    · rw [if_pos hk27] at hf
      obtain ⟨hm28, hf⟩ := xmoE hf
      have hFc := xm_free hD hS hA
      refine va_callq (va_runV (C := "ValueBenchModel") (As := [xv vad c1, .int 1]) (rest := []) ⟨hx, hb, hml, hown, htx⟩ (gM_keysOf l hl9 D cT aK aV s.heap.size d n aM ad rd gd vad st c1 (1 : Int32) o25 hq26 hk27) ⟨callB_of 2 htx (xw_goodC kw_7_13) rfl rfl rfl (htx _ kw_1_5) (htx _ kw_7_10) ⟨by decide, by decide, by decide +kernel⟩ ⟨(by show (16 * d + 10) + 1 ≤ 16 * d + 11; omega), (by show 8 + (5 + 11) + (400 * d + 200) ≤ 400 * d + 224; omega)⟩, (htx _ kw_7_12), (htx _ kp_M_keysOf)⟩ ⟨xPre_blind, va_recv hK hP (ci := 5) rfl (q0 := 0) rfl, (fun U hU hW => ⟨rfl, xPre_of hZ hS hFc hP hD hK U hU hW⟩)⟩ rfl rfl hl.1 rfl (xm_room (Nat.le_of_ble_eq_true rfl)) dM_one1_95 ⟨hm28.1, hm28.2⟩) hS (fun q _ h => hFc q h) hFc (fun r29 u9 t H1 locs ht hvm hr9 hB hz1 hk1 hS => ?_)
      obtain ⟨hP1, hK1, hD1⟩ := hB
      rw [ht] at hP1
      obtain ⟨ad30, gd31, vad32⟩ := u9
      obtain ⟨hr9, hv33, hn34⟩ := hr9
      have hP : va_P D xcl (xMw cT aM ad30 rd gd31 vad32 o25.2.2.2.2 []) H1 := hP1
      have hD : va_D A (xMw cT aM ad30 rd gd31 vad32 o25.2.2.2.2 []) := hD1.weaken (fun k q _ h => hFc q.1 h)
      generalize H1 = H at hP hS ⊢
      have hE9 : ∀ p, p < xct st → vad32 p = vad p := fun p h => (hv33 p (Nat.lt_of_lt_of_le h hN)).trans (hE p h)
      have hE := hE9
      have hN : xct st ≤ xct o25.2.2.2.2 := Nat.le_trans hN hn34
      rw [hr9]
      refine W.eq (g2 := F0 m 98 ls [xv vad32 o25.2.2.2.1]) (by first | rfl | (skip; rfl)) ?_
      obtain rfl := Option.some.inj hf
      exact W.aret (v := xv vad32 o25.2.2.2.1) hx hb hr (Or.inl ⟨_, rfl⟩) (xvor _ _) (fun t ht hW => ⟨⟨xca vad32 o25.2.2.2.1, (ad30, gd31, vad32), rfl, ⟨rfl, hE, hN⟩, by rw [ht]; exact hP, va_K.moved hW.alike hK, hD⟩, hS.F ht⟩) hS.2.2 dM_one1_98
    rw [if_neg hk27] at hf
    by_cases hk35 : o25.1 = 1
    · rw [if_pos hk35] at hf
      obtain ⟨hm36, hf⟩ := xmoE hf
      obtain rfl := Option.some.inj hf
      exact absurd (show (2 : Nat) = 0 from hkd) (by decide)
    rw [if_neg hk35] at hf
    by_cases hk43 : o25.1 = 2
    · rw [if_pos hk43] at hf
      obtain ⟨hm44, hf⟩ := xmoE hf
      obtain rfl := Option.some.inj hf
      exact absurd (show (1 : Nat) = 0 from hkd) (by decide)
    rw [if_neg hk43] at hf
    exact nomatch hf
  rw [if_neg hc24] at hf
  by_cases hc51 : x0 = 3
  · rw [if_pos hc51] at hf
    refine lv_tableIn (off := 98) (tgt := 99) hx hb dM_one1_1 (by rw [hc51]; decide) (by rw [hc51]; decide) (by rw [hc51]; decide) (by decide) ?_
    refine lv_aload_n hx hb dM_one1_99 rfl (lv_at hl 0 rfl) ?_
    refine xm_aload_n hx hb (xvor _ _) dM_one1_100 rfl (lv_at hl 2 rfl) ?_
    refine lv_iconst (v := 0) hx hb dM_one1_101 (by decide) ?_
    obtain ⟨o52, hq53, hf⟩ := xbind hf
    have hl := lv_sub (l' := [(0, .ref aM), (1, .int x0)]) hl [0, 1] rfl
    by_cases hk54 : o52.1 = 0
    · rw [if_pos hk54] at hf
      obtain ⟨hm55, hf⟩ := xmoE hf
      have hFc := xm_free hD hS hA
      refine va_callq (va_runV (C := "ValueBenchModel") (As := [xv vad c1, .int 0]) (rest := []) ⟨hx, hb, hml, hown, htx⟩ (gM_keysOf l hl9 D cT aK aV s.heap.size d n aM ad rd gd vad st c1 (0 : Int32) o52 hq53 hk54) ⟨callB_of 2 htx (xw_goodC kw_7_13) rfl rfl rfl (htx _ kw_1_5) (htx _ kw_7_10) ⟨by decide, by decide, by decide +kernel⟩ ⟨(by show (16 * d + 10) + 1 ≤ 16 * d + 11; omega), (by show 8 + (5 + 11) + (400 * d + 200) ≤ 400 * d + 224; omega)⟩, (htx _ kw_7_12), (htx _ kp_M_keysOf)⟩ ⟨xPre_blind, va_recv hK hP (ci := 5) rfl (q0 := 0) rfl, (fun U hU hW => ⟨rfl, xPre_of hZ hS hFc hP hD hK U hU hW⟩)⟩ rfl rfl hl.1 rfl (xm_room (Nat.le_of_ble_eq_true rfl)) dM_one1_102 ⟨hm55.1, hm55.2⟩) hS (fun q _ h => hFc q h) hFc (fun r56 u9 t H1 locs ht hvm hr9 hB hz1 hk1 hS => ?_)
      obtain ⟨hP1, hK1, hD1⟩ := hB
      rw [ht] at hP1
      obtain ⟨ad57, gd58, vad59⟩ := u9
      obtain ⟨hr9, hv60, hn61⟩ := hr9
      have hP : va_P D xcl (xMw cT aM ad57 rd gd58 vad59 o52.2.2.2.2 []) H1 := hP1
      have hD : va_D A (xMw cT aM ad57 rd gd58 vad59 o52.2.2.2.2 []) := hD1.weaken (fun k q _ h => hFc q.1 h)
      generalize H1 = H at hP hS ⊢
      have hE9 : ∀ p, p < xct st → vad59 p = vad p := fun p h => (hv60 p (Nat.lt_of_lt_of_le h hN)).trans (hE p h)
      have hE := hE9
      have hN : xct st ≤ xct o52.2.2.2.2 := Nat.le_trans hN hn61
      rw [hr9]
      refine W.eq (g2 := F0 m 105 ls [xv vad59 o52.2.2.2.1]) (by first | rfl | (skip; rfl)) ?_
      obtain rfl := Option.some.inj hf
      exact W.aret (v := xv vad59 o52.2.2.2.1) hx hb hr (Or.inl ⟨_, rfl⟩) (xvor _ _) (fun t ht hW => ⟨⟨xca vad59 o52.2.2.2.1, (ad57, gd58, vad59), rfl, ⟨rfl, hE, hN⟩, by rw [ht]; exact hP, va_K.moved hW.alike hK, hD⟩, hS.F ht⟩) hS.2.2 dM_one1_105
    rw [if_neg hk54] at hf
    by_cases hk62 : o52.1 = 1
    · rw [if_pos hk62] at hf
      obtain ⟨hm63, hf⟩ := xmoE hf
      obtain rfl := Option.some.inj hf
      exact absurd (show (2 : Nat) = 0 from hkd) (by decide)
    rw [if_neg hk62] at hf
    by_cases hk70 : o52.1 = 2
    · rw [if_pos hk70] at hf
      obtain ⟨hm71, hf⟩ := xmoE hf
      obtain rfl := Option.some.inj hf
      exact absurd (show (1 : Nat) = 0 from hkd) (by decide)
    rw [if_neg hk70] at hf
    exact nomatch hf
  rw [if_neg hc51] at hf
  by_cases hc78 : x0 = 4
  · rw [if_pos hc78] at hf
    refine lv_tableIn (off := 105) (tgt := 106) hx hb dM_one1_1 (by rw [hc78]; decide) (by rw [hc78]; decide) (by rw [hc78]; decide) (by decide) ?_
    refine xm_aload_n hx hb (xvor _ _) dM_one1_106 rfl (lv_at hl 2 rfl) ?_
    obtain ⟨hg79, hf⟩ := xifn hf
    refine xm_vget (v := .int ((xpi st 0) (c1 - 1))) hx hb htx hown hK hP 0 (by decide) hg79 rfl ((hZ.1 (93, "kind", "I") (List.mem_of_getElem? (i := 0) rfl)).use rfl) rfl dM_one1_107 ?_
    refine lv_iconst (v := 4) hx hb dM_one1_110 (by decide) ?_
    refine lv_icmp_ne (tgt := 118) hx hb dM_one1_111 (by decide) (fun hc => ?_) (fun hc => ?_)
    · rw [if_neg hc] at hf
      refine lv_aload_n hx hb dM_one1_118 rfl (lv_at hl 0 rfl) ?_
      refine xm_aload_n hx hb (xvor _ _) dM_one1_119 rfl (lv_at hl 2 rfl) ?_
      obtain ⟨o80, hq81, hf⟩ := xbind hf
      have hl := lv_sub (l' := [(0, .ref aM), (1, .int x0)]) hl [0, 1] rfl
      by_cases hk82 : o80.1 = 0
      · rw [if_pos hk82] at hf
        obtain ⟨hm83, hf⟩ := xmoE hf
        have hFc := xm_free hD hS hA
        refine va_callq (va_runV (C := "ValueBenchModel") (As := [xv vad c1]) (rest := []) ⟨hx, hb, hml, hown, htx⟩ (gM_told l hl9 D cT aK aV s.heap.size d n aM ad rd gd vad st c1 o80 hq81 hk82) ⟨callB_of 1 htx (xw_goodC kw_7_46) rfl rfl rfl (htx _ kw_1_5) (htx _ kw_7_43) ⟨by decide, by decide, by decide +kernel⟩ ⟨(by show (16 * d + 8) + 1 ≤ 16 * d + 11; omega), (by show 8 + (6 + 11) + (400 * d + 142) ≤ 400 * d + 224; omega)⟩, (htx _ kw_7_45), (htx _ kp_M_told)⟩ ⟨xPre_blind, va_recv hK hP (ci := 5) rfl (q0 := 0) rfl, (fun U hU hW => ⟨rfl, xPre_of hZ hS hFc hP hD hK U hU hW⟩)⟩ rfl rfl hl.1 rfl (xm_room (Nat.le_of_ble_eq_true rfl)) dM_one1_120 ⟨hm83.1, hm83.2⟩) hS (fun q _ h => hFc q h) hFc (fun r84 u9 t H1 locs ht hvm hr9 hB hz1 hk1 hS => ?_)
        obtain ⟨hP1, hK1, hD1⟩ := hB
        rw [ht] at hP1
        obtain ⟨ad85, gd86, vad87⟩ := u9
        obtain ⟨hr9, hv88, hn89⟩ := hr9
        have hP : va_P D xcl (xMw cT aM ad85 rd gd86 vad87 o80.2.2.2.2 []) H1 := hP1
        have hD : va_D A (xMw cT aM ad85 rd gd86 vad87 o80.2.2.2.2 []) := hD1.weaken (fun k q _ h => hFc q.1 h)
        generalize H1 = H at hP hS ⊢
        have hE9 : ∀ p, p < xct st → vad87 p = vad p := fun p h => (hv88 p (Nat.lt_of_lt_of_le h hN)).trans (hE p h)
        have hE := hE9
        have hN : xct st ≤ xct o80.2.2.2.2 := Nat.le_trans hN hn89
        rw [hr9]
        refine W.eq (g2 := F0 m 123 ls [xv vad87 o80.2.2.2.1]) (by first | rfl | (skip; rfl)) ?_
        obtain rfl := Option.some.inj hf
        exact W.aret (v := xv vad87 o80.2.2.2.1) hx hb hr (Or.inl ⟨_, rfl⟩) (xvor _ _) (fun t ht hW => ⟨⟨xca vad87 o80.2.2.2.1, (ad85, gd86, vad87), rfl, ⟨rfl, hE, hN⟩, by rw [ht]; exact hP, va_K.moved hW.alike hK, hD⟩, hS.F ht⟩) hS.2.2 dM_one1_123
      rw [if_neg hk82] at hf
      by_cases hk90 : o80.1 = 1
      · rw [if_pos hk90] at hf
        obtain ⟨hm91, hf⟩ := xmoE hf
        obtain rfl := Option.some.inj hf
        exact absurd (show (2 : Nat) = 0 from hkd) (by decide)
      rw [if_neg hk90] at hf
      exact nomatch hf
    · rw [if_pos hc] at hf
      refine xm_aload_n hx hb (xvor _ _) dM_one1_114 rfl (lv_at hl 2 rfl) ?_
      refine lv_goto (tgt := 123) hx hb dM_one1_115 (by decide) ?_
      obtain rfl := Option.some.inj hf
      exact W.aret (v := xv vad c1) hx hb hr (Or.inl ⟨_, rfl⟩) (xvor _ _) (fun t ht hW => ⟨⟨xca vad c1, (ad, gd, vad), rfl, ⟨rfl, hE, hN⟩, by rw [ht]; exact hP, va_K.moved hW.alike hK, hD⟩, hS.F ht⟩) hS.2.2 dM_one1_123
  rw [if_neg hc78] at hf
  by_cases hc80 : x0 = 5
  · rw [if_pos hc80] at hf
    refine lv_tableIn (off := 123) (tgt := 124) hx hb dM_one1_1 (by rw [hc80]; decide) (by rw [hc80]; decide) (by rw [hc80]; decide) (by decide) ?_
    refine lv_aload_n hx hb dM_one1_124 rfl (lv_at hl 0 rfl) ?_
    refine xm_aload_n hx hb (xvor _ _) dM_one1_125 rfl (lv_at hl 2 rfl) ?_
    obtain ⟨o81, hq82, hf⟩ := xbind hf
    have hl := lv_sub (l' := [(0, .ref aM), (1, .int x0)]) hl [0, 1] rfl
    by_cases hk83 : o81.1 = 0
    · rw [if_pos hk83] at hf
      obtain ⟨hm84, hf⟩ := xmoE hf
      have hFc := xm_free hD hS hA
      refine va_callq (va_runV (C := "ValueBenchModel") (As := [xv vad c1]) (rest := []) ⟨hx, hb, hml, hown, htx⟩ (gM_toNumber l hl9 D cT aK aV s.heap.size n aM ad rd gd vad st c1 o81 hq82 hk83) ⟨callB_of 1 htx (xw_goodC kw_7_50) rfl rfl rfl (htx _ kw_1_5) (htx _ kw_7_47) ⟨by decide, by decide, by decide +kernel⟩ ⟨Nat.le_of_ble_eq_true rfl, Nat.le_of_ble_eq_true rfl⟩, (htx _ kw_7_49), (htx _ kp_M_toNumber)⟩ ⟨xPre_blind, va_recv hK hP (ci := 5) rfl (q0 := 0) rfl, (fun U hU hW => ⟨rfl, xPre_of hZ hS hFc hP hD hK U hU hW⟩)⟩ rfl rfl hl.1 rfl (xm_room (Nat.le_of_ble_eq_true rfl)) dM_one1_126 ⟨hm84.1, hm84.2⟩) hS (fun q _ h => hFc q h) hFc (fun r85 u9 t H1 locs ht hvm hr9 hB hz1 hk1 hS => ?_)
      obtain ⟨hP1, hK1, hD1⟩ := hB
      rw [ht] at hP1
      obtain ⟨ad86, gd87, vad88⟩ := u9
      obtain ⟨hr9, hv89, hn90⟩ := hr9
      have hP : va_P D xcl (xMw cT aM ad86 rd gd87 vad88 o81.2.2.2.2 []) H1 := hP1
      have hD : va_D A (xMw cT aM ad86 rd gd87 vad88 o81.2.2.2.2 []) := hD1.weaken (fun k q _ h => hFc q.1 h)
      generalize H1 = H at hP hS ⊢
      have hE9 : ∀ p, p < xct st → vad88 p = vad p := fun p h => (hv89 p (Nat.lt_of_lt_of_le h hN)).trans (hE p h)
      have hE := hE9
      have hN : xct st ≤ xct o81.2.2.2.2 := Nat.le_trans hN hn90
      rw [hr9]
      refine W.eq (g2 := F0 m 129 ls [xv vad88 o81.2.2.2.1]) (by first | rfl | (skip; rfl)) ?_
      obtain rfl := Option.some.inj hf
      exact W.aret (v := xv vad88 o81.2.2.2.1) hx hb hr (Or.inl ⟨_, rfl⟩) (xvor _ _) (fun t ht hW => ⟨⟨xca vad88 o81.2.2.2.1, (ad86, gd87, vad88), rfl, ⟨rfl, hE, hN⟩, by rw [ht]; exact hP, va_K.moved hW.alike hK, hD⟩, hS.F ht⟩) hS.2.2 dM_one1_129
    rw [if_neg hk83] at hf
    by_cases hk91 : o81.1 = 1
    · rw [if_pos hk91] at hf
      obtain ⟨hm92, hf⟩ := xmoE hf
      obtain rfl := Option.some.inj hf
      exact absurd (show (1 : Nat) = 0 from hkd) (by decide)
    rw [if_neg hk91] at hf
    exact nomatch hf
  rw [if_neg hc80] at hf
  by_cases hc99 : x0 = 6
  · rw [if_pos hc99] at hf
    refine lv_tableIn (off := 129) (tgt := 130) hx hb dM_one1_1 (by rw [hc99]; decide) (by rw [hc99]; decide) (by rw [hc99]; decide) (by decide) ?_
    refine lv_aload_n hx hb dM_one1_130 rfl (lv_at hl 0 rfl) ?_
    refine xm_aload_n hx hb (xvor _ _) dM_one1_131 rfl (lv_at hl 2 rfl) ?_
    obtain ⟨o100, hq101, hf⟩ := xbind hf
    have hl := lv_sub (l' := [(0, .ref aM), (1, .int x0)]) hl [0, 1] rfl
    by_cases hk102 : o100.1 = 0
    · rw [if_pos hk102] at hf
      obtain ⟨hm103, hf⟩ := xmoE hf
      have hFc := xm_free hD hS hA
      refine va_callq (va_runV (C := "ValueBenchModel") (As := [xv vad c1]) (rest := []) ⟨hx, hb, hml, hown, htx⟩ (gM_told l hl9 D cT aK aV s.heap.size d n aM ad rd gd vad st c1 o100 hq101 hk102) ⟨callB_of 1 htx (xw_goodC kw_7_46) rfl rfl rfl (htx _ kw_1_5) (htx _ kw_7_43) ⟨by decide, by decide, by decide +kernel⟩ ⟨(by show (16 * d + 8) + 1 ≤ 16 * d + 11; omega), (by show 8 + (6 + 11) + (400 * d + 142) ≤ 400 * d + 224; omega)⟩, (htx _ kw_7_45), (htx _ kp_M_told)⟩ ⟨xPre_blind, va_recv hK hP (ci := 5) rfl (q0 := 0) rfl, (fun U hU hW => ⟨rfl, xPre_of hZ hS hFc hP hD hK U hU hW⟩)⟩ rfl rfl hl.1 rfl (xm_room (Nat.le_of_ble_eq_true rfl)) dM_one1_132 ⟨hm103.1, hm103.2⟩) hS (fun q _ h => hFc q h) hFc (fun r104 u9 t H1 locs ht hvm hr9 hB hz1 hk1 hS => ?_)
      obtain ⟨hP1, hK1, hD1⟩ := hB
      rw [ht] at hP1
      obtain ⟨ad105, gd106, vad107⟩ := u9
      obtain ⟨hr9, hv108, hn109⟩ := hr9
      have hP : va_P D xcl (xMw cT aM ad105 rd gd106 vad107 o100.2.2.2.2 []) H1 := hP1
      have hD : va_D A (xMw cT aM ad105 rd gd106 vad107 o100.2.2.2.2 []) := hD1.weaken (fun k q _ h => hFc q.1 h)
      generalize H1 = H at hP hS ⊢
      have hE9 : ∀ p, p < xct st → vad107 p = vad p := fun p h => (hv108 p (Nat.lt_of_lt_of_le h hN)).trans (hE p h)
      have hE := hE9
      have hN : xct st ≤ xct o100.2.2.2.2 := Nat.le_trans hN hn109
      rw [hr9]
      refine W.eq (g2 := F0 m 135 ls [xv vad107 o100.2.2.2.1]) (by first | rfl | (skip; rfl)) ?_
      obtain rfl := Option.some.inj hf
      exact W.aret (v := xv vad107 o100.2.2.2.1) hx hb hr (Or.inl ⟨_, rfl⟩) (xvor _ _) (fun t ht hW => ⟨⟨xca vad107 o100.2.2.2.1, (ad105, gd106, vad107), rfl, ⟨rfl, hE, hN⟩, by rw [ht]; exact hP, va_K.moved hW.alike hK, hD⟩, hS.F ht⟩) hS.2.2 dM_one1_135
    rw [if_neg hk102] at hf
    by_cases hk110 : o100.1 = 1
    · rw [if_pos hk110] at hf
      obtain ⟨hm111, hf⟩ := xmoE hf
      obtain rfl := Option.some.inj hf
      exact absurd (show (2 : Nat) = 0 from hkd) (by decide)
    rw [if_neg hk110] at hf
    exact nomatch hf
  rw [if_neg hc99] at hf
  by_cases hc118 : x0 = 7
  · rw [if_pos hc118] at hf
    refine lv_tableIn (off := 135) (tgt := 136) hx hb dM_one1_1 (by rw [hc118]; decide) (by rw [hc118]; decide) (by rw [hc118]; decide) (by decide) ?_
    refine lv_aload_n hx hb dM_one1_136 rfl (lv_at hl 0 rfl) ?_
    refine xm_aload_n hx hb (xvor _ _) dM_one1_137 rfl (lv_at hl 2 rfl) ?_
    obtain ⟨o119, hq120, hf⟩ := xbind hf
    have hl := lv_sub (l' := [(0, .ref aM), (1, .int x0)]) hl [0, 1] rfl
    by_cases hk121 : o119.1 = 0
    · rw [if_pos hk121] at hf
      obtain ⟨hm122, hf⟩ := xmoE hf
      have hFc := xm_free hD hS hA
      refine va_callq (vx_runVW (C := "ValueBenchModel") (As := [xv vad c1]) (rest := []) ⟨hx, hb, hml, hown, htx⟩ (gM_fromJson l hl9 D cT aK aV s.heap.size d n aM ad rd gd vad st c1 o119 hq120 hk121) (xcVW 1 htx (xw_goodC kw_7_58) rfl rfl rfl (htx _ kw_1_5) (htx _ kw_7_55) ⟨by decide, by decide, by decide +kernel⟩ ⟨(by show (16 * d + 8) + 1 ≤ 16 * d + 11; omega), (by show 8 + (10 + 11) + (400 * d + 145) ≤ 400 * d + 224; omega)⟩ (htx _ kw_7_57) (htx _ kp_M_fromJson)) ⟨xPre_blind, va_recv hK hP (ci := 5) rfl (q0 := 0) rfl, (fun U hU hW => ⟨rfl, xPre_of hZ hS hFc hP hD hK U hU hW⟩)⟩ rfl rfl hl.1 rfl (xm_room (Nat.le_of_ble_eq_true rfl)) dM_one1_138 ⟨hm122.1, hm122.2⟩) hS (fun q _ h => hFc q h) hFc (fun r123 u9 t H1 locs ht hvm hr9 hB hz1 hk1 hS => ?_)
      obtain ⟨hP1, hK1, hD1⟩ := hB
      rw [ht] at hP1
      obtain ⟨ad124, gd125, vad126⟩ := u9
      obtain ⟨hr9, hv127, hn128⟩ := hr9
      have hP : va_P D xcl (xMw cT aM ad124 rd gd125 vad126 o119.2.2.2.2 []) H1 := hP1
      have hD : va_D A (xMw cT aM ad124 rd gd125 vad126 o119.2.2.2.2 []) := hD1.weaken (fun k q _ h => hFc q.1 h)
      generalize H1 = H at hP hS ⊢
      have hE9 : ∀ p, p < xct st → vad126 p = vad p := fun p h => (hv127 p (Nat.lt_of_lt_of_le h hN)).trans (hE p h)
      have hE := hE9
      have hN : xct st ≤ xct o119.2.2.2.2 := Nat.le_trans hN hn128
      rw [hr9]
      refine W.eq (g2 := F0 m 141 ls [xv vad126 o119.2.2.2.1]) (by first | rfl | (skip; rfl)) ?_
      obtain rfl := Option.some.inj hf
      exact W.aret (v := xv vad126 o119.2.2.2.1) hx hb hr (Or.inl ⟨_, rfl⟩) (xvor _ _) (fun t ht hW => ⟨⟨xca vad126 o119.2.2.2.1, (ad124, gd125, vad126), rfl, ⟨rfl, hE, hN⟩, by rw [ht]; exact hP, va_K.moved hW.alike hK, hD⟩, hS.F ht⟩) hS.2.2 dM_one1_141
    rw [if_neg hk121] at hf
    by_cases hk129 : o119.1 = 1
    · rw [if_pos hk129] at hf
      obtain ⟨hm130, hf⟩ := xmoE hf
      obtain rfl := Option.some.inj hf
      exact absurd (show (1 : Nat) = 0 from hkd) (by decide)
    rw [if_neg hk129] at hf
    exact nomatch hf
  rw [if_neg hc118] at hf
  by_cases hc137 : x0 = 8
  · rw [if_pos hc137] at hf
    refine lv_tableIn (off := 141) (tgt := 142) hx hb dM_one1_1 (by rw [hc137]; decide) (by rw [hc137]; decide) (by rw [hc137]; decide) (by decide) ?_
    refine lv_aload_n hx hb dM_one1_142 rfl (lv_at hl 0 rfl) ?_
    refine lv_aload_n hx hb dM_one1_143 rfl (lv_at hl 0 rfl) ?_
    refine xm_aload_n hx hb (xvor _ _) dM_one1_144 rfl (lv_at hl 2 rfl) ?_
    obtain ⟨o138, hq139, hf⟩ := xbind hf
    by_cases hk140 : o138.1 = 0
    · rw [if_pos hk140] at hf
      obtain ⟨hg141, hf⟩ := xifn hf
      obtain ⟨hm142, hf⟩ := xmoE hf
      have hFc := xm_free hD hS hA
      refine va_callq (va_runV (C := "ValueBenchModel") (As := [xv vad c1]) (rest := [.ref aM]) ⟨hx, hb, hml, hown, htx⟩ (gM_array l hl9 D cT aK aV s.heap.size n aM ad rd gd vad st c1 o138 hq139 hk140) ⟨callB_of 1 htx (xw_goodC kw_7_42) rfl rfl rfl (htx _ kw_1_5) (htx _ kw_7_39) ⟨by decide, by decide, by decide +kernel⟩ ⟨Nat.le_of_ble_eq_true rfl, Nat.le_of_ble_eq_true rfl⟩, (htx _ kw_7_41), (htx _ kp_M_array)⟩ ⟨xPre_blind, va_recv hK hP (ci := 5) rfl (q0 := 0) rfl, (fun U hU hW => ⟨rfl, xPre_of hZ hS hFc hP hD hK U hU hW⟩)⟩ rfl rfl hl.1 rfl (xm_room (Nat.le_of_ble_eq_true rfl)) dM_one1_145 ⟨hm142.1, hm142.2⟩) hS (fun q _ h => hFc q h) hFc (fun r143 u9 t H1 locs ht hvm hr9 hB hz1 hk1 hS => ?_)
      obtain ⟨hP1, hK1, hD1⟩ := hB
      rw [ht] at hP1
      obtain ⟨ad144, gd145, vad146⟩ := u9
      obtain ⟨hr9, hv147, hn148⟩ := hr9
      have hP : va_P D xcl (xMw cT aM ad144 rd gd145 vad146 o138.2.2.2.2 []) H1 := hP1
      have hD : va_D A (xMw cT aM ad144 rd gd145 vad146 o138.2.2.2.2 []) := hD1.weaken (fun k q _ h => hFc q.1 h)
      generalize H1 = H at hP hS ⊢
      have hE9 : ∀ p, p < xct st → vad146 p = vad p := fun p h => (hv147 p (Nat.lt_of_lt_of_le h hN)).trans (hE p h)
      have hE := hE9
      have hN : xct st ≤ xct o138.2.2.2.2 := Nat.le_trans hN hn148
      have ev149 : xv vad c1 = xv vad146 c1 := xvE hv147 hg141
      have hl : lv_has ls 3 [(0, .ref aM), (1, .int x0), (2, xv vad146 c1)] := by first | exact hl | ((try (rw [← ev149])); exact hl)
      rw [hr9]
      refine W.eq (g2 := F0 m 148 ls [xv vad146 o138.2.2.2.1, .ref aM]) (by first | rfl | ((try (rw [ev149])); rfl)) ?_
      refine xm_aload_n hx hb (xvor _ _) dM_one1_148 rfl (lv_at hl 2 rfl) ?_
      refine lv_iconst (v := 0) hx hb dM_one1_149 (by decide) ?_
      obtain ⟨o150, hq151, hf⟩ := xbind hf
      have hl := lv_sub (l' := [(0, .ref aM), (1, .int x0)]) hl [0, 1] rfl
      by_cases hk152 : o150.1 = 0
      · rw [if_pos hk152] at hf
        obtain ⟨hm153, hf⟩ := xmoE hf
        have hFc := xm_free hD hS hA
        refine va_callq (va_runV (C := "ValueBenchModel") (As := [xv vad146 o138.2.2.2.1, xv vad146 c1, .int 0]) (rest := []) ⟨hx, hb, hml, hown, htx⟩ (gM_sort1 l hl9 D cT aK aV H.size d n aM ad144 rd gd145 vad146 o138.2.2.2.2 o138.2.2.2.1 c1 (0 : Int32) o150 hq151 hk152) ⟨callB_of 3 htx (xw_goodC kw_7_21) rfl rfl rfl (htx _ kw_1_5) (htx _ kw_7_18) ⟨by decide, by decide, by decide +kernel⟩ ⟨(by show (16 * d + 8) + 1 ≤ 16 * d + 11; omega), (by show 8 + (10 + 11) + (400 * d + 147) ≤ 400 * d + 224; omega)⟩, (htx _ kw_7_20), (htx _ kp_M_sort1)⟩ ⟨xPre_blind, va_recv hK hP (ci := 5) rfl (q0 := 0) rfl, (fun U hU hW => ⟨rfl, xPre_of hZ hS hFc hP hD hK U hU hW⟩)⟩ rfl rfl hl.1 rfl (xm_room (Nat.le_of_ble_eq_true rfl)) dM_one1_150 ⟨hm153.1, hm153.2⟩) hS (fun q _ h => hFc q h) hFc (fun r154 u9 t H1 locs ht hvm hr9 hB hz1 hk1 hS => ?_)
        obtain ⟨hP1, hK1, hD1⟩ := hB
        rw [ht] at hP1
        obtain ⟨ad155, gd156, vad157⟩ := u9
        obtain ⟨hr9, hv158, hn159⟩ := hr9
        have hP : va_P D xcl (xMw cT aM ad155 rd gd156 vad157 o150.2.2.2.2 []) H1 := hP1
        have hD : va_D A (xMw cT aM ad155 rd gd156 vad157 o150.2.2.2.2 []) := hD1.weaken (fun k q _ h => hFc q.1 h)
        generalize H1 = H at hP hS ⊢
        have hE9 : ∀ p, p < xct st → vad157 p = vad p := fun p h => (hv158 p (Nat.lt_of_lt_of_le h hN)).trans (hE p h)
        have hE := hE9
        have hN : xct st ≤ xct o150.2.2.2.2 := Nat.le_trans hN hn159
        rw [hr9]
        refine W.eq (g2 := F0 m 153 ls [xv vad157 o150.2.2.2.1]) (by first | rfl | (skip; rfl)) ?_
        obtain rfl := Option.some.inj hf
        exact W.aret (v := xv vad157 o150.2.2.2.1) hx hb hr (Or.inl ⟨_, rfl⟩) (xvor _ _) (fun t ht hW => ⟨⟨xca vad157 o150.2.2.2.1, (ad155, gd156, vad157), rfl, ⟨rfl, hE, hN⟩, by rw [ht]; exact hP, va_K.moved hW.alike hK, hD⟩, hS.F ht⟩) hS.2.2 dM_one1_153
      rw [if_neg hk152] at hf
      by_cases hk160 : o150.1 = 1
      · rw [if_pos hk160] at hf
        obtain ⟨hm161, hf⟩ := xmoE hf
        obtain rfl := Option.some.inj hf
        exact absurd (show (2 : Nat) = 0 from hkd) (by decide)
      rw [if_neg hk160] at hf
      exact nomatch hf
    rw [if_neg hk140] at hf
    by_cases hk168 : o138.1 = 1
    · rw [if_pos hk168] at hf
      obtain ⟨hg169, hf⟩ := xifn hf
      obtain ⟨hm170, hf⟩ := xmoE hf
      obtain rfl := Option.some.inj hf
      exact absurd (show (1 : Nat) = 0 from hkd) (by decide)
    rw [if_neg hk168] at hf
    exact nomatch hf
  rw [if_neg hc137] at hf
  by_cases hc178 : x0 = 9
  · rw [if_pos hc178] at hf
    refine lv_tableIn (off := 153) (tgt := 154) hx hb dM_one1_1 (by rw [hc178]; decide) (by rw [hc178]; decide) (by rw [hc178]; decide) (by decide) ?_
    refine lv_aload_n hx hb dM_one1_154 rfl (lv_at hl 0 rfl) ?_
    refine xm_aload_n hx hb (xvor _ _) dM_one1_155 rfl (lv_at hl 2 rfl) ?_
    obtain ⟨o179, hq180, hf⟩ := xbind hf
    have hl := lv_sub (l' := [(0, .ref aM), (1, .int x0)]) hl [0, 1] rfl
    by_cases hk181 : o179.1 = 0
    · rw [if_pos hk181] at hf
      obtain ⟨hm182, hf⟩ := xmoE hf
      have hFc := xm_free hD hS hA
      refine va_callq (va_runV (C := "ValueBenchModel") (As := [xv vad c1]) (rest := []) ⟨hx, hb, hml, hown, htx⟩ (gM_reversed l hl9 D cT aK aV s.heap.size n aM ad rd gd vad st c1 o179 hq180 hk181) ⟨callB_of 1 htx (xw_goodC kw_7_62) rfl rfl rfl (htx _ kw_1_5) (htx _ kw_7_59) ⟨by decide, by decide, by decide +kernel⟩ ⟨Nat.le_of_ble_eq_true rfl, Nat.le_of_ble_eq_true rfl⟩, (htx _ kw_7_61), (htx _ kp_M_reversed)⟩ ⟨xPre_blind, va_recv hK hP (ci := 5) rfl (q0 := 0) rfl, (fun U hU hW => ⟨rfl, xPre_of hZ hS hFc hP hD hK U hU hW⟩)⟩ rfl rfl hl.1 rfl (xm_room (Nat.le_of_ble_eq_true rfl)) dM_one1_156 ⟨hm182.1, hm182.2⟩) hS (fun q _ h => hFc q h) hFc (fun r183 u9 t H1 locs ht hvm hr9 hB hz1 hk1 hS => ?_)
      obtain ⟨hP1, hK1, hD1⟩ := hB
      rw [ht] at hP1
      obtain ⟨ad184, gd185, vad186⟩ := u9
      obtain ⟨hr9, hv187, hn188⟩ := hr9
      have hP : va_P D xcl (xMw cT aM ad184 rd gd185 vad186 o179.2.2.2.2 []) H1 := hP1
      have hD : va_D A (xMw cT aM ad184 rd gd185 vad186 o179.2.2.2.2 []) := hD1.weaken (fun k q _ h => hFc q.1 h)
      generalize H1 = H at hP hS ⊢
      have hE9 : ∀ p, p < xct st → vad186 p = vad p := fun p h => (hv187 p (Nat.lt_of_lt_of_le h hN)).trans (hE p h)
      have hE := hE9
      have hN : xct st ≤ xct o179.2.2.2.2 := Nat.le_trans hN hn188
      rw [hr9]
      refine W.eq (g2 := F0 m 159 ls [xv vad186 o179.2.2.2.1]) (by first | rfl | (skip; rfl)) ?_
      obtain rfl := Option.some.inj hf
      exact W.aret (v := xv vad186 o179.2.2.2.1) hx hb hr (Or.inl ⟨_, rfl⟩) (xvor _ _) (fun t ht hW => ⟨⟨xca vad186 o179.2.2.2.1, (ad184, gd185, vad186), rfl, ⟨rfl, hE, hN⟩, by rw [ht]; exact hP, va_K.moved hW.alike hK, hD⟩, hS.F ht⟩) hS.2.2 dM_one1_159
    rw [if_neg hk181] at hf
    by_cases hk189 : o179.1 = 1
    · rw [if_pos hk189] at hf
      obtain ⟨hm190, hf⟩ := xmoE hf
      obtain rfl := Option.some.inj hf
      exact absurd (show (1 : Nat) = 0 from hkd) (by decide)
    rw [if_neg hk189] at hf
    by_cases hk197 : o179.1 = 2
    · rw [if_pos hk197] at hf
      obtain ⟨hm198, hf⟩ := xmoE hf
      obtain rfl := Option.some.inj hf
      exact absurd (show (2 : Nat) = 0 from hkd) (by decide)
    rw [if_neg hk197] at hf
    exact nomatch hf
  rw [if_neg hc178] at hf
  by_cases hc205 : x0 = 10
  · rw [if_pos hc205] at hf
    refine lv_tableIn (off := 159) (tgt := 160) hx hb dM_one1_1 (by rw [hc205]; decide) (by rw [hc205]; decide) (by rw [hc205]; decide) (by decide) ?_
    refine lv_aload_n hx hb dM_one1_160 rfl (lv_at hl 0 rfl) ?_
    refine xm_aload_n hx hb (xvor _ _) dM_one1_161 rfl (lv_at hl 2 rfl) ?_
    obtain ⟨o206, hq207, hf⟩ := xbind hf
    have hl := lv_sub (l' := [(0, .ref aM), (1, .int x0)]) hl [0, 1] rfl
    by_cases hk208 : o206.1 = 0
    · rw [if_pos hk208] at hf
      obtain ⟨hm209, hf⟩ := xmoE hf
      have hFc := xm_free hD hS hA
      refine va_callq (va_runV (C := "ValueBenchModel") (As := [xv vad c1]) (rest := []) ⟨hx, hb, hml, hown, htx⟩ (gM_explode l hl9 D cT aK aV s.heap.size n aM ad rd gd vad st c1 o206 hq207 hk208) ⟨callB_of 1 htx (xw_goodC kw_7_66) rfl rfl rfl (htx _ kw_1_5) (htx _ kw_7_63) ⟨by decide, by decide, by decide +kernel⟩ ⟨Nat.le_of_ble_eq_true rfl, Nat.le_of_ble_eq_true rfl⟩, (htx _ kw_7_65), (htx _ kp_M_explode)⟩ ⟨xPre_blind, va_recv hK hP (ci := 5) rfl (q0 := 0) rfl, (fun U hU hW => ⟨rfl, xPre_of hZ hS hFc hP hD hK U hU hW⟩)⟩ rfl rfl hl.1 rfl (xm_room (Nat.le_of_ble_eq_true rfl)) dM_one1_162 ⟨hm209.1, hm209.2⟩) hS (fun q _ h => hFc q h) hFc (fun r210 u9 t H1 locs ht hvm hr9 hB hz1 hk1 hS => ?_)
      obtain ⟨hP1, hK1, hD1⟩ := hB
      rw [ht] at hP1
      obtain ⟨ad211, gd212, vad213⟩ := u9
      obtain ⟨hr9, hv214, hn215⟩ := hr9
      have hP : va_P D xcl (xMw cT aM ad211 rd gd212 vad213 o206.2.2.2.2 []) H1 := hP1
      have hD : va_D A (xMw cT aM ad211 rd gd212 vad213 o206.2.2.2.2 []) := hD1.weaken (fun k q _ h => hFc q.1 h)
      generalize H1 = H at hP hS ⊢
      have hE9 : ∀ p, p < xct st → vad213 p = vad p := fun p h => (hv214 p (Nat.lt_of_lt_of_le h hN)).trans (hE p h)
      have hE := hE9
      have hN : xct st ≤ xct o206.2.2.2.2 := Nat.le_trans hN hn215
      rw [hr9]
      refine W.eq (g2 := F0 m 165 ls [xv vad213 o206.2.2.2.1]) (by first | rfl | (skip; rfl)) ?_
      obtain rfl := Option.some.inj hf
      exact W.aret (v := xv vad213 o206.2.2.2.1) hx hb hr (Or.inl ⟨_, rfl⟩) (xvor _ _) (fun t ht hW => ⟨⟨xca vad213 o206.2.2.2.1, (ad211, gd212, vad213), rfl, ⟨rfl, hE, hN⟩, by rw [ht]; exact hP, va_K.moved hW.alike hK, hD⟩, hS.F ht⟩) hS.2.2 dM_one1_165
    rw [if_neg hk208] at hf
    by_cases hk216 : o206.1 = 1
    · rw [if_pos hk216] at hf
      obtain ⟨hm217, hf⟩ := xmoE hf
      obtain rfl := Option.some.inj hf
      exact absurd (show (2 : Nat) = 0 from hkd) (by decide)
    rw [if_neg hk216] at hf
    by_cases hk224 : o206.1 = 2
    · rw [if_pos hk224] at hf
      obtain ⟨hm225, hf⟩ := xmoE hf
      obtain rfl := Option.some.inj hf
      exact absurd (show (1 : Nat) = 0 from hkd) (by decide)
    rw [if_neg hk224] at hf
    exact nomatch hf
  rw [if_neg hc205] at hf
  by_cases hc232 : x0 = 11
  · rw [if_pos hc232] at hf
    refine lv_tableIn (off := 165) (tgt := 166) hx hb dM_one1_1 (by rw [hc232]; decide) (by rw [hc232]; decide) (by rw [hc232]; decide) (by decide) ?_
    refine lv_aload_n hx hb dM_one1_166 rfl (lv_at hl 0 rfl) ?_
    refine xm_aload_n hx hb (xvor _ _) dM_one1_167 rfl (lv_at hl 2 rfl) ?_
    obtain ⟨o233, hq234, hf⟩ := xbind hf
    have hl := lv_sub (l' := [(0, .ref aM), (1, .int x0)]) hl [0, 1] rfl
    by_cases hk235 : o233.1 = 0
    · rw [if_pos hk235] at hf
      obtain ⟨hm236, hf⟩ := xmoE hf
      have hFc := xm_free hD hS hA
      refine va_callq (va_runV (C := "ValueBenchModel") (As := [xv vad c1]) (rest := []) ⟨hx, hb, hml, hown, htx⟩ (gM_implode l hl9 D cT aK aV s.heap.size n aM ad rd gd vad st c1 o233 hq234 hk235) ⟨callB_of 1 htx (xw_goodC kw_7_70) rfl rfl rfl (htx _ kw_1_5) (htx _ kw_7_67) ⟨by decide, by decide, by decide +kernel⟩ ⟨Nat.le_of_ble_eq_true rfl, Nat.le_of_ble_eq_true rfl⟩, (htx _ kw_7_69), (htx _ kp_M_implode)⟩ ⟨xPre_blind, va_recv hK hP (ci := 5) rfl (q0 := 0) rfl, (fun U hU hW => ⟨rfl, xPre_of hZ hS hFc hP hD hK U hU hW⟩)⟩ rfl rfl hl.1 rfl (xm_room (Nat.le_of_ble_eq_true rfl)) dM_one1_168 ⟨hm236.1, hm236.2⟩) hS (fun q _ h => hFc q h) hFc (fun r237 u9 t H1 locs ht hvm hr9 hB hz1 hk1 hS => ?_)
      obtain ⟨hP1, hK1, hD1⟩ := hB
      rw [ht] at hP1
      obtain ⟨ad238, gd239, vad240⟩ := u9
      obtain ⟨hr9, hv241, hn242⟩ := hr9
      have hP : va_P D xcl (xMw cT aM ad238 rd gd239 vad240 o233.2.2.2.2 []) H1 := hP1
      have hD : va_D A (xMw cT aM ad238 rd gd239 vad240 o233.2.2.2.2 []) := hD1.weaken (fun k q _ h => hFc q.1 h)
      generalize H1 = H at hP hS ⊢
      have hE9 : ∀ p, p < xct st → vad240 p = vad p := fun p h => (hv241 p (Nat.lt_of_lt_of_le h hN)).trans (hE p h)
      have hE := hE9
      have hN : xct st ≤ xct o233.2.2.2.2 := Nat.le_trans hN hn242
      rw [hr9]
      refine W.eq (g2 := F0 m 171 ls [xv vad240 o233.2.2.2.1]) (by first | rfl | (skip; rfl)) ?_
      obtain rfl := Option.some.inj hf
      exact W.aret (v := xv vad240 o233.2.2.2.1) hx hb hr (Or.inl ⟨_, rfl⟩) (xvor _ _) (fun t ht hW => ⟨⟨xca vad240 o233.2.2.2.1, (ad238, gd239, vad240), rfl, ⟨rfl, hE, hN⟩, by rw [ht]; exact hP, va_K.moved hW.alike hK, hD⟩, hS.F ht⟩) hS.2.2 dM_one1_171
    rw [if_neg hk235] at hf
    by_cases hk243 : o233.1 = 1
    · rw [if_pos hk243] at hf
      obtain ⟨hm244, hf⟩ := xmoE hf
      obtain rfl := Option.some.inj hf
      exact absurd (show (1 : Nat) = 0 from hkd) (by decide)
    rw [if_neg hk243] at hf
    by_cases hk251 : o233.1 = 2
    · rw [if_pos hk251] at hf
      obtain ⟨hm252, hf⟩ := xmoE hf
      obtain rfl := Option.some.inj hf
      exact absurd (show (2 : Nat) = 0 from hkd) (by decide)
    rw [if_neg hk251] at hf
    exact nomatch hf
  rw [if_neg hc232] at hf
  by_cases hc259 : x0 = 12
  · rw [if_pos hc259] at hf
    refine lv_tableIn (off := 171) (tgt := 172) hx hb dM_one1_1 (by rw [hc259]; decide) (by rw [hc259]; decide) (by rw [hc259]; decide) (by decide) ?_
    refine lv_aload_n hx hb dM_one1_172 rfl (lv_at hl 0 rfl) ?_
    refine xm_aload_n hx hb (xvor _ _) dM_one1_173 rfl (lv_at hl 2 rfl) ?_
    refine lv_iconst (v := 0) hx hb dM_one1_174 (by decide) ?_
    obtain ⟨o260, hq261, hf⟩ := xbind hf
    have hl := lv_sub (l' := [(0, .ref aM), (1, .int x0)]) hl [0, 1] rfl
    by_cases hk262 : o260.1 = 0
    · rw [if_pos hk262] at hf
      obtain ⟨hm263, hf⟩ := xmoE hf
      have hFc := xm_free hD hS hA
      refine va_callq (va_runV (C := "ValueBenchModel") (As := [xv vad c1, .int 0]) (rest := []) ⟨hx, hb, hml, hown, htx⟩ (gM_cased l hl9 D cT aK aV s.heap.size n aM ad rd gd vad st c1 (0 : Int32) o260 hq261 hk262) ⟨callB_of 2 htx (xw_goodC kw_7_75) rfl rfl rfl (htx _ kw_1_5) (htx _ kw_7_72) ⟨by decide, by decide, by decide +kernel⟩ ⟨Nat.le_of_ble_eq_true rfl, Nat.le_of_ble_eq_true rfl⟩, (htx _ kw_7_74), (htx _ kp_M_cased)⟩ ⟨xPre_blind, va_recv hK hP (ci := 5) rfl (q0 := 0) rfl, (fun U hU hW => ⟨rfl, xPre_of hZ hS hFc hP hD hK U hU hW⟩)⟩ rfl rfl hl.1 rfl (xm_room (Nat.le_of_ble_eq_true rfl)) dM_one1_175 ⟨hm263.1, hm263.2⟩) hS (fun q _ h => hFc q h) hFc (fun r264 u9 t H1 locs ht hvm hr9 hB hz1 hk1 hS => ?_)
      obtain ⟨hP1, hK1, hD1⟩ := hB
      rw [ht] at hP1
      obtain ⟨ad265, gd266, vad267⟩ := u9
      obtain ⟨hr9, hv268, hn269⟩ := hr9
      have hP : va_P D xcl (xMw cT aM ad265 rd gd266 vad267 o260.2.2.2.2 []) H1 := hP1
      have hD : va_D A (xMw cT aM ad265 rd gd266 vad267 o260.2.2.2.2 []) := hD1.weaken (fun k q _ h => hFc q.1 h)
      generalize H1 = H at hP hS ⊢
      have hE9 : ∀ p, p < xct st → vad267 p = vad p := fun p h => (hv268 p (Nat.lt_of_lt_of_le h hN)).trans (hE p h)
      have hE := hE9
      have hN : xct st ≤ xct o260.2.2.2.2 := Nat.le_trans hN hn269
      rw [hr9]
      refine W.eq (g2 := F0 m 178 ls [xv vad267 o260.2.2.2.1]) (by first | rfl | (skip; rfl)) ?_
      obtain rfl := Option.some.inj hf
      exact W.aret (v := xv vad267 o260.2.2.2.1) hx hb hr (Or.inl ⟨_, rfl⟩) (xvor _ _) (fun t ht hW => ⟨⟨xca vad267 o260.2.2.2.1, (ad265, gd266, vad267), rfl, ⟨rfl, hE, hN⟩, by rw [ht]; exact hP, va_K.moved hW.alike hK, hD⟩, hS.F ht⟩) hS.2.2 dM_one1_178
    rw [if_neg hk262] at hf
    by_cases hk270 : o260.1 = 1
    · rw [if_pos hk270] at hf
      obtain ⟨hm271, hf⟩ := xmoE hf
      obtain rfl := Option.some.inj hf
      exact absurd (show (2 : Nat) = 0 from hkd) (by decide)
    rw [if_neg hk270] at hf
    by_cases hk278 : o260.1 = 2
    · rw [if_pos hk278] at hf
      obtain ⟨hm279, hf⟩ := xmoE hf
      obtain rfl := Option.some.inj hf
      exact absurd (show (1 : Nat) = 0 from hkd) (by decide)
    rw [if_neg hk278] at hf
    exact nomatch hf
  rw [if_neg hc259] at hf
  refine lv_tableOut (tgt := 179) hx hb dM_one1_1 (by have e0 : x0.toInt ≠ 0 := xsw hc1 (by decide); have e1 : x0.toInt ≠ 1 := xsw hc5 (by decide); have e2 : x0.toInt ≠ 2 := xsw hc24 (by decide); have e3 : x0.toInt ≠ 3 := xsw hc51 (by decide); have e4 : x0.toInt ≠ 4 := xsw hc78 (by decide); have e5 : x0.toInt ≠ 5 := xsw hc80 (by decide); have e6 : x0.toInt ≠ 6 := xsw hc99 (by decide); have e7 : x0.toInt ≠ 7 := xsw hc118 (by decide); have e8 : x0.toInt ≠ 8 := xsw hc137 (by decide); have e9 : x0.toInt ≠ 9 := xsw hc178 (by decide); have e10 : x0.toInt ≠ 10 := xsw hc205 (by decide); have e11 : x0.toInt ≠ 11 := xsw hc232 (by decide); have e12 : x0.toInt ≠ 12 := xsw hc259 (by decide); omega) (by decide) ?_
  refine lv_aload_n hx hb dM_one1_179 rfl (lv_at hl 0 rfl) ?_
  refine xm_aload_n hx hb (xvor _ _) dM_one1_180 rfl (lv_at hl 2 rfl) ?_
  refine lv_iconst (v := 1) hx hb dM_one1_181 (by decide) ?_
  obtain ⟨o286, hq287, hf⟩ := xbind hf
  have hl := lv_sub (l' := [(0, .ref aM), (1, .int x0)]) hl [0, 1] rfl
  by_cases hk288 : o286.1 = 0
  · rw [if_pos hk288] at hf
    obtain ⟨hm289, hf⟩ := xmoE hf
    have hFc := xm_free hD hS hA
    refine va_callq (va_runV (C := "ValueBenchModel") (As := [xv vad c1, .int 1]) (rest := []) ⟨hx, hb, hml, hown, htx⟩ (gM_cased l hl9 D cT aK aV s.heap.size n aM ad rd gd vad st c1 (1 : Int32) o286 hq287 hk288) ⟨callB_of 2 htx (xw_goodC kw_7_75) rfl rfl rfl (htx _ kw_1_5) (htx _ kw_7_72) ⟨by decide, by decide, by decide +kernel⟩ ⟨Nat.le_of_ble_eq_true rfl, Nat.le_of_ble_eq_true rfl⟩, (htx _ kw_7_74), (htx _ kp_M_cased)⟩ ⟨xPre_blind, va_recv hK hP (ci := 5) rfl (q0 := 0) rfl, (fun U hU hW => ⟨rfl, xPre_of hZ hS hFc hP hD hK U hU hW⟩)⟩ rfl rfl hl.1 rfl (xm_room (Nat.le_of_ble_eq_true rfl)) dM_one1_182 ⟨hm289.1, hm289.2⟩) hS (fun q _ h => hFc q h) hFc (fun r290 u9 t H1 locs ht hvm hr9 hB hz1 hk1 hS => ?_)
    obtain ⟨hP1, hK1, hD1⟩ := hB
    rw [ht] at hP1
    obtain ⟨ad291, gd292, vad293⟩ := u9
    obtain ⟨hr9, hv294, hn295⟩ := hr9
    have hP : va_P D xcl (xMw cT aM ad291 rd gd292 vad293 o286.2.2.2.2 []) H1 := hP1
    have hD : va_D A (xMw cT aM ad291 rd gd292 vad293 o286.2.2.2.2 []) := hD1.weaken (fun k q _ h => hFc q.1 h)
    generalize H1 = H at hP hS ⊢
    have hE9 : ∀ p, p < xct st → vad293 p = vad p := fun p h => (hv294 p (Nat.lt_of_lt_of_le h hN)).trans (hE p h)
    have hE := hE9
    have hN : xct st ≤ xct o286.2.2.2.2 := Nat.le_trans hN hn295
    rw [hr9]
    refine W.eq (g2 := F0 m 185 ls [xv vad293 o286.2.2.2.1]) (by first | rfl | (skip; rfl)) ?_
    obtain rfl := Option.some.inj hf
    exact W.aret (v := xv vad293 o286.2.2.2.1) hx hb hr (Or.inl ⟨_, rfl⟩) (xvor _ _) (fun t ht hW => ⟨⟨xca vad293 o286.2.2.2.1, (ad291, gd292, vad293), rfl, ⟨rfl, hE, hN⟩, by rw [ht]; exact hP, va_K.moved hW.alike hK, hD⟩, hS.F ht⟩) hS.2.2 dM_one1_185
  rw [if_neg hk288] at hf
  by_cases hk296 : o286.1 = 1
  · rw [if_pos hk296] at hf
    obtain ⟨hm297, hf⟩ := xmoE hf
    obtain rfl := Option.some.inj hf
    exact absurd (show (2 : Nat) = 0 from hkd) (by decide)
  rw [if_neg hk296] at hf
  by_cases hk304 : o286.1 = 2
  · rw [if_pos hk304] at hf
    obtain ⟨hm305, hf⟩ := xmoE hf
    obtain rfl := Option.some.inj hf
    exact absurd (show (1 : Nat) = 0 from hkd) (by decide)
  rw [if_neg hk304] at hf
  exact nomatch hf
set_option maxHeartbeats 400000000 in
set_option maxRecDepth 100000 in
theorem gM_one1_1 (l : Launch) (hl9 : l.stackTraces = false) (D : va_G) (cT : Nat → ClassId) (aK aV : Nat → Nat) (sz d n : Nat) (aM : Nat) (ad rd gd vad : Nat → Nat) (st : xS) (x0 : Int32) (c1 : Nat) (out : Nat × Nat × Nat × Nat × xS) (hf : fM_one1 d n st x0 c1 = some out) (hkd : out.1 = 1) : xMetY l yM_one1 wyM_one1 (16 * d + 11) out.2.1 out.2.2.1 (400 * d + 224) D cT aK aV sz [.ref aM, .int x0, xv vad c1] (xMw cT aM ad rd gd vad st []) "java/lang/ArithmeticException" (fun u => xE vad st out.2.2.2.2 u) (fun A u t => xB D xcl cT A (xMw cT aM u.1 rd u.2.1 u.2.2 out.2.2.2.2 []) t) := by
  refine vx_ofW (cc := prog_13_method_66_code) (maxL := 3) (ret := (some (.object "ValueBenchModel$V"))) (by decide) rfl ?_
  intro p e s m args below meth c s₁ B hml hne hv
  obtain ⟨rfl, hsz, hZ, hP, hK, hD0⟩ := hv
  have hx := B.exec
  have hb := B.bytes
  have hr := B.returns
  have hts := atoms_spec (ws := wyM_one1) B.pre
  have htx := fun w h => hts w (List.mem_cons_of_mem _ h)
  have hown : s.vm.findClass "ValueBenchModel" = some m.cls := findClass_of_methodNamed B.named
  have hlocks := B.notSynchronized
  subst hsz
  have hD := hD0.self (sz := s.heap.size)
  generalize hAe : va_A (xMw cT aM ad rd gd vad st []) s.heap.size = A at hD hZ ⊢
  have hA : ∀ q : Nat, s.heap.size ≤ q → A q := fun q h => by rw [← hAe]; exact Or.inr h
  have hS : va_S A s.heap s.heap [] := va_S.rf
  have hl := lv_entry ([.ref aM, .int x0, xv vad c1]) (n := 3) (by simp [lg_sl, xvcat, xrscat, xcI, xcL, xcR, xcN])
  rw [show lv_args 0 [.ref aM, .int x0, xv vad c1] = [(0, .ref aM), (1, .int x0), (2, xv vad c1)] from by simp [lv_args, xvcat, xrscat, xcI, xcL, xcR, xcN]] at hl
  rw [lg_entry_eq]
  generalize (lg_sl ([.ref aM, .int x0, xv vad c1]) ++ List.replicate (3 - (lg_sl ([.ref aM, .int x0, xv vad c1])).length) Slot.unset).toArray = ls at hl ⊢
  have hl : lv_has ls 3 [(0, .ref aM), (1, .int x0), (2, xv vad c1)] := hl
  have hE : ∀ p, p < xct st → vad p = vad p := fun _ _ => rfl
  have hN : xct st ≤ xct st := Nat.le_refl _
  unfold fM_one1 at hf
  refine lv_iload_n hx hb dM_one1_0 rfl (lv_at hl 1 rfl) ?_
  by_cases hc1 : x0 = 0
  · rw [if_pos hc1] at hf
    refine lv_tableIn (off := 67) (tgt := 68) hx hb dM_one1_1 (by rw [hc1]; decide) (by rw [hc1]; decide) (by rw [hc1]; decide) (by decide) ?_
    refine lv_aload_n hx hb dM_one1_68 rfl (lv_at hl 0 rfl) ?_
    refine lv_aload_n hx hb dM_one1_69 rfl (lv_at hl 0 rfl) ?_
    refine xm_aload_n hx hb (xvor _ _) dM_one1_70 rfl (lv_at hl 2 rfl) ?_
    obtain ⟨o2, hq3, hf⟩ := xbind hf
    have hl := lv_sub (l' := [(0, .ref aM), (1, .int x0)]) hl [0, 1] rfl
    have hFc := xm_free hD hS hA
    refine va_calli (va_runV (C := "ValueBenchModel") (As := [xv vad c1]) (rest := [.ref aM]) ⟨hx, hb, hml, hown, htx⟩ (gM_isTrue l hl9 D cT aK aV s.heap.size n aM ad rd gd vad st c1 o2 hq3) ⟨callB_of 1 htx (xw_goodC kw_7_1) rfl rfl rfl (htx _ kw_1_5) (htx _ kw_6_238) ⟨by decide, by decide, by decide +kernel⟩ ⟨Nat.le_of_ble_eq_true rfl, Nat.le_of_ble_eq_true rfl⟩, (htx _ kw_7_0), (htx _ kp_M_isTrue)⟩ ⟨xPre_blind, va_recv hK hP (ci := 5) rfl (q0 := 0) rfl, (fun U hU hW => ⟨rfl, xPre_of hZ hS hFc hP hD hK U hU hW⟩)⟩ rfl rfl hl.1 rfl (xm_room (Nat.le_of_ble_eq_true rfl)) dM_one1_71 ⟨Nat.zero_le _, Nat.zero_le _⟩) hS (fun q _ h => hFc q h) hFc (fun r4 u9 t H1 locs ht hvm hr9 hB hz1 hk1 hS => ?_)
    obtain ⟨hP1, hK1, hD1⟩ := hB
    rw [ht] at hP1
    have hP : va_P D xcl (xMw cT aM ad rd gd vad st []) H1 := hP1
    have hD : va_D A (xMw cT aM ad rd gd vad st []) := hD1.weaken (fun k q _ h => hFc q.1 h)
    generalize H1 = H at hP hS ⊢
    rw [hr9]
    refine W.eq (g2 := F0 m 74 ls [.int o2, .ref aM]) (by first | rfl | (skip; rfl)) ?_
    refine lv_if_ne (tgt := 81) hx hb dM_one1_74 (by decide) (fun hc => ?_) (fun hc => ?_)
    · rw [if_neg hc] at hf
      refine lv_iconst (v := 0) hx hb dM_one1_81 (by decide) ?_
      obtain ⟨o5, hq6, hf⟩ := xbind hf
      obtain ⟨hm7, hf⟩ := xmoE hf
      have hFc := xm_free hD hS hA
      refine va_callq (va_runV (C := "ValueBenchModel") (As := [.int 0]) (rest := []) ⟨hx, hb, hml, hown, htx⟩ (gM_truth l hl9 D cT aK aV H.size n aM ad rd gd vad st (0 : Int32) o5 hq6) ⟨callB_of 1 htx (xw_goodC kw_7_5) rfl rfl rfl (htx _ kw_1_5) (htx _ kw_7_2) ⟨by decide, by decide, by decide +kernel⟩ ⟨Nat.le_of_ble_eq_true rfl, Nat.le_of_ble_eq_true rfl⟩, (htx _ kw_7_4), (htx _ kp_M_truth)⟩ ⟨xPre_blind, va_recv hK hP (ci := 5) rfl (q0 := 0) rfl, (fun U hU hW => ⟨rfl, xPre_of hZ hS hFc hP hD hK U hU hW⟩)⟩ rfl rfl hl.1 rfl (xm_room (Nat.le_of_ble_eq_true rfl)) dM_one1_82 ⟨hm7.1, hm7.2⟩) hS (fun q _ h => hFc q h) hFc (fun r8 u9 t H1 locs ht hvm hr9 hB hz1 hk1 hS => ?_)
      obtain ⟨hP1, hK1, hD1⟩ := hB
      rw [ht] at hP1
      obtain ⟨ad9, gd10, vad11⟩ := u9
      obtain ⟨hr9, hv12, hn13⟩ := hr9
      have hP : va_P D xcl (xMw cT aM ad9 rd gd10 vad11 o5.2.2.2 []) H1 := hP1
      have hD : va_D A (xMw cT aM ad9 rd gd10 vad11 o5.2.2.2 []) := hD1.weaken (fun k q _ h => hFc q.1 h)
      generalize H1 = H at hP hS ⊢
      have hE9 : ∀ p, p < xct st → vad11 p = vad p := fun p h => (hv12 p (Nat.lt_of_lt_of_le h hN)).trans (hE p h)
      have hE := hE9
      have hN : xct st ≤ xct o5.2.2.2 := Nat.le_trans hN hn13
      rw [hr9]
      refine W.eq (g2 := F0 m 85 ls [xv vad11 o5.2.2.1]) (by first | rfl | (skip; rfl)) ?_
      obtain rfl := Option.some.inj hf
      exact absurd (show (0 : Nat) = 1 from hkd) (by decide)
    · rw [if_pos hc] at hf
      refine lv_iconst (v := 1) hx hb dM_one1_77 (by decide) ?_
      refine lv_goto (tgt := 82) hx hb dM_one1_78 (by decide) ?_
      obtain ⟨o5, hq6, hf⟩ := xbind hf
      obtain ⟨hm7, hf⟩ := xmoE hf
      have hFc := xm_free hD hS hA
      refine va_callq (va_runV (C := "ValueBenchModel") (As := [.int 1]) (rest := []) ⟨hx, hb, hml, hown, htx⟩ (gM_truth l hl9 D cT aK aV H.size n aM ad rd gd vad st (1 : Int32) o5 hq6) ⟨callB_of 1 htx (xw_goodC kw_7_5) rfl rfl rfl (htx _ kw_1_5) (htx _ kw_7_2) ⟨by decide, by decide, by decide +kernel⟩ ⟨Nat.le_of_ble_eq_true rfl, Nat.le_of_ble_eq_true rfl⟩, (htx _ kw_7_4), (htx _ kp_M_truth)⟩ ⟨xPre_blind, va_recv hK hP (ci := 5) rfl (q0 := 0) rfl, (fun U hU hW => ⟨rfl, xPre_of hZ hS hFc hP hD hK U hU hW⟩)⟩ rfl rfl hl.1 rfl (xm_room (Nat.le_of_ble_eq_true rfl)) dM_one1_82 ⟨hm7.1, hm7.2⟩) hS (fun q _ h => hFc q h) hFc (fun r8 u9 t H1 locs ht hvm hr9 hB hz1 hk1 hS => ?_)
      obtain ⟨hP1, hK1, hD1⟩ := hB
      rw [ht] at hP1
      obtain ⟨ad9, gd10, vad11⟩ := u9
      obtain ⟨hr9, hv12, hn13⟩ := hr9
      have hP : va_P D xcl (xMw cT aM ad9 rd gd10 vad11 o5.2.2.2 []) H1 := hP1
      have hD : va_D A (xMw cT aM ad9 rd gd10 vad11 o5.2.2.2 []) := hD1.weaken (fun k q _ h => hFc q.1 h)
      generalize H1 = H at hP hS ⊢
      have hE9 : ∀ p, p < xct st → vad11 p = vad p := fun p h => (hv12 p (Nat.lt_of_lt_of_le h hN)).trans (hE p h)
      have hE := hE9
      have hN : xct st ≤ xct o5.2.2.2 := Nat.le_trans hN hn13
      rw [hr9]
      refine W.eq (g2 := F0 m 85 ls [xv vad11 o5.2.2.1]) (by first | rfl | (skip; rfl)) ?_
      obtain rfl := Option.some.inj hf
      exact absurd (show (0 : Nat) = 1 from hkd) (by decide)
  rw [if_neg hc1] at hf
  by_cases hc5 : x0 = 1
  · rw [if_pos hc5] at hf
    refine lv_tableIn (off := 85) (tgt := 86) hx hb dM_one1_1 (by rw [hc5]; decide) (by rw [hc5]; decide) (by rw [hc5]; decide) (by decide) ?_
    refine lv_aload_n hx hb dM_one1_86 rfl (lv_at hl 0 rfl) ?_
    refine xm_aload_n hx hb (xvor _ _) dM_one1_87 rfl (lv_at hl 2 rfl) ?_
    obtain ⟨o6, hq7, hf⟩ := xbind hf
    have hl := lv_sub (l' := [(0, .ref aM), (1, .int x0)]) hl [0, 1] rfl
    by_cases hk8 : o6.1 = 0
    · rw [if_pos hk8] at hf
      obtain ⟨hm9, hf⟩ := xmoE hf
      have hFc := xm_free hD hS hA
      refine va_callq (va_runV (C := "ValueBenchModel") (As := [xv vad c1]) (rest := []) ⟨hx, hb, hml, hown, htx⟩ (gM_length l hl9 D cT aK aV s.heap.size n aM ad rd gd vad st c1 o6 hq7 hk8) ⟨callB_of 1 htx (xw_goodC kw_7_9) rfl rfl rfl (htx _ kw_1_5) (htx _ kw_7_6) ⟨by decide, by decide, by decide +kernel⟩ ⟨Nat.le_of_ble_eq_true rfl, Nat.le_of_ble_eq_true rfl⟩, (htx _ kw_7_8), (htx _ kp_M_length)⟩ ⟨xPre_blind, va_recv hK hP (ci := 5) rfl (q0 := 0) rfl, (fun U hU hW => ⟨rfl, xPre_of hZ hS hFc hP hD hK U hU hW⟩)⟩ rfl rfl hl.1 rfl (xm_room (Nat.le_of_ble_eq_true rfl)) dM_one1_88 ⟨hm9.1, hm9.2⟩) hS (fun q _ h => hFc q h) hFc (fun r10 u9 t H1 locs ht hvm hr9 hB hz1 hk1 hS => ?_)
      obtain ⟨hP1, hK1, hD1⟩ := hB
      rw [ht] at hP1
      obtain ⟨ad11, gd12, vad13⟩ := u9
      obtain ⟨hr9, hv14, hn15⟩ := hr9
      have hP : va_P D xcl (xMw cT aM ad11 rd gd12 vad13 o6.2.2.2.2 []) H1 := hP1
      have hD : va_D A (xMw cT aM ad11 rd gd12 vad13 o6.2.2.2.2 []) := hD1.weaken (fun k q _ h => hFc q.1 h)
      generalize H1 = H at hP hS ⊢
      have hE9 : ∀ p, p < xct st → vad13 p = vad p := fun p h => (hv14 p (Nat.lt_of_lt_of_le h hN)).trans (hE p h)
      have hE := hE9
      have hN : xct st ≤ xct o6.2.2.2.2 := Nat.le_trans hN hn15
      rw [hr9]
      refine W.eq (g2 := F0 m 91 ls [xv vad13 o6.2.2.2.1]) (by first | rfl | (skip; rfl)) ?_
      obtain rfl := Option.some.inj hf
      exact absurd (show (0 : Nat) = 1 from hkd) (by decide)
    rw [if_neg hk8] at hf
    by_cases hk16 : o6.1 = 1
    · rw [if_pos hk16] at hf
      obtain ⟨hm17, hf⟩ := xmoE hf
      have hFc := xm_free hD hS hA
      refine xx_thr (vx_runV (C := "ValueBenchModel") (As := [xv vad c1]) (rest := []) ⟨hx, hb, hml, hown, htx⟩ (gM_length_1 l hl9 D cT aK aV s.heap.size n aM ad rd gd vad st c1 o6 hq7 hk16) ⟨callB_of 1 htx (xw_goodC kw_7_9) rfl rfl rfl (htx _ kw_1_5) (htx _ kw_7_6) ⟨by decide, by decide, by decide +kernel⟩ ⟨Nat.le_of_ble_eq_true rfl, Nat.le_of_ble_eq_true rfl⟩, (htx _ kw_7_8), (htx _ kp_M_length)⟩ ⟨xPre_blind, va_recv hK hP (ci := 5) rfl (q0 := 0) rfl, (fun U hU hW => ⟨rfl, xPre_of hZ hS hFc hP hD hK U hU hW⟩)⟩ rfl rfl hl.1 rfl (xm_room (Nat.le_of_ble_eq_true rfl)) dM_one1_88 ⟨hm17.1, hm17.2⟩) hS hFc (fun q _ h => hFc q h) (fun E ce q9 u9 t H1 locs ht hvm hr9 hB hz1 hk1 hS hce hcv hcl => ?_)
      obtain ⟨rfl, hP1, hK1, hD1⟩ := hB
      rw [ht] at hP1
      obtain ⟨ad19, gd20, vad21⟩ := u9
      obtain ⟨hv22, hn23⟩ := hr9
      have hP : va_P D xcl (xMw cT aM ad19 rd gd20 vad21 o6.2.2.2.2 []) H1 := hP1
      have hD : va_D A (xMw cT aM ad19 rd gd20 vad21 o6.2.2.2.2 []) := hD1.weaken (fun k q _ h => hFc q.1 h)
      generalize H1 = H at hP hS hce ⊢
      have hE9 : ∀ p, p < xct st → vad21 p = vad p := fun p h => (hv22 p (Nat.lt_of_lt_of_le h hN)).trans (hE p h)
      have hE := hE9
      have hN : xct st ≤ xct o6.2.2.2.2 := Nat.le_trans hN hn23
      obtain rfl := Option.some.inj hf
      exact vx_out (E := "java/lang/ArithmeticException") (fun x h => (hne x h).elim) hlocks hce hcv hcl (fun t ht ha => ⟨(ad19, gd20, vad21), ⟨hE, hN⟩, ⟨rfl, by rw [ht]; exact hP, va_K.moved ha hK, hD⟩, hS.F ht⟩) hS.2.2 (Nat.le_refl _) (Nat.le_refl _)
    rw [if_neg hk16] at hf
    exact nomatch hf
  rw [if_neg hc5] at hf
  by_cases hc24 : x0 = 2
  · rw [if_pos hc24] at hf
    refine lv_tableIn (off := 91) (tgt := 92) hx hb dM_one1_1 (by rw [hc24]; decide) (by rw [hc24]; decide) (by rw [hc24]; decide) (by decide) ?_
    refine lv_aload_n hx hb dM_one1_92 rfl (lv_at hl 0 rfl) ?_
    refine xm_aload_n hx hb (xvor _ _) dM_one1_93 rfl (lv_at hl 2 rfl) ?_
    refine lv_iconst (v := 1) hx hb dM_one1_94 (by decide) ?_
    obtain ⟨o25, hq26, hf⟩ := xbind hf
    have hl := lv_sub (l' := [(0, .ref aM), (1, .int x0)]) hl [0, 1] rfl
    by_cases hk27 : o25.1 = 0
    · rw [if_pos hk27] at hf
      obtain ⟨hm28, hf⟩ := xmoE hf
      have hFc := xm_free hD hS hA
      refine va_callq (va_runV (C := "ValueBenchModel") (As := [xv vad c1, .int 1]) (rest := []) ⟨hx, hb, hml, hown, htx⟩ (gM_keysOf l hl9 D cT aK aV s.heap.size d n aM ad rd gd vad st c1 (1 : Int32) o25 hq26 hk27) ⟨callB_of 2 htx (xw_goodC kw_7_13) rfl rfl rfl (htx _ kw_1_5) (htx _ kw_7_10) ⟨by decide, by decide, by decide +kernel⟩ ⟨(by show (16 * d + 10) + 1 ≤ 16 * d + 11; omega), (by show 8 + (5 + 11) + (400 * d + 200) ≤ 400 * d + 224; omega)⟩, (htx _ kw_7_12), (htx _ kp_M_keysOf)⟩ ⟨xPre_blind, va_recv hK hP (ci := 5) rfl (q0 := 0) rfl, (fun U hU hW => ⟨rfl, xPre_of hZ hS hFc hP hD hK U hU hW⟩)⟩ rfl rfl hl.1 rfl (xm_room (Nat.le_of_ble_eq_true rfl)) dM_one1_95 ⟨hm28.1, hm28.2⟩) hS (fun q _ h => hFc q h) hFc (fun r29 u9 t H1 locs ht hvm hr9 hB hz1 hk1 hS => ?_)
      obtain ⟨hP1, hK1, hD1⟩ := hB
      rw [ht] at hP1
      obtain ⟨ad30, gd31, vad32⟩ := u9
      obtain ⟨hr9, hv33, hn34⟩ := hr9
      have hP : va_P D xcl (xMw cT aM ad30 rd gd31 vad32 o25.2.2.2.2 []) H1 := hP1
      have hD : va_D A (xMw cT aM ad30 rd gd31 vad32 o25.2.2.2.2 []) := hD1.weaken (fun k q _ h => hFc q.1 h)
      generalize H1 = H at hP hS ⊢
      have hE9 : ∀ p, p < xct st → vad32 p = vad p := fun p h => (hv33 p (Nat.lt_of_lt_of_le h hN)).trans (hE p h)
      have hE := hE9
      have hN : xct st ≤ xct o25.2.2.2.2 := Nat.le_trans hN hn34
      rw [hr9]
      refine W.eq (g2 := F0 m 98 ls [xv vad32 o25.2.2.2.1]) (by first | rfl | (skip; rfl)) ?_
      obtain rfl := Option.some.inj hf
      exact absurd (show (0 : Nat) = 1 from hkd) (by decide)
    rw [if_neg hk27] at hf
    by_cases hk35 : o25.1 = 1
    · rw [if_pos hk35] at hf
      obtain ⟨hm36, hf⟩ := xmoE hf
      obtain rfl := Option.some.inj hf
      exact absurd (show (2 : Nat) = 1 from hkd) (by decide)
    rw [if_neg hk35] at hf
    by_cases hk43 : o25.1 = 2
    · rw [if_pos hk43] at hf
      obtain ⟨hm44, hf⟩ := xmoE hf
      have hFc := xm_free hD hS hA
      refine xx_thr (vx_runV (C := "ValueBenchModel") (As := [xv vad c1, .int 1]) (rest := []) ⟨hx, hb, hml, hown, htx⟩ (gM_keysOf_2 l hl9 D cT aK aV s.heap.size d n aM ad rd gd vad st c1 (1 : Int32) o25 hq26 hk43) ⟨callB_of 2 htx (xw_goodC kw_7_13) rfl rfl rfl (htx _ kw_1_5) (htx _ kw_7_10) ⟨by decide, by decide, by decide +kernel⟩ ⟨(by show (16 * d + 10) + 1 ≤ 16 * d + 11; omega), (by show 8 + (5 + 11) + (400 * d + 200) ≤ 400 * d + 224; omega)⟩, (htx _ kw_7_12), (htx _ kp_M_keysOf)⟩ ⟨xPre_blind, va_recv hK hP (ci := 5) rfl (q0 := 0) rfl, (fun U hU hW => ⟨rfl, xPre_of hZ hS hFc hP hD hK U hU hW⟩)⟩ rfl rfl hl.1 rfl (xm_room (Nat.le_of_ble_eq_true rfl)) dM_one1_95 ⟨hm44.1, hm44.2⟩) hS hFc (fun q _ h => hFc q h) (fun E ce q9 u9 t H1 locs ht hvm hr9 hB hz1 hk1 hS hce hcv hcl => ?_)
      obtain ⟨rfl, hP1, hK1, hD1⟩ := hB
      rw [ht] at hP1
      obtain ⟨ad46, gd47, vad48⟩ := u9
      obtain ⟨hv49, hn50⟩ := hr9
      have hP : va_P D xcl (xMw cT aM ad46 rd gd47 vad48 o25.2.2.2.2 []) H1 := hP1
      have hD : va_D A (xMw cT aM ad46 rd gd47 vad48 o25.2.2.2.2 []) := hD1.weaken (fun k q _ h => hFc q.1 h)
      generalize H1 = H at hP hS hce ⊢
      have hE9 : ∀ p, p < xct st → vad48 p = vad p := fun p h => (hv49 p (Nat.lt_of_lt_of_le h hN)).trans (hE p h)
      have hE := hE9
      have hN : xct st ≤ xct o25.2.2.2.2 := Nat.le_trans hN hn50
      obtain rfl := Option.some.inj hf
      exact vx_out (E := "java/lang/ArithmeticException") (fun x h => (hne x h).elim) hlocks hce hcv hcl (fun t ht ha => ⟨(ad46, gd47, vad48), ⟨hE, hN⟩, ⟨rfl, by rw [ht]; exact hP, va_K.moved ha hK, hD⟩, hS.F ht⟩) hS.2.2 (Nat.le_refl _) (Nat.le_refl _)
    rw [if_neg hk43] at hf
    exact nomatch hf
  rw [if_neg hc24] at hf
  by_cases hc51 : x0 = 3
  · rw [if_pos hc51] at hf
    refine lv_tableIn (off := 98) (tgt := 99) hx hb dM_one1_1 (by rw [hc51]; decide) (by rw [hc51]; decide) (by rw [hc51]; decide) (by decide) ?_
    refine lv_aload_n hx hb dM_one1_99 rfl (lv_at hl 0 rfl) ?_
    refine xm_aload_n hx hb (xvor _ _) dM_one1_100 rfl (lv_at hl 2 rfl) ?_
    refine lv_iconst (v := 0) hx hb dM_one1_101 (by decide) ?_
    obtain ⟨o52, hq53, hf⟩ := xbind hf
    have hl := lv_sub (l' := [(0, .ref aM), (1, .int x0)]) hl [0, 1] rfl
    by_cases hk54 : o52.1 = 0
    · rw [if_pos hk54] at hf
      obtain ⟨hm55, hf⟩ := xmoE hf
      have hFc := xm_free hD hS hA
      refine va_callq (va_runV (C := "ValueBenchModel") (As := [xv vad c1, .int 0]) (rest := []) ⟨hx, hb, hml, hown, htx⟩ (gM_keysOf l hl9 D cT aK aV s.heap.size d n aM ad rd gd vad st c1 (0 : Int32) o52 hq53 hk54) ⟨callB_of 2 htx (xw_goodC kw_7_13) rfl rfl rfl (htx _ kw_1_5) (htx _ kw_7_10) ⟨by decide, by decide, by decide +kernel⟩ ⟨(by show (16 * d + 10) + 1 ≤ 16 * d + 11; omega), (by show 8 + (5 + 11) + (400 * d + 200) ≤ 400 * d + 224; omega)⟩, (htx _ kw_7_12), (htx _ kp_M_keysOf)⟩ ⟨xPre_blind, va_recv hK hP (ci := 5) rfl (q0 := 0) rfl, (fun U hU hW => ⟨rfl, xPre_of hZ hS hFc hP hD hK U hU hW⟩)⟩ rfl rfl hl.1 rfl (xm_room (Nat.le_of_ble_eq_true rfl)) dM_one1_102 ⟨hm55.1, hm55.2⟩) hS (fun q _ h => hFc q h) hFc (fun r56 u9 t H1 locs ht hvm hr9 hB hz1 hk1 hS => ?_)
      obtain ⟨hP1, hK1, hD1⟩ := hB
      rw [ht] at hP1
      obtain ⟨ad57, gd58, vad59⟩ := u9
      obtain ⟨hr9, hv60, hn61⟩ := hr9
      have hP : va_P D xcl (xMw cT aM ad57 rd gd58 vad59 o52.2.2.2.2 []) H1 := hP1
      have hD : va_D A (xMw cT aM ad57 rd gd58 vad59 o52.2.2.2.2 []) := hD1.weaken (fun k q _ h => hFc q.1 h)
      generalize H1 = H at hP hS ⊢
      have hE9 : ∀ p, p < xct st → vad59 p = vad p := fun p h => (hv60 p (Nat.lt_of_lt_of_le h hN)).trans (hE p h)
      have hE := hE9
      have hN : xct st ≤ xct o52.2.2.2.2 := Nat.le_trans hN hn61
      rw [hr9]
      refine W.eq (g2 := F0 m 105 ls [xv vad59 o52.2.2.2.1]) (by first | rfl | (skip; rfl)) ?_
      obtain rfl := Option.some.inj hf
      exact absurd (show (0 : Nat) = 1 from hkd) (by decide)
    rw [if_neg hk54] at hf
    by_cases hk62 : o52.1 = 1
    · rw [if_pos hk62] at hf
      obtain ⟨hm63, hf⟩ := xmoE hf
      obtain rfl := Option.some.inj hf
      exact absurd (show (2 : Nat) = 1 from hkd) (by decide)
    rw [if_neg hk62] at hf
    by_cases hk70 : o52.1 = 2
    · rw [if_pos hk70] at hf
      obtain ⟨hm71, hf⟩ := xmoE hf
      have hFc := xm_free hD hS hA
      refine xx_thr (vx_runV (C := "ValueBenchModel") (As := [xv vad c1, .int 0]) (rest := []) ⟨hx, hb, hml, hown, htx⟩ (gM_keysOf_2 l hl9 D cT aK aV s.heap.size d n aM ad rd gd vad st c1 (0 : Int32) o52 hq53 hk70) ⟨callB_of 2 htx (xw_goodC kw_7_13) rfl rfl rfl (htx _ kw_1_5) (htx _ kw_7_10) ⟨by decide, by decide, by decide +kernel⟩ ⟨(by show (16 * d + 10) + 1 ≤ 16 * d + 11; omega), (by show 8 + (5 + 11) + (400 * d + 200) ≤ 400 * d + 224; omega)⟩, (htx _ kw_7_12), (htx _ kp_M_keysOf)⟩ ⟨xPre_blind, va_recv hK hP (ci := 5) rfl (q0 := 0) rfl, (fun U hU hW => ⟨rfl, xPre_of hZ hS hFc hP hD hK U hU hW⟩)⟩ rfl rfl hl.1 rfl (xm_room (Nat.le_of_ble_eq_true rfl)) dM_one1_102 ⟨hm71.1, hm71.2⟩) hS hFc (fun q _ h => hFc q h) (fun E ce q9 u9 t H1 locs ht hvm hr9 hB hz1 hk1 hS hce hcv hcl => ?_)
      obtain ⟨rfl, hP1, hK1, hD1⟩ := hB
      rw [ht] at hP1
      obtain ⟨ad73, gd74, vad75⟩ := u9
      obtain ⟨hv76, hn77⟩ := hr9
      have hP : va_P D xcl (xMw cT aM ad73 rd gd74 vad75 o52.2.2.2.2 []) H1 := hP1
      have hD : va_D A (xMw cT aM ad73 rd gd74 vad75 o52.2.2.2.2 []) := hD1.weaken (fun k q _ h => hFc q.1 h)
      generalize H1 = H at hP hS hce ⊢
      have hE9 : ∀ p, p < xct st → vad75 p = vad p := fun p h => (hv76 p (Nat.lt_of_lt_of_le h hN)).trans (hE p h)
      have hE := hE9
      have hN : xct st ≤ xct o52.2.2.2.2 := Nat.le_trans hN hn77
      obtain rfl := Option.some.inj hf
      exact vx_out (E := "java/lang/ArithmeticException") (fun x h => (hne x h).elim) hlocks hce hcv hcl (fun t ht ha => ⟨(ad73, gd74, vad75), ⟨hE, hN⟩, ⟨rfl, by rw [ht]; exact hP, va_K.moved ha hK, hD⟩, hS.F ht⟩) hS.2.2 (Nat.le_refl _) (Nat.le_refl _)
    rw [if_neg hk70] at hf
    exact nomatch hf
  rw [if_neg hc51] at hf
  by_cases hc78 : x0 = 4
  · rw [if_pos hc78] at hf
    refine lv_tableIn (off := 105) (tgt := 106) hx hb dM_one1_1 (by rw [hc78]; decide) (by rw [hc78]; decide) (by rw [hc78]; decide) (by decide) ?_
    refine xm_aload_n hx hb (xvor _ _) dM_one1_106 rfl (lv_at hl 2 rfl) ?_
    obtain ⟨hg79, hf⟩ := xifn hf
    refine xm_vget (v := .int ((xpi st 0) (c1 - 1))) hx hb htx hown hK hP 0 (by decide) hg79 rfl ((hZ.1 (93, "kind", "I") (List.mem_of_getElem? (i := 0) rfl)).use rfl) rfl dM_one1_107 ?_
    refine lv_iconst (v := 4) hx hb dM_one1_110 (by decide) ?_
    refine lv_icmp_ne (tgt := 118) hx hb dM_one1_111 (by decide) (fun hc => ?_) (fun hc => ?_)
    · rw [if_neg hc] at hf
      refine lv_aload_n hx hb dM_one1_118 rfl (lv_at hl 0 rfl) ?_
      refine xm_aload_n hx hb (xvor _ _) dM_one1_119 rfl (lv_at hl 2 rfl) ?_
      obtain ⟨o80, hq81, hf⟩ := xbind hf
      have hl := lv_sub (l' := [(0, .ref aM), (1, .int x0)]) hl [0, 1] rfl
      by_cases hk82 : o80.1 = 0
      · rw [if_pos hk82] at hf
        obtain ⟨hm83, hf⟩ := xmoE hf
        have hFc := xm_free hD hS hA
        refine va_callq (va_runV (C := "ValueBenchModel") (As := [xv vad c1]) (rest := []) ⟨hx, hb, hml, hown, htx⟩ (gM_told l hl9 D cT aK aV s.heap.size d n aM ad rd gd vad st c1 o80 hq81 hk82) ⟨callB_of 1 htx (xw_goodC kw_7_46) rfl rfl rfl (htx _ kw_1_5) (htx _ kw_7_43) ⟨by decide, by decide, by decide +kernel⟩ ⟨(by show (16 * d + 8) + 1 ≤ 16 * d + 11; omega), (by show 8 + (6 + 11) + (400 * d + 142) ≤ 400 * d + 224; omega)⟩, (htx _ kw_7_45), (htx _ kp_M_told)⟩ ⟨xPre_blind, va_recv hK hP (ci := 5) rfl (q0 := 0) rfl, (fun U hU hW => ⟨rfl, xPre_of hZ hS hFc hP hD hK U hU hW⟩)⟩ rfl rfl hl.1 rfl (xm_room (Nat.le_of_ble_eq_true rfl)) dM_one1_120 ⟨hm83.1, hm83.2⟩) hS (fun q _ h => hFc q h) hFc (fun r84 u9 t H1 locs ht hvm hr9 hB hz1 hk1 hS => ?_)
        obtain ⟨hP1, hK1, hD1⟩ := hB
        rw [ht] at hP1
        obtain ⟨ad85, gd86, vad87⟩ := u9
        obtain ⟨hr9, hv88, hn89⟩ := hr9
        have hP : va_P D xcl (xMw cT aM ad85 rd gd86 vad87 o80.2.2.2.2 []) H1 := hP1
        have hD : va_D A (xMw cT aM ad85 rd gd86 vad87 o80.2.2.2.2 []) := hD1.weaken (fun k q _ h => hFc q.1 h)
        generalize H1 = H at hP hS ⊢
        have hE9 : ∀ p, p < xct st → vad87 p = vad p := fun p h => (hv88 p (Nat.lt_of_lt_of_le h hN)).trans (hE p h)
        have hE := hE9
        have hN : xct st ≤ xct o80.2.2.2.2 := Nat.le_trans hN hn89
        rw [hr9]
        refine W.eq (g2 := F0 m 123 ls [xv vad87 o80.2.2.2.1]) (by first | rfl | (skip; rfl)) ?_
        obtain rfl := Option.some.inj hf
        exact absurd (show (0 : Nat) = 1 from hkd) (by decide)
      rw [if_neg hk82] at hf
      by_cases hk90 : o80.1 = 1
      · rw [if_pos hk90] at hf
        obtain ⟨hm91, hf⟩ := xmoE hf
        obtain rfl := Option.some.inj hf
        exact absurd (show (2 : Nat) = 1 from hkd) (by decide)
      rw [if_neg hk90] at hf
      exact nomatch hf
    · rw [if_pos hc] at hf
      refine xm_aload_n hx hb (xvor _ _) dM_one1_114 rfl (lv_at hl 2 rfl) ?_
      refine lv_goto (tgt := 123) hx hb dM_one1_115 (by decide) ?_
      obtain rfl := Option.some.inj hf
      exact absurd (show (0 : Nat) = 1 from hkd) (by decide)
  rw [if_neg hc78] at hf
  by_cases hc80 : x0 = 5
  · rw [if_pos hc80] at hf
    refine lv_tableIn (off := 123) (tgt := 124) hx hb dM_one1_1 (by rw [hc80]; decide) (by rw [hc80]; decide) (by rw [hc80]; decide) (by decide) ?_
    refine lv_aload_n hx hb dM_one1_124 rfl (lv_at hl 0 rfl) ?_
    refine xm_aload_n hx hb (xvor _ _) dM_one1_125 rfl (lv_at hl 2 rfl) ?_
    obtain ⟨o81, hq82, hf⟩ := xbind hf
    have hl := lv_sub (l' := [(0, .ref aM), (1, .int x0)]) hl [0, 1] rfl
    by_cases hk83 : o81.1 = 0
    · rw [if_pos hk83] at hf
      obtain ⟨hm84, hf⟩ := xmoE hf
      have hFc := xm_free hD hS hA
      refine va_callq (va_runV (C := "ValueBenchModel") (As := [xv vad c1]) (rest := []) ⟨hx, hb, hml, hown, htx⟩ (gM_toNumber l hl9 D cT aK aV s.heap.size n aM ad rd gd vad st c1 o81 hq82 hk83) ⟨callB_of 1 htx (xw_goodC kw_7_50) rfl rfl rfl (htx _ kw_1_5) (htx _ kw_7_47) ⟨by decide, by decide, by decide +kernel⟩ ⟨Nat.le_of_ble_eq_true rfl, Nat.le_of_ble_eq_true rfl⟩, (htx _ kw_7_49), (htx _ kp_M_toNumber)⟩ ⟨xPre_blind, va_recv hK hP (ci := 5) rfl (q0 := 0) rfl, (fun U hU hW => ⟨rfl, xPre_of hZ hS hFc hP hD hK U hU hW⟩)⟩ rfl rfl hl.1 rfl (xm_room (Nat.le_of_ble_eq_true rfl)) dM_one1_126 ⟨hm84.1, hm84.2⟩) hS (fun q _ h => hFc q h) hFc (fun r85 u9 t H1 locs ht hvm hr9 hB hz1 hk1 hS => ?_)
      obtain ⟨hP1, hK1, hD1⟩ := hB
      rw [ht] at hP1
      obtain ⟨ad86, gd87, vad88⟩ := u9
      obtain ⟨hr9, hv89, hn90⟩ := hr9
      have hP : va_P D xcl (xMw cT aM ad86 rd gd87 vad88 o81.2.2.2.2 []) H1 := hP1
      have hD : va_D A (xMw cT aM ad86 rd gd87 vad88 o81.2.2.2.2 []) := hD1.weaken (fun k q _ h => hFc q.1 h)
      generalize H1 = H at hP hS ⊢
      have hE9 : ∀ p, p < xct st → vad88 p = vad p := fun p h => (hv89 p (Nat.lt_of_lt_of_le h hN)).trans (hE p h)
      have hE := hE9
      have hN : xct st ≤ xct o81.2.2.2.2 := Nat.le_trans hN hn90
      rw [hr9]
      refine W.eq (g2 := F0 m 129 ls [xv vad88 o81.2.2.2.1]) (by first | rfl | (skip; rfl)) ?_
      obtain rfl := Option.some.inj hf
      exact absurd (show (0 : Nat) = 1 from hkd) (by decide)
    rw [if_neg hk83] at hf
    by_cases hk91 : o81.1 = 1
    · rw [if_pos hk91] at hf
      obtain ⟨hm92, hf⟩ := xmoE hf
      have hFc := xm_free hD hS hA
      refine xx_thr (vx_runV (C := "ValueBenchModel") (As := [xv vad c1]) (rest := []) ⟨hx, hb, hml, hown, htx⟩ (gM_toNumber_1 l hl9 D cT aK aV s.heap.size n aM ad rd gd vad st c1 o81 hq82 hk91) ⟨callB_of 1 htx (xw_goodC kw_7_50) rfl rfl rfl (htx _ kw_1_5) (htx _ kw_7_47) ⟨by decide, by decide, by decide +kernel⟩ ⟨Nat.le_of_ble_eq_true rfl, Nat.le_of_ble_eq_true rfl⟩, (htx _ kw_7_49), (htx _ kp_M_toNumber)⟩ ⟨xPre_blind, va_recv hK hP (ci := 5) rfl (q0 := 0) rfl, (fun U hU hW => ⟨rfl, xPre_of hZ hS hFc hP hD hK U hU hW⟩)⟩ rfl rfl hl.1 rfl (xm_room (Nat.le_of_ble_eq_true rfl)) dM_one1_126 ⟨hm92.1, hm92.2⟩) hS hFc (fun q _ h => hFc q h) (fun E ce q9 u9 t H1 locs ht hvm hr9 hB hz1 hk1 hS hce hcv hcl => ?_)
      obtain ⟨rfl, hP1, hK1, hD1⟩ := hB
      rw [ht] at hP1
      obtain ⟨ad94, gd95, vad96⟩ := u9
      obtain ⟨hv97, hn98⟩ := hr9
      have hP : va_P D xcl (xMw cT aM ad94 rd gd95 vad96 o81.2.2.2.2 []) H1 := hP1
      have hD : va_D A (xMw cT aM ad94 rd gd95 vad96 o81.2.2.2.2 []) := hD1.weaken (fun k q _ h => hFc q.1 h)
      generalize H1 = H at hP hS hce ⊢
      have hE9 : ∀ p, p < xct st → vad96 p = vad p := fun p h => (hv97 p (Nat.lt_of_lt_of_le h hN)).trans (hE p h)
      have hE := hE9
      have hN : xct st ≤ xct o81.2.2.2.2 := Nat.le_trans hN hn98
      obtain rfl := Option.some.inj hf
      exact vx_out (E := "java/lang/ArithmeticException") (fun x h => (hne x h).elim) hlocks hce hcv hcl (fun t ht ha => ⟨(ad94, gd95, vad96), ⟨hE, hN⟩, ⟨rfl, by rw [ht]; exact hP, va_K.moved ha hK, hD⟩, hS.F ht⟩) hS.2.2 (Nat.le_refl _) (Nat.le_refl _)
    rw [if_neg hk91] at hf
    exact nomatch hf
  rw [if_neg hc80] at hf
  by_cases hc99 : x0 = 6
  · rw [if_pos hc99] at hf
    refine lv_tableIn (off := 129) (tgt := 130) hx hb dM_one1_1 (by rw [hc99]; decide) (by rw [hc99]; decide) (by rw [hc99]; decide) (by decide) ?_
    refine lv_aload_n hx hb dM_one1_130 rfl (lv_at hl 0 rfl) ?_
    refine xm_aload_n hx hb (xvor _ _) dM_one1_131 rfl (lv_at hl 2 rfl) ?_
    obtain ⟨o100, hq101, hf⟩ := xbind hf
    have hl := lv_sub (l' := [(0, .ref aM), (1, .int x0)]) hl [0, 1] rfl
    by_cases hk102 : o100.1 = 0
    · rw [if_pos hk102] at hf
      obtain ⟨hm103, hf⟩ := xmoE hf
      have hFc := xm_free hD hS hA
      refine va_callq (va_runV (C := "ValueBenchModel") (As := [xv vad c1]) (rest := []) ⟨hx, hb, hml, hown, htx⟩ (gM_told l hl9 D cT aK aV s.heap.size d n aM ad rd gd vad st c1 o100 hq101 hk102) ⟨callB_of 1 htx (xw_goodC kw_7_46) rfl rfl rfl (htx _ kw_1_5) (htx _ kw_7_43) ⟨by decide, by decide, by decide +kernel⟩ ⟨(by show (16 * d + 8) + 1 ≤ 16 * d + 11; omega), (by show 8 + (6 + 11) + (400 * d + 142) ≤ 400 * d + 224; omega)⟩, (htx _ kw_7_45), (htx _ kp_M_told)⟩ ⟨xPre_blind, va_recv hK hP (ci := 5) rfl (q0 := 0) rfl, (fun U hU hW => ⟨rfl, xPre_of hZ hS hFc hP hD hK U hU hW⟩)⟩ rfl rfl hl.1 rfl (xm_room (Nat.le_of_ble_eq_true rfl)) dM_one1_132 ⟨hm103.1, hm103.2⟩) hS (fun q _ h => hFc q h) hFc (fun r104 u9 t H1 locs ht hvm hr9 hB hz1 hk1 hS => ?_)
      obtain ⟨hP1, hK1, hD1⟩ := hB
      rw [ht] at hP1
      obtain ⟨ad105, gd106, vad107⟩ := u9
      obtain ⟨hr9, hv108, hn109⟩ := hr9
      have hP : va_P D xcl (xMw cT aM ad105 rd gd106 vad107 o100.2.2.2.2 []) H1 := hP1
      have hD : va_D A (xMw cT aM ad105 rd gd106 vad107 o100.2.2.2.2 []) := hD1.weaken (fun k q _ h => hFc q.1 h)
      generalize H1 = H at hP hS ⊢
      have hE9 : ∀ p, p < xct st → vad107 p = vad p := fun p h => (hv108 p (Nat.lt_of_lt_of_le h hN)).trans (hE p h)
      have hE := hE9
      have hN : xct st ≤ xct o100.2.2.2.2 := Nat.le_trans hN hn109
      rw [hr9]
      refine W.eq (g2 := F0 m 135 ls [xv vad107 o100.2.2.2.1]) (by first | rfl | (skip; rfl)) ?_
      obtain rfl := Option.some.inj hf
      exact absurd (show (0 : Nat) = 1 from hkd) (by decide)
    rw [if_neg hk102] at hf
    by_cases hk110 : o100.1 = 1
    · rw [if_pos hk110] at hf
      obtain ⟨hm111, hf⟩ := xmoE hf
      obtain rfl := Option.some.inj hf
      exact absurd (show (2 : Nat) = 1 from hkd) (by decide)
    rw [if_neg hk110] at hf
    exact nomatch hf
  rw [if_neg hc99] at hf
  by_cases hc118 : x0 = 7
  · rw [if_pos hc118] at hf
    refine lv_tableIn (off := 135) (tgt := 136) hx hb dM_one1_1 (by rw [hc118]; decide) (by rw [hc118]; decide) (by rw [hc118]; decide) (by decide) ?_
    refine lv_aload_n hx hb dM_one1_136 rfl (lv_at hl 0 rfl) ?_
    refine xm_aload_n hx hb (xvor _ _) dM_one1_137 rfl (lv_at hl 2 rfl) ?_
    obtain ⟨o119, hq120, hf⟩ := xbind hf
    have hl := lv_sub (l' := [(0, .ref aM), (1, .int x0)]) hl [0, 1] rfl
    by_cases hk121 : o119.1 = 0
    · rw [if_pos hk121] at hf
      obtain ⟨hm122, hf⟩ := xmoE hf
      have hFc := xm_free hD hS hA
      refine va_callq (vx_runVW (C := "ValueBenchModel") (As := [xv vad c1]) (rest := []) ⟨hx, hb, hml, hown, htx⟩ (gM_fromJson l hl9 D cT aK aV s.heap.size d n aM ad rd gd vad st c1 o119 hq120 hk121) (xcVW 1 htx (xw_goodC kw_7_58) rfl rfl rfl (htx _ kw_1_5) (htx _ kw_7_55) ⟨by decide, by decide, by decide +kernel⟩ ⟨(by show (16 * d + 8) + 1 ≤ 16 * d + 11; omega), (by show 8 + (10 + 11) + (400 * d + 145) ≤ 400 * d + 224; omega)⟩ (htx _ kw_7_57) (htx _ kp_M_fromJson)) ⟨xPre_blind, va_recv hK hP (ci := 5) rfl (q0 := 0) rfl, (fun U hU hW => ⟨rfl, xPre_of hZ hS hFc hP hD hK U hU hW⟩)⟩ rfl rfl hl.1 rfl (xm_room (Nat.le_of_ble_eq_true rfl)) dM_one1_138 ⟨hm122.1, hm122.2⟩) hS (fun q _ h => hFc q h) hFc (fun r123 u9 t H1 locs ht hvm hr9 hB hz1 hk1 hS => ?_)
      obtain ⟨hP1, hK1, hD1⟩ := hB
      rw [ht] at hP1
      obtain ⟨ad124, gd125, vad126⟩ := u9
      obtain ⟨hr9, hv127, hn128⟩ := hr9
      have hP : va_P D xcl (xMw cT aM ad124 rd gd125 vad126 o119.2.2.2.2 []) H1 := hP1
      have hD : va_D A (xMw cT aM ad124 rd gd125 vad126 o119.2.2.2.2 []) := hD1.weaken (fun k q _ h => hFc q.1 h)
      generalize H1 = H at hP hS ⊢
      have hE9 : ∀ p, p < xct st → vad126 p = vad p := fun p h => (hv127 p (Nat.lt_of_lt_of_le h hN)).trans (hE p h)
      have hE := hE9
      have hN : xct st ≤ xct o119.2.2.2.2 := Nat.le_trans hN hn128
      rw [hr9]
      refine W.eq (g2 := F0 m 141 ls [xv vad126 o119.2.2.2.1]) (by first | rfl | (skip; rfl)) ?_
      obtain rfl := Option.some.inj hf
      exact absurd (show (0 : Nat) = 1 from hkd) (by decide)
    rw [if_neg hk121] at hf
    by_cases hk129 : o119.1 = 1
    · rw [if_pos hk129] at hf
      obtain ⟨hm130, hf⟩ := xmoE hf
      have hFc := xm_free hD hS hA
      refine xx_thr (vx_runVX (C := "ValueBenchModel") (As := [xv vad c1]) (rest := []) ⟨hx, hb, hml, hown, htx⟩ (gM_fromJson_1 l hl9 D cT aK aV s.heap.size d n aM ad rd gd vad st c1 o119 hq120 hk129) (xcVW 1 htx (xw_goodC kw_7_58) rfl rfl rfl (htx _ kw_1_5) (htx _ kw_7_55) ⟨by decide, by decide, by decide +kernel⟩ ⟨(by show (16 * d + 8) + 1 ≤ 16 * d + 11; omega), (by show 8 + (10 + 11) + (400 * d + 145) ≤ 400 * d + 224; omega)⟩ (htx _ kw_7_57) (htx _ kp_M_fromJson)) ⟨xPre_blind, va_recv hK hP (ci := 5) rfl (q0 := 0) rfl, (fun U hU hW => ⟨rfl, xPre_of hZ hS hFc hP hD hK U hU hW⟩)⟩ rfl rfl hl.1 rfl (xm_room (Nat.le_of_ble_eq_true rfl)) dM_one1_138 ⟨hm130.1, hm130.2⟩) hS hFc (fun q _ h => hFc q h) (fun E ce q9 u9 t H1 locs ht hvm hr9 hB hz1 hk1 hS hce hcv hcl => ?_)
      obtain ⟨rfl, hP1, hK1, hD1⟩ := hB
      rw [ht] at hP1
      obtain ⟨ad132, gd133, vad134⟩ := u9
      obtain ⟨hv135, hn136⟩ := hr9
      have hP : va_P D xcl (xMw cT aM ad132 rd gd133 vad134 o119.2.2.2.2 []) H1 := hP1
      have hD : va_D A (xMw cT aM ad132 rd gd133 vad134 o119.2.2.2.2 []) := hD1.weaken (fun k q _ h => hFc q.1 h)
      generalize H1 = H at hP hS hce ⊢
      have hE9 : ∀ p, p < xct st → vad134 p = vad p := fun p h => (hv135 p (Nat.lt_of_lt_of_le h hN)).trans (hE p h)
      have hE := hE9
      have hN : xct st ≤ xct o119.2.2.2.2 := Nat.le_trans hN hn136
      obtain rfl := Option.some.inj hf
      exact vx_out (E := "java/lang/ArithmeticException") (fun x h => (hne x h).elim) hlocks hce hcv hcl (fun t ht ha => ⟨(ad132, gd133, vad134), ⟨hE, hN⟩, ⟨rfl, by rw [ht]; exact hP, va_K.moved ha hK, hD⟩, hS.F ht⟩) hS.2.2 (Nat.le_refl _) (Nat.le_refl _)
    rw [if_neg hk129] at hf
    exact nomatch hf
  rw [if_neg hc118] at hf
  by_cases hc137 : x0 = 8
  · rw [if_pos hc137] at hf
    refine lv_tableIn (off := 141) (tgt := 142) hx hb dM_one1_1 (by rw [hc137]; decide) (by rw [hc137]; decide) (by rw [hc137]; decide) (by decide) ?_
    refine lv_aload_n hx hb dM_one1_142 rfl (lv_at hl 0 rfl) ?_
    refine lv_aload_n hx hb dM_one1_143 rfl (lv_at hl 0 rfl) ?_
    refine xm_aload_n hx hb (xvor _ _) dM_one1_144 rfl (lv_at hl 2 rfl) ?_
    obtain ⟨o138, hq139, hf⟩ := xbind hf
    by_cases hk140 : o138.1 = 0
    · rw [if_pos hk140] at hf
      obtain ⟨hg141, hf⟩ := xifn hf
      obtain ⟨hm142, hf⟩ := xmoE hf
      have hFc := xm_free hD hS hA
      refine va_callq (va_runV (C := "ValueBenchModel") (As := [xv vad c1]) (rest := [.ref aM]) ⟨hx, hb, hml, hown, htx⟩ (gM_array l hl9 D cT aK aV s.heap.size n aM ad rd gd vad st c1 o138 hq139 hk140) ⟨callB_of 1 htx (xw_goodC kw_7_42) rfl rfl rfl (htx _ kw_1_5) (htx _ kw_7_39) ⟨by decide, by decide, by decide +kernel⟩ ⟨Nat.le_of_ble_eq_true rfl, Nat.le_of_ble_eq_true rfl⟩, (htx _ kw_7_41), (htx _ kp_M_array)⟩ ⟨xPre_blind, va_recv hK hP (ci := 5) rfl (q0 := 0) rfl, (fun U hU hW => ⟨rfl, xPre_of hZ hS hFc hP hD hK U hU hW⟩)⟩ rfl rfl hl.1 rfl (xm_room (Nat.le_of_ble_eq_true rfl)) dM_one1_145 ⟨hm142.1, hm142.2⟩) hS (fun q _ h => hFc q h) hFc (fun r143 u9 t H1 locs ht hvm hr9 hB hz1 hk1 hS => ?_)
      obtain ⟨hP1, hK1, hD1⟩ := hB
      rw [ht] at hP1
      obtain ⟨ad144, gd145, vad146⟩ := u9
      obtain ⟨hr9, hv147, hn148⟩ := hr9
      have hP : va_P D xcl (xMw cT aM ad144 rd gd145 vad146 o138.2.2.2.2 []) H1 := hP1
      have hD : va_D A (xMw cT aM ad144 rd gd145 vad146 o138.2.2.2.2 []) := hD1.weaken (fun k q _ h => hFc q.1 h)
      generalize H1 = H at hP hS ⊢
      have hE9 : ∀ p, p < xct st → vad146 p = vad p := fun p h => (hv147 p (Nat.lt_of_lt_of_le h hN)).trans (hE p h)
      have hE := hE9
      have hN : xct st ≤ xct o138.2.2.2.2 := Nat.le_trans hN hn148
      have ev149 : xv vad c1 = xv vad146 c1 := xvE hv147 hg141
      have hl : lv_has ls 3 [(0, .ref aM), (1, .int x0), (2, xv vad146 c1)] := by first | exact hl | ((try (rw [← ev149])); exact hl)
      rw [hr9]
      refine W.eq (g2 := F0 m 148 ls [xv vad146 o138.2.2.2.1, .ref aM]) (by first | rfl | ((try (rw [ev149])); rfl)) ?_
      refine xm_aload_n hx hb (xvor _ _) dM_one1_148 rfl (lv_at hl 2 rfl) ?_
      refine lv_iconst (v := 0) hx hb dM_one1_149 (by decide) ?_
      obtain ⟨o150, hq151, hf⟩ := xbind hf
      have hl := lv_sub (l' := [(0, .ref aM), (1, .int x0)]) hl [0, 1] rfl
      by_cases hk152 : o150.1 = 0
      · rw [if_pos hk152] at hf
        obtain ⟨hm153, hf⟩ := xmoE hf
        have hFc := xm_free hD hS hA
        refine va_callq (va_runV (C := "ValueBenchModel") (As := [xv vad146 o138.2.2.2.1, xv vad146 c1, .int 0]) (rest := []) ⟨hx, hb, hml, hown, htx⟩ (gM_sort1 l hl9 D cT aK aV H.size d n aM ad144 rd gd145 vad146 o138.2.2.2.2 o138.2.2.2.1 c1 (0 : Int32) o150 hq151 hk152) ⟨callB_of 3 htx (xw_goodC kw_7_21) rfl rfl rfl (htx _ kw_1_5) (htx _ kw_7_18) ⟨by decide, by decide, by decide +kernel⟩ ⟨(by show (16 * d + 8) + 1 ≤ 16 * d + 11; omega), (by show 8 + (10 + 11) + (400 * d + 147) ≤ 400 * d + 224; omega)⟩, (htx _ kw_7_20), (htx _ kp_M_sort1)⟩ ⟨xPre_blind, va_recv hK hP (ci := 5) rfl (q0 := 0) rfl, (fun U hU hW => ⟨rfl, xPre_of hZ hS hFc hP hD hK U hU hW⟩)⟩ rfl rfl hl.1 rfl (xm_room (Nat.le_of_ble_eq_true rfl)) dM_one1_150 ⟨hm153.1, hm153.2⟩) hS (fun q _ h => hFc q h) hFc (fun r154 u9 t H1 locs ht hvm hr9 hB hz1 hk1 hS => ?_)
        obtain ⟨hP1, hK1, hD1⟩ := hB
        rw [ht] at hP1
        obtain ⟨ad155, gd156, vad157⟩ := u9
        obtain ⟨hr9, hv158, hn159⟩ := hr9
        have hP : va_P D xcl (xMw cT aM ad155 rd gd156 vad157 o150.2.2.2.2 []) H1 := hP1
        have hD : va_D A (xMw cT aM ad155 rd gd156 vad157 o150.2.2.2.2 []) := hD1.weaken (fun k q _ h => hFc q.1 h)
        generalize H1 = H at hP hS ⊢
        have hE9 : ∀ p, p < xct st → vad157 p = vad p := fun p h => (hv158 p (Nat.lt_of_lt_of_le h hN)).trans (hE p h)
        have hE := hE9
        have hN : xct st ≤ xct o150.2.2.2.2 := Nat.le_trans hN hn159
        rw [hr9]
        refine W.eq (g2 := F0 m 153 ls [xv vad157 o150.2.2.2.1]) (by first | rfl | (skip; rfl)) ?_
        obtain rfl := Option.some.inj hf
        exact absurd (show (0 : Nat) = 1 from hkd) (by decide)
      rw [if_neg hk152] at hf
      by_cases hk160 : o150.1 = 1
      · rw [if_pos hk160] at hf
        obtain ⟨hm161, hf⟩ := xmoE hf
        obtain rfl := Option.some.inj hf
        exact absurd (show (2 : Nat) = 1 from hkd) (by decide)
      rw [if_neg hk160] at hf
      exact nomatch hf
    rw [if_neg hk140] at hf
    by_cases hk168 : o138.1 = 1
    · rw [if_pos hk168] at hf
      obtain ⟨hg169, hf⟩ := xifn hf
      obtain ⟨hm170, hf⟩ := xmoE hf
      have hFc := xm_free hD hS hA
      refine xx_thr (vx_runV (C := "ValueBenchModel") (As := [xv vad c1]) (rest := [.ref aM]) ⟨hx, hb, hml, hown, htx⟩ (gM_array_1 l hl9 D cT aK aV s.heap.size n aM ad rd gd vad st c1 o138 hq139 hk168) ⟨callB_of 1 htx (xw_goodC kw_7_42) rfl rfl rfl (htx _ kw_1_5) (htx _ kw_7_39) ⟨by decide, by decide, by decide +kernel⟩ ⟨Nat.le_of_ble_eq_true rfl, Nat.le_of_ble_eq_true rfl⟩, (htx _ kw_7_41), (htx _ kp_M_array)⟩ ⟨xPre_blind, va_recv hK hP (ci := 5) rfl (q0 := 0) rfl, (fun U hU hW => ⟨rfl, xPre_of hZ hS hFc hP hD hK U hU hW⟩)⟩ rfl rfl hl.1 rfl (xm_room (Nat.le_of_ble_eq_true rfl)) dM_one1_145 ⟨hm170.1, hm170.2⟩) hS hFc (fun q _ h => hFc q h) (fun E ce q9 u9 t H1 locs ht hvm hr9 hB hz1 hk1 hS hce hcv hcl => ?_)
      obtain ⟨rfl, hP1, hK1, hD1⟩ := hB
      rw [ht] at hP1
      obtain ⟨ad172, gd173, vad174⟩ := u9
      obtain ⟨hv175, hn176⟩ := hr9
      have hP : va_P D xcl (xMw cT aM ad172 rd gd173 vad174 o138.2.2.2.2 []) H1 := hP1
      have hD : va_D A (xMw cT aM ad172 rd gd173 vad174 o138.2.2.2.2 []) := hD1.weaken (fun k q _ h => hFc q.1 h)
      generalize H1 = H at hP hS hce ⊢
      have hE9 : ∀ p, p < xct st → vad174 p = vad p := fun p h => (hv175 p (Nat.lt_of_lt_of_le h hN)).trans (hE p h)
      have hE := hE9
      have hN : xct st ≤ xct o138.2.2.2.2 := Nat.le_trans hN hn176
      have ev177 : xv vad c1 = xv vad174 c1 := xvE hv175 hg169
      have hl : lv_has ls 3 [(0, .ref aM), (1, .int x0), (2, xv vad174 c1)] := by first | exact hl | ((try (rw [← ev177])); exact hl)
      obtain rfl := Option.some.inj hf
      exact vx_out (E := "java/lang/ArithmeticException") (fun x h => (hne x h).elim) hlocks hce hcv hcl (fun t ht ha => ⟨(ad172, gd173, vad174), ⟨hE, hN⟩, ⟨rfl, by rw [ht]; exact hP, va_K.moved ha hK, hD⟩, hS.F ht⟩) hS.2.2 (Nat.le_refl _) (Nat.le_refl _)
    rw [if_neg hk168] at hf
    exact nomatch hf
  rw [if_neg hc137] at hf
  by_cases hc178 : x0 = 9
  · rw [if_pos hc178] at hf
    refine lv_tableIn (off := 153) (tgt := 154) hx hb dM_one1_1 (by rw [hc178]; decide) (by rw [hc178]; decide) (by rw [hc178]; decide) (by decide) ?_
    refine lv_aload_n hx hb dM_one1_154 rfl (lv_at hl 0 rfl) ?_
    refine xm_aload_n hx hb (xvor _ _) dM_one1_155 rfl (lv_at hl 2 rfl) ?_
    obtain ⟨o179, hq180, hf⟩ := xbind hf
    have hl := lv_sub (l' := [(0, .ref aM), (1, .int x0)]) hl [0, 1] rfl
    by_cases hk181 : o179.1 = 0
    · rw [if_pos hk181] at hf
      obtain ⟨hm182, hf⟩ := xmoE hf
      have hFc := xm_free hD hS hA
      refine va_callq (va_runV (C := "ValueBenchModel") (As := [xv vad c1]) (rest := []) ⟨hx, hb, hml, hown, htx⟩ (gM_reversed l hl9 D cT aK aV s.heap.size n aM ad rd gd vad st c1 o179 hq180 hk181) ⟨callB_of 1 htx (xw_goodC kw_7_62) rfl rfl rfl (htx _ kw_1_5) (htx _ kw_7_59) ⟨by decide, by decide, by decide +kernel⟩ ⟨Nat.le_of_ble_eq_true rfl, Nat.le_of_ble_eq_true rfl⟩, (htx _ kw_7_61), (htx _ kp_M_reversed)⟩ ⟨xPre_blind, va_recv hK hP (ci := 5) rfl (q0 := 0) rfl, (fun U hU hW => ⟨rfl, xPre_of hZ hS hFc hP hD hK U hU hW⟩)⟩ rfl rfl hl.1 rfl (xm_room (Nat.le_of_ble_eq_true rfl)) dM_one1_156 ⟨hm182.1, hm182.2⟩) hS (fun q _ h => hFc q h) hFc (fun r183 u9 t H1 locs ht hvm hr9 hB hz1 hk1 hS => ?_)
      obtain ⟨hP1, hK1, hD1⟩ := hB
      rw [ht] at hP1
      obtain ⟨ad184, gd185, vad186⟩ := u9
      obtain ⟨hr9, hv187, hn188⟩ := hr9
      have hP : va_P D xcl (xMw cT aM ad184 rd gd185 vad186 o179.2.2.2.2 []) H1 := hP1
      have hD : va_D A (xMw cT aM ad184 rd gd185 vad186 o179.2.2.2.2 []) := hD1.weaken (fun k q _ h => hFc q.1 h)
      generalize H1 = H at hP hS ⊢
      have hE9 : ∀ p, p < xct st → vad186 p = vad p := fun p h => (hv187 p (Nat.lt_of_lt_of_le h hN)).trans (hE p h)
      have hE := hE9
      have hN : xct st ≤ xct o179.2.2.2.2 := Nat.le_trans hN hn188
      rw [hr9]
      refine W.eq (g2 := F0 m 159 ls [xv vad186 o179.2.2.2.1]) (by first | rfl | (skip; rfl)) ?_
      obtain rfl := Option.some.inj hf
      exact absurd (show (0 : Nat) = 1 from hkd) (by decide)
    rw [if_neg hk181] at hf
    by_cases hk189 : o179.1 = 1
    · rw [if_pos hk189] at hf
      obtain ⟨hm190, hf⟩ := xmoE hf
      have hFc := xm_free hD hS hA
      refine xx_thr (vx_runV (C := "ValueBenchModel") (As := [xv vad c1]) (rest := []) ⟨hx, hb, hml, hown, htx⟩ (gM_reversed_1 l hl9 D cT aK aV s.heap.size n aM ad rd gd vad st c1 o179 hq180 hk189) ⟨callB_of 1 htx (xw_goodC kw_7_62) rfl rfl rfl (htx _ kw_1_5) (htx _ kw_7_59) ⟨by decide, by decide, by decide +kernel⟩ ⟨Nat.le_of_ble_eq_true rfl, Nat.le_of_ble_eq_true rfl⟩, (htx _ kw_7_61), (htx _ kp_M_reversed)⟩ ⟨xPre_blind, va_recv hK hP (ci := 5) rfl (q0 := 0) rfl, (fun U hU hW => ⟨rfl, xPre_of hZ hS hFc hP hD hK U hU hW⟩)⟩ rfl rfl hl.1 rfl (xm_room (Nat.le_of_ble_eq_true rfl)) dM_one1_156 ⟨hm190.1, hm190.2⟩) hS hFc (fun q _ h => hFc q h) (fun E ce q9 u9 t H1 locs ht hvm hr9 hB hz1 hk1 hS hce hcv hcl => ?_)
      obtain ⟨rfl, hP1, hK1, hD1⟩ := hB
      rw [ht] at hP1
      obtain ⟨ad192, gd193, vad194⟩ := u9
      obtain ⟨hv195, hn196⟩ := hr9
      have hP : va_P D xcl (xMw cT aM ad192 rd gd193 vad194 o179.2.2.2.2 []) H1 := hP1
      have hD : va_D A (xMw cT aM ad192 rd gd193 vad194 o179.2.2.2.2 []) := hD1.weaken (fun k q _ h => hFc q.1 h)
      generalize H1 = H at hP hS hce ⊢
      have hE9 : ∀ p, p < xct st → vad194 p = vad p := fun p h => (hv195 p (Nat.lt_of_lt_of_le h hN)).trans (hE p h)
      have hE := hE9
      have hN : xct st ≤ xct o179.2.2.2.2 := Nat.le_trans hN hn196
      obtain rfl := Option.some.inj hf
      exact vx_out (E := "java/lang/ArithmeticException") (fun x h => (hne x h).elim) hlocks hce hcv hcl (fun t ht ha => ⟨(ad192, gd193, vad194), ⟨hE, hN⟩, ⟨rfl, by rw [ht]; exact hP, va_K.moved ha hK, hD⟩, hS.F ht⟩) hS.2.2 (Nat.le_refl _) (Nat.le_refl _)
    rw [if_neg hk189] at hf
    by_cases hk197 : o179.1 = 2
    · rw [if_pos hk197] at hf
      obtain ⟨hm198, hf⟩ := xmoE hf
      obtain rfl := Option.some.inj hf
      exact absurd (show (2 : Nat) = 1 from hkd) (by decide)
    rw [if_neg hk197] at hf
    exact nomatch hf
  rw [if_neg hc178] at hf
  by_cases hc205 : x0 = 10
  · rw [if_pos hc205] at hf
    refine lv_tableIn (off := 159) (tgt := 160) hx hb dM_one1_1 (by rw [hc205]; decide) (by rw [hc205]; decide) (by rw [hc205]; decide) (by decide) ?_
    refine lv_aload_n hx hb dM_one1_160 rfl (lv_at hl 0 rfl) ?_
    refine xm_aload_n hx hb (xvor _ _) dM_one1_161 rfl (lv_at hl 2 rfl) ?_
    obtain ⟨o206, hq207, hf⟩ := xbind hf
    have hl := lv_sub (l' := [(0, .ref aM), (1, .int x0)]) hl [0, 1] rfl
    by_cases hk208 : o206.1 = 0
    · rw [if_pos hk208] at hf
      obtain ⟨hm209, hf⟩ := xmoE hf
      have hFc := xm_free hD hS hA
      refine va_callq (va_runV (C := "ValueBenchModel") (As := [xv vad c1]) (rest := []) ⟨hx, hb, hml, hown, htx⟩ (gM_explode l hl9 D cT aK aV s.heap.size n aM ad rd gd vad st c1 o206 hq207 hk208) ⟨callB_of 1 htx (xw_goodC kw_7_66) rfl rfl rfl (htx _ kw_1_5) (htx _ kw_7_63) ⟨by decide, by decide, by decide +kernel⟩ ⟨Nat.le_of_ble_eq_true rfl, Nat.le_of_ble_eq_true rfl⟩, (htx _ kw_7_65), (htx _ kp_M_explode)⟩ ⟨xPre_blind, va_recv hK hP (ci := 5) rfl (q0 := 0) rfl, (fun U hU hW => ⟨rfl, xPre_of hZ hS hFc hP hD hK U hU hW⟩)⟩ rfl rfl hl.1 rfl (xm_room (Nat.le_of_ble_eq_true rfl)) dM_one1_162 ⟨hm209.1, hm209.2⟩) hS (fun q _ h => hFc q h) hFc (fun r210 u9 t H1 locs ht hvm hr9 hB hz1 hk1 hS => ?_)
      obtain ⟨hP1, hK1, hD1⟩ := hB
      rw [ht] at hP1
      obtain ⟨ad211, gd212, vad213⟩ := u9
      obtain ⟨hr9, hv214, hn215⟩ := hr9
      have hP : va_P D xcl (xMw cT aM ad211 rd gd212 vad213 o206.2.2.2.2 []) H1 := hP1
      have hD : va_D A (xMw cT aM ad211 rd gd212 vad213 o206.2.2.2.2 []) := hD1.weaken (fun k q _ h => hFc q.1 h)
      generalize H1 = H at hP hS ⊢
      have hE9 : ∀ p, p < xct st → vad213 p = vad p := fun p h => (hv214 p (Nat.lt_of_lt_of_le h hN)).trans (hE p h)
      have hE := hE9
      have hN : xct st ≤ xct o206.2.2.2.2 := Nat.le_trans hN hn215
      rw [hr9]
      refine W.eq (g2 := F0 m 165 ls [xv vad213 o206.2.2.2.1]) (by first | rfl | (skip; rfl)) ?_
      obtain rfl := Option.some.inj hf
      exact absurd (show (0 : Nat) = 1 from hkd) (by decide)
    rw [if_neg hk208] at hf
    by_cases hk216 : o206.1 = 1
    · rw [if_pos hk216] at hf
      obtain ⟨hm217, hf⟩ := xmoE hf
      obtain rfl := Option.some.inj hf
      exact absurd (show (2 : Nat) = 1 from hkd) (by decide)
    rw [if_neg hk216] at hf
    by_cases hk224 : o206.1 = 2
    · rw [if_pos hk224] at hf
      obtain ⟨hm225, hf⟩ := xmoE hf
      have hFc := xm_free hD hS hA
      refine xx_thr (vx_runV (C := "ValueBenchModel") (As := [xv vad c1]) (rest := []) ⟨hx, hb, hml, hown, htx⟩ (gM_explode_2 l hl9 D cT aK aV s.heap.size n aM ad rd gd vad st c1 o206 hq207 hk224) ⟨callB_of 1 htx (xw_goodC kw_7_66) rfl rfl rfl (htx _ kw_1_5) (htx _ kw_7_63) ⟨by decide, by decide, by decide +kernel⟩ ⟨Nat.le_of_ble_eq_true rfl, Nat.le_of_ble_eq_true rfl⟩, (htx _ kw_7_65), (htx _ kp_M_explode)⟩ ⟨xPre_blind, va_recv hK hP (ci := 5) rfl (q0 := 0) rfl, (fun U hU hW => ⟨rfl, xPre_of hZ hS hFc hP hD hK U hU hW⟩)⟩ rfl rfl hl.1 rfl (xm_room (Nat.le_of_ble_eq_true rfl)) dM_one1_162 ⟨hm225.1, hm225.2⟩) hS hFc (fun q _ h => hFc q h) (fun E ce q9 u9 t H1 locs ht hvm hr9 hB hz1 hk1 hS hce hcv hcl => ?_)
      obtain ⟨rfl, hP1, hK1, hD1⟩ := hB
      rw [ht] at hP1
      obtain ⟨ad227, gd228, vad229⟩ := u9
      obtain ⟨hv230, hn231⟩ := hr9
      have hP : va_P D xcl (xMw cT aM ad227 rd gd228 vad229 o206.2.2.2.2 []) H1 := hP1
      have hD : va_D A (xMw cT aM ad227 rd gd228 vad229 o206.2.2.2.2 []) := hD1.weaken (fun k q _ h => hFc q.1 h)
      generalize H1 = H at hP hS hce ⊢
      have hE9 : ∀ p, p < xct st → vad229 p = vad p := fun p h => (hv230 p (Nat.lt_of_lt_of_le h hN)).trans (hE p h)
      have hE := hE9
      have hN : xct st ≤ xct o206.2.2.2.2 := Nat.le_trans hN hn231
      obtain rfl := Option.some.inj hf
      exact vx_out (E := "java/lang/ArithmeticException") (fun x h => (hne x h).elim) hlocks hce hcv hcl (fun t ht ha => ⟨(ad227, gd228, vad229), ⟨hE, hN⟩, ⟨rfl, by rw [ht]; exact hP, va_K.moved ha hK, hD⟩, hS.F ht⟩) hS.2.2 (Nat.le_refl _) (Nat.le_refl _)
    rw [if_neg hk224] at hf
    exact nomatch hf
  rw [if_neg hc205] at hf
  by_cases hc232 : x0 = 11
  · rw [if_pos hc232] at hf
    refine lv_tableIn (off := 165) (tgt := 166) hx hb dM_one1_1 (by rw [hc232]; decide) (by rw [hc232]; decide) (by rw [hc232]; decide) (by decide) ?_
    refine lv_aload_n hx hb dM_one1_166 rfl (lv_at hl 0 rfl) ?_
    refine xm_aload_n hx hb (xvor _ _) dM_one1_167 rfl (lv_at hl 2 rfl) ?_
    obtain ⟨o233, hq234, hf⟩ := xbind hf
    have hl := lv_sub (l' := [(0, .ref aM), (1, .int x0)]) hl [0, 1] rfl
    by_cases hk235 : o233.1 = 0
    · rw [if_pos hk235] at hf
      obtain ⟨hm236, hf⟩ := xmoE hf
      have hFc := xm_free hD hS hA
      refine va_callq (va_runV (C := "ValueBenchModel") (As := [xv vad c1]) (rest := []) ⟨hx, hb, hml, hown, htx⟩ (gM_implode l hl9 D cT aK aV s.heap.size n aM ad rd gd vad st c1 o233 hq234 hk235) ⟨callB_of 1 htx (xw_goodC kw_7_70) rfl rfl rfl (htx _ kw_1_5) (htx _ kw_7_67) ⟨by decide, by decide, by decide +kernel⟩ ⟨Nat.le_of_ble_eq_true rfl, Nat.le_of_ble_eq_true rfl⟩, (htx _ kw_7_69), (htx _ kp_M_implode)⟩ ⟨xPre_blind, va_recv hK hP (ci := 5) rfl (q0 := 0) rfl, (fun U hU hW => ⟨rfl, xPre_of hZ hS hFc hP hD hK U hU hW⟩)⟩ rfl rfl hl.1 rfl (xm_room (Nat.le_of_ble_eq_true rfl)) dM_one1_168 ⟨hm236.1, hm236.2⟩) hS (fun q _ h => hFc q h) hFc (fun r237 u9 t H1 locs ht hvm hr9 hB hz1 hk1 hS => ?_)
      obtain ⟨hP1, hK1, hD1⟩ := hB
      rw [ht] at hP1
      obtain ⟨ad238, gd239, vad240⟩ := u9
      obtain ⟨hr9, hv241, hn242⟩ := hr9
      have hP : va_P D xcl (xMw cT aM ad238 rd gd239 vad240 o233.2.2.2.2 []) H1 := hP1
      have hD : va_D A (xMw cT aM ad238 rd gd239 vad240 o233.2.2.2.2 []) := hD1.weaken (fun k q _ h => hFc q.1 h)
      generalize H1 = H at hP hS ⊢
      have hE9 : ∀ p, p < xct st → vad240 p = vad p := fun p h => (hv241 p (Nat.lt_of_lt_of_le h hN)).trans (hE p h)
      have hE := hE9
      have hN : xct st ≤ xct o233.2.2.2.2 := Nat.le_trans hN hn242
      rw [hr9]
      refine W.eq (g2 := F0 m 171 ls [xv vad240 o233.2.2.2.1]) (by first | rfl | (skip; rfl)) ?_
      obtain rfl := Option.some.inj hf
      exact absurd (show (0 : Nat) = 1 from hkd) (by decide)
    rw [if_neg hk235] at hf
    by_cases hk243 : o233.1 = 1
    · rw [if_pos hk243] at hf
      obtain ⟨hm244, hf⟩ := xmoE hf
      have hFc := xm_free hD hS hA
      refine xx_thr (vx_runV (C := "ValueBenchModel") (As := [xv vad c1]) (rest := []) ⟨hx, hb, hml, hown, htx⟩ (gM_implode_1 l hl9 D cT aK aV s.heap.size n aM ad rd gd vad st c1 o233 hq234 hk243) ⟨callB_of 1 htx (xw_goodC kw_7_70) rfl rfl rfl (htx _ kw_1_5) (htx _ kw_7_67) ⟨by decide, by decide, by decide +kernel⟩ ⟨Nat.le_of_ble_eq_true rfl, Nat.le_of_ble_eq_true rfl⟩, (htx _ kw_7_69), (htx _ kp_M_implode)⟩ ⟨xPre_blind, va_recv hK hP (ci := 5) rfl (q0 := 0) rfl, (fun U hU hW => ⟨rfl, xPre_of hZ hS hFc hP hD hK U hU hW⟩)⟩ rfl rfl hl.1 rfl (xm_room (Nat.le_of_ble_eq_true rfl)) dM_one1_168 ⟨hm244.1, hm244.2⟩) hS hFc (fun q _ h => hFc q h) (fun E ce q9 u9 t H1 locs ht hvm hr9 hB hz1 hk1 hS hce hcv hcl => ?_)
      obtain ⟨rfl, hP1, hK1, hD1⟩ := hB
      rw [ht] at hP1
      obtain ⟨ad246, gd247, vad248⟩ := u9
      obtain ⟨hv249, hn250⟩ := hr9
      have hP : va_P D xcl (xMw cT aM ad246 rd gd247 vad248 o233.2.2.2.2 []) H1 := hP1
      have hD : va_D A (xMw cT aM ad246 rd gd247 vad248 o233.2.2.2.2 []) := hD1.weaken (fun k q _ h => hFc q.1 h)
      generalize H1 = H at hP hS hce ⊢
      have hE9 : ∀ p, p < xct st → vad248 p = vad p := fun p h => (hv249 p (Nat.lt_of_lt_of_le h hN)).trans (hE p h)
      have hE := hE9
      have hN : xct st ≤ xct o233.2.2.2.2 := Nat.le_trans hN hn250
      obtain rfl := Option.some.inj hf
      exact vx_out (E := "java/lang/ArithmeticException") (fun x h => (hne x h).elim) hlocks hce hcv hcl (fun t ht ha => ⟨(ad246, gd247, vad248), ⟨hE, hN⟩, ⟨rfl, by rw [ht]; exact hP, va_K.moved ha hK, hD⟩, hS.F ht⟩) hS.2.2 (Nat.le_refl _) (Nat.le_refl _)
    rw [if_neg hk243] at hf
    by_cases hk251 : o233.1 = 2
    · rw [if_pos hk251] at hf
      obtain ⟨hm252, hf⟩ := xmoE hf
      obtain rfl := Option.some.inj hf
      exact absurd (show (2 : Nat) = 1 from hkd) (by decide)
    rw [if_neg hk251] at hf
    exact nomatch hf
  rw [if_neg hc232] at hf
  by_cases hc259 : x0 = 12
  · rw [if_pos hc259] at hf
    refine lv_tableIn (off := 171) (tgt := 172) hx hb dM_one1_1 (by rw [hc259]; decide) (by rw [hc259]; decide) (by rw [hc259]; decide) (by decide) ?_
    refine lv_aload_n hx hb dM_one1_172 rfl (lv_at hl 0 rfl) ?_
    refine xm_aload_n hx hb (xvor _ _) dM_one1_173 rfl (lv_at hl 2 rfl) ?_
    refine lv_iconst (v := 0) hx hb dM_one1_174 (by decide) ?_
    obtain ⟨o260, hq261, hf⟩ := xbind hf
    have hl := lv_sub (l' := [(0, .ref aM), (1, .int x0)]) hl [0, 1] rfl
    by_cases hk262 : o260.1 = 0
    · rw [if_pos hk262] at hf
      obtain ⟨hm263, hf⟩ := xmoE hf
      have hFc := xm_free hD hS hA
      refine va_callq (va_runV (C := "ValueBenchModel") (As := [xv vad c1, .int 0]) (rest := []) ⟨hx, hb, hml, hown, htx⟩ (gM_cased l hl9 D cT aK aV s.heap.size n aM ad rd gd vad st c1 (0 : Int32) o260 hq261 hk262) ⟨callB_of 2 htx (xw_goodC kw_7_75) rfl rfl rfl (htx _ kw_1_5) (htx _ kw_7_72) ⟨by decide, by decide, by decide +kernel⟩ ⟨Nat.le_of_ble_eq_true rfl, Nat.le_of_ble_eq_true rfl⟩, (htx _ kw_7_74), (htx _ kp_M_cased)⟩ ⟨xPre_blind, va_recv hK hP (ci := 5) rfl (q0 := 0) rfl, (fun U hU hW => ⟨rfl, xPre_of hZ hS hFc hP hD hK U hU hW⟩)⟩ rfl rfl hl.1 rfl (xm_room (Nat.le_of_ble_eq_true rfl)) dM_one1_175 ⟨hm263.1, hm263.2⟩) hS (fun q _ h => hFc q h) hFc (fun r264 u9 t H1 locs ht hvm hr9 hB hz1 hk1 hS => ?_)
      obtain ⟨hP1, hK1, hD1⟩ := hB
      rw [ht] at hP1
      obtain ⟨ad265, gd266, vad267⟩ := u9
      obtain ⟨hr9, hv268, hn269⟩ := hr9
      have hP : va_P D xcl (xMw cT aM ad265 rd gd266 vad267 o260.2.2.2.2 []) H1 := hP1
      have hD : va_D A (xMw cT aM ad265 rd gd266 vad267 o260.2.2.2.2 []) := hD1.weaken (fun k q _ h => hFc q.1 h)
      generalize H1 = H at hP hS ⊢
      have hE9 : ∀ p, p < xct st → vad267 p = vad p := fun p h => (hv268 p (Nat.lt_of_lt_of_le h hN)).trans (hE p h)
      have hE := hE9
      have hN : xct st ≤ xct o260.2.2.2.2 := Nat.le_trans hN hn269
      rw [hr9]
      refine W.eq (g2 := F0 m 178 ls [xv vad267 o260.2.2.2.1]) (by first | rfl | (skip; rfl)) ?_
      obtain rfl := Option.some.inj hf
      exact absurd (show (0 : Nat) = 1 from hkd) (by decide)
    rw [if_neg hk262] at hf
    by_cases hk270 : o260.1 = 1
    · rw [if_pos hk270] at hf
      obtain ⟨hm271, hf⟩ := xmoE hf
      obtain rfl := Option.some.inj hf
      exact absurd (show (2 : Nat) = 1 from hkd) (by decide)
    rw [if_neg hk270] at hf
    by_cases hk278 : o260.1 = 2
    · rw [if_pos hk278] at hf
      obtain ⟨hm279, hf⟩ := xmoE hf
      have hFc := xm_free hD hS hA
      refine xx_thr (vx_runV (C := "ValueBenchModel") (As := [xv vad c1, .int 0]) (rest := []) ⟨hx, hb, hml, hown, htx⟩ (gM_cased_2 l hl9 D cT aK aV s.heap.size n aM ad rd gd vad st c1 (0 : Int32) o260 hq261 hk278) ⟨callB_of 2 htx (xw_goodC kw_7_75) rfl rfl rfl (htx _ kw_1_5) (htx _ kw_7_72) ⟨by decide, by decide, by decide +kernel⟩ ⟨Nat.le_of_ble_eq_true rfl, Nat.le_of_ble_eq_true rfl⟩, (htx _ kw_7_74), (htx _ kp_M_cased)⟩ ⟨xPre_blind, va_recv hK hP (ci := 5) rfl (q0 := 0) rfl, (fun U hU hW => ⟨rfl, xPre_of hZ hS hFc hP hD hK U hU hW⟩)⟩ rfl rfl hl.1 rfl (xm_room (Nat.le_of_ble_eq_true rfl)) dM_one1_175 ⟨hm279.1, hm279.2⟩) hS hFc (fun q _ h => hFc q h) (fun E ce q9 u9 t H1 locs ht hvm hr9 hB hz1 hk1 hS hce hcv hcl => ?_)
      obtain ⟨rfl, hP1, hK1, hD1⟩ := hB
      rw [ht] at hP1
      obtain ⟨ad281, gd282, vad283⟩ := u9
      obtain ⟨hv284, hn285⟩ := hr9
      have hP : va_P D xcl (xMw cT aM ad281 rd gd282 vad283 o260.2.2.2.2 []) H1 := hP1
      have hD : va_D A (xMw cT aM ad281 rd gd282 vad283 o260.2.2.2.2 []) := hD1.weaken (fun k q _ h => hFc q.1 h)
      generalize H1 = H at hP hS hce ⊢
      have hE9 : ∀ p, p < xct st → vad283 p = vad p := fun p h => (hv284 p (Nat.lt_of_lt_of_le h hN)).trans (hE p h)
      have hE := hE9
      have hN : xct st ≤ xct o260.2.2.2.2 := Nat.le_trans hN hn285
      obtain rfl := Option.some.inj hf
      exact vx_out (E := "java/lang/ArithmeticException") (fun x h => (hne x h).elim) hlocks hce hcv hcl (fun t ht ha => ⟨(ad281, gd282, vad283), ⟨hE, hN⟩, ⟨rfl, by rw [ht]; exact hP, va_K.moved ha hK, hD⟩, hS.F ht⟩) hS.2.2 (Nat.le_refl _) (Nat.le_refl _)
    rw [if_neg hk278] at hf
    exact nomatch hf
  rw [if_neg hc259] at hf
  refine lv_tableOut (tgt := 179) hx hb dM_one1_1 (by have e0 : x0.toInt ≠ 0 := xsw hc1 (by decide); have e1 : x0.toInt ≠ 1 := xsw hc5 (by decide); have e2 : x0.toInt ≠ 2 := xsw hc24 (by decide); have e3 : x0.toInt ≠ 3 := xsw hc51 (by decide); have e4 : x0.toInt ≠ 4 := xsw hc78 (by decide); have e5 : x0.toInt ≠ 5 := xsw hc80 (by decide); have e6 : x0.toInt ≠ 6 := xsw hc99 (by decide); have e7 : x0.toInt ≠ 7 := xsw hc118 (by decide); have e8 : x0.toInt ≠ 8 := xsw hc137 (by decide); have e9 : x0.toInt ≠ 9 := xsw hc178 (by decide); have e10 : x0.toInt ≠ 10 := xsw hc205 (by decide); have e11 : x0.toInt ≠ 11 := xsw hc232 (by decide); have e12 : x0.toInt ≠ 12 := xsw hc259 (by decide); omega) (by decide) ?_
  refine lv_aload_n hx hb dM_one1_179 rfl (lv_at hl 0 rfl) ?_
  refine xm_aload_n hx hb (xvor _ _) dM_one1_180 rfl (lv_at hl 2 rfl) ?_
  refine lv_iconst (v := 1) hx hb dM_one1_181 (by decide) ?_
  obtain ⟨o286, hq287, hf⟩ := xbind hf
  have hl := lv_sub (l' := [(0, .ref aM), (1, .int x0)]) hl [0, 1] rfl
  by_cases hk288 : o286.1 = 0
  · rw [if_pos hk288] at hf
    obtain ⟨hm289, hf⟩ := xmoE hf
    have hFc := xm_free hD hS hA
    refine va_callq (va_runV (C := "ValueBenchModel") (As := [xv vad c1, .int 1]) (rest := []) ⟨hx, hb, hml, hown, htx⟩ (gM_cased l hl9 D cT aK aV s.heap.size n aM ad rd gd vad st c1 (1 : Int32) o286 hq287 hk288) ⟨callB_of 2 htx (xw_goodC kw_7_75) rfl rfl rfl (htx _ kw_1_5) (htx _ kw_7_72) ⟨by decide, by decide, by decide +kernel⟩ ⟨Nat.le_of_ble_eq_true rfl, Nat.le_of_ble_eq_true rfl⟩, (htx _ kw_7_74), (htx _ kp_M_cased)⟩ ⟨xPre_blind, va_recv hK hP (ci := 5) rfl (q0 := 0) rfl, (fun U hU hW => ⟨rfl, xPre_of hZ hS hFc hP hD hK U hU hW⟩)⟩ rfl rfl hl.1 rfl (xm_room (Nat.le_of_ble_eq_true rfl)) dM_one1_182 ⟨hm289.1, hm289.2⟩) hS (fun q _ h => hFc q h) hFc (fun r290 u9 t H1 locs ht hvm hr9 hB hz1 hk1 hS => ?_)
    obtain ⟨hP1, hK1, hD1⟩ := hB
    rw [ht] at hP1
    obtain ⟨ad291, gd292, vad293⟩ := u9
    obtain ⟨hr9, hv294, hn295⟩ := hr9
    have hP : va_P D xcl (xMw cT aM ad291 rd gd292 vad293 o286.2.2.2.2 []) H1 := hP1
    have hD : va_D A (xMw cT aM ad291 rd gd292 vad293 o286.2.2.2.2 []) := hD1.weaken (fun k q _ h => hFc q.1 h)
    generalize H1 = H at hP hS ⊢
    have hE9 : ∀ p, p < xct st → vad293 p = vad p := fun p h => (hv294 p (Nat.lt_of_lt_of_le h hN)).trans (hE p h)
    have hE := hE9
    have hN : xct st ≤ xct o286.2.2.2.2 := Nat.le_trans hN hn295
    rw [hr9]
    refine W.eq (g2 := F0 m 185 ls [xv vad293 o286.2.2.2.1]) (by first | rfl | (skip; rfl)) ?_
    obtain rfl := Option.some.inj hf
    exact absurd (show (0 : Nat) = 1 from hkd) (by decide)
  rw [if_neg hk288] at hf
  by_cases hk296 : o286.1 = 1
  · rw [if_pos hk296] at hf
    obtain ⟨hm297, hf⟩ := xmoE hf
    obtain rfl := Option.some.inj hf
    exact absurd (show (2 : Nat) = 1 from hkd) (by decide)
  rw [if_neg hk296] at hf
  by_cases hk304 : o286.1 = 2
  · rw [if_pos hk304] at hf
    obtain ⟨hm305, hf⟩ := xmoE hf
    have hFc := xm_free hD hS hA
    refine xx_thr (vx_runV (C := "ValueBenchModel") (As := [xv vad c1, .int 1]) (rest := []) ⟨hx, hb, hml, hown, htx⟩ (gM_cased_2 l hl9 D cT aK aV s.heap.size n aM ad rd gd vad st c1 (1 : Int32) o286 hq287 hk304) ⟨callB_of 2 htx (xw_goodC kw_7_75) rfl rfl rfl (htx _ kw_1_5) (htx _ kw_7_72) ⟨by decide, by decide, by decide +kernel⟩ ⟨Nat.le_of_ble_eq_true rfl, Nat.le_of_ble_eq_true rfl⟩, (htx _ kw_7_74), (htx _ kp_M_cased)⟩ ⟨xPre_blind, va_recv hK hP (ci := 5) rfl (q0 := 0) rfl, (fun U hU hW => ⟨rfl, xPre_of hZ hS hFc hP hD hK U hU hW⟩)⟩ rfl rfl hl.1 rfl (xm_room (Nat.le_of_ble_eq_true rfl)) dM_one1_182 ⟨hm305.1, hm305.2⟩) hS hFc (fun q _ h => hFc q h) (fun E ce q9 u9 t H1 locs ht hvm hr9 hB hz1 hk1 hS hce hcv hcl => ?_)
    obtain ⟨rfl, hP1, hK1, hD1⟩ := hB
    rw [ht] at hP1
    obtain ⟨ad307, gd308, vad309⟩ := u9
    obtain ⟨hv310, hn311⟩ := hr9
    have hP : va_P D xcl (xMw cT aM ad307 rd gd308 vad309 o286.2.2.2.2 []) H1 := hP1
    have hD : va_D A (xMw cT aM ad307 rd gd308 vad309 o286.2.2.2.2 []) := hD1.weaken (fun k q _ h => hFc q.1 h)
    generalize H1 = H at hP hS hce ⊢
    have hE9 : ∀ p, p < xct st → vad309 p = vad p := fun p h => (hv310 p (Nat.lt_of_lt_of_le h hN)).trans (hE p h)
    have hE := hE9
    have hN : xct st ≤ xct o286.2.2.2.2 := Nat.le_trans hN hn311
    obtain rfl := Option.some.inj hf
    exact vx_out (E := "java/lang/ArithmeticException") (fun x h => (hne x h).elim) hlocks hce hcv hcl (fun t ht ha => ⟨(ad307, gd308, vad309), ⟨hE, hN⟩, ⟨rfl, by rw [ht]; exact hP, va_K.moved ha hK, hD⟩, hS.F ht⟩) hS.2.2 (Nat.le_refl _) (Nat.le_refl _)
  rw [if_neg hk304] at hf
  exact nomatch hf
