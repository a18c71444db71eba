set_option maxHeartbeats 400000000 in
set_option maxRecDepth 100000 in
theorem gM_putString (l : Launch) (hl9 : l.stackTraces = false) (D : va_G) (cT : Nat → ClassId) (aK aV : Nat → Nat) (sz n : Nat) (aM : Nat) (ad rd gd vad : Nat → Nat) (st : xS) (c0 : Nat) (out : Nat × Nat × Nat × xS) (hf : fM_putString n st c0 = some out) (hkd : out.1 = 0) : xMet l yM_putString wyM_putString 8 out.2.1 out.2.2.1 145 D cT aK aV sz [.ref aM, xv vad c0] (xMw cT aM ad rd gd vad st []) (fun A => va_Qv (fun u : xU => xE vad st out.2.2.2 u) (fun u t => xB D xcl cT A (xMw cT aM u.1 rd u.2.1 u.2.2 out.2.2.2 []) t) A) := by
  refine Met.ofW (cc := prog_13_method_45_code) (maxL := 4) (ret := none) (by decide) rfl ?_
  intro p e s m args below meth c s₁ B hml hv
  obtain ⟨rfl, hsz, hZ, hP, hK, hD0⟩ := hv
  have hx := B.exec
  have hb := B.bytes
  have hr := B.returns
  have hts := atoms_spec (ws := wyM_putString) B.pre
  have htx := fun w h => hts w (List.mem_cons_of_mem _ h)
  have hown : s.vm.findClass "ValueBenchModel" = some m.cls := findClass_of_methodNamed B.named
  have hlocks := B.notSynchronized
  subst hsz
  have hD := hD0.self (sz := s.heap.size)
  generalize hAe : va_A (xMw cT aM ad rd gd vad st []) s.heap.size = A at hD hZ ⊢
  have hA : ∀ q : Nat, s.heap.size ≤ q → A q := fun q h => by rw [← hAe]; exact Or.inr h
  have hS : va_S A s.heap s.heap [] := va_S.rf
  have hl := lv_entry ([.ref aM, xv vad c0]) (n := 4) (by simp [lg_sl, xvcat, xrscat, xcI, xcL, xcR, xcN])
  rw [show lv_args 0 [.ref aM, xv vad c0] = [(0, .ref aM), (1, xv vad c0)] from by simp [lv_args, xvcat, xrscat, xcI, xcL, xcR, xcN]] at hl
  rw [lg_entry_eq]
  generalize (lg_sl ([.ref aM, xv vad c0]) ++ List.replicate (4 - (lg_sl ([.ref aM, xv vad c0])).length) Slot.unset).toArray = ls at hl ⊢
  have hl : lv_has ls 4 [(0, .ref aM), (1, xv vad c0)] := hl
  have hE : ∀ p, p < xct st → vad p = vad p := fun _ _ => rfl
  have hN : xct st ≤ xct st := Nat.le_refl _
  unfold fM_putString at hf
  refine xloopM (σ := Nat × Int32 × Nat × xS × Nat × Nat) (fun n x H locs ls => (∃ (adL gdL vadL : Nat → Nat), x.1 = 1 ∧ fM_putString_b n x.1 x.2.1 x.2.2.1 x.2.2.2.1 x.2.2.2.2.1 x.2.2.2.2.2 = some out ∧ va_P D xcl (xMw cT aM adL rd gdL vadL x.2.2.2.1 []) H ∧ va_D A (xMw cT aM adL rd gdL vadL x.2.2.2.1 []) ∧ va_S A s.heap H locs ∧ lv_has ls 4 [(2, .int x.2.1), (0, .ref aM), (1, xv vadL x.2.2.1)] ∧ (∀ p, p < xct st → vadL p = vad p) ∧ xct st ≤ xct x.2.2.2.1)) (fun x => 8) (fun x => x.2.2.2.2.1) (fun x => x.2.2.2.2.2) (fun x H locs ls h => by (obtain ⟨_, _, _, h⟩ := h; exact absurd h.2.1 (by rw [fM_putString_b]; exact fun h => nomatch h))) (fun n ih x H locs ls hv => ?_) (fun key => ?_)
  · obtain ⟨lb, y2, y1, ws9, wc, wn⟩ := x
    rcases hv with ⟨adL, gdL, vadL, hj, hf, hP, hD, hS, hl, hE, hN⟩
    subst hj
    have hf : fM_putString_b (n + 1) 1 y2 y1 ws9 wc wn = some out := hf
    rw [fM_putString_b] at hf
    obtain ⟨hP, hD⟩ : xPD D xcl A (xMw cT aM adL rd gdL vadL ws9 []) H := ⟨hP, hD⟩
    have hl : lv_has ls 4 [(2, .int y2), (0, .ref aM), (1, xv vadL y1)] := hl
    refine W.eq (g2 := F0 m 8 ls []) rfl ?_
    show W p l e _ s m _ below meth c H locs wc wn _ _
    obtain ⟨hm0, hf⟩ := xmoE hf
    refine lv_iload_n hx hb dM_putString_8 rfl (lv_at hl 0 rfl) ?_
    refine xm_aload_n hx hb (xvor _ _) dM_putString_9 rfl (lv_at hl 2 rfl) ?_
    obtain ⟨hg1, hf⟩ := xifn hf
    refine xm_vget (v := .int ((xpi ws9 3) (y1 - 1))) hx hb htx hown hK hP 3 (by decide) hg1 rfl ((hZ.1 (103, "count", "I") (List.mem_of_getElem? (i := 3) rfl)).use rfl) rfl dM_putString_10 ?_
    refine lv_icmp_ge (tgt := 183) hx hb dM_putString_13 (by decide) (fun hc => ?_) (fun hc => ?_)
    · rw [if_pos hc] at hf
      refine lv_aload_n hx hb dM_putString_183 rfl (lv_at hl 1 rfl) ?_
      refine lv_bipush (v := 34) hx hb dM_putString_184 (by decide) ?_
      obtain ⟨o2, hq3, hf⟩ := xbind hf
      have hl := lv_sub (l' := [(2, .int y2), (0, .ref aM)]) hl [0, 1] rfl
      by_cases hk4 : o2.1 = 0
      · rw [if_pos hk4] at hf
        obtain ⟨hm5, hf⟩ := xmoE hf
        have hFc := xm_free hD hS hA
        refine va_callv (va_runV (C := "ValueBenchModel") (As := [.int 34]) (rest := []) ⟨hx, hb, hml, hown, htx⟩ (gM_put0 l hl9 D cT aK aV H.size n aM adL rd gdL vadL ws9 (34 : Int32) o2 hq3 hk4) ⟨callB_of 1 htx (xw_goodC kw_6_136) rfl rfl rfl (htx _ kw_1_5) (htx _ kw_6_133) ⟨by decide, by decide, by decide +kernel⟩ ⟨Nat.le_of_ble_eq_true rfl, Nat.le_of_ble_eq_true rfl⟩, (htx _ kw_6_135), (htx _ kp_M_put0)⟩ ⟨xPre_blind, va_recv hK hP (ci := 5) rfl (q0 := 0) rfl, (fun U hU hW => ⟨rfl, xPre_of hZ hS hFc hP hD hK U hU hW⟩)⟩ rfl rfl hl.1 rfl (xm_room (Nat.le_of_ble_eq_true rfl)) dM_putString_186 ⟨hm5.1, hm5.2⟩) hS (fun q _ h => hFc q h) hFc (fun u9 t H1 locs ht hvm hr9 hB hz1 hk1 hS => ?_)
        obtain ⟨hP1, hK1, hD1⟩ := hB
        rw [ht] at hP1
        obtain ⟨ad7, gd8, vad9⟩ := u9
        obtain ⟨hv10, hn11⟩ := hr9
        have hP : va_P D xcl (xMw cT aM ad7 rd gd8 vad9 o2.2.2.2 []) H1 := hP1
        have hD : va_D A (xMw cT aM ad7 rd gd8 vad9 o2.2.2.2 []) := hD1.weaken (fun k q _ h => hFc q.1 h)
        generalize H1 = H at hP hS ⊢
        have hE9 : ∀ p, p < xct st → vad9 p = vad p := fun p h => (hv10 p (Nat.lt_of_lt_of_le h hN)).trans (hE p h)
        have hE := hE9
        have hN : xct st ≤ xct o2.2.2.2 := Nat.le_trans hN hn11
        refine W.eq (g2 := F0 m 189 ls []) (by first | rfl | (skip; rfl)) ?_
        obtain rfl := Option.some.inj hf
        exact W.vret hx hb hr (fun t ht hW => ⟨⟨(ad7, gd8, vad9), rfl, ⟨hE, hN⟩, by rw [ht]; exact hP, va_K.moved hW.alike hK, hD⟩, hS.F ht⟩) hS.2.2 dM_putString_189
      rw [if_neg hk4] at hf
      by_cases hk12 : o2.1 = 1
      · rw [if_pos hk12] at hf
        obtain ⟨hm13, hf⟩ := xmoE hf
        obtain rfl := Option.some.inj hf
        exact absurd (show (1 : Nat) = 0 from hkd) (by decide)
      rw [if_neg hk12] at hf
      exact nomatch hf
    · rw [if_neg hc] at hf
      refine lv_aload_n hx hb dM_putString_16 rfl (lv_at hl 1 rfl) ?_
      refine xm_get (v := .ref (adL 3)) hx hb htx hown hK hP 3 (by decide) rfl (htx _ kw_5_90) rfl dM_putString_17 ?_
      refine xm_aload_n hx hb (xvor _ _) dM_putString_20 rfl (lv_at hl 2 rfl) ?_
      refine xm_vget (v := .int ((xpi ws9 2) (y1 - 1))) hx hb htx hown hK hP 2 (by decide) hg1 rfl ((hZ.1 (100, "off", "I") (List.mem_of_getElem? (i := 2) rfl)).use rfl) rfl dM_putString_21 ?_
      refine lv_iload_n hx hb dM_putString_24 rfl (lv_at hl 0 rfl) ?_
      refine lv_iadd hx hb dM_putString_25 ?_
      obtain ⟨hg2, hf⟩ := xifn hf
      refine va_bald hx hb hK hP 2 0 rfl rfl hg2 dM_putString_26 ?_
      refine W.eq (g2 := F0 m 27 ls [.int ((xba ws9 3) (((xpi ws9 2) (y1 - 1)) + y2).toNatClampNeg)]) rfl ?_
      refine lv_istore_n (lv' := [(3, .int ((xba ws9 3) (((xpi ws9 2) (y1 - 1)) + y2).toNatClampNeg)), (2, .int y2), (0, .ref aM), (1, xv vadL y1)]) hx hb dM_putString_27 rfl hl (by decide) rfl (fun ls hl => ?_)
      refine lv_iload_n hx hb dM_putString_28 rfl (lv_at hl 0 rfl) ?_
      refine lv_bipush (v := 34) hx hb dM_putString_29 (by decide) ?_
      refine lv_icmp_eq (tgt := 40) hx hb dM_putString_31 (by decide) (fun hc => ?_) (fun hc => ?_)
      · rw [if_pos hc] at hf
        refine lv_aload_n hx hb dM_putString_40 rfl (lv_at hl 2 rfl) ?_
        refine lv_bipush (v := 92) hx hb dM_putString_41 (by decide) ?_
        obtain ⟨o3, hq4, hf⟩ := xbind hf
        by_cases hk5 : o3.1 = 0
        · rw [if_pos hk5] at hf
          obtain ⟨hm6, hf⟩ := xmoE hf
          have hFc := xm_free hD hS hA
          refine va_callv (va_runV (C := "ValueBenchModel") (As := [.int 92]) (rest := []) ⟨hx, hb, hml, hown, htx⟩ (gM_put0 l hl9 D cT aK aV H.size n aM adL rd gdL vadL ws9 (92 : Int32) o3 hq4 hk5) ⟨callB_of 1 htx (xw_goodC kw_6_136) rfl rfl rfl (htx _ kw_1_5) (htx _ kw_6_133) ⟨by decide, by decide, by decide +kernel⟩ ⟨Nat.le_of_ble_eq_true rfl, Nat.le_of_ble_eq_true rfl⟩, (htx _ kw_6_135), (htx _ kp_M_put0)⟩ ⟨xPre_blind, va_recv hK hP (ci := 5) rfl (q0 := 0) rfl, (fun U hU hW => ⟨rfl, xPre_of hZ hS hFc hP hD hK U hU hW⟩)⟩ rfl rfl hl.1 rfl (xm_room (Nat.le_of_ble_eq_true rfl)) dM_putString_43 ⟨hm6.1, hm6.2⟩) hS (fun q _ h => hFc q h) hFc (fun u9 t H1 locs ht hvm hr9 hB hz1 hk1 hS => ?_)
          obtain ⟨hP1, hK1, hD1⟩ := hB
          rw [ht] at hP1
          obtain ⟨ad8, gd9, vad10⟩ := u9
          obtain ⟨hv11, hn12⟩ := hr9
          have hP : va_P D xcl (xMw cT aM ad8 rd gd9 vad10 o3.2.2.2 []) H1 := hP1
          have hD : va_D A (xMw cT aM ad8 rd gd9 vad10 o3.2.2.2 []) := hD1.weaken (fun k q _ h => hFc q.1 h)
          generalize H1 = H at hP hS ⊢
          have hE9 : ∀ p, p < xct st → vad10 p = vad p := fun p h => (hv11 p (Nat.lt_of_lt_of_le h hN)).trans (hE p h)
          have hE := hE9
          have hN : xct st ≤ xct o3.2.2.2 := Nat.le_trans hN hn12
          have ev13 : xv vadL y1 = xv vad10 y1 := xvE hv11 (fun h => hg1 (Or.inr h))
          have hl : lv_has ls 4 [(3, .int ((xba ws9 3) (((xpi ws9 2) (y1 - 1)) + y2).toNatClampNeg)), (2, .int y2), (0, .ref aM), (1, xv vad10 y1)] := by first | exact hl | ((try (rw [← ev13])); exact hl)
          refine W.eq (g2 := F0 m 46 ls []) (by first | rfl | ((try (rw [ev13])); rfl)) ?_
          refine lv_aload_n hx hb dM_putString_46 rfl (lv_at hl 2 rfl) ?_
          refine lv_iload_n hx hb dM_putString_47 rfl (lv_at hl 0 rfl) ?_
          obtain ⟨o14, hq15, hf⟩ := xbind hf
          by_cases hk16 : o14.1 = 0
          · rw [if_pos hk16] at hf
            obtain ⟨hg17, hf⟩ := xifn hf
            obtain ⟨hm18, hf⟩ := xmoE hf
            have hFc := xm_free hD hS hA
            refine va_callv (va_runV (C := "ValueBenchModel") (As := [.int ((xba ws9 3) (((xpi ws9 2) (y1 - 1)) + y2).toNatClampNeg)]) (rest := []) ⟨hx, hb, hml, hown, htx⟩ (gM_put0 l hl9 D cT aK aV H.size n aM ad8 rd gd9 vad10 o3.2.2.2 ((xba ws9 3) (((xpi ws9 2) (y1 - 1)) + y2).toNatClampNeg) o14 hq15 hk16) ⟨callB_of 1 htx (xw_goodC kw_6_136) rfl rfl rfl (htx _ kw_1_5) (htx _ kw_6_133) ⟨by decide, by decide, by decide +kernel⟩ ⟨Nat.le_of_ble_eq_true rfl, Nat.le_of_ble_eq_true rfl⟩, (htx _ kw_6_135), (htx _ kp_M_put0)⟩ ⟨xPre_blind, va_recv hK hP (ci := 5) rfl (q0 := 0) rfl, (fun U hU hW => ⟨rfl, xPre_of hZ hS hFc hP hD hK U hU hW⟩)⟩ rfl rfl hl.1 rfl (xm_room (Nat.le_of_ble_eq_true rfl)) dM_putString_48 ⟨hm18.1, hm18.2⟩) hS (fun q _ h => hFc q h) hFc (fun u9 t H1 locs ht hvm hr9 hB hz1 hk1 hS => ?_)
            obtain ⟨hP1, hK1, hD1⟩ := hB
            rw [ht] at hP1
            obtain ⟨ad20, gd21, vad22⟩ := u9
            obtain ⟨hv23, hn24⟩ := hr9
            have hP : va_P D xcl (xMw cT aM ad20 rd gd21 vad22 o14.2.2.2 []) H1 := hP1
            have hD : va_D A (xMw cT aM ad20 rd gd21 vad22 o14.2.2.2 []) := hD1.weaken (fun k q _ h => hFc q.1 h)
            generalize H1 = H at hP hS ⊢
            have hE9 : ∀ p, p < xct st → vad22 p = vad p := fun p h => (hv23 p (Nat.lt_of_lt_of_le h hN)).trans (hE p h)
            have hE := hE9
            have hN : xct st ≤ xct o14.2.2.2 := Nat.le_trans hN hn24
            have ev25 : xv vad10 y1 = xv vad22 y1 := xvE hv23 hg17
            have hl : lv_has ls 4 [(3, .int ((xba ws9 3) (((xpi ws9 2) (y1 - 1)) + y2).toNatClampNeg)), (2, .int y2), (0, .ref aM), (1, xv vad22 y1)] := by first | exact hl | ((try (rw [← ev25])); exact hl)
            refine W.eq (g2 := F0 m 51 ls []) (by first | rfl | ((try (rw [ev25])); rfl)) ?_
            refine lv_goto (tgt := 177) hx hb dM_putString_51 (by decide) ?_
            refine lv_iinc (v := (y2 + 1)) (lv' := [(2, .int (y2 + 1)), (3, .int ((xba ws9 3) (((xpi ws9 2) (y1 - 1)) + y2).toNatClampNeg)), (0, .ref aM), (1, xv vad22 y1)]) hx hb dM_putString_177 hl (k := 1) rfl rfl (by decide) (by simp only [List.filter, xvcat, xrscat, xcI, xcL, xcR, xcN]; rfl) (fun ls hl => ?_)
            refine lv_goto (tgt := 8) hx hb dM_putString_180 (by decide) ?_
            exact ih (1, (y2 + 1), y1, o14.2.2.2, ((wc + o3.2.1) + o14.2.1), ((wn + o3.2.2.1) + o14.2.2.1)) _ _ ls (⟨ad20, gd21, vad22, rfl, hf, hP, hD, hS, lv_sub hl [0, 2, 3] rfl, hE, hN⟩)
          rw [if_neg hk16] at hf
          by_cases hk26 : o14.1 = 1
          · rw [if_pos hk26] at hf
            obtain ⟨hg27, hf⟩ := xifn hf
            obtain ⟨hm28, hf⟩ := xmoE hf
            obtain rfl := Option.some.inj hf
            exact absurd (show (1 : Nat) = 0 from hkd) (by decide)
          rw [if_neg hk26] at hf
          exact nomatch hf
        rw [if_neg hk5] at hf
        by_cases hk36 : o3.1 = 1
        · rw [if_pos hk36] at hf
          obtain ⟨hm37, hf⟩ := xmoE hf
          obtain rfl := Option.some.inj hf
          exact absurd (show (1 : Nat) = 0 from hkd) (by decide)
        rw [if_neg hk36] at hf
        exact nomatch hf
      · rw [if_neg hc] at hf
        refine lv_iload_n hx hb dM_putString_34 rfl (lv_at hl 0 rfl) ?_
        refine lv_bipush (v := 92) hx hb dM_putString_35 (by decide) ?_
        refine lv_icmp_ne (tgt := 54) hx hb dM_putString_37 (by decide) (fun hc => ?_) (fun hc => ?_)
        · rw [if_neg hc] at hf
          refine lv_iload_n hx hb dM_putString_54 rfl (lv_at hl 0 rfl) ?_
          refine lv_bipush (v := 32) hx hb dM_putString_55 (by decide) ?_
          refine lv_icmp_lt (tgt := 74) hx hb dM_putString_57 (by decide) (fun hc => ?_) (fun hc => ?_)
          · rw [if_pos hc] at hf
            refine lv_aload_n hx hb dM_putString_74 rfl (lv_at hl 2 rfl) ?_
            refine lv_bipush (v := 92) hx hb dM_putString_75 (by decide) ?_
            obtain ⟨o3, hq4, hf⟩ := xbind hf
            by_cases hk5 : o3.1 = 0
            · rw [if_pos hk5] at hf
              obtain ⟨hm6, hf⟩ := xmoE hf
              have hFc := xm_free hD hS hA
              refine va_callv (va_runV (C := "ValueBenchModel") (As := [.int 92]) (rest := []) ⟨hx, hb, hml, hown, htx⟩ (gM_put0 l hl9 D cT aK aV H.size n aM adL rd gdL vadL ws9 (92 : Int32) o3 hq4 hk5) ⟨callB_of 1 htx (xw_goodC kw_6_136) rfl rfl rfl (htx _ kw_1_5) (htx _ kw_6_133) ⟨by decide, by decide, by decide +kernel⟩ ⟨Nat.le_of_ble_eq_true rfl, Nat.le_of_ble_eq_true rfl⟩, (htx _ kw_6_135), (htx _ kp_M_put0)⟩ ⟨xPre_blind, va_recv hK hP (ci := 5) rfl (q0 := 0) rfl, (fun U hU hW => ⟨rfl, xPre_of hZ hS hFc hP hD hK U hU hW⟩)⟩ rfl rfl hl.1 rfl (xm_room (Nat.le_of_ble_eq_true rfl)) dM_putString_77 ⟨hm6.1, hm6.2⟩) hS (fun q _ h => hFc q h) hFc (fun u9 t H1 locs ht hvm hr9 hB hz1 hk1 hS => ?_)
              obtain ⟨hP1, hK1, hD1⟩ := hB
              rw [ht] at hP1
              obtain ⟨ad8, gd9, vad10⟩ := u9
              obtain ⟨hv11, hn12⟩ := hr9
              have hP : va_P D xcl (xMw cT aM ad8 rd gd9 vad10 o3.2.2.2 []) H1 := hP1
              have hD : va_D A (xMw cT aM ad8 rd gd9 vad10 o3.2.2.2 []) := hD1.weaken (fun k q _ h => hFc q.1 h)
              generalize H1 = H at hP hS ⊢
              have hE9 : ∀ p, p < xct st → vad10 p = vad p := fun p h => (hv11 p (Nat.lt_of_lt_of_le h hN)).trans (hE p h)
              have hE := hE9
              have hN : xct st ≤ xct o3.2.2.2 := Nat.le_trans hN hn12
              have ev13 : xv vadL y1 = xv vad10 y1 := xvE hv11 (fun h => hg1 (Or.inr h))
              have hl : lv_has ls 4 [(3, .int ((xba ws9 3) (((xpi ws9 2) (y1 - 1)) + y2).toNatClampNeg)), (2, .int y2), (0, .ref aM), (1, xv vad10 y1)] := by first | exact hl | ((try (rw [← ev13])); exact hl)
              refine W.eq (g2 := F0 m 80 ls []) (by first | rfl | ((try (rw [ev13])); rfl)) ?_
              refine lv_iload_n hx hb dM_putString_80 rfl (lv_at hl 0 rfl) ?_
              refine lv_bipush (v := 8) hx hb dM_putString_81 (by decide) ?_
              refine lv_icmp_ne (tgt := 95) hx hb dM_putString_83 (by decide) (fun hc => ?_) (fun hc => ?_)
              · rw [if_neg hc] at hf
                refine lv_iload_n hx hb dM_putString_95 rfl (lv_at hl 0 rfl) ?_
                refine lv_bipush (v := 9) hx hb dM_putString_96 (by decide) ?_
                refine lv_icmp_ne (tgt := 110) hx hb dM_putString_98 (by decide) (fun hc => ?_) (fun hc => ?_)
                · rw [if_neg hc] at hf
                  refine lv_iload_n hx hb dM_putString_110 rfl (lv_at hl 0 rfl) ?_
                  refine lv_bipush (v := 10) hx hb dM_putString_111 (by decide) ?_
                  refine lv_icmp_ne (tgt := 125) hx hb dM_putString_113 (by decide) (fun hc => ?_) (fun hc => ?_)
                  · rw [if_neg hc] at hf
                    refine lv_iload_n hx hb dM_putString_125 rfl (lv_at hl 0 rfl) ?_
                    refine lv_bipush (v := 12) hx hb dM_putString_126 (by decide) ?_
                    refine lv_icmp_ne (tgt := 140) hx hb dM_putString_128 (by decide) (fun hc => ?_) (fun hc => ?_)
                    · rw [if_neg hc] at hf
                      refine lv_iload_n hx hb dM_putString_140 rfl (lv_at hl 0 rfl) ?_
                      refine lv_bipush (v := 13) hx hb dM_putString_141 (by decide) ?_
                      refine lv_icmp_ne (tgt := 155) hx hb dM_putString_143 (by decide) (fun hc => ?_) (fun hc => ?_)
                      · rw [if_neg hc] at hf
                        refine lv_aload_n hx hb dM_putString_155 rfl (lv_at hl 2 rfl) ?_
                        refine xm_ldcS (q := aK 14) hx hb hown (hZ.2.2.2.2.2.2.2.2.1 ("ValueBenchModel", 284, "u00", 14) (List.mem_of_getElem? (i := 20) rfl)) dM_putString_156 ?_
                        obtain ⟨o14, hq15, hf⟩ := xbind hf
                        by_cases hk16 : o14.1 = 0
                        · rw [if_pos hk16] at hf
                          obtain ⟨hg17, hf⟩ := xifn hf
                          obtain ⟨hm18, hf⟩ := xmoE hf
                          have hFc := xm_free hD hS hA
                          refine va_callv (va_runV (C := "ValueBenchModel") (As := [.ref (aK 14)]) (rest := []) ⟨hx, hb, hml, hown, htx⟩ (gM_put1c l hl9 D cT aK aV H.size n aM ad8 rd gd9 vad10 o3.2.2.2 o14 hq15 hk16) ⟨callB_of 1 htx (xw_goodC kw_6_132) rfl rfl rfl (htx _ kw_1_5) (htx _ kw_6_129) ⟨by decide, by decide, by decide +kernel⟩ ⟨Nat.le_of_ble_eq_true rfl, Nat.le_of_ble_eq_true rfl⟩, (htx _ kw_6_131), (htx _ kp_M_put1)⟩ ⟨xPre_blind, va_recv hK hP (ci := 5) rfl (q0 := 0) rfl, (fun U hU hW => ⟨rfl, xPre_of hZ hS hFc hP hD hK U hU hW⟩)⟩ rfl rfl hl.1 rfl (xm_room (Nat.le_of_ble_eq_true rfl)) dM_putString_159 ⟨hm18.1, hm18.2⟩) hS (fun q _ h => hFc q h) hFc (fun u9 t H1 locs ht hvm hr9 hB hz1 hk1 hS => ?_)
                          obtain ⟨hP1, hK1, hD1⟩ := hB
                          rw [ht] at hP1
                          obtain ⟨ad20, gd21, vad22⟩ := u9
                          obtain ⟨hv23, hn24⟩ := hr9
                          have hP : va_P D xcl (xMw cT aM ad20 rd gd21 vad22 o14.2.2.2 []) H1 := hP1
                          have hD : va_D A (xMw cT aM ad20 rd gd21 vad22 o14.2.2.2 []) := hD1.weaken (fun k q _ h => hFc q.1 h)
                          generalize H1 = H at hP hS ⊢
                          have hE9 : ∀ p, p < xct st → vad22 p = vad p := fun p h => (hv23 p (Nat.lt_of_lt_of_le h hN)).trans (hE p h)
                          have hE := hE9
                          have hN : xct st ≤ xct o14.2.2.2 := Nat.le_trans hN hn24
                          have ev25 : xv vad10 y1 = xv vad22 y1 := xvE hv23 hg17
                          have hl : lv_has ls 4 [(3, .int ((xba ws9 3) (((xpi ws9 2) (y1 - 1)) + y2).toNatClampNeg)), (2, .int y2), (0, .ref aM), (1, xv vad22 y1)] := by first | exact hl | ((try (rw [← ev25])); exact hl)
                          refine W.eq (g2 := F0 m 162 ls []) (by first | rfl | ((try (rw [ev25])); rfl)) ?_
                          refine lv_aload_n hx hb dM_putString_162 rfl (lv_at hl 2 rfl) ?_
                          refine lv_iload_n hx hb dM_putString_163 rfl (lv_at hl 0 rfl) ?_
                          refine lv_iconst (v := 4) hx hb dM_putString_164 (by decide) ?_
                          refine lv_ishr hx hb dM_putString_165 ?_
                          obtain ⟨o26, hq27, hf⟩ := xbind hf
                          by_cases hk28 : o26.1 = 0
                          · rw [if_pos hk28] at hf
                            obtain ⟨hg29, hf⟩ := xifn hf
                            obtain ⟨hm30, hf⟩ := xmoE hf
                            have hFc := xm_free hD hS hA
                            refine va_callv (va_runV (C := "ValueBenchModel") (As := [.int (((xba ws9 3) (((xpi ws9 2) (y1 - 1)) + y2).toNatClampNeg) >>> ((4 : Int32) &&& 31))]) (rest := []) ⟨hx, hb, hml, hown, htx⟩ (gM_putHex l hl9 D cT aK aV H.size n aM ad20 rd gd21 vad22 o14.2.2.2 (((xba ws9 3) (((xpi ws9 2) (y1 - 1)) + y2).toNatClampNeg) >>> ((4 : Int32) &&& 31)) o26 hq27 hk28) ⟨callB_of 1 htx (xw_goodC kw_6_150) rfl rfl rfl (htx _ kw_1_5) (htx _ kw_6_147) ⟨by decide, by decide, by decide +kernel⟩ ⟨Nat.le_of_ble_eq_true rfl, Nat.le_of_ble_eq_true rfl⟩, (htx _ kw_6_149), (htx _ kp_M_putHex)⟩ ⟨xPre_blind, va_recv hK hP (ci := 5) rfl (q0 := 0) rfl, (fun U hU hW => ⟨rfl, xPre_of hZ hS hFc hP hD hK U hU hW⟩)⟩ rfl rfl hl.1 rfl (xm_room (Nat.le_of_ble_eq_true rfl)) dM_putString_166 ⟨hm30.1, hm30.2⟩) hS (fun q _ h => hFc q h) hFc (fun u9 t H1 locs ht hvm hr9 hB hz1 hk1 hS => ?_)
                            obtain ⟨hP1, hK1, hD1⟩ := hB
                            rw [ht] at hP1
                            obtain ⟨ad32, gd33, vad34⟩ := u9
                            obtain ⟨hv35, hn36⟩ := hr9
                            have hP : va_P D xcl (xMw cT aM ad32 rd gd33 vad34 o26.2.2.2 []) H1 := hP1
                            have hD : va_D A (xMw cT aM ad32 rd gd33 vad34 o26.2.2.2 []) := hD1.weaken (fun k q _ h => hFc q.1 h)
                            generalize H1 = H at hP hS ⊢
                            have hE9 : ∀ p, p < xct st → vad34 p = vad p := fun p h => (hv35 p (Nat.lt_of_lt_of_le h hN)).trans (hE p h)
                            have hE := hE9
                            have hN : xct st ≤ xct o26.2.2.2 := Nat.le_trans hN hn36
                            have ev37 : xv vad22 y1 = xv vad34 y1 := xvE hv35 hg29
                            have hl : lv_has ls 4 [(3, .int ((xba ws9 3) (((xpi ws9 2) (y1 - 1)) + y2).toNatClampNeg)), (2, .int y2), (0, .ref aM), (1, xv vad34 y1)] := by first | exact hl | ((try (rw [← ev37])); exact hl)
                            refine W.eq (g2 := F0 m 169 ls []) (by first | rfl | ((try (rw [ev37])); rfl)) ?_
                            refine lv_aload_n hx hb dM_putString_169 rfl (lv_at hl 2 rfl) ?_
                            refine lv_iload_n hx hb dM_putString_170 rfl (lv_at hl 0 rfl) ?_
                            refine lv_bipush (v := 15) hx hb dM_putString_171 (by decide) ?_
                            refine lv_iand hx hb dM_putString_173 ?_
                            obtain ⟨o38, hq39, hf⟩ := xbind hf
                            by_cases hk40 : o38.1 = 0
                            · rw [if_pos hk40] at hf
                              obtain ⟨hg41, hf⟩ := xifn hf
                              obtain ⟨hm42, hf⟩ := xmoE hf
                              have hFc := xm_free hD hS hA
                              refine va_callv (va_runV (C := "ValueBenchModel") (As := [.int (((xba ws9 3) (((xpi ws9 2) (y1 - 1)) + y2).toNatClampNeg) &&& (15 : Int32))]) (rest := []) ⟨hx, hb, hml, hown, htx⟩ (gM_putHex l hl9 D cT aK aV H.size n aM ad32 rd gd33 vad34 o26.2.2.2 (((xba ws9 3) (((xpi ws9 2) (y1 - 1)) + y2).toNatClampNeg) &&& (15 : Int32)) o38 hq39 hk40) ⟨callB_of 1 htx (xw_goodC kw_6_150) rfl rfl rfl (htx _ kw_1_5) (htx _ kw_6_147) ⟨by decide, by decide, by decide +kernel⟩ ⟨Nat.le_of_ble_eq_true rfl, Nat.le_of_ble_eq_true rfl⟩, (htx _ kw_6_149), (htx _ kp_M_putHex)⟩ ⟨xPre_blind, va_recv hK hP (ci := 5) rfl (q0 := 0) rfl, (fun U hU hW => ⟨rfl, xPre_of hZ hS hFc hP hD hK U hU hW⟩)⟩ rfl rfl hl.1 rfl (xm_room (Nat.le_of_ble_eq_true rfl)) dM_putString_174 ⟨hm42.1, hm42.2⟩) hS (fun q _ h => hFc q h) hFc (fun u9 t H1 locs ht hvm hr9 hB hz1 hk1 hS => ?_)
                              obtain ⟨hP1, hK1, hD1⟩ := hB
                              rw [ht] at hP1
                              obtain ⟨ad44, gd45, vad46⟩ := u9
                              obtain ⟨hv47, hn48⟩ := hr9
                              have hP : va_P D xcl (xMw cT aM ad44 rd gd45 vad46 o38.2.2.2 []) H1 := hP1
                              have hD : va_D A (xMw cT aM ad44 rd gd45 vad46 o38.2.2.2 []) := hD1.weaken (fun k q _ h => hFc q.1 h)
                              generalize H1 = H at hP hS ⊢
                              have hE9 : ∀ p, p < xct st → vad46 p = vad p := fun p h => (hv47 p (Nat.lt_of_lt_of_le h hN)).trans (hE p h)
                              have hE := hE9
                              have hN : xct st ≤ xct o38.2.2.2 := Nat.le_trans hN hn48
                              have ev49 : xv vad34 y1 = xv vad46 y1 := xvE hv47 hg41
                              have hl : lv_has ls 4 [(3, .int ((xba ws9 3) (((xpi ws9 2) (y1 - 1)) + y2).toNatClampNeg)), (2, .int y2), (0, .ref aM), (1, xv vad46 y1)] := by first | exact hl | ((try (rw [← ev49])); exact hl)
                              refine W.eq (g2 := F0 m 177 ls []) (by first | rfl | ((try (rw [ev49])); rfl)) ?_
                              refine lv_iinc (v := (y2 + 1)) (lv' := [(2, .int (y2 + 1)), (3, .int ((xba ws9 3) (((xpi ws9 2) (y1 - 1)) + y2).toNatClampNeg)), (0, .ref aM), (1, xv vad46 y1)]) hx hb dM_putString_177 hl (k := 1) rfl rfl (by decide) (by simp only [List.filter, xvcat, xrscat, xcI, xcL, xcR, xcN]; rfl) (fun ls hl => ?_)
                              refine lv_goto (tgt := 8) hx hb dM_putString_180 (by decide) ?_
                              exact ih (1, (y2 + 1), y1, o38.2.2.2, ((((wc + o3.2.1) + o14.2.1) + o26.2.1) + o38.2.1), ((((wn + o3.2.2.1) + o14.2.2.1) + o26.2.2.1) + o38.2.2.1)) _ _ ls (⟨ad44, gd45, vad46, rfl, hf, hP, hD, hS, lv_sub hl [0, 2, 3] rfl, hE, hN⟩)
                            rw [if_neg hk40] at hf
                            by_cases hk50 : o38.1 = 1
                            · rw [if_pos hk50] at hf
                              obtain ⟨hg51, hf⟩ := xifn hf
                              obtain ⟨hm52, hf⟩ := xmoE hf
                              obtain rfl := Option.some.inj hf
                              exact absurd (show (1 : Nat) = 0 from hkd) (by decide)
                            rw [if_neg hk50] at hf
                            exact nomatch hf
                          rw [if_neg hk28] at hf
                          by_cases hk60 : o26.1 = 1
                          · rw [if_pos hk60] at hf
                            obtain ⟨hg61, hf⟩ := xifn hf
                            obtain ⟨hm62, hf⟩ := xmoE hf
                            obtain rfl := Option.some.inj hf
                            exact absurd (show (1 : Nat) = 0 from hkd) (by decide)
                          rw [if_neg hk60] at hf
                          exact nomatch hf
                        rw [if_neg hk16] at hf
                        by_cases hk70 : o14.1 = 1
                        · rw [if_pos hk70] at hf
                          obtain ⟨hg71, hf⟩ := xifn hf
                          obtain ⟨hm72, hf⟩ := xmoE hf
                          obtain rfl := Option.some.inj hf
                          exact absurd (show (1 : Nat) = 0 from hkd) (by decide)
                        rw [if_neg hk70] at hf
                        exact nomatch hf
                      · rw [if_pos hc] at hf
                        refine lv_aload_n hx hb dM_putString_146 rfl (lv_at hl 2 rfl) ?_
                        refine lv_bipush (v := 114) hx hb dM_putString_147 (by decide) ?_
                        obtain ⟨o14, hq15, hf⟩ := xbind hf
                        by_cases hk16 : o14.1 = 0
                        · rw [if_pos hk16] at hf
                          obtain ⟨hg17, hf⟩ := xifn hf
                          obtain ⟨hm18, hf⟩ := xmoE hf
                          have hFc := xm_free hD hS hA
                          refine va_callv (va_runV (C := "ValueBenchModel") (As := [.int 114]) (rest := []) ⟨hx, hb, hml, hown, htx⟩ (gM_put0 l hl9 D cT aK aV H.size n aM ad8 rd gd9 vad10 o3.2.2.2 (114 : Int32) o14 hq15 hk16) ⟨callB_of 1 htx (xw_goodC kw_6_136) rfl rfl rfl (htx _ kw_1_5) (htx _ kw_6_133) ⟨by decide, by decide, by decide +kernel⟩ ⟨Nat.le_of_ble_eq_true rfl, Nat.le_of_ble_eq_true rfl⟩, (htx _ kw_6_135), (htx _ kp_M_put0)⟩ ⟨xPre_blind, va_recv hK hP (ci := 5) rfl (q0 := 0) rfl, (fun U hU hW => ⟨rfl, xPre_of hZ hS hFc hP hD hK U hU hW⟩)⟩ rfl rfl hl.1 rfl (xm_room (Nat.le_of_ble_eq_true rfl)) dM_putString_149 ⟨hm18.1, hm18.2⟩) hS (fun q _ h => hFc q h) hFc (fun u9 t H1 locs ht hvm hr9 hB hz1 hk1 hS => ?_)
                          obtain ⟨hP1, hK1, hD1⟩ := hB
                          rw [ht] at hP1
                          obtain ⟨ad20, gd21, vad22⟩ := u9
                          obtain ⟨hv23, hn24⟩ := hr9
                          have hP : va_P D xcl (xMw cT aM ad20 rd gd21 vad22 o14.2.2.2 []) H1 := hP1
                          have hD : va_D A (xMw cT aM ad20 rd gd21 vad22 o14.2.2.2 []) := hD1.weaken (fun k q _ h => hFc q.1 h)
                          generalize H1 = H at hP hS ⊢
                          have hE9 : ∀ p, p < xct st → vad22 p = vad p := fun p h => (hv23 p (Nat.lt_of_lt_of_le h hN)).trans (hE p h)
                          have hE := hE9
                          have hN : xct st ≤ xct o14.2.2.2 := Nat.le_trans hN hn24
                          have ev25 : xv vad10 y1 = xv vad22 y1 := xvE hv23 hg17
                          have hl : lv_has ls 4 [(3, .int ((xba ws9 3) (((xpi ws9 2) (y1 - 1)) + y2).toNatClampNeg)), (2, .int y2), (0, .ref aM), (1, xv vad22 y1)] := by first | exact hl | ((try (rw [← ev25])); exact hl)
                          refine W.eq (g2 := F0 m 152 ls []) (by first | rfl | ((try (rw [ev25])); rfl)) ?_
                          refine lv_goto (tgt := 177) hx hb dM_putString_152 (by decide) ?_
                          refine lv_iinc (v := (y2 + 1)) (lv' := [(2, .int (y2 + 1)), (3, .int ((xba ws9 3) (((xpi ws9 2) (y1 - 1)) + y2).toNatClampNeg)), (0, .ref aM), (1, xv vad22 y1)]) hx hb dM_putString_177 hl (k := 1) rfl rfl (by decide) (by simp only [List.filter, xvcat, xrscat, xcI, xcL, xcR, xcN]; rfl) (fun ls hl => ?_)
                          refine lv_goto (tgt := 8) hx hb dM_putString_180 (by decide) ?_
                          exact ih (1, (y2 + 1), y1, o14.2.2.2, ((wc + o3.2.1) + o14.2.1), ((wn + o3.2.2.1) + o14.2.2.1)) _ _ ls (⟨ad20, gd21, vad22, rfl, hf, hP, hD, hS, lv_sub hl [0, 2, 3] rfl, hE, hN⟩)
                        rw [if_neg hk16] at hf
                        by_cases hk26 : o14.1 = 1
                        · rw [if_pos hk26] at hf
                          obtain ⟨hg27, hf⟩ := xifn hf
                          obtain ⟨hm28, hf⟩ := xmoE hf
                          obtain rfl := Option.some.inj hf
                          exact absurd (show (1 : Nat) = 0 from hkd) (by decide)
                        rw [if_neg hk26] at hf
                        exact nomatch hf
                    · rw [if_pos hc] at hf
                      refine lv_aload_n hx hb dM_putString_131 rfl (lv_at hl 2 rfl) ?_
                      refine lv_bipush (v := 102) hx hb dM_putString_132 (by decide) ?_
                      obtain ⟨o14, hq15, hf⟩ := xbind hf
                      by_cases hk16 : o14.1 = 0
                      · rw [if_pos hk16] at hf
                        obtain ⟨hg17, hf⟩ := xifn hf
                        obtain ⟨hm18, hf⟩ := xmoE hf
                        have hFc := xm_free hD hS hA
                        refine va_callv (va_runV (C := "ValueBenchModel") (As := [.int 102]) (rest := []) ⟨hx, hb, hml, hown, htx⟩ (gM_put0 l hl9 D cT aK aV H.size n aM ad8 rd gd9 vad10 o3.2.2.2 (102 : Int32) o14 hq15 hk16) ⟨callB_of 1 htx (xw_goodC kw_6_136) rfl rfl rfl (htx _ kw_1_5) (htx _ kw_6_133) ⟨by decide, by decide, by decide +kernel⟩ ⟨Nat.le_of_ble_eq_true rfl, Nat.le_of_ble_eq_true rfl⟩, (htx _ kw_6_135), (htx _ kp_M_put0)⟩ ⟨xPre_blind, va_recv hK hP (ci := 5) rfl (q0 := 0) rfl, (fun U hU hW => ⟨rfl, xPre_of hZ hS hFc hP hD hK U hU hW⟩)⟩ rfl rfl hl.1 rfl (xm_room (Nat.le_of_ble_eq_true rfl)) dM_putString_134 ⟨hm18.1, hm18.2⟩) hS (fun q _ h => hFc q h) hFc (fun u9 t H1 locs ht hvm hr9 hB hz1 hk1 hS => ?_)
                        obtain ⟨hP1, hK1, hD1⟩ := hB
                        rw [ht] at hP1
                        obtain ⟨ad20, gd21, vad22⟩ := u9
                        obtain ⟨hv23, hn24⟩ := hr9
                        have hP : va_P D xcl (xMw cT aM ad20 rd gd21 vad22 o14.2.2.2 []) H1 := hP1
                        have hD : va_D A (xMw cT aM ad20 rd gd21 vad22 o14.2.2.2 []) := hD1.weaken (fun k q _ h => hFc q.1 h)
                        generalize H1 = H at hP hS ⊢
                        have hE9 : ∀ p, p < xct st → vad22 p = vad p := fun p h => (hv23 p (Nat.lt_of_lt_of_le h hN)).trans (hE p h)
                        have hE := hE9
                        have hN : xct st ≤ xct o14.2.2.2 := Nat.le_trans hN hn24
                        have ev25 : xv vad10 y1 = xv vad22 y1 := xvE hv23 hg17
                        have hl : lv_has ls 4 [(3, .int ((xba ws9 3) (((xpi ws9 2) (y1 - 1)) + y2).toNatClampNeg)), (2, .int y2), (0, .ref aM), (1, xv vad22 y1)] := by first | exact hl | ((try (rw [← ev25])); exact hl)
                        refine W.eq (g2 := F0 m 137 ls []) (by first | rfl | ((try (rw [ev25])); rfl)) ?_
                        refine lv_goto (tgt := 177) hx hb dM_putString_137 (by decide) ?_
                        refine lv_iinc (v := (y2 + 1)) (lv' := [(2, .int (y2 + 1)), (3, .int ((xba ws9 3) (((xpi ws9 2) (y1 - 1)) + y2).toNatClampNeg)), (0, .ref aM), (1, xv vad22 y1)]) hx hb dM_putString_177 hl (k := 1) rfl rfl (by decide) (by simp only [List.filter, xvcat, xrscat, xcI, xcL, xcR, xcN]; rfl) (fun ls hl => ?_)
                        refine lv_goto (tgt := 8) hx hb dM_putString_180 (by decide) ?_
                        exact ih (1, (y2 + 1), y1, o14.2.2.2, ((wc + o3.2.1) + o14.2.1), ((wn + o3.2.2.1) + o14.2.2.1)) _ _ ls (⟨ad20, gd21, vad22, rfl, hf, hP, hD, hS, lv_sub hl [0, 2, 3] rfl, hE, hN⟩)
                      rw [if_neg hk16] at hf
                      by_cases hk26 : o14.1 = 1
                      · rw [if_pos hk26] at hf
                        obtain ⟨hg27, hf⟩ := xifn hf
                        obtain ⟨hm28, hf⟩ := xmoE hf
                        obtain rfl := Option.some.inj hf
                        exact absurd (show (1 : Nat) = 0 from hkd) (by decide)
                      rw [if_neg hk26] at hf
                      exact nomatch hf
                  · rw [if_pos hc] at hf
                    refine lv_aload_n hx hb dM_putString_116 rfl (lv_at hl 2 rfl) ?_
                    refine lv_bipush (v := 110) hx hb dM_putString_117 (by decide) ?_
                    obtain ⟨o14, hq15, hf⟩ := xbind hf
                    by_cases hk16 : o14.1 = 0
                    · rw [if_pos hk16] at hf
                      obtain ⟨hg17, hf⟩ := xifn hf
                      obtain ⟨hm18, hf⟩ := xmoE hf
                      have hFc := xm_free hD hS hA
                      refine va_callv (va_runV (C := "ValueBenchModel") (As := [.int 110]) (rest := []) ⟨hx, hb, hml, hown, htx⟩ (gM_put0 l hl9 D cT aK aV H.size n aM ad8 rd gd9 vad10 o3.2.2.2 (110 : Int32) o14 hq15 hk16) ⟨callB_of 1 htx (xw_goodC kw_6_136) rfl rfl rfl (htx _ kw_1_5) (htx _ kw_6_133) ⟨by decide, by decide, by decide +kernel⟩ ⟨Nat.le_of_ble_eq_true rfl, Nat.le_of_ble_eq_true rfl⟩, (htx _ kw_6_135), (htx _ kp_M_put0)⟩ ⟨xPre_blind, va_recv hK hP (ci := 5) rfl (q0 := 0) rfl, (fun U hU hW => ⟨rfl, xPre_of hZ hS hFc hP hD hK U hU hW⟩)⟩ rfl rfl hl.1 rfl (xm_room (Nat.le_of_ble_eq_true rfl)) dM_putString_119 ⟨hm18.1, hm18.2⟩) hS (fun q _ h => hFc q h) hFc (fun u9 t H1 locs ht hvm hr9 hB hz1 hk1 hS => ?_)
                      obtain ⟨hP1, hK1, hD1⟩ := hB
                      rw [ht] at hP1
                      obtain ⟨ad20, gd21, vad22⟩ := u9
                      obtain ⟨hv23, hn24⟩ := hr9
                      have hP : va_P D xcl (xMw cT aM ad20 rd gd21 vad22 o14.2.2.2 []) H1 := hP1
                      have hD : va_D A (xMw cT aM ad20 rd gd21 vad22 o14.2.2.2 []) := hD1.weaken (fun k q _ h => hFc q.1 h)
                      generalize H1 = H at hP hS ⊢
                      have hE9 : ∀ p, p < xct st → vad22 p = vad p := fun p h => (hv23 p (Nat.lt_of_lt_of_le h hN)).trans (hE p h)
                      have hE := hE9
                      have hN : xct st ≤ xct o14.2.2.2 := Nat.le_trans hN hn24
                      have ev25 : xv vad10 y1 = xv vad22 y1 := xvE hv23 hg17
                      have hl : lv_has ls 4 [(3, .int ((xba ws9 3) (((xpi ws9 2) (y1 - 1)) + y2).toNatClampNeg)), (2, .int y2), (0, .ref aM), (1, xv vad22 y1)] := by first | exact hl | ((try (rw [← ev25])); exact hl)
                      refine W.eq (g2 := F0 m 122 ls []) (by first | rfl | ((try (rw [ev25])); rfl)) ?_
                      refine lv_goto (tgt := 177) hx hb dM_putString_122 (by decide) ?_
                      refine lv_iinc (v := (y2 + 1)) (lv' := [(2, .int (y2 + 1)), (3, .int ((xba ws9 3) (((xpi ws9 2) (y1 - 1)) + y2).toNatClampNeg)), (0, .ref aM), (1, xv vad22 y1)]) hx hb dM_putString_177 hl (k := 1) rfl rfl (by decide) (by simp only [List.filter, xvcat, xrscat, xcI, xcL, xcR, xcN]; rfl) (fun ls hl => ?_)
                      refine lv_goto (tgt := 8) hx hb dM_putString_180 (by decide) ?_
                      exact ih (1, (y2 + 1), y1, o14.2.2.2, ((wc + o3.2.1) + o14.2.1), ((wn + o3.2.2.1) + o14.2.2.1)) _ _ ls (⟨ad20, gd21, vad22, rfl, hf, hP, hD, hS, lv_sub hl [0, 2, 3] rfl, hE, hN⟩)
                    rw [if_neg hk16] at hf
                    by_cases hk26 : o14.1 = 1
                    · rw [if_pos hk26] at hf
                      obtain ⟨hg27, hf⟩ := xifn hf
                      obtain ⟨hm28, hf⟩ := xmoE hf
                      obtain rfl := Option.some.inj hf
                      exact absurd (show (1 : Nat) = 0 from hkd) (by decide)
                    rw [if_neg hk26] at hf
                    exact nomatch hf
                · rw [if_pos hc] at hf
                  refine lv_aload_n hx hb dM_putString_101 rfl (lv_at hl 2 rfl) ?_
                  refine lv_bipush (v := 116) hx hb dM_putString_102 (by decide) ?_
                  obtain ⟨o14, hq15, hf⟩ := xbind hf
                  by_cases hk16 : o14.1 = 0
                  · rw [if_pos hk16] at hf
                    obtain ⟨hg17, hf⟩ := xifn hf
                    obtain ⟨hm18, hf⟩ := xmoE hf
                    have hFc := xm_free hD hS hA
                    refine va_callv (va_runV (C := "ValueBenchModel") (As := [.int 116]) (rest := []) ⟨hx, hb, hml, hown, htx⟩ (gM_put0 l hl9 D cT aK aV H.size n aM ad8 rd gd9 vad10 o3.2.2.2 (116 : Int32) o14 hq15 hk16) ⟨callB_of 1 htx (xw_goodC kw_6_136) rfl rfl rfl (htx _ kw_1_5) (htx _ kw_6_133) ⟨by decide, by decide, by decide +kernel⟩ ⟨Nat.le_of_ble_eq_true rfl, Nat.le_of_ble_eq_true rfl⟩, (htx _ kw_6_135), (htx _ kp_M_put0)⟩ ⟨xPre_blind, va_recv hK hP (ci := 5) rfl (q0 := 0) rfl, (fun U hU hW => ⟨rfl, xPre_of hZ hS hFc hP hD hK U hU hW⟩)⟩ rfl rfl hl.1 rfl (xm_room (Nat.le_of_ble_eq_true rfl)) dM_putString_104 ⟨hm18.1, hm18.2⟩) hS (fun q _ h => hFc q h) hFc (fun u9 t H1 locs ht hvm hr9 hB hz1 hk1 hS => ?_)
                    obtain ⟨hP1, hK1, hD1⟩ := hB
                    rw [ht] at hP1
                    obtain ⟨ad20, gd21, vad22⟩ := u9
                    obtain ⟨hv23, hn24⟩ := hr9
                    have hP : va_P D xcl (xMw cT aM ad20 rd gd21 vad22 o14.2.2.2 []) H1 := hP1
                    have hD : va_D A (xMw cT aM ad20 rd gd21 vad22 o14.2.2.2 []) := hD1.weaken (fun k q _ h => hFc q.1 h)
                    generalize H1 = H at hP hS ⊢
                    have hE9 : ∀ p, p < xct st → vad22 p = vad p := fun p h => (hv23 p (Nat.lt_of_lt_of_le h hN)).trans (hE p h)
                    have hE := hE9
                    have hN : xct st ≤ xct o14.2.2.2 := Nat.le_trans hN hn24
                    have ev25 : xv vad10 y1 = xv vad22 y1 := xvE hv23 hg17
                    have hl : lv_has ls 4 [(3, .int ((xba ws9 3) (((xpi ws9 2) (y1 - 1)) + y2).toNatClampNeg)), (2, .int y2), (0, .ref aM), (1, xv vad22 y1)] := by first | exact hl | ((try (rw [← ev25])); exact hl)
                    refine W.eq (g2 := F0 m 107 ls []) (by first | rfl | ((try (rw [ev25])); rfl)) ?_
                    refine lv_goto (tgt := 177) hx hb dM_putString_107 (by decide) ?_
                    refine lv_iinc (v := (y2 + 1)) (lv' := [(2, .int (y2 + 1)), (3, .int ((xba ws9 3) (((xpi ws9 2) (y1 - 1)) + y2).toNatClampNeg)), (0, .ref aM), (1, xv vad22 y1)]) hx hb dM_putString_177 hl (k := 1) rfl rfl (by decide) (by simp only [List.filter, xvcat, xrscat, xcI, xcL, xcR, xcN]; rfl) (fun ls hl => ?_)
                    refine lv_goto (tgt := 8) hx hb dM_putString_180 (by decide) ?_
                    exact ih (1, (y2 + 1), y1, o14.2.2.2, ((wc + o3.2.1) + o14.2.1), ((wn + o3.2.2.1) + o14.2.2.1)) _ _ ls (⟨ad20, gd21, vad22, rfl, hf, hP, hD, hS, lv_sub hl [0, 2, 3] rfl, hE, hN⟩)
                  rw [if_neg hk16] at hf
                  by_cases hk26 : o14.1 = 1
                  · rw [if_pos hk26] at hf
                    obtain ⟨hg27, hf⟩ := xifn hf
                    obtain ⟨hm28, hf⟩ := xmoE hf
                    obtain rfl := Option.some.inj hf
                    exact absurd (show (1 : Nat) = 0 from hkd) (by decide)
                  rw [if_neg hk26] at hf
                  exact nomatch hf
              · rw [if_pos hc] at hf
                refine lv_aload_n hx hb dM_putString_86 rfl (lv_at hl 2 rfl) ?_
                refine lv_bipush (v := 98) hx hb dM_putString_87 (by decide) ?_
                obtain ⟨o14, hq15, hf⟩ := xbind hf
                by_cases hk16 : o14.1 = 0
                · rw [if_pos hk16] at hf
                  obtain ⟨hg17, hf⟩ := xifn hf
                  obtain ⟨hm18, hf⟩ := xmoE hf
                  have hFc := xm_free hD hS hA
                  refine va_callv (va_runV (C := "ValueBenchModel") (As := [.int 98]) (rest := []) ⟨hx, hb, hml, hown, htx⟩ (gM_put0 l hl9 D cT aK aV H.size n aM ad8 rd gd9 vad10 o3.2.2.2 (98 : Int32) o14 hq15 hk16) ⟨callB_of 1 htx (xw_goodC kw_6_136) rfl rfl rfl (htx _ kw_1_5) (htx _ kw_6_133) ⟨by decide, by decide, by decide +kernel⟩ ⟨Nat.le_of_ble_eq_true rfl, Nat.le_of_ble_eq_true rfl⟩, (htx _ kw_6_135), (htx _ kp_M_put0)⟩ ⟨xPre_blind, va_recv hK hP (ci := 5) rfl (q0 := 0) rfl, (fun U hU hW => ⟨rfl, xPre_of hZ hS hFc hP hD hK U hU hW⟩)⟩ rfl rfl hl.1 rfl (xm_room (Nat.le_of_ble_eq_true rfl)) dM_putString_89 ⟨hm18.1, hm18.2⟩) hS (fun q _ h => hFc q h) hFc (fun u9 t H1 locs ht hvm hr9 hB hz1 hk1 hS => ?_)
                  obtain ⟨hP1, hK1, hD1⟩ := hB
                  rw [ht] at hP1
                  obtain ⟨ad20, gd21, vad22⟩ := u9
                  obtain ⟨hv23, hn24⟩ := hr9
                  have hP : va_P D xcl (xMw cT aM ad20 rd gd21 vad22 o14.2.2.2 []) H1 := hP1
                  have hD : va_D A (xMw cT aM ad20 rd gd21 vad22 o14.2.2.2 []) := hD1.weaken (fun k q _ h => hFc q.1 h)
                  generalize H1 = H at hP hS ⊢
                  have hE9 : ∀ p, p < xct st → vad22 p = vad p := fun p h => (hv23 p (Nat.lt_of_lt_of_le h hN)).trans (hE p h)
                  have hE := hE9
                  have hN : xct st ≤ xct o14.2.2.2 := Nat.le_trans hN hn24
                  have ev25 : xv vad10 y1 = xv vad22 y1 := xvE hv23 hg17
                  have hl : lv_has ls 4 [(3, .int ((xba ws9 3) (((xpi ws9 2) (y1 - 1)) + y2).toNatClampNeg)), (2, .int y2), (0, .ref aM), (1, xv vad22 y1)] := by first | exact hl | ((try (rw [← ev25])); exact hl)
                  refine W.eq (g2 := F0 m 92 ls []) (by first | rfl | ((try (rw [ev25])); rfl)) ?_
                  refine lv_goto (tgt := 177) hx hb dM_putString_92 (by decide) ?_
                  refine lv_iinc (v := (y2 + 1)) (lv' := [(2, .int (y2 + 1)), (3, .int ((xba ws9 3) (((xpi ws9 2) (y1 - 1)) + y2).toNatClampNeg)), (0, .ref aM), (1, xv vad22 y1)]) hx hb dM_putString_177 hl (k := 1) rfl rfl (by decide) (by simp only [List.filter, xvcat, xrscat, xcI, xcL, xcR, xcN]; rfl) (fun ls hl => ?_)
                  refine lv_goto (tgt := 8) hx hb dM_putString_180 (by decide) ?_
                  exact ih (1, (y2 + 1), y1, o14.2.2.2, ((wc + o3.2.1) + o14.2.1), ((wn + o3.2.2.1) + o14.2.2.1)) _ _ ls (⟨ad20, gd21, vad22, rfl, hf, hP, hD, hS, lv_sub hl [0, 2, 3] rfl, hE, hN⟩)
                rw [if_neg hk16] at hf
                by_cases hk26 : o14.1 = 1
                · rw [if_pos hk26] at hf
                  obtain ⟨hg27, hf⟩ := xifn hf
                  obtain ⟨hm28, hf⟩ := xmoE hf
                  obtain rfl := Option.some.inj hf
                  exact absurd (show (1 : Nat) = 0 from hkd) (by decide)
                rw [if_neg hk26] at hf
                exact nomatch hf
            rw [if_neg hk5] at hf
            by_cases hk14 : o3.1 = 1
            · rw [if_pos hk14] at hf
              obtain ⟨hm15, hf⟩ := xmoE hf
              obtain rfl := Option.some.inj hf
              exact absurd (show (1 : Nat) = 0 from hkd) (by decide)
            rw [if_neg hk14] at hf
            exact nomatch hf
          · rw [if_neg hc] at hf
            refine lv_iload_n hx hb dM_putString_60 rfl (lv_at hl 0 rfl) ?_
            refine lv_bipush (v := 127) hx hb dM_putString_61 (by decide) ?_
            refine lv_icmp_ge (tgt := 74) hx hb dM_putString_63 (by decide) (fun hc => ?_) (fun hc => ?_)
            · rw [if_pos hc] at hf
              refine lv_aload_n hx hb dM_putString_74 rfl (lv_at hl 2 rfl) ?_
              refine lv_bipush (v := 92) hx hb dM_putString_75 (by decide) ?_
              obtain ⟨o3, hq4, hf⟩ := xbind hf
              by_cases hk5 : o3.1 = 0
              · rw [if_pos hk5] at hf
                obtain ⟨hm6, hf⟩ := xmoE hf
                have hFc := xm_free hD hS hA
                refine va_callv (va_runV (C := "ValueBenchModel") (As := [.int 92]) (rest := []) ⟨hx, hb, hml, hown, htx⟩ (gM_put0 l hl9 D cT aK aV H.size n aM adL rd gdL vadL ws9 (92 : Int32) o3 hq4 hk5) ⟨callB_of 1 htx (xw_goodC kw_6_136) rfl rfl rfl (htx _ kw_1_5) (htx _ kw_6_133) ⟨by decide, by decide, by decide +kernel⟩ ⟨Nat.le_of_ble_eq_true rfl, Nat.le_of_ble_eq_true rfl⟩, (htx _ kw_6_135), (htx _ kp_M_put0)⟩ ⟨xPre_blind, va_recv hK hP (ci := 5) rfl (q0 := 0) rfl, (fun U hU hW => ⟨rfl, xPre_of hZ hS hFc hP hD hK U hU hW⟩)⟩ rfl rfl hl.1 rfl (xm_room (Nat.le_of_ble_eq_true rfl)) dM_putString_77 ⟨hm6.1, hm6.2⟩) hS (fun q _ h => hFc q h) hFc (fun u9 t H1 locs ht hvm hr9 hB hz1 hk1 hS => ?_)
                obtain ⟨hP1, hK1, hD1⟩ := hB
                rw [ht] at hP1
                obtain ⟨ad8, gd9, vad10⟩ := u9
                obtain ⟨hv11, hn12⟩ := hr9
                have hP : va_P D xcl (xMw cT aM ad8 rd gd9 vad10 o3.2.2.2 []) H1 := hP1
                have hD : va_D A (xMw cT aM ad8 rd gd9 vad10 o3.2.2.2 []) := hD1.weaken (fun k q _ h => hFc q.1 h)
                generalize H1 = H at hP hS ⊢
                have hE9 : ∀ p, p < xct st → vad10 p = vad p := fun p h => (hv11 p (Nat.lt_of_lt_of_le h hN)).trans (hE p h)
                have hE := hE9
                have hN : xct st ≤ xct o3.2.2.2 := Nat.le_trans hN hn12
                have ev13 : xv vadL y1 = xv vad10 y1 := xvE hv11 (fun h => hg1 (Or.inr h))
                have hl : lv_has ls 4 [(3, .int ((xba ws9 3) (((xpi ws9 2) (y1 - 1)) + y2).toNatClampNeg)), (2, .int y2), (0, .ref aM), (1, xv vad10 y1)] := by first | exact hl | ((try (rw [← ev13])); exact hl)
                refine W.eq (g2 := F0 m 80 ls []) (by first | rfl | ((try (rw [ev13])); rfl)) ?_
                refine lv_iload_n hx hb dM_putString_80 rfl (lv_at hl 0 rfl) ?_
                refine lv_bipush (v := 8) hx hb dM_putString_81 (by decide) ?_
                refine lv_icmp_ne (tgt := 95) hx hb dM_putString_83 (by decide) (fun hc => ?_) (fun hc => ?_)
                · rw [if_neg hc] at hf
                  refine lv_iload_n hx hb dM_putString_95 rfl (lv_at hl 0 rfl) ?_
                  refine lv_bipush (v := 9) hx hb dM_putString_96 (by decide) ?_
                  refine lv_icmp_ne (tgt := 110) hx hb dM_putString_98 (by decide) (fun hc => ?_) (fun hc => ?_)
                  · rw [if_neg hc] at hf
                    refine lv_iload_n hx hb dM_putString_110 rfl (lv_at hl 0 rfl) ?_
                    refine lv_bipush (v := 10) hx hb dM_putString_111 (by decide) ?_
                    refine lv_icmp_ne (tgt := 125) hx hb dM_putString_113 (by decide) (fun hc => ?_) (fun hc => ?_)
                    · rw [if_neg hc] at hf
                      refine lv_iload_n hx hb dM_putString_125 rfl (lv_at hl 0 rfl) ?_
                      refine lv_bipush (v := 12) hx hb dM_putString_126 (by decide) ?_
                      refine lv_icmp_ne (tgt := 140) hx hb dM_putString_128 (by decide) (fun hc => ?_) (fun hc => ?_)
                      · rw [if_neg hc] at hf
                        refine lv_iload_n hx hb dM_putString_140 rfl (lv_at hl 0 rfl) ?_
                        refine lv_bipush (v := 13) hx hb dM_putString_141 (by decide) ?_
                        refine lv_icmp_ne (tgt := 155) hx hb dM_putString_143 (by decide) (fun hc => ?_) (fun hc => ?_)
                        · rw [if_neg hc] at hf
                          refine lv_aload_n hx hb dM_putString_155 rfl (lv_at hl 2 rfl) ?_
                          refine xm_ldcS (q := aK 14) hx hb hown (hZ.2.2.2.2.2.2.2.2.1 ("ValueBenchModel", 284, "u00", 14) (List.mem_of_getElem? (i := 20) rfl)) dM_putString_156 ?_
                          obtain ⟨o14, hq15, hf⟩ := xbind hf
                          by_cases hk16 : o14.1 = 0
                          · rw [if_pos hk16] at hf
                            obtain ⟨hg17, hf⟩ := xifn hf
                            obtain ⟨hm18, hf⟩ := xmoE hf
                            have hFc := xm_free hD hS hA
                            refine va_callv (va_runV (C := "ValueBenchModel") (As := [.ref (aK 14)]) (rest := []) ⟨hx, hb, hml, hown, htx⟩ (gM_put1c l hl9 D cT aK aV H.size n aM ad8 rd gd9 vad10 o3.2.2.2 o14 hq15 hk16) ⟨callB_of 1 htx (xw_goodC kw_6_132) rfl rfl rfl (htx _ kw_1_5) (htx _ kw_6_129) ⟨by decide, by decide, by decide +kernel⟩ ⟨Nat.le_of_ble_eq_true rfl, Nat.le_of_ble_eq_true rfl⟩, (htx _ kw_6_131), (htx _ kp_M_put1)⟩ ⟨xPre_blind, va_recv hK hP (ci := 5) rfl (q0 := 0) rfl, (fun U hU hW => ⟨rfl, xPre_of hZ hS hFc hP hD hK U hU hW⟩)⟩ rfl rfl hl.1 rfl (xm_room (Nat.le_of_ble_eq_true rfl)) dM_putString_159 ⟨hm18.1, hm18.2⟩) hS (fun q _ h => hFc q h) hFc (fun u9 t H1 locs ht hvm hr9 hB hz1 hk1 hS => ?_)
                            obtain ⟨hP1, hK1, hD1⟩ := hB
                            rw [ht] at hP1
                            obtain ⟨ad20, gd21, vad22⟩ := u9
                            obtain ⟨hv23, hn24⟩ := hr9
                            have hP : va_P D xcl (xMw cT aM ad20 rd gd21 vad22 o14.2.2.2 []) H1 := hP1
                            have hD : va_D A (xMw cT aM ad20 rd gd21 vad22 o14.2.2.2 []) := hD1.weaken (fun k q _ h => hFc q.1 h)
                            generalize H1 = H at hP hS ⊢
                            have hE9 : ∀ p, p < xct st → vad22 p = vad p := fun p h => (hv23 p (Nat.lt_of_lt_of_le h hN)).trans (hE p h)
                            have hE := hE9
                            have hN : xct st ≤ xct o14.2.2.2 := Nat.le_trans hN hn24
                            have ev25 : xv vad10 y1 = xv vad22 y1 := xvE hv23 hg17
                            have hl : lv_has ls 4 [(3, .int ((xba ws9 3) (((xpi ws9 2) (y1 - 1)) + y2).toNatClampNeg)), (2, .int y2), (0, .ref aM), (1, xv vad22 y1)] := by first | exact hl | ((try (rw [← ev25])); exact hl)
                            refine W.eq (g2 := F0 m 162 ls []) (by first | rfl | ((try (rw [ev25])); rfl)) ?_
                            refine lv_aload_n hx hb dM_putString_162 rfl (lv_at hl 2 rfl) ?_
                            refine lv_iload_n hx hb dM_putString_163 rfl (lv_at hl 0 rfl) ?_
                            refine lv_iconst (v := 4) hx hb dM_putString_164 (by decide) ?_
                            refine lv_ishr hx hb dM_putString_165 ?_
                            obtain ⟨o26, hq27, hf⟩ := xbind hf
                            by_cases hk28 : o26.1 = 0
                            · rw [if_pos hk28] at hf
                              obtain ⟨hg29, hf⟩ := xifn hf
                              obtain ⟨hm30, hf⟩ := xmoE hf
                              have hFc := xm_free hD hS hA
                              refine va_callv (va_runV (C := "ValueBenchModel") (As := [.int (((xba ws9 3) (((xpi ws9 2) (y1 - 1)) + y2).toNatClampNeg) >>> ((4 : Int32) &&& 31))]) (rest := []) ⟨hx, hb, hml, hown, htx⟩ (gM_putHex l hl9 D cT aK aV H.size n aM ad20 rd gd21 vad22 o14.2.2.2 (((xba ws9 3) (((xpi ws9 2) (y1 - 1)) + y2).toNatClampNeg) >>> ((4 : Int32) &&& 31)) o26 hq27 hk28) ⟨callB_of 1 htx (xw_goodC kw_6_150) rfl rfl rfl (htx _ kw_1_5) (htx _ kw_6_147) ⟨by decide, by decide, by decide +kernel⟩ ⟨Nat.le_of_ble_eq_true rfl, Nat.le_of_ble_eq_true rfl⟩, (htx _ kw_6_149), (htx _ kp_M_putHex)⟩ ⟨xPre_blind, va_recv hK hP (ci := 5) rfl (q0 := 0) rfl, (fun U hU hW => ⟨rfl, xPre_of hZ hS hFc hP hD hK U hU hW⟩)⟩ rfl rfl hl.1 rfl (xm_room (Nat.le_of_ble_eq_true rfl)) dM_putString_166 ⟨hm30.1, hm30.2⟩) hS (fun q _ h => hFc q h) hFc (fun u9 t H1 locs ht hvm hr9 hB hz1 hk1 hS => ?_)
                              obtain ⟨hP1, hK1, hD1⟩ := hB
                              rw [ht] at hP1
                              obtain ⟨ad32, gd33, vad34⟩ := u9
                              obtain ⟨hv35, hn36⟩ := hr9
                              have hP : va_P D xcl (xMw cT aM ad32 rd gd33 vad34 o26.2.2.2 []) H1 := hP1
                              have hD : va_D A (xMw cT aM ad32 rd gd33 vad34 o26.2.2.2 []) := hD1.weaken (fun k q _ h => hFc q.1 h)
                              generalize H1 = H at hP hS ⊢
                              have hE9 : ∀ p, p < xct st → vad34 p = vad p := fun p h => (hv35 p (Nat.lt_of_lt_of_le h hN)).trans (hE p h)
                              have hE := hE9
                              have hN : xct st ≤ xct o26.2.2.2 := Nat.le_trans hN hn36
                              have ev37 : xv vad22 y1 = xv vad34 y1 := xvE hv35 hg29
                              have hl : lv_has ls 4 [(3, .int ((xba ws9 3) (((xpi ws9 2) (y1 - 1)) + y2).toNatClampNeg)), (2, .int y2), (0, .ref aM), (1, xv vad34 y1)] := by first | exact hl | ((try (rw [← ev37])); exact hl)
                              refine W.eq (g2 := F0 m 169 ls []) (by first | rfl | ((try (rw [ev37])); rfl)) ?_
                              refine lv_aload_n hx hb dM_putString_169 rfl (lv_at hl 2 rfl) ?_
                              refine lv_iload_n hx hb dM_putString_170 rfl (lv_at hl 0 rfl) ?_
                              refine lv_bipush (v := 15) hx hb dM_putString_171 (by decide) ?_
                              refine lv_iand hx hb dM_putString_173 ?_
                              obtain ⟨o38, hq39, hf⟩ := xbind hf
                              by_cases hk40 : o38.1 = 0
                              · rw [if_pos hk40] at hf
                                obtain ⟨hg41, hf⟩ := xifn hf
                                obtain ⟨hm42, hf⟩ := xmoE hf
                                have hFc := xm_free hD hS hA
                                refine va_callv (va_runV (C := "ValueBenchModel") (As := [.int (((xba ws9 3) (((xpi ws9 2) (y1 - 1)) + y2).toNatClampNeg) &&& (15 : Int32))]) (rest := []) ⟨hx, hb, hml, hown, htx⟩ (gM_putHex l hl9 D cT aK aV H.size n aM ad32 rd gd33 vad34 o26.2.2.2 (((xba ws9 3) (((xpi ws9 2) (y1 - 1)) + y2).toNatClampNeg) &&& (15 : Int32)) o38 hq39 hk40) ⟨callB_of 1 htx (xw_goodC kw_6_150) rfl rfl rfl (htx _ kw_1_5) (htx _ kw_6_147) ⟨by decide, by decide, by decide +kernel⟩ ⟨Nat.le_of_ble_eq_true rfl, Nat.le_of_ble_eq_true rfl⟩, (htx _ kw_6_149), (htx _ kp_M_putHex)⟩ ⟨xPre_blind, va_recv hK hP (ci := 5) rfl (q0 := 0) rfl, (fun U hU hW => ⟨rfl, xPre_of hZ hS hFc hP hD hK U hU hW⟩)⟩ rfl rfl hl.1 rfl (xm_room (Nat.le_of_ble_eq_true rfl)) dM_putString_174 ⟨hm42.1, hm42.2⟩) hS (fun q _ h => hFc q h) hFc (fun u9 t H1 locs ht hvm hr9 hB hz1 hk1 hS => ?_)
                                obtain ⟨hP1, hK1, hD1⟩ := hB
                                rw [ht] at hP1
                                obtain ⟨ad44, gd45, vad46⟩ := u9
                                obtain ⟨hv47, hn48⟩ := hr9
                                have hP : va_P D xcl (xMw cT aM ad44 rd gd45 vad46 o38.2.2.2 []) H1 := hP1
                                have hD : va_D A (xMw cT aM ad44 rd gd45 vad46 o38.2.2.2 []) := hD1.weaken (fun k q _ h => hFc q.1 h)
                                generalize H1 = H at hP hS ⊢
                                have hE9 : ∀ p, p < xct st → vad46 p = vad p := fun p h => (hv47 p (Nat.lt_of_lt_of_le h hN)).trans (hE p h)
                                have hE := hE9
                                have hN : xct st ≤ xct o38.2.2.2 := Nat.le_trans hN hn48
                                have ev49 : xv vad34 y1 = xv vad46 y1 := xvE hv47 hg41
                                have hl : lv_has ls 4 [(3, .int ((xba ws9 3) (((xpi ws9 2) (y1 - 1)) + y2).toNatClampNeg)), (2, .int y2), (0, .ref aM), (1, xv vad46 y1)] := by first | exact hl | ((try (rw [← ev49])); exact hl)
                                refine W.eq (g2 := F0 m 177 ls []) (by first | rfl | ((try (rw [ev49])); rfl)) ?_
                                refine lv_iinc (v := (y2 + 1)) (lv' := [(2, .int (y2 + 1)), (3, .int ((xba ws9 3) (((xpi ws9 2) (y1 - 1)) + y2).toNatClampNeg)), (0, .ref aM), (1, xv vad46 y1)]) hx hb dM_putString_177 hl (k := 1) rfl rfl (by decide) (by simp only [List.filter, xvcat, xrscat, xcI, xcL, xcR, xcN]; rfl) (fun ls hl => ?_)
                                refine lv_goto (tgt := 8) hx hb dM_putString_180 (by decide) ?_
                                exact ih (1, (y2 + 1), y1, o38.2.2.2, ((((wc + o3.2.1) + o14.2.1) + o26.2.1) + o38.2.1), ((((wn + o3.2.2.1) + o14.2.2.1) + o26.2.2.1) + o38.2.2.1)) _ _ ls (⟨ad44, gd45, vad46, rfl, hf, hP, hD, hS, lv_sub hl [0, 2, 3] rfl, hE, hN⟩)
                              rw [if_neg hk40] at hf
                              by_cases hk50 : o38.1 = 1
                              · rw [if_pos hk50] at hf
                                obtain ⟨hg51, hf⟩ := xifn hf
                                obtain ⟨hm52, hf⟩ := xmoE hf
                                obtain rfl := Option.some.inj hf
                                exact absurd (show (1 : Nat) = 0 from hkd) (by decide)
                              rw [if_neg hk50] at hf
                              exact nomatch hf
                            rw [if_neg hk28] at hf
                            by_cases hk60 : o26.1 = 1
                            · rw [if_pos hk60] at hf
                              obtain ⟨hg61, hf⟩ := xifn hf
                              obtain ⟨hm62, hf⟩ := xmoE hf
                              obtain rfl := Option.some.inj hf
                              exact absurd (show (1 : Nat) = 0 from hkd) (by decide)
                            rw [if_neg hk60] at hf
                            exact nomatch hf
                          rw [if_neg hk16] at hf
                          by_cases hk70 : o14.1 = 1
                          · rw [if_pos hk70] at hf
                            obtain ⟨hg71, hf⟩ := xifn hf
                            obtain ⟨hm72, hf⟩ := xmoE hf
                            obtain rfl := Option.some.inj hf
                            exact absurd (show (1 : Nat) = 0 from hkd) (by decide)
                          rw [if_neg hk70] at hf
                          exact nomatch hf
                        · rw [if_pos hc] at hf
                          refine lv_aload_n hx hb dM_putString_146 rfl (lv_at hl 2 rfl) ?_
                          refine lv_bipush (v := 114) hx hb dM_putString_147 (by decide) ?_
                          obtain ⟨o14, hq15, hf⟩ := xbind hf
                          by_cases hk16 : o14.1 = 0
                          · rw [if_pos hk16] at hf
                            obtain ⟨hg17, hf⟩ := xifn hf
                            obtain ⟨hm18, hf⟩ := xmoE hf
                            have hFc := xm_free hD hS hA
                            refine va_callv (va_runV (C := "ValueBenchModel") (As := [.int 114]) (rest := []) ⟨hx, hb, hml, hown, htx⟩ (gM_put0 l hl9 D cT aK aV H.size n aM ad8 rd gd9 vad10 o3.2.2.2 (114 : Int32) o14 hq15 hk16) ⟨callB_of 1 htx (xw_goodC kw_6_136) rfl rfl rfl (htx _ kw_1_5) (htx _ kw_6_133) ⟨by decide, by decide, by decide +kernel⟩ ⟨Nat.le_of_ble_eq_true rfl, Nat.le_of_ble_eq_true rfl⟩, (htx _ kw_6_135), (htx _ kp_M_put0)⟩ ⟨xPre_blind, va_recv hK hP (ci := 5) rfl (q0 := 0) rfl, (fun U hU hW => ⟨rfl, xPre_of hZ hS hFc hP hD hK U hU hW⟩)⟩ rfl rfl hl.1 rfl (xm_room (Nat.le_of_ble_eq_true rfl)) dM_putString_149 ⟨hm18.1, hm18.2⟩) hS (fun q _ h => hFc q h) hFc (fun u9 t H1 locs ht hvm hr9 hB hz1 hk1 hS => ?_)
                            obtain ⟨hP1, hK1, hD1⟩ := hB
                            rw [ht] at hP1
                            obtain ⟨ad20, gd21, vad22⟩ := u9
                            obtain ⟨hv23, hn24⟩ := hr9
                            have hP : va_P D xcl (xMw cT aM ad20 rd gd21 vad22 o14.2.2.2 []) H1 := hP1
                            have hD : va_D A (xMw cT aM ad20 rd gd21 vad22 o14.2.2.2 []) := hD1.weaken (fun k q _ h => hFc q.1 h)
                            generalize H1 = H at hP hS ⊢
                            have hE9 : ∀ p, p < xct st → vad22 p = vad p := fun p h => (hv23 p (Nat.lt_of_lt_of_le h hN)).trans (hE p h)
                            have hE := hE9
                            have hN : xct st ≤ xct o14.2.2.2 := Nat.le_trans hN hn24
                            have ev25 : xv vad10 y1 = xv vad22 y1 := xvE hv23 hg17
                            have hl : lv_has ls 4 [(3, .int ((xba ws9 3) (((xpi ws9 2) (y1 - 1)) + y2).toNatClampNeg)), (2, .int y2), (0, .ref aM), (1, xv vad22 y1)] := by first | exact hl | ((try (rw [← ev25])); exact hl)
                            refine W.eq (g2 := F0 m 152 ls []) (by first | rfl | ((try (rw [ev25])); rfl)) ?_
                            refine lv_goto (tgt := 177) hx hb dM_putString_152 (by decide) ?_
                            refine lv_iinc (v := (y2 + 1)) (lv' := [(2, .int (y2 + 1)), (3, .int ((xba ws9 3) (((xpi ws9 2) (y1 - 1)) + y2).toNatClampNeg)), (0, .ref aM), (1, xv vad22 y1)]) hx hb dM_putString_177 hl (k := 1) rfl rfl (by decide) (by simp only [List.filter, xvcat, xrscat, xcI, xcL, xcR, xcN]; rfl) (fun ls hl => ?_)
                            refine lv_goto (tgt := 8) hx hb dM_putString_180 (by decide) ?_
                            exact ih (1, (y2 + 1), y1, o14.2.2.2, ((wc + o3.2.1) + o14.2.1), ((wn + o3.2.2.1) + o14.2.2.1)) _ _ ls (⟨ad20, gd21, vad22, rfl, hf, hP, hD, hS, lv_sub hl [0, 2, 3] rfl, hE, hN⟩)
                          rw [if_neg hk16] at hf
                          by_cases hk26 : o14.1 = 1
                          · rw [if_pos hk26] at hf
                            obtain ⟨hg27, hf⟩ := xifn hf
                            obtain ⟨hm28, hf⟩ := xmoE hf
                            obtain rfl := Option.some.inj hf
                            exact absurd (show (1 : Nat) = 0 from hkd) (by decide)
                          rw [if_neg hk26] at hf
                          exact nomatch hf
                      · rw [if_pos hc] at hf
                        refine lv_aload_n hx hb dM_putString_131 rfl (lv_at hl 2 rfl) ?_
                        refine lv_bipush (v := 102) hx hb dM_putString_132 (by decide) ?_
                        obtain ⟨o14, hq15, hf⟩ := xbind hf
                        by_cases hk16 : o14.1 = 0
                        · rw [if_pos hk16] at hf
                          obtain ⟨hg17, hf⟩ := xifn hf
                          obtain ⟨hm18, hf⟩ := xmoE hf
                          have hFc := xm_free hD hS hA
                          refine va_callv (va_runV (C := "ValueBenchModel") (As := [.int 102]) (rest := []) ⟨hx, hb, hml, hown, htx⟩ (gM_put0 l hl9 D cT aK aV H.size n aM ad8 rd gd9 vad10 o3.2.2.2 (102 : Int32) o14 hq15 hk16) ⟨callB_of 1 htx (xw_goodC kw_6_136) rfl rfl rfl (htx _ kw_1_5) (htx _ kw_6_133) ⟨by decide, by decide, by decide +kernel⟩ ⟨Nat.le_of_ble_eq_true rfl, Nat.le_of_ble_eq_true rfl⟩, (htx _ kw_6_135), (htx _ kp_M_put0)⟩ ⟨xPre_blind, va_recv hK hP (ci := 5) rfl (q0 := 0) rfl, (fun U hU hW => ⟨rfl, xPre_of hZ hS hFc hP hD hK U hU hW⟩)⟩ rfl rfl hl.1 rfl (xm_room (Nat.le_of_ble_eq_true rfl)) dM_putString_134 ⟨hm18.1, hm18.2⟩) hS (fun q _ h => hFc q h) hFc (fun u9 t H1 locs ht hvm hr9 hB hz1 hk1 hS => ?_)
                          obtain ⟨hP1, hK1, hD1⟩ := hB
                          rw [ht] at hP1
                          obtain ⟨ad20, gd21, vad22⟩ := u9
                          obtain ⟨hv23, hn24⟩ := hr9
                          have hP : va_P D xcl (xMw cT aM ad20 rd gd21 vad22 o14.2.2.2 []) H1 := hP1
                          have hD : va_D A (xMw cT aM ad20 rd gd21 vad22 o14.2.2.2 []) := hD1.weaken (fun k q _ h => hFc q.1 h)
                          generalize H1 = H at hP hS ⊢
                          have hE9 : ∀ p, p < xct st → vad22 p = vad p := fun p h => (hv23 p (Nat.lt_of_lt_of_le h hN)).trans (hE p h)
                          have hE := hE9
                          have hN : xct st ≤ xct o14.2.2.2 := Nat.le_trans hN hn24
                          have ev25 : xv vad10 y1 = xv vad22 y1 := xvE hv23 hg17
                          have hl : lv_has ls 4 [(3, .int ((xba ws9 3) (((xpi ws9 2) (y1 - 1)) + y2).toNatClampNeg)), (2, .int y2), (0, .ref aM), (1, xv vad22 y1)] := by first | exact hl | ((try (rw [← ev25])); exact hl)
                          refine W.eq (g2 := F0 m 137 ls []) (by first | rfl | ((try (rw [ev25])); rfl)) ?_
                          refine lv_goto (tgt := 177) hx hb dM_putString_137 (by decide) ?_
                          refine lv_iinc (v := (y2 + 1)) (lv' := [(2, .int (y2 + 1)), (3, .int ((xba ws9 3) (((xpi ws9 2) (y1 - 1)) + y2).toNatClampNeg)), (0, .ref aM), (1, xv vad22 y1)]) hx hb dM_putString_177 hl (k := 1) rfl rfl (by decide) (by simp only [List.filter, xvcat, xrscat, xcI, xcL, xcR, xcN]; rfl) (fun ls hl => ?_)
                          refine lv_goto (tgt := 8) hx hb dM_putString_180 (by decide) ?_
                          exact ih (1, (y2 + 1), y1, o14.2.2.2, ((wc + o3.2.1) + o14.2.1), ((wn + o3.2.2.1) + o14.2.2.1)) _ _ ls (⟨ad20, gd21, vad22, rfl, hf, hP, hD, hS, lv_sub hl [0, 2, 3] rfl, hE, hN⟩)
                        rw [if_neg hk16] at hf
                        by_cases hk26 : o14.1 = 1
                        · rw [if_pos hk26] at hf
                          obtain ⟨hg27, hf⟩ := xifn hf
                          obtain ⟨hm28, hf⟩ := xmoE hf
                          obtain rfl := Option.some.inj hf
                          exact absurd (show (1 : Nat) = 0 from hkd) (by decide)
                        rw [if_neg hk26] at hf
                        exact nomatch hf
                    · rw [if_pos hc] at hf
                      refine lv_aload_n hx hb dM_putString_116 rfl (lv_at hl 2 rfl) ?_
                      refine lv_bipush (v := 110) hx hb dM_putString_117 (by decide) ?_
                      obtain ⟨o14, hq15, hf⟩ := xbind hf
                      by_cases hk16 : o14.1 = 0
                      · rw [if_pos hk16] at hf
                        obtain ⟨hg17, hf⟩ := xifn hf
                        obtain ⟨hm18, hf⟩ := xmoE hf
                        have hFc := xm_free hD hS hA
                        refine va_callv (va_runV (C := "ValueBenchModel") (As := [.int 110]) (rest := []) ⟨hx, hb, hml, hown, htx⟩ (gM_put0 l hl9 D cT aK aV H.size n aM ad8 rd gd9 vad10 o3.2.2.2 (110 : Int32) o14 hq15 hk16) ⟨callB_of 1 htx (xw_goodC kw_6_136) rfl rfl rfl (htx _ kw_1_5) (htx _ kw_6_133) ⟨by decide, by decide, by decide +kernel⟩ ⟨Nat.le_of_ble_eq_true rfl, Nat.le_of_ble_eq_true rfl⟩, (htx _ kw_6_135), (htx _ kp_M_put0)⟩ ⟨xPre_blind, va_recv hK hP (ci := 5) rfl (q0 := 0) rfl, (fun U hU hW => ⟨rfl, xPre_of hZ hS hFc hP hD hK U hU hW⟩)⟩ rfl rfl hl.1 rfl (xm_room (Nat.le_of_ble_eq_true rfl)) dM_putString_119 ⟨hm18.1, hm18.2⟩) hS (fun q _ h => hFc q h) hFc (fun u9 t H1 locs ht hvm hr9 hB hz1 hk1 hS => ?_)
                        obtain ⟨hP1, hK1, hD1⟩ := hB
                        rw [ht] at hP1
                        obtain ⟨ad20, gd21, vad22⟩ := u9
                        obtain ⟨hv23, hn24⟩ := hr9
                        have hP : va_P D xcl (xMw cT aM ad20 rd gd21 vad22 o14.2.2.2 []) H1 := hP1
                        have hD : va_D A (xMw cT aM ad20 rd gd21 vad22 o14.2.2.2 []) := hD1.weaken (fun k q _ h => hFc q.1 h)
                        generalize H1 = H at hP hS ⊢
                        have hE9 : ∀ p, p < xct st → vad22 p = vad p := fun p h => (hv23 p (Nat.lt_of_lt_of_le h hN)).trans (hE p h)
                        have hE := hE9
                        have hN : xct st ≤ xct o14.2.2.2 := Nat.le_trans hN hn24
                        have ev25 : xv vad10 y1 = xv vad22 y1 := xvE hv23 hg17
                        have hl : lv_has ls 4 [(3, .int ((xba ws9 3) (((xpi ws9 2) (y1 - 1)) + y2).toNatClampNeg)), (2, .int y2), (0, .ref aM), (1, xv vad22 y1)] := by first | exact hl | ((try (rw [← ev25])); exact hl)
                        refine W.eq (g2 := F0 m 122 ls []) (by first | rfl | ((try (rw [ev25])); rfl)) ?_
                        refine lv_goto (tgt := 177) hx hb dM_putString_122 (by decide) ?_
                        refine lv_iinc (v := (y2 + 1)) (lv' := [(2, .int (y2 + 1)), (3, .int ((xba ws9 3) (((xpi ws9 2) (y1 - 1)) + y2).toNatClampNeg)), (0, .ref aM), (1, xv vad22 y1)]) hx hb dM_putString_177 hl (k := 1) rfl rfl (by decide) (by simp only [List.filter, xvcat, xrscat, xcI, xcL, xcR, xcN]; rfl) (fun ls hl => ?_)
                        refine lv_goto (tgt := 8) hx hb dM_putString_180 (by decide) ?_
                        exact ih (1, (y2 + 1), y1, o14.2.2.2, ((wc + o3.2.1) + o14.2.1), ((wn + o3.2.2.1) + o14.2.2.1)) _ _ ls (⟨ad20, gd21, vad22, rfl, hf, hP, hD, hS, lv_sub hl [0, 2, 3] rfl, hE, hN⟩)
                      rw [if_neg hk16] at hf
                      by_cases hk26 : o14.1 = 1
                      · rw [if_pos hk26] at hf
                        obtain ⟨hg27, hf⟩ := xifn hf
                        obtain ⟨hm28, hf⟩ := xmoE hf
                        obtain rfl := Option.some.inj hf
                        exact absurd (show (1 : Nat) = 0 from hkd) (by decide)
                      rw [if_neg hk26] at hf
                      exact nomatch hf
                  · rw [if_pos hc] at hf
                    refine lv_aload_n hx hb dM_putString_101 rfl (lv_at hl 2 rfl) ?_
                    refine lv_bipush (v := 116) hx hb dM_putString_102 (by decide) ?_
                    obtain ⟨o14, hq15, hf⟩ := xbind hf
                    by_cases hk16 : o14.1 = 0
                    · rw [if_pos hk16] at hf
                      obtain ⟨hg17, hf⟩ := xifn hf
                      obtain ⟨hm18, hf⟩ := xmoE hf
                      have hFc := xm_free hD hS hA
                      refine va_callv (va_runV (C := "ValueBenchModel") (As := [.int 116]) (rest := []) ⟨hx, hb, hml, hown, htx⟩ (gM_put0 l hl9 D cT aK aV H.size n aM ad8 rd gd9 vad10 o3.2.2.2 (116 : Int32) o14 hq15 hk16) ⟨callB_of 1 htx (xw_goodC kw_6_136) rfl rfl rfl (htx _ kw_1_5) (htx _ kw_6_133) ⟨by decide, by decide, by decide +kernel⟩ ⟨Nat.le_of_ble_eq_true rfl, Nat.le_of_ble_eq_true rfl⟩, (htx _ kw_6_135), (htx _ kp_M_put0)⟩ ⟨xPre_blind, va_recv hK hP (ci := 5) rfl (q0 := 0) rfl, (fun U hU hW => ⟨rfl, xPre_of hZ hS hFc hP hD hK U hU hW⟩)⟩ rfl rfl hl.1 rfl (xm_room (Nat.le_of_ble_eq_true rfl)) dM_putString_104 ⟨hm18.1, hm18.2⟩) hS (fun q _ h => hFc q h) hFc (fun u9 t H1 locs ht hvm hr9 hB hz1 hk1 hS => ?_)
                      obtain ⟨hP1, hK1, hD1⟩ := hB
                      rw [ht] at hP1
                      obtain ⟨ad20, gd21, vad22⟩ := u9
                      obtain ⟨hv23, hn24⟩ := hr9
                      have hP : va_P D xcl (xMw cT aM ad20 rd gd21 vad22 o14.2.2.2 []) H1 := hP1
                      have hD : va_D A (xMw cT aM ad20 rd gd21 vad22 o14.2.2.2 []) := hD1.weaken (fun k q _ h => hFc q.1 h)
                      generalize H1 = H at hP hS ⊢
                      have hE9 : ∀ p, p < xct st → vad22 p = vad p := fun p h => (hv23 p (Nat.lt_of_lt_of_le h hN)).trans (hE p h)
                      have hE := hE9
                      have hN : xct st ≤ xct o14.2.2.2 := Nat.le_trans hN hn24
                      have ev25 : xv vad10 y1 = xv vad22 y1 := xvE hv23 hg17
                      have hl : lv_has ls 4 [(3, .int ((xba ws9 3) (((xpi ws9 2) (y1 - 1)) + y2).toNatClampNeg)), (2, .int y2), (0, .ref aM), (1, xv vad22 y1)] := by first | exact hl | ((try (rw [← ev25])); exact hl)
                      refine W.eq (g2 := F0 m 107 ls []) (by first | rfl | ((try (rw [ev25])); rfl)) ?_
                      refine lv_goto (tgt := 177) hx hb dM_putString_107 (by decide) ?_
                      refine lv_iinc (v := (y2 + 1)) (lv' := [(2, .int (y2 + 1)), (3, .int ((xba ws9 3) (((xpi ws9 2) (y1 - 1)) + y2).toNatClampNeg)), (0, .ref aM), (1, xv vad22 y1)]) hx hb dM_putString_177 hl (k := 1) rfl rfl (by decide) (by simp only [List.filter, xvcat, xrscat, xcI, xcL, xcR, xcN]; rfl) (fun ls hl => ?_)
                      refine lv_goto (tgt := 8) hx hb dM_putString_180 (by decide) ?_
                      exact ih (1, (y2 + 1), y1, o14.2.2.2, ((wc + o3.2.1) + o14.2.1), ((wn + o3.2.2.1) + o14.2.2.1)) _ _ ls (⟨ad20, gd21, vad22, rfl, hf, hP, hD, hS, lv_sub hl [0, 2, 3] rfl, hE, hN⟩)
                    rw [if_neg hk16] at hf
                    by_cases hk26 : o14.1 = 1
                    · rw [if_pos hk26] at hf
                      obtain ⟨hg27, hf⟩ := xifn hf
                      obtain ⟨hm28, hf⟩ := xmoE hf
                      obtain rfl := Option.some.inj hf
                      exact absurd (show (1 : Nat) = 0 from hkd) (by decide)
                    rw [if_neg hk26] at hf
                    exact nomatch hf
                · rw [if_pos hc] at hf
                  refine lv_aload_n hx hb dM_putString_86 rfl (lv_at hl 2 rfl) ?_
                  refine lv_bipush (v := 98) hx hb dM_putString_87 (by decide) ?_
                  obtain ⟨o14, hq15, hf⟩ := xbind hf
                  by_cases hk16 : o14.1 = 0
                  · rw [if_pos hk16] at hf
                    obtain ⟨hg17, hf⟩ := xifn hf
                    obtain ⟨hm18, hf⟩ := xmoE hf
                    have hFc := xm_free hD hS hA
                    refine va_callv (va_runV (C := "ValueBenchModel") (As := [.int 98]) (rest := []) ⟨hx, hb, hml, hown, htx⟩ (gM_put0 l hl9 D cT aK aV H.size n aM ad8 rd gd9 vad10 o3.2.2.2 (98 : Int32) o14 hq15 hk16) ⟨callB_of 1 htx (xw_goodC kw_6_136) rfl rfl rfl (htx _ kw_1_5) (htx _ kw_6_133) ⟨by decide, by decide, by decide +kernel⟩ ⟨Nat.le_of_ble_eq_true rfl, Nat.le_of_ble_eq_true rfl⟩, (htx _ kw_6_135), (htx _ kp_M_put0)⟩ ⟨xPre_blind, va_recv hK hP (ci := 5) rfl (q0 := 0) rfl, (fun U hU hW => ⟨rfl, xPre_of hZ hS hFc hP hD hK U hU hW⟩)⟩ rfl rfl hl.1 rfl (xm_room (Nat.le_of_ble_eq_true rfl)) dM_putString_89 ⟨hm18.1, hm18.2⟩) hS (fun q _ h => hFc q h) hFc (fun u9 t H1 locs ht hvm hr9 hB hz1 hk1 hS => ?_)
                    obtain ⟨hP1, hK1, hD1⟩ := hB
                    rw [ht] at hP1
                    obtain ⟨ad20, gd21, vad22⟩ := u9
                    obtain ⟨hv23, hn24⟩ := hr9
                    have hP : va_P D xcl (xMw cT aM ad20 rd gd21 vad22 o14.2.2.2 []) H1 := hP1
                    have hD : va_D A (xMw cT aM ad20 rd gd21 vad22 o14.2.2.2 []) := hD1.weaken (fun k q _ h => hFc q.1 h)
                    generalize H1 = H at hP hS ⊢
                    have hE9 : ∀ p, p < xct st → vad22 p = vad p := fun p h => (hv23 p (Nat.lt_of_lt_of_le h hN)).trans (hE p h)
                    have hE := hE9
                    have hN : xct st ≤ xct o14.2.2.2 := Nat.le_trans hN hn24
                    have ev25 : xv vad10 y1 = xv vad22 y1 := xvE hv23 hg17
                    have hl : lv_has ls 4 [(3, .int ((xba ws9 3) (((xpi ws9 2) (y1 - 1)) + y2).toNatClampNeg)), (2, .int y2), (0, .ref aM), (1, xv vad22 y1)] := by first | exact hl | ((try (rw [← ev25])); exact hl)
                    refine W.eq (g2 := F0 m 92 ls []) (by first | rfl | ((try (rw [ev25])); rfl)) ?_
                    refine lv_goto (tgt := 177) hx hb dM_putString_92 (by decide) ?_
                    refine lv_iinc (v := (y2 + 1)) (lv' := [(2, .int (y2 + 1)), (3, .int ((xba ws9 3) (((xpi ws9 2) (y1 - 1)) + y2).toNatClampNeg)), (0, .ref aM), (1, xv vad22 y1)]) hx hb dM_putString_177 hl (k := 1) rfl rfl (by decide) (by simp only [List.filter, xvcat, xrscat, xcI, xcL, xcR, xcN]; rfl) (fun ls hl => ?_)
                    refine lv_goto (tgt := 8) hx hb dM_putString_180 (by decide) ?_
                    exact ih (1, (y2 + 1), y1, o14.2.2.2, ((wc + o3.2.1) + o14.2.1), ((wn + o3.2.2.1) + o14.2.2.1)) _ _ ls (⟨ad20, gd21, vad22, rfl, hf, hP, hD, hS, lv_sub hl [0, 2, 3] rfl, hE, hN⟩)
                  rw [if_neg hk16] at hf
                  by_cases hk26 : o14.1 = 1
                  · rw [if_pos hk26] at hf
                    obtain ⟨hg27, hf⟩ := xifn hf
                    obtain ⟨hm28, hf⟩ := xmoE hf
                    obtain rfl := Option.some.inj hf
                    exact absurd (show (1 : Nat) = 0 from hkd) (by decide)
                  rw [if_neg hk26] at hf
                  exact nomatch hf
              rw [if_neg hk5] at hf
              by_cases hk14 : o3.1 = 1
              · rw [if_pos hk14] at hf
                obtain ⟨hm15, hf⟩ := xmoE hf
                obtain rfl := Option.some.inj hf
                exact absurd (show (1 : Nat) = 0 from hkd) (by decide)
              rw [if_neg hk14] at hf
              exact nomatch hf
            · rw [if_neg hc] at hf
              refine lv_aload_n hx hb dM_putString_66 rfl (lv_at hl 2 rfl) ?_
              refine lv_iload_n hx hb dM_putString_67 rfl (lv_at hl 0 rfl) ?_
              obtain ⟨o3, hq4, hf⟩ := xbind hf
              by_cases hk5 : o3.1 = 0
              · rw [if_pos hk5] at hf
                obtain ⟨hm6, hf⟩ := xmoE hf
                have hFc := xm_free hD hS hA
                refine va_callv (va_runV (C := "ValueBenchModel") (As := [.int ((xba ws9 3) (((xpi ws9 2) (y1 - 1)) + y2).toNatClampNeg)]) (rest := []) ⟨hx, hb, hml, hown, htx⟩ (gM_put0 l hl9 D cT aK aV H.size n aM adL rd gdL vadL ws9 ((xba ws9 3) (((xpi ws9 2) (y1 - 1)) + y2).toNatClampNeg) o3 hq4 hk5) ⟨callB_of 1 htx (xw_goodC kw_6_136) rfl rfl rfl (htx _ kw_1_5) (htx _ kw_6_133) ⟨by decide, by decide, by decide +kernel⟩ ⟨Nat.le_of_ble_eq_true rfl, Nat.le_of_ble_eq_true rfl⟩, (htx _ kw_6_135), (htx _ kp_M_put0)⟩ ⟨xPre_blind, va_recv hK hP (ci := 5) rfl (q0 := 0) rfl, (fun U hU hW => ⟨rfl, xPre_of hZ hS hFc hP hD hK U hU hW⟩)⟩ rfl rfl hl.1 rfl (xm_room (Nat.le_of_ble_eq_true rfl)) dM_putString_68 ⟨hm6.1, hm6.2⟩) hS (fun q _ h => hFc q h) hFc (fun u9 t H1 locs ht hvm hr9 hB hz1 hk1 hS => ?_)
                obtain ⟨hP1, hK1, hD1⟩ := hB
                rw [ht] at hP1
                obtain ⟨ad8, gd9, vad10⟩ := u9
                obtain ⟨hv11, hn12⟩ := hr9
                have hP : va_P D xcl (xMw cT aM ad8 rd gd9 vad10 o3.2.2.2 []) H1 := hP1
                have hD : va_D A (xMw cT aM ad8 rd gd9 vad10 o3.2.2.2 []) := hD1.weaken (fun k q _ h => hFc q.1 h)
                generalize H1 = H at hP hS ⊢
                have hE9 : ∀ p, p < xct st → vad10 p = vad p := fun p h => (hv11 p (Nat.lt_of_lt_of_le h hN)).trans (hE p h)
                have hE := hE9
                have hN : xct st ≤ xct o3.2.2.2 := Nat.le_trans hN hn12
                have ev13 : xv vadL y1 = xv vad10 y1 := xvE hv11 (fun h => hg1 (Or.inr h))
                have hl : lv_has ls 4 [(3, .int ((xba ws9 3) (((xpi ws9 2) (y1 - 1)) + y2).toNatClampNeg)), (2, .int y2), (0, .ref aM), (1, xv vad10 y1)] := by first | exact hl | ((try (rw [← ev13])); exact hl)
                refine W.eq (g2 := F0 m 71 ls []) (by first | rfl | ((try (rw [ev13])); rfl)) ?_
                refine lv_goto (tgt := 177) hx hb dM_putString_71 (by decide) ?_
                refine lv_iinc (v := (y2 + 1)) (lv' := [(2, .int (y2 + 1)), (3, .int ((xba ws9 3) (((xpi ws9 2) (y1 - 1)) + y2).toNatClampNeg)), (0, .ref aM), (1, xv vad10 y1)]) hx hb dM_putString_177 hl (k := 1) rfl rfl (by decide) (by simp only [List.filter, xvcat, xrscat, xcI, xcL, xcR, xcN]; rfl) (fun ls hl => ?_)
                refine lv_goto (tgt := 8) hx hb dM_putString_180 (by decide) ?_
                exact ih (1, (y2 + 1), y1, o3.2.2.2, (wc + o3.2.1), (wn + o3.2.2.1)) _ _ ls (⟨ad8, gd9, vad10, rfl, hf, hP, hD, hS, lv_sub hl [0, 2, 3] rfl, hE, hN⟩)
              rw [if_neg hk5] at hf
              by_cases hk14 : o3.1 = 1
              · rw [if_pos hk14] at hf
                obtain ⟨hm15, hf⟩ := xmoE hf
                obtain rfl := Option.some.inj hf
                exact absurd (show (1 : Nat) = 0 from hkd) (by decide)
              rw [if_neg hk14] at hf
              exact nomatch hf
        · rw [if_pos hc] at hf
          refine lv_aload_n hx hb dM_putString_40 rfl (lv_at hl 2 rfl) ?_
          refine lv_bipush (v := 92) hx hb dM_putString_41 (by decide) ?_
          obtain ⟨o3, hq4, hf⟩ := xbind hf
          by_cases hk5 : o3.1 = 0
          · rw [if_pos hk5] at hf
            obtain ⟨hm6, hf⟩ := xmoE hf
            have hFc := xm_free hD hS hA
            refine va_callv (va_runV (C := "ValueBenchModel") (As := [.int 92]) (rest := []) ⟨hx, hb, hml, hown, htx⟩ (gM_put0 l hl9 D cT aK aV H.size n aM adL rd gdL vadL ws9 (92 : Int32) o3 hq4 hk5) ⟨callB_of 1 htx (xw_goodC kw_6_136) rfl rfl rfl (htx _ kw_1_5) (htx _ kw_6_133) ⟨by decide, by decide, by decide +kernel⟩ ⟨Nat.le_of_ble_eq_true rfl, Nat.le_of_ble_eq_true rfl⟩, (htx _ kw_6_135), (htx _ kp_M_put0)⟩ ⟨xPre_blind, va_recv hK hP (ci := 5) rfl (q0 := 0) rfl, (fun U hU hW => ⟨rfl, xPre_of hZ hS hFc hP hD hK U hU hW⟩)⟩ rfl rfl hl.1 rfl (xm_room (Nat.le_of_ble_eq_true rfl)) dM_putString_43 ⟨hm6.1, hm6.2⟩) hS (fun q _ h => hFc q h) hFc (fun u9 t H1 locs ht hvm hr9 hB hz1 hk1 hS => ?_)
            obtain ⟨hP1, hK1, hD1⟩ := hB
            rw [ht] at hP1
            obtain ⟨ad8, gd9, vad10⟩ := u9
            obtain ⟨hv11, hn12⟩ := hr9
            have hP : va_P D xcl (xMw cT aM ad8 rd gd9 vad10 o3.2.2.2 []) H1 := hP1
            have hD : va_D A (xMw cT aM ad8 rd gd9 vad10 o3.2.2.2 []) := hD1.weaken (fun k q _ h => hFc q.1 h)
            generalize H1 = H at hP hS ⊢
            have hE9 : ∀ p, p < xct st → vad10 p = vad p := fun p h => (hv11 p (Nat.lt_of_lt_of_le h hN)).trans (hE p h)
            have hE := hE9
            have hN : xct st ≤ xct o3.2.2.2 := Nat.le_trans hN hn12
            have ev13 : xv vadL y1 = xv vad10 y1 := xvE hv11 (fun h => hg1 (Or.inr h))
            have hl : lv_has ls 4 [(3, .int ((xba ws9 3) (((xpi ws9 2) (y1 - 1)) + y2).toNatClampNeg)), (2, .int y2), (0, .ref aM), (1, xv vad10 y1)] := by first | exact hl | ((try (rw [← ev13])); exact hl)
            refine W.eq (g2 := F0 m 46 ls []) (by first | rfl | ((try (rw [ev13])); rfl)) ?_
            refine lv_aload_n hx hb dM_putString_46 rfl (lv_at hl 2 rfl) ?_
            refine lv_iload_n hx hb dM_putString_47 rfl (lv_at hl 0 rfl) ?_
            obtain ⟨o14, hq15, hf⟩ := xbind hf
            by_cases hk16 : o14.1 = 0
            · rw [if_pos hk16] at hf
              obtain ⟨hg17, hf⟩ := xifn hf
              obtain ⟨hm18, hf⟩ := xmoE hf
              have hFc := xm_free hD hS hA
              refine va_callv (va_runV (C := "ValueBenchModel") (As := [.int ((xba ws9 3) (((xpi ws9 2) (y1 - 1)) + y2).toNatClampNeg)]) (rest := []) ⟨hx, hb, hml, hown, htx⟩ (gM_put0 l hl9 D cT aK aV H.size n aM ad8 rd gd9 vad10 o3.2.2.2 ((xba ws9 3) (((xpi ws9 2) (y1 - 1)) + y2).toNatClampNeg) o14 hq15 hk16) ⟨callB_of 1 htx (xw_goodC kw_6_136) rfl rfl rfl (htx _ kw_1_5) (htx _ kw_6_133) ⟨by decide, by decide, by decide +kernel⟩ ⟨Nat.le_of_ble_eq_true rfl, Nat.le_of_ble_eq_true rfl⟩, (htx _ kw_6_135), (htx _ kp_M_put0)⟩ ⟨xPre_blind, va_recv hK hP (ci := 5) rfl (q0 := 0) rfl, (fun U hU hW => ⟨rfl, xPre_of hZ hS hFc hP hD hK U hU hW⟩)⟩ rfl rfl hl.1 rfl (xm_room (Nat.le_of_ble_eq_true rfl)) dM_putString_48 ⟨hm18.1, hm18.2⟩) hS (fun q _ h => hFc q h) hFc (fun u9 t H1 locs ht hvm hr9 hB hz1 hk1 hS => ?_)
              obtain ⟨hP1, hK1, hD1⟩ := hB
              rw [ht] at hP1
              obtain ⟨ad20, gd21, vad22⟩ := u9
              obtain ⟨hv23, hn24⟩ := hr9
              have hP : va_P D xcl (xMw cT aM ad20 rd gd21 vad22 o14.2.2.2 []) H1 := hP1
              have hD : va_D A (xMw cT aM ad20 rd gd21 vad22 o14.2.2.2 []) := hD1.weaken (fun k q _ h => hFc q.1 h)
              generalize H1 = H at hP hS ⊢
              have hE9 : ∀ p, p < xct st → vad22 p = vad p := fun p h => (hv23 p (Nat.lt_of_lt_of_le h hN)).trans (hE p h)
              have hE := hE9
              have hN : xct st ≤ xct o14.2.2.2 := Nat.le_trans hN hn24
              have ev25 : xv vad10 y1 = xv vad22 y1 := xvE hv23 hg17
              have hl : lv_has ls 4 [(3, .int ((xba ws9 3) (((xpi ws9 2) (y1 - 1)) + y2).toNatClampNeg)), (2, .int y2), (0, .ref aM), (1, xv vad22 y1)] := by first | exact hl | ((try (rw [← ev25])); exact hl)
              refine W.eq (g2 := F0 m 51 ls []) (by first | rfl | ((try (rw [ev25])); rfl)) ?_
              refine lv_goto (tgt := 177) hx hb dM_putString_51 (by decide) ?_
              refine lv_iinc (v := (y2 + 1)) (lv' := [(2, .int (y2 + 1)), (3, .int ((xba ws9 3) (((xpi ws9 2) (y1 - 1)) + y2).toNatClampNeg)), (0, .ref aM), (1, xv vad22 y1)]) hx hb dM_putString_177 hl (k := 1) rfl rfl (by decide) (by simp only [List.filter, xvcat, xrscat, xcI, xcL, xcR, xcN]; rfl) (fun ls hl => ?_)
              refine lv_goto (tgt := 8) hx hb dM_putString_180 (by decide) ?_
              exact ih (1, (y2 + 1), y1, o14.2.2.2, ((wc + o3.2.1) + o14.2.1), ((wn + o3.2.2.1) + o14.2.2.1)) _ _ ls (⟨ad20, gd21, vad22, rfl, hf, hP, hD, hS, lv_sub hl [0, 2, 3] rfl, hE, hN⟩)
            rw [if_neg hk16] at hf
            by_cases hk26 : o14.1 = 1
            · rw [if_pos hk26] at hf
              obtain ⟨hg27, hf⟩ := xifn hf
              obtain ⟨hm28, hf⟩ := xmoE hf
              obtain rfl := Option.some.inj hf
              exact absurd (show (1 : Nat) = 0 from hkd) (by decide)
            rw [if_neg hk26] at hf
            exact nomatch hf
          rw [if_neg hk5] at hf
          by_cases hk36 : o3.1 = 1
          · rw [if_pos hk36] at hf
            obtain ⟨hm37, hf⟩ := xmoE hf
            obtain rfl := Option.some.inj hf
            exact absurd (show (1 : Nat) = 0 from hkd) (by decide)
          rw [if_neg hk36] at hf
          exact nomatch hf
  refine lv_aload_n hx hb dM_putString_0 rfl (lv_at hl 0 rfl) ?_
  refine lv_bipush (v := 34) hx hb dM_putString_1 (by decide) ?_
  obtain ⟨o1, hq2, hf⟩ := xbind hf
  by_cases hk3 : o1.1 = 0
  · rw [if_pos hk3] at hf
    obtain ⟨hg4, hf⟩ := xifn hf
    obtain ⟨hm5, hf⟩ := xmoE hf
    have hFc := xm_free hD hS hA
    refine va_callv (va_runV (C := "ValueBenchModel") (As := [.int 34]) (rest := []) ⟨hx, hb, hml, hown, htx⟩ (gM_put0 l hl9 D cT aK aV s.heap.size n aM ad rd gd vad st (34 : Int32) o1 hq2 hk3) ⟨callB_of 1 htx (xw_goodC kw_6_136) rfl rfl rfl (htx _ kw_1_5) (htx _ kw_6_133) ⟨by decide, by decide, by decide +kernel⟩ ⟨Nat.le_of_ble_eq_true rfl, Nat.le_of_ble_eq_true rfl⟩, (htx _ kw_6_135), (htx _ kp_M_put0)⟩ ⟨xPre_blind, va_recv hK hP (ci := 5) rfl (q0 := 0) rfl, (fun U hU hW => ⟨rfl, xPre_of hZ hS hFc hP hD hK U hU hW⟩)⟩ rfl rfl hl.1 rfl (xm_room (Nat.le_of_ble_eq_true rfl)) dM_putString_3 ⟨hm5.1, hm5.2⟩) hS (fun q _ h => hFc q h) hFc (fun u9 t H1 locs ht hvm hr9 hB hz1 hk1 hS => ?_)
    obtain ⟨hP1, hK1, hD1⟩ := hB
    rw [ht] at hP1
    obtain ⟨ad7, gd8, vad9⟩ := u9
    obtain ⟨hv10, hn11⟩ := hr9
    have hP : va_P D xcl (xMw cT aM ad7 rd gd8 vad9 o1.2.2.2 []) H1 := hP1
    have hD : va_D A (xMw cT aM ad7 rd gd8 vad9 o1.2.2.2 []) := hD1.weaken (fun k q _ h => hFc q.1 h)
    generalize H1 = H at hP hS ⊢
    have hE9 : ∀ p, p < xct st → vad9 p = vad p := fun p h => (hv10 p (Nat.lt_of_lt_of_le h hN)).trans (hE p h)
    have hE := hE9
    have hN : xct st ≤ xct o1.2.2.2 := Nat.le_trans hN hn11
    have ev12 : xv vad c0 = xv vad9 c0 := xvE hv10 hg4
    have hl : lv_has ls 4 [(0, .ref aM), (1, xv vad9 c0)] := by first | exact hl | ((try (rw [← ev12])); exact hl)
    refine W.eq (g2 := F0 m 6 ls []) (by first | rfl | ((try (rw [ev12])); rfl)) ?_
    refine lv_iconst (v := 0) hx hb dM_putString_6 (by decide) ?_
    refine lv_istore_n (lv' := [(2, .int 0), (0, .ref aM), (1, xv vad9 c0)]) hx hb dM_putString_7 rfl hl (by decide) (by simp only [List.filter, xvcat, xrscat, xcI, xcL, xcR, xcN]; rfl) (fun ls hl => ?_)
    exact key n (1, (0 : Int32), c0, o1.2.2.2, (0 + o1.2.1), (0 + o1.2.2.1)) _ _ ls (⟨ad7, gd8, vad9, rfl, hf, hP, hD, hS, lv_sub hl [0, 1, 2] rfl, hE, hN⟩)
  rw [if_neg hk3] at hf
  by_cases hk13 : o1.1 = 1
  · rw [if_pos hk13] at hf
    obtain ⟨hg14, hf⟩ := xifn hf
    obtain ⟨hm15, hf⟩ := xmoE hf
    obtain rfl := Option.some.inj hf
    exact absurd (show (1 : Nat) = 0 from hkd) (by decide)
  rw [if_neg hk13] at hf
  exact nomatch hf
set_option maxHeartbeats 400000000 in
set_option maxRecDepth 100000 in
theorem gM_putString_1 (l : Launch) (hl9 : l.stackTraces = false) (D : va_G) (cT : Nat → ClassId) (aK aV : Nat → Nat) (sz n : Nat) (aM : Nat) (ad rd gd vad : Nat → Nat) (st : xS) (c0 : Nat) (out : Nat × Nat × Nat × xS) (hf : fM_putString n st c0 = some out) (hkd : out.1 = 1) : xMetY l yM_putString wyM_putString 8 out.2.1 out.2.2.1 145 D cT aK aV sz [.ref aM, xv vad c0] (xMw cT aM ad rd gd vad st []) "java/lang/IndexOutOfBoundsException" (fun u => xE vad st out.2.2.2 u) (fun A u t => xB D xcl cT A (xMw cT aM u.1 rd u.2.1 u.2.2 out.2.2.2 []) t) := by
  refine vx_ofW (cc := prog_13_method_45_code) (maxL := 4) (ret := none) (by decide) rfl ?_
  intro p e s m args below meth c s₁ B hml hne hv
  obtain ⟨rfl, hsz, hZ, hP, hK, hD0⟩ := hv
  have hx := B.exec
  have hb := B.bytes
  have hr := B.returns
  have hts := atoms_spec (ws := wyM_putString) B.pre
  have htx := fun w h => hts w (List.mem_cons_of_mem _ h)
  have hown : s.vm.findClass "ValueBenchModel" = some m.cls := findClass_of_methodNamed B.named
  have hlocks := B.notSynchronized
  subst hsz
  have hD := hD0.self (sz := s.heap.size)
  generalize hAe : va_A (xMw cT aM ad rd gd vad st []) s.heap.size = A at hD hZ ⊢
  have hA : ∀ q : Nat, s.heap.size ≤ q → A q := fun q h => by rw [← hAe]; exact Or.inr h
  have hS : va_S A s.heap s.heap [] := va_S.rf
  have hl := lv_entry ([.ref aM, xv vad c0]) (n := 4) (by simp [lg_sl, xvcat, xrscat, xcI, xcL, xcR, xcN])
  rw [show lv_args 0 [.ref aM, xv vad c0] = [(0, .ref aM), (1, xv vad c0)] from by simp [lv_args, xvcat, xrscat, xcI, xcL, xcR, xcN]] at hl
  rw [lg_entry_eq]
  generalize (lg_sl ([.ref aM, xv vad c0]) ++ List.replicate (4 - (lg_sl ([.ref aM, xv vad c0])).length) Slot.unset).toArray = ls at hl ⊢
  have hl : lv_has ls 4 [(0, .ref aM), (1, xv vad c0)] := hl
  have hE : ∀ p, p < xct st → vad p = vad p := fun _ _ => rfl
  have hN : xct st ≤ xct st := Nat.le_refl _
  unfold fM_putString at hf
  refine xloopM (σ := Nat × Int32 × Nat × xS × Nat × Nat) (fun n x H locs ls => (∃ (adL gdL vadL : Nat → Nat), x.1 = 1 ∧ fM_putString_b n x.1 x.2.1 x.2.2.1 x.2.2.2.1 x.2.2.2.2.1 x.2.2.2.2.2 = some out ∧ va_P D xcl (xMw cT aM adL rd gdL vadL x.2.2.2.1 []) H ∧ va_D A (xMw cT aM adL rd gdL vadL x.2.2.2.1 []) ∧ va_S A s.heap H locs ∧ lv_has ls 4 [(2, .int x.2.1), (0, .ref aM), (1, xv vadL x.2.2.1)] ∧ (∀ p, p < xct st → vadL p = vad p) ∧ xct st ≤ xct x.2.2.2.1)) (fun x => 8) (fun x => x.2.2.2.2.1) (fun x => x.2.2.2.2.2) (fun x H locs ls h => by (obtain ⟨_, _, _, h⟩ := h; exact absurd h.2.1 (by rw [fM_putString_b]; exact fun h => nomatch h))) (fun n ih x H locs ls hv => ?_) (fun key => ?_)
  · obtain ⟨lb, y2, y1, ws9, wc, wn⟩ := x
    rcases hv with ⟨adL, gdL, vadL, hj, hf, hP, hD, hS, hl, hE, hN⟩
    subst hj
    have hf : fM_putString_b (n + 1) 1 y2 y1 ws9 wc wn = some out := hf
    rw [fM_putString_b] at hf
    obtain ⟨hP, hD⟩ : xPD D xcl A (xMw cT aM adL rd gdL vadL ws9 []) H := ⟨hP, hD⟩
    have hl : lv_has ls 4 [(2, .int y2), (0, .ref aM), (1, xv vadL y1)] := hl
    refine W.eq (g2 := F0 m 8 ls []) rfl ?_
    show W p l e _ s m _ below meth c H locs wc wn _ _
    obtain ⟨hm0, hf⟩ := xmoE hf
    refine lv_iload_n hx hb dM_putString_8 rfl (lv_at hl 0 rfl) ?_
    refine xm_aload_n hx hb (xvor _ _) dM_putString_9 rfl (lv_at hl 2 rfl) ?_
    obtain ⟨hg1, hf⟩ := xifn hf
    refine xm_vget (v := .int ((xpi ws9 3) (y1 - 1))) hx hb htx hown hK hP 3 (by decide) hg1 rfl ((hZ.1 (103, "count", "I") (List.mem_of_getElem? (i := 3) rfl)).use rfl) rfl dM_putString_10 ?_
    refine lv_icmp_ge (tgt := 183) hx hb dM_putString_13 (by decide) (fun hc => ?_) (fun hc => ?_)
    · rw [if_pos hc] at hf
      refine lv_aload_n hx hb dM_putString_183 rfl (lv_at hl 1 rfl) ?_
      refine lv_bipush (v := 34) hx hb dM_putString_184 (by decide) ?_
      obtain ⟨o2, hq3, hf⟩ := xbind hf
      have hl := lv_sub (l' := [(2, .int y2), (0, .ref aM)]) hl [0, 1] rfl
      by_cases hk4 : o2.1 = 0
      · rw [if_pos hk4] at hf
        obtain ⟨hm5, hf⟩ := xmoE hf
        have hFc := xm_free hD hS hA
        refine va_callv (va_runV (C := "ValueBenchModel") (As := [.int 34]) (rest := []) ⟨hx, hb, hml, hown, htx⟩ (gM_put0 l hl9 D cT aK aV H.size n aM adL rd gdL vadL ws9 (34 : Int32) o2 hq3 hk4) ⟨callB_of 1 htx (xw_goodC kw_6_136) rfl rfl rfl (htx _ kw_1_5) (htx _ kw_6_133) ⟨by decide, by decide, by decide +kernel⟩ ⟨Nat.le_of_ble_eq_true rfl, Nat.le_of_ble_eq_true rfl⟩, (htx _ kw_6_135), (htx _ kp_M_put0)⟩ ⟨xPre_blind, va_recv hK hP (ci := 5) rfl (q0 := 0) rfl, (fun U hU hW => ⟨rfl, xPre_of hZ hS hFc hP hD hK U hU hW⟩)⟩ rfl rfl hl.1 rfl (xm_room (Nat.le_of_ble_eq_true rfl)) dM_putString_186 ⟨hm5.1, hm5.2⟩) hS (fun q _ h => hFc q h) hFc (fun u9 t H1 locs ht hvm hr9 hB hz1 hk1 hS => ?_)
        obtain ⟨hP1, hK1, hD1⟩ := hB
        rw [ht] at hP1
        obtain ⟨ad7, gd8, vad9⟩ := u9
        obtain ⟨hv10, hn11⟩ := hr9
        have hP : va_P D xcl (xMw cT aM ad7 rd gd8 vad9 o2.2.2.2 []) H1 := hP1
        have hD : va_D A (xMw cT aM ad7 rd gd8 vad9 o2.2.2.2 []) := hD1.weaken (fun k q _ h => hFc q.1 h)
        generalize H1 = H at hP hS ⊢
        have hE9 : ∀ p, p < xct st → vad9 p = vad p := fun p h => (hv10 p (Nat.lt_of_lt_of_le h hN)).trans (hE p h)
        have hE := hE9
        have hN : xct st ≤ xct o2.2.2.2 := Nat.le_trans hN hn11
        refine W.eq (g2 := F0 m 189 ls []) (by first | rfl | (skip; rfl)) ?_
        obtain rfl := Option.some.inj hf
        exact absurd (show (0 : Nat) = 1 from hkd) (by decide)
      rw [if_neg hk4] at hf
      by_cases hk12 : o2.1 = 1
      · rw [if_pos hk12] at hf
        obtain ⟨hm13, hf⟩ := xmoE hf
        have hFc := xm_free hD hS hA
        refine xx_thr (vx_runV (C := "ValueBenchModel") (As := [.int 34]) (rest := []) ⟨hx, hb, hml, hown, htx⟩ (gM_put0_1 l hl9 D cT aK aV H.size n aM adL rd gdL vadL ws9 (34 : Int32) o2 hq3 hk12) ⟨callB_of 1 htx (xw_goodC kw_6_136) rfl rfl rfl (htx _ kw_1_5) (htx _ kw_6_133) ⟨by decide, by decide, by decide +kernel⟩ ⟨Nat.le_of_ble_eq_true rfl, Nat.le_of_ble_eq_true rfl⟩, (htx _ kw_6_135), (htx _ kp_M_put0)⟩ ⟨xPre_blind, va_recv hK hP (ci := 5) rfl (q0 := 0) rfl, (fun U hU hW => ⟨rfl, xPre_of hZ hS hFc hP hD hK U hU hW⟩)⟩ rfl rfl hl.1 rfl (xm_room (Nat.le_of_ble_eq_true rfl)) dM_putString_186 ⟨hm13.1, hm13.2⟩) hS hFc (fun q _ h => hFc q h) (fun E ce q9 u9 t H1 locs ht hvm hr9 hB hz1 hk1 hS hce hcv hcl => ?_)
        obtain ⟨rfl, hP1, hK1, hD1⟩ := hB
        rw [ht] at hP1
        obtain ⟨ad15, gd16, vad17⟩ := u9
        obtain ⟨hv18, hn19⟩ := hr9
        have hP : va_P D xcl (xMw cT aM ad15 rd gd16 vad17 o2.2.2.2 []) H1 := hP1
        have hD : va_D A (xMw cT aM ad15 rd gd16 vad17 o2.2.2.2 []) := hD1.weaken (fun k q _ h => hFc q.1 h)
        generalize H1 = H at hP hS hce ⊢
        have hE9 : ∀ p, p < xct st → vad17 p = vad p := fun p h => (hv18 p (Nat.lt_of_lt_of_le h hN)).trans (hE p h)
        have hE := hE9
        have hN : xct st ≤ xct o2.2.2.2 := Nat.le_trans hN hn19
        obtain rfl := Option.some.inj hf
        exact vx_out (E := "java/lang/IndexOutOfBoundsException") (fun x h => (hne x h).elim) hlocks hce hcv hcl (fun t ht ha => ⟨(ad15, gd16, vad17), ⟨hE, hN⟩, ⟨rfl, by rw [ht]; exact hP, va_K.moved ha hK, hD⟩, hS.F ht⟩) hS.2.2 (Nat.le_refl _) (Nat.le_refl _)
      rw [if_neg hk12] at hf
      exact nomatch hf
    · rw [if_neg hc] at hf
      refine lv_aload_n hx hb dM_putString_16 rfl (lv_at hl 1 rfl) ?_
      refine xm_get (v := .ref (adL 3)) hx hb htx hown hK hP 3 (by decide) rfl (htx _ kw_5_90) rfl dM_putString_17 ?_
      refine xm_aload_n hx hb (xvor _ _) dM_putString_20 rfl (lv_at hl 2 rfl) ?_
      refine xm_vget (v := .int ((xpi ws9 2) (y1 - 1))) hx hb htx hown hK hP 2 (by decide) hg1 rfl ((hZ.1 (100, "off", "I") (List.mem_of_getElem? (i := 2) rfl)).use rfl) rfl dM_putString_21 ?_
      refine lv_iload_n hx hb dM_putString_24 rfl (lv_at hl 0 rfl) ?_
      refine lv_iadd hx hb dM_putString_25 ?_
      obtain ⟨hg2, hf⟩ := xifn hf
      refine va_bald hx hb hK hP 2 0 rfl rfl hg2 dM_putString_26 ?_
      refine W.eq (g2 := F0 m 27 ls [.int ((xba ws9 3) (((xpi ws9 2) (y1 - 1)) + y2).toNatClampNeg)]) rfl ?_
      refine lv_istore_n (lv' := [(3, .int ((xba ws9 3) (((xpi ws9 2) (y1 - 1)) + y2).toNatClampNeg)), (2, .int y2), (0, .ref aM), (1, xv vadL y1)]) hx hb dM_putString_27 rfl hl (by decide) rfl (fun ls hl => ?_)
      refine lv_iload_n hx hb dM_putString_28 rfl (lv_at hl 0 rfl) ?_
      refine lv_bipush (v := 34) hx hb dM_putString_29 (by decide) ?_
      refine lv_icmp_eq (tgt := 40) hx hb dM_putString_31 (by decide) (fun hc => ?_) (fun hc => ?_)
      · rw [if_pos hc] at hf
        refine lv_aload_n hx hb dM_putString_40 rfl (lv_at hl 2 rfl) ?_
        refine lv_bipush (v := 92) hx hb dM_putString_41 (by decide) ?_
        obtain ⟨o3, hq4, hf⟩ := xbind hf
        by_cases hk5 : o3.1 = 0
        · rw [if_pos hk5] at hf
          obtain ⟨hm6, hf⟩ := xmoE hf
          have hFc := xm_free hD hS hA
          refine va_callv (va_runV (C := "ValueBenchModel") (As := [.int 92]) (rest := []) ⟨hx, hb, hml, hown, htx⟩ (gM_put0 l hl9 D cT aK aV H.size n aM adL rd gdL vadL ws9 (92 : Int32) o3 hq4 hk5) ⟨callB_of 1 htx (xw_goodC kw_6_136) rfl rfl rfl (htx _ kw_1_5) (htx _ kw_6_133) ⟨by decide, by decide, by decide +kernel⟩ ⟨Nat.le_of_ble_eq_true rfl, Nat.le_of_ble_eq_true rfl⟩, (htx _ kw_6_135), (htx _ kp_M_put0)⟩ ⟨xPre_blind, va_recv hK hP (ci := 5) rfl (q0 := 0) rfl, (fun U hU hW => ⟨rfl, xPre_of hZ hS hFc hP hD hK U hU hW⟩)⟩ rfl rfl hl.1 rfl (xm_room (Nat.le_of_ble_eq_true rfl)) dM_putString_43 ⟨hm6.1, hm6.2⟩) hS (fun q _ h => hFc q h) hFc (fun u9 t H1 locs ht hvm hr9 hB hz1 hk1 hS => ?_)
          obtain ⟨hP1, hK1, hD1⟩ := hB
          rw [ht] at hP1
          obtain ⟨ad8, gd9, vad10⟩ := u9
          obtain ⟨hv11, hn12⟩ := hr9
          have hP : va_P D xcl (xMw cT aM ad8 rd gd9 vad10 o3.2.2.2 []) H1 := hP1
          have hD : va_D A (xMw cT aM ad8 rd gd9 vad10 o3.2.2.2 []) := hD1.weaken (fun k q _ h => hFc q.1 h)
          generalize H1 = H at hP hS ⊢
          have hE9 : ∀ p, p < xct st → vad10 p = vad p := fun p h => (hv11 p (Nat.lt_of_lt_of_le h hN)).trans (hE p h)
          have hE := hE9
          have hN : xct st ≤ xct o3.2.2.2 := Nat.le_trans hN hn12
          have ev13 : xv vadL y1 = xv vad10 y1 := xvE hv11 (fun h => hg1 (Or.inr h))
          have hl : lv_has ls 4 [(3, .int ((xba ws9 3) (((xpi ws9 2) (y1 - 1)) + y2).toNatClampNeg)), (2, .int y2), (0, .ref aM), (1, xv vad10 y1)] := by first | exact hl | ((try (rw [← ev13])); exact hl)
          refine W.eq (g2 := F0 m 46 ls []) (by first | rfl | ((try (rw [ev13])); rfl)) ?_
          refine lv_aload_n hx hb dM_putString_46 rfl (lv_at hl 2 rfl) ?_
          refine lv_iload_n hx hb dM_putString_47 rfl (lv_at hl 0 rfl) ?_
          obtain ⟨o14, hq15, hf⟩ := xbind hf
          by_cases hk16 : o14.1 = 0
          · rw [if_pos hk16] at hf
            obtain ⟨hg17, hf⟩ := xifn hf
            obtain ⟨hm18, hf⟩ := xmoE hf
            have hFc := xm_free hD hS hA
            refine va_callv (va_runV (C := "ValueBenchModel") (As := [.int ((xba ws9 3) (((xpi ws9 2) (y1 - 1)) + y2).toNatClampNeg)]) (rest := []) ⟨hx, hb, hml, hown, htx⟩ (gM_put0 l hl9 D cT aK aV H.size n aM ad8 rd gd9 vad10 o3.2.2.2 ((xba ws9 3) (((xpi ws9 2) (y1 - 1)) + y2).toNatClampNeg) o14 hq15 hk16) ⟨callB_of 1 htx (xw_goodC kw_6_136) rfl rfl rfl (htx _ kw_1_5) (htx _ kw_6_133) ⟨by decide, by decide, by decide +kernel⟩ ⟨Nat.le_of_ble_eq_true rfl, Nat.le_of_ble_eq_true rfl⟩, (htx _ kw_6_135), (htx _ kp_M_put0)⟩ ⟨xPre_blind, va_recv hK hP (ci := 5) rfl (q0 := 0) rfl, (fun U hU hW => ⟨rfl, xPre_of hZ hS hFc hP hD hK U hU hW⟩)⟩ rfl rfl hl.1 rfl (xm_room (Nat.le_of_ble_eq_true rfl)) dM_putString_48 ⟨hm18.1, hm18.2⟩) hS (fun q _ h => hFc q h) hFc (fun u9 t H1 locs ht hvm hr9 hB hz1 hk1 hS => ?_)
            obtain ⟨hP1, hK1, hD1⟩ := hB
            rw [ht] at hP1
            obtain ⟨ad20, gd21, vad22⟩ := u9
            obtain ⟨hv23, hn24⟩ := hr9
            have hP : va_P D xcl (xMw cT aM ad20 rd gd21 vad22 o14.2.2.2 []) H1 := hP1
            have hD : va_D A (xMw cT aM ad20 rd gd21 vad22 o14.2.2.2 []) := hD1.weaken (fun k q _ h => hFc q.1 h)
            generalize H1 = H at hP hS ⊢
            have hE9 : ∀ p, p < xct st → vad22 p = vad p := fun p h => (hv23 p (Nat.lt_of_lt_of_le h hN)).trans (hE p h)
            have hE := hE9
            have hN : xct st ≤ xct o14.2.2.2 := Nat.le_trans hN hn24
            have ev25 : xv vad10 y1 = xv vad22 y1 := xvE hv23 hg17
            have hl : lv_has ls 4 [(3, .int ((xba ws9 3) (((xpi ws9 2) (y1 - 1)) + y2).toNatClampNeg)), (2, .int y2), (0, .ref aM), (1, xv vad22 y1)] := by first | exact hl | ((try (rw [← ev25])); exact hl)
            refine W.eq (g2 := F0 m 51 ls []) (by first | rfl | ((try (rw [ev25])); rfl)) ?_
            refine lv_goto (tgt := 177) hx hb dM_putString_51 (by decide) ?_
            refine lv_iinc (v := (y2 + 1)) (lv' := [(2, .int (y2 + 1)), (3, .int ((xba ws9 3) (((xpi ws9 2) (y1 - 1)) + y2).toNatClampNeg)), (0, .ref aM), (1, xv vad22 y1)]) hx hb dM_putString_177 hl (k := 1) rfl rfl (by decide) (by simp only [List.filter, xvcat, xrscat, xcI, xcL, xcR, xcN]; rfl) (fun ls hl => ?_)
            refine lv_goto (tgt := 8) hx hb dM_putString_180 (by decide) ?_
            exact ih (1, (y2 + 1), y1, o14.2.2.2, ((wc + o3.2.1) + o14.2.1), ((wn + o3.2.2.1) + o14.2.2.1)) _ _ ls (⟨ad20, gd21, vad22, rfl, hf, hP, hD, hS, lv_sub hl [0, 2, 3] rfl, hE, hN⟩)
          rw [if_neg hk16] at hf
          by_cases hk26 : o14.1 = 1
          · rw [if_pos hk26] at hf
            obtain ⟨hg27, hf⟩ := xifn hf
            obtain ⟨hm28, hf⟩ := xmoE hf
            have hFc := xm_free hD hS hA
            refine xx_thr (vx_runV (C := "ValueBenchModel") (As := [.int ((xba ws9 3) (((xpi ws9 2) (y1 - 1)) + y2).toNatClampNeg)]) (rest := []) ⟨hx, hb, hml, hown, htx⟩ (gM_put0_1 l hl9 D cT aK aV H.size n aM ad8 rd gd9 vad10 o3.2.2.2 ((xba ws9 3) (((xpi ws9 2) (y1 - 1)) + y2).toNatClampNeg) o14 hq15 hk26) ⟨callB_of 1 htx (xw_goodC kw_6_136) rfl rfl rfl (htx _ kw_1_5) (htx _ kw_6_133) ⟨by decide, by decide, by decide +kernel⟩ ⟨Nat.le_of_ble_eq_true rfl, Nat.le_of_ble_eq_true rfl⟩, (htx _ kw_6_135), (htx _ kp_M_put0)⟩ ⟨xPre_blind, va_recv hK hP (ci := 5) rfl (q0 := 0) rfl, (fun U hU hW => ⟨rfl, xPre_of hZ hS hFc hP hD hK U hU hW⟩)⟩ rfl rfl hl.1 rfl (xm_room (Nat.le_of_ble_eq_true rfl)) dM_putString_48 ⟨hm28.1, hm28.2⟩) hS hFc (fun q _ h => hFc q h) (fun E ce q9 u9 t H1 locs ht hvm hr9 hB hz1 hk1 hS hce hcv hcl => ?_)
            obtain ⟨rfl, hP1, hK1, hD1⟩ := hB
            rw [ht] at hP1
            obtain ⟨ad30, gd31, vad32⟩ := u9
            obtain ⟨hv33, hn34⟩ := hr9
            have hP : va_P D xcl (xMw cT aM ad30 rd gd31 vad32 o14.2.2.2 []) H1 := hP1
            have hD : va_D A (xMw cT aM ad30 rd gd31 vad32 o14.2.2.2 []) := hD1.weaken (fun k q _ h => hFc q.1 h)
            generalize H1 = H at hP hS hce ⊢
            have hE9 : ∀ p, p < xct st → vad32 p = vad p := fun p h => (hv33 p (Nat.lt_of_lt_of_le h hN)).trans (hE p h)
            have hE := hE9
            have hN : xct st ≤ xct o14.2.2.2 := Nat.le_trans hN hn34
            have ev35 : xv vad10 y1 = xv vad32 y1 := xvE hv33 hg27
            have hl : lv_has ls 4 [(3, .int ((xba ws9 3) (((xpi ws9 2) (y1 - 1)) + y2).toNatClampNeg)), (2, .int y2), (0, .ref aM), (1, xv vad32 y1)] := by first | exact hl | ((try (rw [← ev35])); exact hl)
            obtain rfl := Option.some.inj hf
            exact vx_out (E := "java/lang/IndexOutOfBoundsException") (fun x h => (hne x h).elim) hlocks hce hcv hcl (fun t ht ha => ⟨(ad30, gd31, vad32), ⟨hE, hN⟩, ⟨rfl, by rw [ht]; exact hP, va_K.moved ha hK, hD⟩, hS.F ht⟩) hS.2.2 (Nat.le_refl _) (Nat.le_refl _)
          rw [if_neg hk26] at hf
          exact nomatch hf
        rw [if_neg hk5] at hf
        by_cases hk36 : o3.1 = 1
        · rw [if_pos hk36] at hf
          obtain ⟨hm37, hf⟩ := xmoE hf
          have hFc := xm_free hD hS hA
          refine xx_thr (vx_runV (C := "ValueBenchModel") (As := [.int 92]) (rest := []) ⟨hx, hb, hml, hown, htx⟩ (gM_put0_1 l hl9 D cT aK aV H.size n aM adL rd gdL vadL ws9 (92 : Int32) o3 hq4 hk36) ⟨callB_of 1 htx (xw_goodC kw_6_136) rfl rfl rfl (htx _ kw_1_5) (htx _ kw_6_133) ⟨by decide, by decide, by decide +kernel⟩ ⟨Nat.le_of_ble_eq_true rfl, Nat.le_of_ble_eq_true rfl⟩, (htx _ kw_6_135), (htx _ kp_M_put0)⟩ ⟨xPre_blind, va_recv hK hP (ci := 5) rfl (q0 := 0) rfl, (fun U hU hW => ⟨rfl, xPre_of hZ hS hFc hP hD hK U hU hW⟩)⟩ rfl rfl hl.1 rfl (xm_room (Nat.le_of_ble_eq_true rfl)) dM_putString_43 ⟨hm37.1, hm37.2⟩) hS hFc (fun q _ h => hFc q h) (fun E ce q9 u9 t H1 locs ht hvm hr9 hB hz1 hk1 hS hce hcv hcl => ?_)
          obtain ⟨rfl, hP1, hK1, hD1⟩ := hB
          rw [ht] at hP1
          obtain ⟨ad39, gd40, vad41⟩ := u9
          obtain ⟨hv42, hn43⟩ := hr9
          have hP : va_P D xcl (xMw cT aM ad39 rd gd40 vad41 o3.2.2.2 []) H1 := hP1
          have hD : va_D A (xMw cT aM ad39 rd gd40 vad41 o3.2.2.2 []) := hD1.weaken (fun k q _ h => hFc q.1 h)
          generalize H1 = H at hP hS hce ⊢
          have hE9 : ∀ p, p < xct st → vad41 p = vad p := fun p h => (hv42 p (Nat.lt_of_lt_of_le h hN)).trans (hE p h)
          have hE := hE9
          have hN : xct st ≤ xct o3.2.2.2 := Nat.le_trans hN hn43
          have ev44 : xv vadL y1 = xv vad41 y1 := xvE hv42 (fun h => hg1 (Or.inr h))
          have hl : lv_has ls 4 [(3, .int ((xba ws9 3) (((xpi ws9 2) (y1 - 1)) + y2).toNatClampNeg)), (2, .int y2), (0, .ref aM), (1, xv vad41 y1)] := by first | exact hl | ((try (rw [← ev44])); exact hl)
          obtain rfl := Option.some.inj hf
          exact vx_out (E := "java/lang/IndexOutOfBoundsException") (fun x h => (hne x h).elim) hlocks hce hcv hcl (fun t ht ha => ⟨(ad39, gd40, vad41), ⟨hE, hN⟩, ⟨rfl, by rw [ht]; exact hP, va_K.moved ha hK, hD⟩, hS.F ht⟩) hS.2.2 (Nat.le_refl _) (Nat.le_refl _)
        rw [if_neg hk36] at hf
        exact nomatch hf
      · rw [if_neg hc] at hf
        refine lv_iload_n hx hb dM_putString_34 rfl (lv_at hl 0 rfl) ?_
        refine lv_bipush (v := 92) hx hb dM_putString_35 (by decide) ?_
        refine lv_icmp_ne (tgt := 54) hx hb dM_putString_37 (by decide) (fun hc => ?_) (fun hc => ?_)
        · rw [if_neg hc] at hf
          refine lv_iload_n hx hb dM_putString_54 rfl (lv_at hl 0 rfl) ?_
          refine lv_bipush (v := 32) hx hb dM_putString_55 (by decide) ?_
          refine lv_icmp_lt (tgt := 74) hx hb dM_putString_57 (by decide) (fun hc => ?_) (fun hc => ?_)
          · rw [if_pos hc] at hf
            refine lv_aload_n hx hb dM_putString_74 rfl (lv_at hl 2 rfl) ?_
            refine lv_bipush (v := 92) hx hb dM_putString_75 (by decide) ?_
            obtain ⟨o3, hq4, hf⟩ := xbind hf
            by_cases hk5 : o3.1 = 0
            · rw [if_pos hk5] at hf
              obtain ⟨hm6, hf⟩ := xmoE hf
              have hFc := xm_free hD hS hA
              refine va_callv (va_runV (C := "ValueBenchModel") (As := [.int 92]) (rest := []) ⟨hx, hb, hml, hown, htx⟩ (gM_put0 l hl9 D cT aK aV H.size n aM adL rd gdL vadL ws9 (92 : Int32) o3 hq4 hk5) ⟨callB_of 1 htx (xw_goodC kw_6_136) rfl rfl rfl (htx _ kw_1_5) (htx _ kw_6_133) ⟨by decide, by decide, by decide +kernel⟩ ⟨Nat.le_of_ble_eq_true rfl, Nat.le_of_ble_eq_true rfl⟩, (htx _ kw_6_135), (htx _ kp_M_put0)⟩ ⟨xPre_blind, va_recv hK hP (ci := 5) rfl (q0 := 0) rfl, (fun U hU hW => ⟨rfl, xPre_of hZ hS hFc hP hD hK U hU hW⟩)⟩ rfl rfl hl.1 rfl (xm_room (Nat.le_of_ble_eq_true rfl)) dM_putString_77 ⟨hm6.1, hm6.2⟩) hS (fun q _ h => hFc q h) hFc (fun u9 t H1 locs ht hvm hr9 hB hz1 hk1 hS => ?_)
              obtain ⟨hP1, hK1, hD1⟩ := hB
              rw [ht] at hP1
              obtain ⟨ad8, gd9, vad10⟩ := u9
              obtain ⟨hv11, hn12⟩ := hr9
              have hP : va_P D xcl (xMw cT aM ad8 rd gd9 vad10 o3.2.2.2 []) H1 := hP1
              have hD : va_D A (xMw cT aM ad8 rd gd9 vad10 o3.2.2.2 []) := hD1.weaken (fun k q _ h => hFc q.1 h)
              generalize H1 = H at hP hS ⊢
              have hE9 : ∀ p, p < xct st → vad10 p = vad p := fun p h => (hv11 p (Nat.lt_of_lt_of_le h hN)).trans (hE p h)
              have hE := hE9
              have hN : xct st ≤ xct o3.2.2.2 := Nat.le_trans hN hn12
              have ev13 : xv vadL y1 = xv vad10 y1 := xvE hv11 (fun h => hg1 (Or.inr h))
              have hl : lv_has ls 4 [(3, .int ((xba ws9 3) (((xpi ws9 2) (y1 - 1)) + y2).toNatClampNeg)), (2, .int y2), (0, .ref aM), (1, xv vad10 y1)] := by first | exact hl | ((try (rw [← ev13])); exact hl)
              refine W.eq (g2 := F0 m 80 ls []) (by first | rfl | ((try (rw [ev13])); rfl)) ?_
              refine lv_iload_n hx hb dM_putString_80 rfl (lv_at hl 0 rfl) ?_
              refine lv_bipush (v := 8) hx hb dM_putString_81 (by decide) ?_
              refine lv_icmp_ne (tgt := 95) hx hb dM_putString_83 (by decide) (fun hc => ?_) (fun hc => ?_)
              · rw [if_neg hc] at hf
                refine lv_iload_n hx hb dM_putString_95 rfl (lv_at hl 0 rfl) ?_
                refine lv_bipush (v := 9) hx hb dM_putString_96 (by decide) ?_
                refine lv_icmp_ne (tgt := 110) hx hb dM_putString_98 (by decide) (fun hc => ?_) (fun hc => ?_)
                · rw [if_neg hc] at hf
                  refine lv_iload_n hx hb dM_putString_110 rfl (lv_at hl 0 rfl) ?_
                  refine lv_bipush (v := 10) hx hb dM_putString_111 (by decide) ?_
                  refine lv_icmp_ne (tgt := 125) hx hb dM_putString_113 (by decide) (fun hc => ?_) (fun hc => ?_)
                  · rw [if_neg hc] at hf
                    refine lv_iload_n hx hb dM_putString_125 rfl (lv_at hl 0 rfl) ?_
                    refine lv_bipush (v := 12) hx hb dM_putString_126 (by decide) ?_
                    refine lv_icmp_ne (tgt := 140) hx hb dM_putString_128 (by decide) (fun hc => ?_) (fun hc => ?_)
                    · rw [if_neg hc] at hf
                      refine lv_iload_n hx hb dM_putString_140 rfl (lv_at hl 0 rfl) ?_
                      refine lv_bipush (v := 13) hx hb dM_putString_141 (by decide) ?_
                      refine lv_icmp_ne (tgt := 155) hx hb dM_putString_143 (by decide) (fun hc => ?_) (fun hc => ?_)
                      · rw [if_neg hc] at hf
                        refine lv_aload_n hx hb dM_putString_155 rfl (lv_at hl 2 rfl) ?_
                        refine xm_ldcS (q := aK 14) hx hb hown (hZ.2.2.2.2.2.2.2.2.1 ("ValueBenchModel", 284, "u00", 14) (List.mem_of_getElem? (i := 20) rfl)) dM_putString_156 ?_
                        obtain ⟨o14, hq15, hf⟩ := xbind hf
                        by_cases hk16 : o14.1 = 0
                        · rw [if_pos hk16] at hf
                          obtain ⟨hg17, hf⟩ := xifn hf
                          obtain ⟨hm18, hf⟩ := xmoE hf
                          have hFc := xm_free hD hS hA
                          refine va_callv (va_runV (C := "ValueBenchModel") (As := [.ref (aK 14)]) (rest := []) ⟨hx, hb, hml, hown, htx⟩ (gM_put1c l hl9 D cT aK aV H.size n aM ad8 rd gd9 vad10 o3.2.2.2 o14 hq15 hk16) ⟨callB_of 1 htx (xw_goodC kw_6_132) rfl rfl rfl (htx _ kw_1_5) (htx _ kw_6_129) ⟨by decide, by decide, by decide +kernel⟩ ⟨Nat.le_of_ble_eq_true rfl, Nat.le_of_ble_eq_true rfl⟩, (htx _ kw_6_131), (htx _ kp_M_put1)⟩ ⟨xPre_blind, va_recv hK hP (ci := 5) rfl (q0 := 0) rfl, (fun U hU hW => ⟨rfl, xPre_of hZ hS hFc hP hD hK U hU hW⟩)⟩ rfl rfl hl.1 rfl (xm_room (Nat.le_of_ble_eq_true rfl)) dM_putString_159 ⟨hm18.1, hm18.2⟩) hS (fun q _ h => hFc q h) hFc (fun u9 t H1 locs ht hvm hr9 hB hz1 hk1 hS => ?_)
                          obtain ⟨hP1, hK1, hD1⟩ := hB
                          rw [ht] at hP1
                          obtain ⟨ad20, gd21, vad22⟩ := u9
                          obtain ⟨hv23, hn24⟩ := hr9
                          have hP : va_P D xcl (xMw cT aM ad20 rd gd21 vad22 o14.2.2.2 []) H1 := hP1
                          have hD : va_D A (xMw cT aM ad20 rd gd21 vad22 o14.2.2.2 []) := hD1.weaken (fun k q _ h => hFc q.1 h)
                          generalize H1 = H at hP hS ⊢
                          have hE9 : ∀ p, p < xct st → vad22 p = vad p := fun p h => (hv23 p (Nat.lt_of_lt_of_le h hN)).trans (hE p h)
                          have hE := hE9
                          have hN : xct st ≤ xct o14.2.2.2 := Nat.le_trans hN hn24
                          have ev25 : xv vad10 y1 = xv vad22 y1 := xvE hv23 hg17
                          have hl : lv_has ls 4 [(3, .int ((xba ws9 3) (((xpi ws9 2) (y1 - 1)) + y2).toNatClampNeg)), (2, .int y2), (0, .ref aM), (1, xv vad22 y1)] := by first | exact hl | ((try (rw [← ev25])); exact hl)
                          refine W.eq (g2 := F0 m 162 ls []) (by first | rfl | ((try (rw [ev25])); rfl)) ?_
                          refine lv_aload_n hx hb dM_putString_162 rfl (lv_at hl 2 rfl) ?_
                          refine lv_iload_n hx hb dM_putString_163 rfl (lv_at hl 0 rfl) ?_
                          refine lv_iconst (v := 4) hx hb dM_putString_164 (by decide) ?_
                          refine lv_ishr hx hb dM_putString_165 ?_
                          obtain ⟨o26, hq27, hf⟩ := xbind hf
                          by_cases hk28 : o26.1 = 0
                          · rw [if_pos hk28] at hf
                            obtain ⟨hg29, hf⟩ := xifn hf
                            obtain ⟨hm30, hf⟩ := xmoE hf
                            have hFc := xm_free hD hS hA
                            refine va_callv (va_runV (C := "ValueBenchModel") (As := [.int (((xba ws9 3) (((xpi ws9 2) (y1 - 1)) + y2).toNatClampNeg) >>> ((4 : Int32) &&& 31))]) (rest := []) ⟨hx, hb, hml, hown, htx⟩ (gM_putHex l hl9 D cT aK aV H.size n aM ad20 rd gd21 vad22 o14.2.2.2 (((xba ws9 3) (((xpi ws9 2) (y1 - 1)) + y2).toNatClampNeg) >>> ((4 : Int32) &&& 31)) o26 hq27 hk28) ⟨callB_of 1 htx (xw_goodC kw_6_150) rfl rfl rfl (htx _ kw_1_5) (htx _ kw_6_147) ⟨by decide, by decide, by decide +kernel⟩ ⟨Nat.le_of_ble_eq_true rfl, Nat.le_of_ble_eq_true rfl⟩, (htx _ kw_6_149), (htx _ kp_M_putHex)⟩ ⟨xPre_blind, va_recv hK hP (ci := 5) rfl (q0 := 0) rfl, (fun U hU hW => ⟨rfl, xPre_of hZ hS hFc hP hD hK U hU hW⟩)⟩ rfl rfl hl.1 rfl (xm_room (Nat.le_of_ble_eq_true rfl)) dM_putString_166 ⟨hm30.1, hm30.2⟩) hS (fun q _ h => hFc q h) hFc (fun u9 t H1 locs ht hvm hr9 hB hz1 hk1 hS => ?_)
                            obtain ⟨hP1, hK1, hD1⟩ := hB
                            rw [ht] at hP1
                            obtain ⟨ad32, gd33, vad34⟩ := u9
                            obtain ⟨hv35, hn36⟩ := hr9
                            have hP : va_P D xcl (xMw cT aM ad32 rd gd33 vad34 o26.2.2.2 []) H1 := hP1
                            have hD : va_D A (xMw cT aM ad32 rd gd33 vad34 o26.2.2.2 []) := hD1.weaken (fun k q _ h => hFc q.1 h)
                            generalize H1 = H at hP hS ⊢
                            have hE9 : ∀ p, p < xct st → vad34 p = vad p := fun p h => (hv35 p (Nat.lt_of_lt_of_le h hN)).trans (hE p h)
                            have hE := hE9
                            have hN : xct st ≤ xct o26.2.2.2 := Nat.le_trans hN hn36
                            have ev37 : xv vad22 y1 = xv vad34 y1 := xvE hv35 hg29
                            have hl : lv_has ls 4 [(3, .int ((xba ws9 3) (((xpi ws9 2) (y1 - 1)) + y2).toNatClampNeg)), (2, .int y2), (0, .ref aM), (1, xv vad34 y1)] := by first | exact hl | ((try (rw [← ev37])); exact hl)
                            refine W.eq (g2 := F0 m 169 ls []) (by first | rfl | ((try (rw [ev37])); rfl)) ?_
                            refine lv_aload_n hx hb dM_putString_169 rfl (lv_at hl 2 rfl) ?_
                            refine lv_iload_n hx hb dM_putString_170 rfl (lv_at hl 0 rfl) ?_
                            refine lv_bipush (v := 15) hx hb dM_putString_171 (by decide) ?_
                            refine lv_iand hx hb dM_putString_173 ?_
                            obtain ⟨o38, hq39, hf⟩ := xbind hf
                            by_cases hk40 : o38.1 = 0
                            · rw [if_pos hk40] at hf
                              obtain ⟨hg41, hf⟩ := xifn hf
                              obtain ⟨hm42, hf⟩ := xmoE hf
                              have hFc := xm_free hD hS hA
                              refine va_callv (va_runV (C := "ValueBenchModel") (As := [.int (((xba ws9 3) (((xpi ws9 2) (y1 - 1)) + y2).toNatClampNeg) &&& (15 : Int32))]) (rest := []) ⟨hx, hb, hml, hown, htx⟩ (gM_putHex l hl9 D cT aK aV H.size n aM ad32 rd gd33 vad34 o26.2.2.2 (((xba ws9 3) (((xpi ws9 2) (y1 - 1)) + y2).toNatClampNeg) &&& (15 : Int32)) o38 hq39 hk40) ⟨callB_of 1 htx (xw_goodC kw_6_150) rfl rfl rfl (htx _ kw_1_5) (htx _ kw_6_147) ⟨by decide, by decide, by decide +kernel⟩ ⟨Nat.le_of_ble_eq_true rfl, Nat.le_of_ble_eq_true rfl⟩, (htx _ kw_6_149), (htx _ kp_M_putHex)⟩ ⟨xPre_blind, va_recv hK hP (ci := 5) rfl (q0 := 0) rfl, (fun U hU hW => ⟨rfl, xPre_of hZ hS hFc hP hD hK U hU hW⟩)⟩ rfl rfl hl.1 rfl (xm_room (Nat.le_of_ble_eq_true rfl)) dM_putString_174 ⟨hm42.1, hm42.2⟩) hS (fun q _ h => hFc q h) hFc (fun u9 t H1 locs ht hvm hr9 hB hz1 hk1 hS => ?_)
                              obtain ⟨hP1, hK1, hD1⟩ := hB
                              rw [ht] at hP1
                              obtain ⟨ad44, gd45, vad46⟩ := u9
                              obtain ⟨hv47, hn48⟩ := hr9
                              have hP : va_P D xcl (xMw cT aM ad44 rd gd45 vad46 o38.2.2.2 []) H1 := hP1
                              have hD : va_D A (xMw cT aM ad44 rd gd45 vad46 o38.2.2.2 []) := hD1.weaken (fun k q _ h => hFc q.1 h)
                              generalize H1 = H at hP hS ⊢
                              have hE9 : ∀ p, p < xct st → vad46 p = vad p := fun p h => (hv47 p (Nat.lt_of_lt_of_le h hN)).trans (hE p h)
                              have hE := hE9
                              have hN : xct st ≤ xct o38.2.2.2 := Nat.le_trans hN hn48
                              have ev49 : xv vad34 y1 = xv vad46 y1 := xvE hv47 hg41
                              have hl : lv_has ls 4 [(3, .int ((xba ws9 3) (((xpi ws9 2) (y1 - 1)) + y2).toNatClampNeg)), (2, .int y2), (0, .ref aM), (1, xv vad46 y1)] := by first | exact hl | ((try (rw [← ev49])); exact hl)
                              refine W.eq (g2 := F0 m 177 ls []) (by first | rfl | ((try (rw [ev49])); rfl)) ?_
                              refine lv_iinc (v := (y2 + 1)) (lv' := [(2, .int (y2 + 1)), (3, .int ((xba ws9 3) (((xpi ws9 2) (y1 - 1)) + y2).toNatClampNeg)), (0, .ref aM), (1, xv vad46 y1)]) hx hb dM_putString_177 hl (k := 1) rfl rfl (by decide) (by simp only [List.filter, xvcat, xrscat, xcI, xcL, xcR, xcN]; rfl) (fun ls hl => ?_)
                              refine lv_goto (tgt := 8) hx hb dM_putString_180 (by decide) ?_
                              exact ih (1, (y2 + 1), y1, o38.2.2.2, ((((wc + o3.2.1) + o14.2.1) + o26.2.1) + o38.2.1), ((((wn + o3.2.2.1) + o14.2.2.1) + o26.2.2.1) + o38.2.2.1)) _ _ ls (⟨ad44, gd45, vad46, rfl, hf, hP, hD, hS, lv_sub hl [0, 2, 3] rfl, hE, hN⟩)
                            rw [if_neg hk40] at hf
                            by_cases hk50 : o38.1 = 1
                            · rw [if_pos hk50] at hf
                              obtain ⟨hg51, hf⟩ := xifn hf
                              obtain ⟨hm52, hf⟩ := xmoE hf
                              have hFc := xm_free hD hS hA
                              refine xx_thr (vx_runV (C := "ValueBenchModel") (As := [.int (((xba ws9 3) (((xpi ws9 2) (y1 - 1)) + y2).toNatClampNeg) &&& (15 : Int32))]) (rest := []) ⟨hx, hb, hml, hown, htx⟩ (gM_putHex_1 l hl9 D cT aK aV H.size n aM ad32 rd gd33 vad34 o26.2.2.2 (((xba ws9 3) (((xpi ws9 2) (y1 - 1)) + y2).toNatClampNeg) &&& (15 : Int32)) o38 hq39 hk50) ⟨callB_of 1 htx (xw_goodC kw_6_150) rfl rfl rfl (htx _ kw_1_5) (htx _ kw_6_147) ⟨by decide, by decide, by decide +kernel⟩ ⟨Nat.le_of_ble_eq_true rfl, Nat.le_of_ble_eq_true rfl⟩, (htx _ kw_6_149), (htx _ kp_M_putHex)⟩ ⟨xPre_blind, va_recv hK hP (ci := 5) rfl (q0 := 0) rfl, (fun U hU hW => ⟨rfl, xPre_of hZ hS hFc hP hD hK U hU hW⟩)⟩ rfl rfl hl.1 rfl (xm_room (Nat.le_of_ble_eq_true rfl)) dM_putString_174 ⟨hm52.1, hm52.2⟩) hS hFc (fun q _ h => hFc q h) (fun E ce q9 u9 t H1 locs ht hvm hr9 hB hz1 hk1 hS hce hcv hcl => ?_)
                              obtain ⟨rfl, hP1, hK1, hD1⟩ := hB
                              rw [ht] at hP1
                              obtain ⟨ad54, gd55, vad56⟩ := u9
                              obtain ⟨hv57, hn58⟩ := hr9
                              have hP : va_P D xcl (xMw cT aM ad54 rd gd55 vad56 o38.2.2.2 []) H1 := hP1
                              have hD : va_D A (xMw cT aM ad54 rd gd55 vad56 o38.2.2.2 []) := hD1.weaken (fun k q _ h => hFc q.1 h)
                              generalize H1 = H at hP hS hce ⊢
                              have hE9 : ∀ p, p < xct st → vad56 p = vad p := fun p h => (hv57 p (Nat.lt_of_lt_of_le h hN)).trans (hE p h)
                              have hE := hE9
                              have hN : xct st ≤ xct o38.2.2.2 := Nat.le_trans hN hn58
                              have ev59 : xv vad34 y1 = xv vad56 y1 := xvE hv57 hg51
                              have hl : lv_has ls 4 [(3, .int ((xba ws9 3) (((xpi ws9 2) (y1 - 1)) + y2).toNatClampNeg)), (2, .int y2), (0, .ref aM), (1, xv vad56 y1)] := by first | exact hl | ((try (rw [← ev59])); exact hl)
                              obtain rfl := Option.some.inj hf
                              exact vx_out (E := "java/lang/IndexOutOfBoundsException") (fun x h => (hne x h).elim) hlocks hce hcv hcl (fun t ht ha => ⟨(ad54, gd55, vad56), ⟨hE, hN⟩, ⟨rfl, by rw [ht]; exact hP, va_K.moved ha hK, hD⟩, hS.F ht⟩) hS.2.2 (Nat.le_refl _) (Nat.le_refl _)
                            rw [if_neg hk50] at hf
                            exact nomatch hf
                          rw [if_neg hk28] at hf
                          by_cases hk60 : o26.1 = 1
                          · rw [if_pos hk60] at hf
                            obtain ⟨hg61, hf⟩ := xifn hf
                            obtain ⟨hm62, hf⟩ := xmoE hf
                            have hFc := xm_free hD hS hA
                            refine xx_thr (vx_runV (C := "ValueBenchModel") (As := [.int (((xba ws9 3) (((xpi ws9 2) (y1 - 1)) + y2).toNatClampNeg) >>> ((4 : Int32) &&& 31))]) (rest := []) ⟨hx, hb, hml, hown, htx⟩ (gM_putHex_1 l hl9 D cT aK aV H.size n aM ad20 rd gd21 vad22 o14.2.2.2 (((xba ws9 3) (((xpi ws9 2) (y1 - 1)) + y2).toNatClampNeg) >>> ((4 : Int32) &&& 31)) o26 hq27 hk60) ⟨callB_of 1 htx (xw_goodC kw_6_150) rfl rfl rfl (htx _ kw_1_5) (htx _ kw_6_147) ⟨by decide, by decide, by decide +kernel⟩ ⟨Nat.le_of_ble_eq_true rfl, Nat.le_of_ble_eq_true rfl⟩, (htx _ kw_6_149), (htx _ kp_M_putHex)⟩ ⟨xPre_blind, va_recv hK hP (ci := 5) rfl (q0 := 0) rfl, (fun U hU hW => ⟨rfl, xPre_of hZ hS hFc hP hD hK U hU hW⟩)⟩ rfl rfl hl.1 rfl (xm_room (Nat.le_of_ble_eq_true rfl)) dM_putString_166 ⟨hm62.1, hm62.2⟩) hS hFc (fun q _ h => hFc q h) (fun E ce q9 u9 t H1 locs ht hvm hr9 hB hz1 hk1 hS hce hcv hcl => ?_)
                            obtain ⟨rfl, hP1, hK1, hD1⟩ := hB
                            rw [ht] at hP1
                            obtain ⟨ad64, gd65, vad66⟩ := u9
                            obtain ⟨hv67, hn68⟩ := hr9
                            have hP : va_P D xcl (xMw cT aM ad64 rd gd65 vad66 o26.2.2.2 []) H1 := hP1
                            have hD : va_D A (xMw cT aM ad64 rd gd65 vad66 o26.2.2.2 []) := hD1.weaken (fun k q _ h => hFc q.1 h)
                            generalize H1 = H at hP hS hce ⊢
                            have hE9 : ∀ p, p < xct st → vad66 p = vad p := fun p h => (hv67 p (Nat.lt_of_lt_of_le h hN)).trans (hE p h)
                            have hE := hE9
                            have hN : xct st ≤ xct o26.2.2.2 := Nat.le_trans hN hn68
                            have ev69 : xv vad22 y1 = xv vad66 y1 := xvE hv67 hg61
                            have hl : lv_has ls 4 [(3, .int ((xba ws9 3) (((xpi ws9 2) (y1 - 1)) + y2).toNatClampNeg)), (2, .int y2), (0, .ref aM), (1, xv vad66 y1)] := by first | exact hl | ((try (rw [← ev69])); exact hl)
                            obtain rfl := Option.some.inj hf
                            exact vx_out (E := "java/lang/IndexOutOfBoundsException") (fun x h => (hne x h).elim) hlocks hce hcv hcl (fun t ht ha => ⟨(ad64, gd65, vad66), ⟨hE, hN⟩, ⟨rfl, by rw [ht]; exact hP, va_K.moved ha hK, hD⟩, hS.F ht⟩) hS.2.2 (Nat.le_refl _) (Nat.le_refl _)
                          rw [if_neg hk60] at hf
                          exact nomatch hf
                        rw [if_neg hk16] at hf
                        by_cases hk70 : o14.1 = 1
                        · rw [if_pos hk70] at hf
                          obtain ⟨hg71, hf⟩ := xifn hf
                          obtain ⟨hm72, hf⟩ := xmoE hf
                          have hFc := xm_free hD hS hA
                          refine xx_thr (vx_runV (C := "ValueBenchModel") (As := [.ref (aK 14)]) (rest := []) ⟨hx, hb, hml, hown, htx⟩ (gM_put1c_1 l hl9 D cT aK aV H.size n aM ad8 rd gd9 vad10 o3.2.2.2 o14 hq15 hk70) ⟨callB_of 1 htx (xw_goodC kw_6_132) rfl rfl rfl (htx _ kw_1_5) (htx _ kw_6_129) ⟨by decide, by decide, by decide +kernel⟩ ⟨Nat.le_of_ble_eq_true rfl, Nat.le_of_ble_eq_true rfl⟩, (htx _ kw_6_131), (htx _ kp_M_put1)⟩ ⟨xPre_blind, va_recv hK hP (ci := 5) rfl (q0 := 0) rfl, (fun U hU hW => ⟨rfl, xPre_of hZ hS hFc hP hD hK U hU hW⟩)⟩ rfl rfl hl.1 rfl (xm_room (Nat.le_of_ble_eq_true rfl)) dM_putString_159 ⟨hm72.1, hm72.2⟩) hS hFc (fun q _ h => hFc q h) (fun E ce q9 u9 t H1 locs ht hvm hr9 hB hz1 hk1 hS hce hcv hcl => ?_)
                          obtain ⟨rfl, hP1, hK1, hD1⟩ := hB
                          rw [ht] at hP1
                          obtain ⟨ad74, gd75, vad76⟩ := u9
                          obtain ⟨hv77, hn78⟩ := hr9
                          have hP : va_P D xcl (xMw cT aM ad74 rd gd75 vad76 o14.2.2.2 []) H1 := hP1
                          have hD : va_D A (xMw cT aM ad74 rd gd75 vad76 o14.2.2.2 []) := hD1.weaken (fun k q _ h => hFc q.1 h)
                          generalize H1 = H at hP hS hce ⊢
                          have hE9 : ∀ p, p < xct st → vad76 p = vad p := fun p h => (hv77 p (Nat.lt_of_lt_of_le h hN)).trans (hE p h)
                          have hE := hE9
                          have hN : xct st ≤ xct o14.2.2.2 := Nat.le_trans hN hn78
                          have ev79 : xv vad10 y1 = xv vad76 y1 := xvE hv77 hg71
                          have hl : lv_has ls 4 [(3, .int ((xba ws9 3) (((xpi ws9 2) (y1 - 1)) + y2).toNatClampNeg)), (2, .int y2), (0, .ref aM), (1, xv vad76 y1)] := by first | exact hl | ((try (rw [← ev79])); exact hl)
                          obtain rfl := Option.some.inj hf
                          exact vx_out (E := "java/lang/IndexOutOfBoundsException") (fun x h => (hne x h).elim) hlocks hce hcv hcl (fun t ht ha => ⟨(ad74, gd75, vad76), ⟨hE, hN⟩, ⟨rfl, by rw [ht]; exact hP, va_K.moved ha hK, hD⟩, hS.F ht⟩) hS.2.2 (Nat.le_refl _) (Nat.le_refl _)
                        rw [if_neg hk70] at hf
                        exact nomatch hf
                      · rw [if_pos hc] at hf
                        refine lv_aload_n hx hb dM_putString_146 rfl (lv_at hl 2 rfl) ?_
                        refine lv_bipush (v := 114) hx hb dM_putString_147 (by decide) ?_
                        obtain ⟨o14, hq15, hf⟩ := xbind hf
                        by_cases hk16 : o14.1 = 0
                        · rw [if_pos hk16] at hf
                          obtain ⟨hg17, hf⟩ := xifn hf
                          obtain ⟨hm18, hf⟩ := xmoE hf
                          have hFc := xm_free hD hS hA
                          refine va_callv (va_runV (C := "ValueBenchModel") (As := [.int 114]) (rest := []) ⟨hx, hb, hml, hown, htx⟩ (gM_put0 l hl9 D cT aK aV H.size n aM ad8 rd gd9 vad10 o3.2.2.2 (114 : Int32) o14 hq15 hk16) ⟨callB_of 1 htx (xw_goodC kw_6_136) rfl rfl rfl (htx _ kw_1_5) (htx _ kw_6_133) ⟨by decide, by decide, by decide +kernel⟩ ⟨Nat.le_of_ble_eq_true rfl, Nat.le_of_ble_eq_true rfl⟩, (htx _ kw_6_135), (htx _ kp_M_put0)⟩ ⟨xPre_blind, va_recv hK hP (ci := 5) rfl (q0 := 0) rfl, (fun U hU hW => ⟨rfl, xPre_of hZ hS hFc hP hD hK U hU hW⟩)⟩ rfl rfl hl.1 rfl (xm_room (Nat.le_of_ble_eq_true rfl)) dM_putString_149 ⟨hm18.1, hm18.2⟩) hS (fun q _ h => hFc q h) hFc (fun u9 t H1 locs ht hvm hr9 hB hz1 hk1 hS => ?_)
                          obtain ⟨hP1, hK1, hD1⟩ := hB
                          rw [ht] at hP1
                          obtain ⟨ad20, gd21, vad22⟩ := u9
                          obtain ⟨hv23, hn24⟩ := hr9
                          have hP : va_P D xcl (xMw cT aM ad20 rd gd21 vad22 o14.2.2.2 []) H1 := hP1
                          have hD : va_D A (xMw cT aM ad20 rd gd21 vad22 o14.2.2.2 []) := hD1.weaken (fun k q _ h => hFc q.1 h)
                          generalize H1 = H at hP hS ⊢
                          have hE9 : ∀ p, p < xct st → vad22 p = vad p := fun p h => (hv23 p (Nat.lt_of_lt_of_le h hN)).trans (hE p h)
                          have hE := hE9
                          have hN : xct st ≤ xct o14.2.2.2 := Nat.le_trans hN hn24
                          have ev25 : xv vad10 y1 = xv vad22 y1 := xvE hv23 hg17
                          have hl : lv_has ls 4 [(3, .int ((xba ws9 3) (((xpi ws9 2) (y1 - 1)) + y2).toNatClampNeg)), (2, .int y2), (0, .ref aM), (1, xv vad22 y1)] := by first | exact hl | ((try (rw [← ev25])); exact hl)
                          refine W.eq (g2 := F0 m 152 ls []) (by first | rfl | ((try (rw [ev25])); rfl)) ?_
                          refine lv_goto (tgt := 177) hx hb dM_putString_152 (by decide) ?_
                          refine lv_iinc (v := (y2 + 1)) (lv' := [(2, .int (y2 + 1)), (3, .int ((xba ws9 3) (((xpi ws9 2) (y1 - 1)) + y2).toNatClampNeg)), (0, .ref aM), (1, xv vad22 y1)]) hx hb dM_putString_177 hl (k := 1) rfl rfl (by decide) (by simp only [List.filter, xvcat, xrscat, xcI, xcL, xcR, xcN]; rfl) (fun ls hl => ?_)
                          refine lv_goto (tgt := 8) hx hb dM_putString_180 (by decide) ?_
                          exact ih (1, (y2 + 1), y1, o14.2.2.2, ((wc + o3.2.1) + o14.2.1), ((wn + o3.2.2.1) + o14.2.2.1)) _ _ ls (⟨ad20, gd21, vad22, rfl, hf, hP, hD, hS, lv_sub hl [0, 2, 3] rfl, hE, hN⟩)
                        rw [if_neg hk16] at hf
                        by_cases hk26 : o14.1 = 1
                        · rw [if_pos hk26] at hf
                          obtain ⟨hg27, hf⟩ := xifn hf
                          obtain ⟨hm28, hf⟩ := xmoE hf
                          have hFc := xm_free hD hS hA
                          refine xx_thr (vx_runV (C := "ValueBenchModel") (As := [.int 114]) (rest := []) ⟨hx, hb, hml, hown, htx⟩ (gM_put0_1 l hl9 D cT aK aV H.size n aM ad8 rd gd9 vad10 o3.2.2.2 (114 : Int32) o14 hq15 hk26) ⟨callB_of 1 htx (xw_goodC kw_6_136) rfl rfl rfl (htx _ kw_1_5) (htx _ kw_6_133) ⟨by decide, by decide, by decide +kernel⟩ ⟨Nat.le_of_ble_eq_true rfl, Nat.le_of_ble_eq_true rfl⟩, (htx _ kw_6_135), (htx _ kp_M_put0)⟩ ⟨xPre_blind, va_recv hK hP (ci := 5) rfl (q0 := 0) rfl, (fun U hU hW => ⟨rfl, xPre_of hZ hS hFc hP hD hK U hU hW⟩)⟩ rfl rfl hl.1 rfl (xm_room (Nat.le_of_ble_eq_true rfl)) dM_putString_149 ⟨hm28.1, hm28.2⟩) hS hFc (fun q _ h => hFc q h) (fun E ce q9 u9 t H1 locs ht hvm hr9 hB hz1 hk1 hS hce hcv hcl => ?_)
                          obtain ⟨rfl, hP1, hK1, hD1⟩ := hB
                          rw [ht] at hP1
                          obtain ⟨ad30, gd31, vad32⟩ := u9
                          obtain ⟨hv33, hn34⟩ := hr9
                          have hP : va_P D xcl (xMw cT aM ad30 rd gd31 vad32 o14.2.2.2 []) H1 := hP1
                          have hD : va_D A (xMw cT aM ad30 rd gd31 vad32 o14.2.2.2 []) := hD1.weaken (fun k q _ h => hFc q.1 h)
                          generalize H1 = H at hP hS hce ⊢
                          have hE9 : ∀ p, p < xct st → vad32 p = vad p := fun p h => (hv33 p (Nat.lt_of_lt_of_le h hN)).trans (hE p h)
                          have hE := hE9
                          have hN : xct st ≤ xct o14.2.2.2 := Nat.le_trans hN hn34
                          have ev35 : xv vad10 y1 = xv vad32 y1 := xvE hv33 hg27
                          have hl : lv_has ls 4 [(3, .int ((xba ws9 3) (((xpi ws9 2) (y1 - 1)) + y2).toNatClampNeg)), (2, .int y2), (0, .ref aM), (1, xv vad32 y1)] := by first | exact hl | ((try (rw [← ev35])); exact hl)
                          obtain rfl := Option.some.inj hf
                          exact vx_out (E := "java/lang/IndexOutOfBoundsException") (fun x h => (hne x h).elim) hlocks hce hcv hcl (fun t ht ha => ⟨(ad30, gd31, vad32), ⟨hE, hN⟩, ⟨rfl, by rw [ht]; exact hP, va_K.moved ha hK, hD⟩, hS.F ht⟩) hS.2.2 (Nat.le_refl _) (Nat.le_refl _)
                        rw [if_neg hk26] at hf
                        exact nomatch hf
                    · rw [if_pos hc] at hf
                      refine lv_aload_n hx hb dM_putString_131 rfl (lv_at hl 2 rfl) ?_
                      refine lv_bipush (v := 102) hx hb dM_putString_132 (by decide) ?_
                      obtain ⟨o14, hq15, hf⟩ := xbind hf
                      by_cases hk16 : o14.1 = 0
                      · rw [if_pos hk16] at hf
                        obtain ⟨hg17, hf⟩ := xifn hf
                        obtain ⟨hm18, hf⟩ := xmoE hf
                        have hFc := xm_free hD hS hA
                        refine va_callv (va_runV (C := "ValueBenchModel") (As := [.int 102]) (rest := []) ⟨hx, hb, hml, hown, htx⟩ (gM_put0 l hl9 D cT aK aV H.size n aM ad8 rd gd9 vad10 o3.2.2.2 (102 : Int32) o14 hq15 hk16) ⟨callB_of 1 htx (xw_goodC kw_6_136) rfl rfl rfl (htx _ kw_1_5) (htx _ kw_6_133) ⟨by decide, by decide, by decide +kernel⟩ ⟨Nat.le_of_ble_eq_true rfl, Nat.le_of_ble_eq_true rfl⟩, (htx _ kw_6_135), (htx _ kp_M_put0)⟩ ⟨xPre_blind, va_recv hK hP (ci := 5) rfl (q0 := 0) rfl, (fun U hU hW => ⟨rfl, xPre_of hZ hS hFc hP hD hK U hU hW⟩)⟩ rfl rfl hl.1 rfl (xm_room (Nat.le_of_ble_eq_true rfl)) dM_putString_134 ⟨hm18.1, hm18.2⟩) hS (fun q _ h => hFc q h) hFc (fun u9 t H1 locs ht hvm hr9 hB hz1 hk1 hS => ?_)
                        obtain ⟨hP1, hK1, hD1⟩ := hB
                        rw [ht] at hP1
                        obtain ⟨ad20, gd21, vad22⟩ := u9
                        obtain ⟨hv23, hn24⟩ := hr9
                        have hP : va_P D xcl (xMw cT aM ad20 rd gd21 vad22 o14.2.2.2 []) H1 := hP1
                        have hD : va_D A (xMw cT aM ad20 rd gd21 vad22 o14.2.2.2 []) := hD1.weaken (fun k q _ h => hFc q.1 h)
                        generalize H1 = H at hP hS ⊢
                        have hE9 : ∀ p, p < xct st → vad22 p = vad p := fun p h => (hv23 p (Nat.lt_of_lt_of_le h hN)).trans (hE p h)
                        have hE := hE9
                        have hN : xct st ≤ xct o14.2.2.2 := Nat.le_trans hN hn24
                        have ev25 : xv vad10 y1 = xv vad22 y1 := xvE hv23 hg17
                        have hl : lv_has ls 4 [(3, .int ((xba ws9 3) (((xpi ws9 2) (y1 - 1)) + y2).toNatClampNeg)), (2, .int y2), (0, .ref aM), (1, xv vad22 y1)] := by first | exact hl | ((try (rw [← ev25])); exact hl)
                        refine W.eq (g2 := F0 m 137 ls []) (by first | rfl | ((try (rw [ev25])); rfl)) ?_
                        refine lv_goto (tgt := 177) hx hb dM_putString_137 (by decide) ?_
                        refine lv_iinc (v := (y2 + 1)) (lv' := [(2, .int (y2 + 1)), (3, .int ((xba ws9 3) (((xpi ws9 2) (y1 - 1)) + y2).toNatClampNeg)), (0, .ref aM), (1, xv vad22 y1)]) hx hb dM_putString_177 hl (k := 1) rfl rfl (by decide) (by simp only [List.filter, xvcat, xrscat, xcI, xcL, xcR, xcN]; rfl) (fun ls hl => ?_)
                        refine lv_goto (tgt := 8) hx hb dM_putString_180 (by decide) ?_
                        exact ih (1, (y2 + 1), y1, o14.2.2.2, ((wc + o3.2.1) + o14.2.1), ((wn + o3.2.2.1) + o14.2.2.1)) _ _ ls (⟨ad20, gd21, vad22, rfl, hf, hP, hD, hS, lv_sub hl [0, 2, 3] rfl, hE, hN⟩)
                      rw [if_neg hk16] at hf
                      by_cases hk26 : o14.1 = 1
                      · rw [if_pos hk26] at hf
                        obtain ⟨hg27, hf⟩ := xifn hf
                        obtain ⟨hm28, hf⟩ := xmoE hf
                        have hFc := xm_free hD hS hA
                        refine xx_thr (vx_runV (C := "ValueBenchModel") (As := [.int 102]) (rest := []) ⟨hx, hb, hml, hown, htx⟩ (gM_put0_1 l hl9 D cT aK aV H.size n aM ad8 rd gd9 vad10 o3.2.2.2 (102 : Int32) o14 hq15 hk26) ⟨callB_of 1 htx (xw_goodC kw_6_136) rfl rfl rfl (htx _ kw_1_5) (htx _ kw_6_133) ⟨by decide, by decide, by decide +kernel⟩ ⟨Nat.le_of_ble_eq_true rfl, Nat.le_of_ble_eq_true rfl⟩, (htx _ kw_6_135), (htx _ kp_M_put0)⟩ ⟨xPre_blind, va_recv hK hP (ci := 5) rfl (q0 := 0) rfl, (fun U hU hW => ⟨rfl, xPre_of hZ hS hFc hP hD hK U hU hW⟩)⟩ rfl rfl hl.1 rfl (xm_room (Nat.le_of_ble_eq_true rfl)) dM_putString_134 ⟨hm28.1, hm28.2⟩) hS hFc (fun q _ h => hFc q h) (fun E ce q9 u9 t H1 locs ht hvm hr9 hB hz1 hk1 hS hce hcv hcl => ?_)
                        obtain ⟨rfl, hP1, hK1, hD1⟩ := hB
                        rw [ht] at hP1
                        obtain ⟨ad30, gd31, vad32⟩ := u9
                        obtain ⟨hv33, hn34⟩ := hr9
                        have hP : va_P D xcl (xMw cT aM ad30 rd gd31 vad32 o14.2.2.2 []) H1 := hP1
                        have hD : va_D A (xMw cT aM ad30 rd gd31 vad32 o14.2.2.2 []) := hD1.weaken (fun k q _ h => hFc q.1 h)
                        generalize H1 = H at hP hS hce ⊢
                        have hE9 : ∀ p, p < xct st → vad32 p = vad p := fun p h => (hv33 p (Nat.lt_of_lt_of_le h hN)).trans (hE p h)
                        have hE := hE9
                        have hN : xct st ≤ xct o14.2.2.2 := Nat.le_trans hN hn34
                        have ev35 : xv vad10 y1 = xv vad32 y1 := xvE hv33 hg27
                        have hl : lv_has ls 4 [(3, .int ((xba ws9 3) (((xpi ws9 2) (y1 - 1)) + y2).toNatClampNeg)), (2, .int y2), (0, .ref aM), (1, xv vad32 y1)] := by first | exact hl | ((try (rw [← ev35])); exact hl)
                        obtain rfl := Option.some.inj hf
                        exact vx_out (E := "java/lang/IndexOutOfBoundsException") (fun x h => (hne x h).elim) hlocks hce hcv hcl (fun t ht ha => ⟨(ad30, gd31, vad32), ⟨hE, hN⟩, ⟨rfl, by rw [ht]; exact hP, va_K.moved ha hK, hD⟩, hS.F ht⟩) hS.2.2 (Nat.le_refl _) (Nat.le_refl _)
                      rw [if_neg hk26] at hf
                      exact nomatch hf
                  · rw [if_pos hc] at hf
                    refine lv_aload_n hx hb dM_putString_116 rfl (lv_at hl 2 rfl) ?_
                    refine lv_bipush (v := 110) hx hb dM_putString_117 (by decide) ?_
                    obtain ⟨o14, hq15, hf⟩ := xbind hf
                    by_cases hk16 : o14.1 = 0
                    · rw [if_pos hk16] at hf
                      obtain ⟨hg17, hf⟩ := xifn hf
                      obtain ⟨hm18, hf⟩ := xmoE hf
                      have hFc := xm_free hD hS hA
                      refine va_callv (va_runV (C := "ValueBenchModel") (As := [.int 110]) (rest := []) ⟨hx, hb, hml, hown, htx⟩ (gM_put0 l hl9 D cT aK aV H.size n aM ad8 rd gd9 vad10 o3.2.2.2 (110 : Int32) o14 hq15 hk16) ⟨callB_of 1 htx (xw_goodC kw_6_136) rfl rfl rfl (htx _ kw_1_5) (htx _ kw_6_133) ⟨by decide, by decide, by decide +kernel⟩ ⟨Nat.le_of_ble_eq_true rfl, Nat.le_of_ble_eq_true rfl⟩, (htx _ kw_6_135), (htx _ kp_M_put0)⟩ ⟨xPre_blind, va_recv hK hP (ci := 5) rfl (q0 := 0) rfl, (fun U hU hW => ⟨rfl, xPre_of hZ hS hFc hP hD hK U hU hW⟩)⟩ rfl rfl hl.1 rfl (xm_room (Nat.le_of_ble_eq_true rfl)) dM_putString_119 ⟨hm18.1, hm18.2⟩) hS (fun q _ h => hFc q h) hFc (fun u9 t H1 locs ht hvm hr9 hB hz1 hk1 hS => ?_)
                      obtain ⟨hP1, hK1, hD1⟩ := hB
                      rw [ht] at hP1
                      obtain ⟨ad20, gd21, vad22⟩ := u9
                      obtain ⟨hv23, hn24⟩ := hr9
                      have hP : va_P D xcl (xMw cT aM ad20 rd gd21 vad22 o14.2.2.2 []) H1 := hP1
                      have hD : va_D A (xMw cT aM ad20 rd gd21 vad22 o14.2.2.2 []) := hD1.weaken (fun k q _ h => hFc q.1 h)
                      generalize H1 = H at hP hS ⊢
                      have hE9 : ∀ p, p < xct st → vad22 p = vad p := fun p h => (hv23 p (Nat.lt_of_lt_of_le h hN)).trans (hE p h)
                      have hE := hE9
                      have hN : xct st ≤ xct o14.2.2.2 := Nat.le_trans hN hn24
                      have ev25 : xv vad10 y1 = xv vad22 y1 := xvE hv23 hg17
                      have hl : lv_has ls 4 [(3, .int ((xba ws9 3) (((xpi ws9 2) (y1 - 1)) + y2).toNatClampNeg)), (2, .int y2), (0, .ref aM), (1, xv vad22 y1)] := by first | exact hl | ((try (rw [← ev25])); exact hl)
                      refine W.eq (g2 := F0 m 122 ls []) (by first | rfl | ((try (rw [ev25])); rfl)) ?_
                      refine lv_goto (tgt := 177) hx hb dM_putString_122 (by decide) ?_
                      refine lv_iinc (v := (y2 + 1)) (lv' := [(2, .int (y2 + 1)), (3, .int ((xba ws9 3) (((xpi ws9 2) (y1 - 1)) + y2).toNatClampNeg)), (0, .ref aM), (1, xv vad22 y1)]) hx hb dM_putString_177 hl (k := 1) rfl rfl (by decide) (by simp only [List.filter, xvcat, xrscat, xcI, xcL, xcR, xcN]; rfl) (fun ls hl => ?_)
                      refine lv_goto (tgt := 8) hx hb dM_putString_180 (by decide) ?_
                      exact ih (1, (y2 + 1), y1, o14.2.2.2, ((wc + o3.2.1) + o14.2.1), ((wn + o3.2.2.1) + o14.2.2.1)) _ _ ls (⟨ad20, gd21, vad22, rfl, hf, hP, hD, hS, lv_sub hl [0, 2, 3] rfl, hE, hN⟩)
                    rw [if_neg hk16] at hf
                    by_cases hk26 : o14.1 = 1
                    · rw [if_pos hk26] at hf
                      obtain ⟨hg27, hf⟩ := xifn hf
                      obtain ⟨hm28, hf⟩ := xmoE hf
                      have hFc := xm_free hD hS hA
                      refine xx_thr (vx_runV (C := "ValueBenchModel") (As := [.int 110]) (rest := []) ⟨hx, hb, hml, hown, htx⟩ (gM_put0_1 l hl9 D cT aK aV H.size n aM ad8 rd gd9 vad10 o3.2.2.2 (110 : Int32) o14 hq15 hk26) ⟨callB_of 1 htx (xw_goodC kw_6_136) rfl rfl rfl (htx _ kw_1_5) (htx _ kw_6_133) ⟨by decide, by decide, by decide +kernel⟩ ⟨Nat.le_of_ble_eq_true rfl, Nat.le_of_ble_eq_true rfl⟩, (htx _ kw_6_135), (htx _ kp_M_put0)⟩ ⟨xPre_blind, va_recv hK hP (ci := 5) rfl (q0 := 0) rfl, (fun U hU hW => ⟨rfl, xPre_of hZ hS hFc hP hD hK U hU hW⟩)⟩ rfl rfl hl.1 rfl (xm_room (Nat.le_of_ble_eq_true rfl)) dM_putString_119 ⟨hm28.1, hm28.2⟩) hS hFc (fun q _ h => hFc q h) (fun E ce q9 u9 t H1 locs ht hvm hr9 hB hz1 hk1 hS hce hcv hcl => ?_)
                      obtain ⟨rfl, hP1, hK1, hD1⟩ := hB
                      rw [ht] at hP1
                      obtain ⟨ad30, gd31, vad32⟩ := u9
                      obtain ⟨hv33, hn34⟩ := hr9
                      have hP : va_P D xcl (xMw cT aM ad30 rd gd31 vad32 o14.2.2.2 []) H1 := hP1
                      have hD : va_D A (xMw cT aM ad30 rd gd31 vad32 o14.2.2.2 []) := hD1.weaken (fun k q _ h => hFc q.1 h)
                      generalize H1 = H at hP hS hce ⊢
                      have hE9 : ∀ p, p < xct st → vad32 p = vad p := fun p h => (hv33 p (Nat.lt_of_lt_of_le h hN)).trans (hE p h)
                      have hE := hE9
                      have hN : xct st ≤ xct o14.2.2.2 := Nat.le_trans hN hn34
                      have ev35 : xv vad10 y1 = xv vad32 y1 := xvE hv33 hg27
                      have hl : lv_has ls 4 [(3, .int ((xba ws9 3) (((xpi ws9 2) (y1 - 1)) + y2).toNatClampNeg)), (2, .int y2), (0, .ref aM), (1, xv vad32 y1)] := by first | exact hl | ((try (rw [← ev35])); exact hl)
                      obtain rfl := Option.some.inj hf
                      exact vx_out (E := "java/lang/IndexOutOfBoundsException") (fun x h => (hne x h).elim) hlocks hce hcv hcl (fun t ht ha => ⟨(ad30, gd31, vad32), ⟨hE, hN⟩, ⟨rfl, by rw [ht]; exact hP, va_K.moved ha hK, hD⟩, hS.F ht⟩) hS.2.2 (Nat.le_refl _) (Nat.le_refl _)
                    rw [if_neg hk26] at hf
                    exact nomatch hf
                · rw [if_pos hc] at hf
                  refine lv_aload_n hx hb dM_putString_101 rfl (lv_at hl 2 rfl) ?_
                  refine lv_bipush (v := 116) hx hb dM_putString_102 (by decide) ?_
                  obtain ⟨o14, hq15, hf⟩ := xbind hf
                  by_cases hk16 : o14.1 = 0
                  · rw [if_pos hk16] at hf
                    obtain ⟨hg17, hf⟩ := xifn hf
                    obtain ⟨hm18, hf⟩ := xmoE hf
                    have hFc := xm_free hD hS hA
                    refine va_callv (va_runV (C := "ValueBenchModel") (As := [.int 116]) (rest := []) ⟨hx, hb, hml, hown, htx⟩ (gM_put0 l hl9 D cT aK aV H.size n aM ad8 rd gd9 vad10 o3.2.2.2 (116 : Int32) o14 hq15 hk16) ⟨callB_of 1 htx (xw_goodC kw_6_136) rfl rfl rfl (htx _ kw_1_5) (htx _ kw_6_133) ⟨by decide, by decide, by decide +kernel⟩ ⟨Nat.le_of_ble_eq_true rfl, Nat.le_of_ble_eq_true rfl⟩, (htx _ kw_6_135), (htx _ kp_M_put0)⟩ ⟨xPre_blind, va_recv hK hP (ci := 5) rfl (q0 := 0) rfl, (fun U hU hW => ⟨rfl, xPre_of hZ hS hFc hP hD hK U hU hW⟩)⟩ rfl rfl hl.1 rfl (xm_room (Nat.le_of_ble_eq_true rfl)) dM_putString_104 ⟨hm18.1, hm18.2⟩) hS (fun q _ h => hFc q h) hFc (fun u9 t H1 locs ht hvm hr9 hB hz1 hk1 hS => ?_)
                    obtain ⟨hP1, hK1, hD1⟩ := hB
                    rw [ht] at hP1
                    obtain ⟨ad20, gd21, vad22⟩ := u9
                    obtain ⟨hv23, hn24⟩ := hr9
                    have hP : va_P D xcl (xMw cT aM ad20 rd gd21 vad22 o14.2.2.2 []) H1 := hP1
                    have hD : va_D A (xMw cT aM ad20 rd gd21 vad22 o14.2.2.2 []) := hD1.weaken (fun k q _ h => hFc q.1 h)
                    generalize H1 = H at hP hS ⊢
                    have hE9 : ∀ p, p < xct st → vad22 p = vad p := fun p h => (hv23 p (Nat.lt_of_lt_of_le h hN)).trans (hE p h)
                    have hE := hE9
                    have hN : xct st ≤ xct o14.2.2.2 := Nat.le_trans hN hn24
                    have ev25 : xv vad10 y1 = xv vad22 y1 := xvE hv23 hg17
                    have hl : lv_has ls 4 [(3, .int ((xba ws9 3) (((xpi ws9 2) (y1 - 1)) + y2).toNatClampNeg)), (2, .int y2), (0, .ref aM), (1, xv vad22 y1)] := by first | exact hl | ((try (rw [← ev25])); exact hl)
                    refine W.eq (g2 := F0 m 107 ls []) (by first | rfl | ((try (rw [ev25])); rfl)) ?_
                    refine lv_goto (tgt := 177) hx hb dM_putString_107 (by decide) ?_
                    refine lv_iinc (v := (y2 + 1)) (lv' := [(2, .int (y2 + 1)), (3, .int ((xba ws9 3) (((xpi ws9 2) (y1 - 1)) + y2).toNatClampNeg)), (0, .ref aM), (1, xv vad22 y1)]) hx hb dM_putString_177 hl (k := 1) rfl rfl (by decide) (by simp only [List.filter, xvcat, xrscat, xcI, xcL, xcR, xcN]; rfl) (fun ls hl => ?_)
                    refine lv_goto (tgt := 8) hx hb dM_putString_180 (by decide) ?_
                    exact ih (1, (y2 + 1), y1, o14.2.2.2, ((wc + o3.2.1) + o14.2.1), ((wn + o3.2.2.1) + o14.2.2.1)) _ _ ls (⟨ad20, gd21, vad22, rfl, hf, hP, hD, hS, lv_sub hl [0, 2, 3] rfl, hE, hN⟩)
                  rw [if_neg hk16] at hf
                  by_cases hk26 : o14.1 = 1
                  · rw [if_pos hk26] at hf
                    obtain ⟨hg27, hf⟩ := xifn hf
                    obtain ⟨hm28, hf⟩ := xmoE hf
                    have hFc := xm_free hD hS hA
                    refine xx_thr (vx_runV (C := "ValueBenchModel") (As := [.int 116]) (rest := []) ⟨hx, hb, hml, hown, htx⟩ (gM_put0_1 l hl9 D cT aK aV H.size n aM ad8 rd gd9 vad10 o3.2.2.2 (116 : Int32) o14 hq15 hk26) ⟨callB_of 1 htx (xw_goodC kw_6_136) rfl rfl rfl (htx _ kw_1_5) (htx _ kw_6_133) ⟨by decide, by decide, by decide +kernel⟩ ⟨Nat.le_of_ble_eq_true rfl, Nat.le_of_ble_eq_true rfl⟩, (htx _ kw_6_135), (htx _ kp_M_put0)⟩ ⟨xPre_blind, va_recv hK hP (ci := 5) rfl (q0 := 0) rfl, (fun U hU hW => ⟨rfl, xPre_of hZ hS hFc hP hD hK U hU hW⟩)⟩ rfl rfl hl.1 rfl (xm_room (Nat.le_of_ble_eq_true rfl)) dM_putString_104 ⟨hm28.1, hm28.2⟩) hS hFc (fun q _ h => hFc q h) (fun E ce q9 u9 t H1 locs ht hvm hr9 hB hz1 hk1 hS hce hcv hcl => ?_)
                    obtain ⟨rfl, hP1, hK1, hD1⟩ := hB
                    rw [ht] at hP1
                    obtain ⟨ad30, gd31, vad32⟩ := u9
                    obtain ⟨hv33, hn34⟩ := hr9
                    have hP : va_P D xcl (xMw cT aM ad30 rd gd31 vad32 o14.2.2.2 []) H1 := hP1
                    have hD : va_D A (xMw cT aM ad30 rd gd31 vad32 o14.2.2.2 []) := hD1.weaken (fun k q _ h => hFc q.1 h)
                    generalize H1 = H at hP hS hce ⊢
                    have hE9 : ∀ p, p < xct st → vad32 p = vad p := fun p h => (hv33 p (Nat.lt_of_lt_of_le h hN)).trans (hE p h)
                    have hE := hE9
                    have hN : xct st ≤ xct o14.2.2.2 := Nat.le_trans hN hn34
                    have ev35 : xv vad10 y1 = xv vad32 y1 := xvE hv33 hg27
                    have hl : lv_has ls 4 [(3, .int ((xba ws9 3) (((xpi ws9 2) (y1 - 1)) + y2).toNatClampNeg)), (2, .int y2), (0, .ref aM), (1, xv vad32 y1)] := by first | exact hl | ((try (rw [← ev35])); exact hl)
                    obtain rfl := Option.some.inj hf
                    exact vx_out (E := "java/lang/IndexOutOfBoundsException") (fun x h => (hne x h).elim) hlocks hce hcv hcl (fun t ht ha => ⟨(ad30, gd31, vad32), ⟨hE, hN⟩, ⟨rfl, by rw [ht]; exact hP, va_K.moved ha hK, hD⟩, hS.F ht⟩) hS.2.2 (Nat.le_refl _) (Nat.le_refl _)
                  rw [if_neg hk26] at hf
                  exact nomatch hf
              · rw [if_pos hc] at hf
                refine lv_aload_n hx hb dM_putString_86 rfl (lv_at hl 2 rfl) ?_
                refine lv_bipush (v := 98) hx hb dM_putString_87 (by decide) ?_
                obtain ⟨o14, hq15, hf⟩ := xbind hf
                by_cases hk16 : o14.1 = 0
                · rw [if_pos hk16] at hf
                  obtain ⟨hg17, hf⟩ := xifn hf
                  obtain ⟨hm18, hf⟩ := xmoE hf
                  have hFc := xm_free hD hS hA
                  refine va_callv (va_runV (C := "ValueBenchModel") (As := [.int 98]) (rest := []) ⟨hx, hb, hml, hown, htx⟩ (gM_put0 l hl9 D cT aK aV H.size n aM ad8 rd gd9 vad10 o3.2.2.2 (98 : Int32) o14 hq15 hk16) ⟨callB_of 1 htx (xw_goodC kw_6_136) rfl rfl rfl (htx _ kw_1_5) (htx _ kw_6_133) ⟨by decide, by decide, by decide +kernel⟩ ⟨Nat.le_of_ble_eq_true rfl, Nat.le_of_ble_eq_true rfl⟩, (htx _ kw_6_135), (htx _ kp_M_put0)⟩ ⟨xPre_blind, va_recv hK hP (ci := 5) rfl (q0 := 0) rfl, (fun U hU hW => ⟨rfl, xPre_of hZ hS hFc hP hD hK U hU hW⟩)⟩ rfl rfl hl.1 rfl (xm_room (Nat.le_of_ble_eq_true rfl)) dM_putString_89 ⟨hm18.1, hm18.2⟩) hS (fun q _ h => hFc q h) hFc (fun u9 t H1 locs ht hvm hr9 hB hz1 hk1 hS => ?_)
                  obtain ⟨hP1, hK1, hD1⟩ := hB
                  rw [ht] at hP1
                  obtain ⟨ad20, gd21, vad22⟩ := u9
                  obtain ⟨hv23, hn24⟩ := hr9
                  have hP : va_P D xcl (xMw cT aM ad20 rd gd21 vad22 o14.2.2.2 []) H1 := hP1
                  have hD : va_D A (xMw cT aM ad20 rd gd21 vad22 o14.2.2.2 []) := hD1.weaken (fun k q _ h => hFc q.1 h)
                  generalize H1 = H at hP hS ⊢
                  have hE9 : ∀ p, p < xct st → vad22 p = vad p := fun p h => (hv23 p (Nat.lt_of_lt_of_le h hN)).trans (hE p h)
                  have hE := hE9
                  have hN : xct st ≤ xct o14.2.2.2 := Nat.le_trans hN hn24
                  have ev25 : xv vad10 y1 = xv vad22 y1 := xvE hv23 hg17
                  have hl : lv_has ls 4 [(3, .int ((xba ws9 3) (((xpi ws9 2) (y1 - 1)) + y2).toNatClampNeg)), (2, .int y2), (0, .ref aM), (1, xv vad22 y1)] := by first | exact hl | ((try (rw [← ev25])); exact hl)
                  refine W.eq (g2 := F0 m 92 ls []) (by first | rfl | ((try (rw [ev25])); rfl)) ?_
                  refine lv_goto (tgt := 177) hx hb dM_putString_92 (by decide) ?_
                  refine lv_iinc (v := (y2 + 1)) (lv' := [(2, .int (y2 + 1)), (3, .int ((xba ws9 3) (((xpi ws9 2) (y1 - 1)) + y2).toNatClampNeg)), (0, .ref aM), (1, xv vad22 y1)]) hx hb dM_putString_177 hl (k := 1) rfl rfl (by decide) (by simp only [List.filter, xvcat, xrscat, xcI, xcL, xcR, xcN]; rfl) (fun ls hl => ?_)
                  refine lv_goto (tgt := 8) hx hb dM_putString_180 (by decide) ?_
                  exact ih (1, (y2 + 1), y1, o14.2.2.2, ((wc + o3.2.1) + o14.2.1), ((wn + o3.2.2.1) + o14.2.2.1)) _ _ ls (⟨ad20, gd21, vad22, rfl, hf, hP, hD, hS, lv_sub hl [0, 2, 3] rfl, hE, hN⟩)
                rw [if_neg hk16] at hf
                by_cases hk26 : o14.1 = 1
                · rw [if_pos hk26] at hf
                  obtain ⟨hg27, hf⟩ := xifn hf
                  obtain ⟨hm28, hf⟩ := xmoE hf
                  have hFc := xm_free hD hS hA
                  refine xx_thr (vx_runV (C := "ValueBenchModel") (As := [.int 98]) (rest := []) ⟨hx, hb, hml, hown, htx⟩ (gM_put0_1 l hl9 D cT aK aV H.size n aM ad8 rd gd9 vad10 o3.2.2.2 (98 : Int32) o14 hq15 hk26) ⟨callB_of 1 htx (xw_goodC kw_6_136) rfl rfl rfl (htx _ kw_1_5) (htx _ kw_6_133) ⟨by decide, by decide, by decide +kernel⟩ ⟨Nat.le_of_ble_eq_true rfl, Nat.le_of_ble_eq_true rfl⟩, (htx _ kw_6_135), (htx _ kp_M_put0)⟩ ⟨xPre_blind, va_recv hK hP (ci := 5) rfl (q0 := 0) rfl, (fun U hU hW => ⟨rfl, xPre_of hZ hS hFc hP hD hK U hU hW⟩)⟩ rfl rfl hl.1 rfl (xm_room (Nat.le_of_ble_eq_true rfl)) dM_putString_89 ⟨hm28.1, hm28.2⟩) hS hFc (fun q _ h => hFc q h) (fun E ce q9 u9 t H1 locs ht hvm hr9 hB hz1 hk1 hS hce hcv hcl => ?_)
                  obtain ⟨rfl, hP1, hK1, hD1⟩ := hB
                  rw [ht] at hP1
                  obtain ⟨ad30, gd31, vad32⟩ := u9
                  obtain ⟨hv33, hn34⟩ := hr9
                  have hP : va_P D xcl (xMw cT aM ad30 rd gd31 vad32 o14.2.2.2 []) H1 := hP1
                  have hD : va_D A (xMw cT aM ad30 rd gd31 vad32 o14.2.2.2 []) := hD1.weaken (fun k q _ h => hFc q.1 h)
                  generalize H1 = H at hP hS hce ⊢
                  have hE9 : ∀ p, p < xct st → vad32 p = vad p := fun p h => (hv33 p (Nat.lt_of_lt_of_le h hN)).trans (hE p h)
                  have hE := hE9
                  have hN : xct st ≤ xct o14.2.2.2 := Nat.le_trans hN hn34
                  have ev35 : xv vad10 y1 = xv vad32 y1 := xvE hv33 hg27
                  have hl : lv_has ls 4 [(3, .int ((xba ws9 3) (((xpi ws9 2) (y1 - 1)) + y2).toNatClampNeg)), (2, .int y2), (0, .ref aM), (1, xv vad32 y1)] := by first | exact hl | ((try (rw [← ev35])); exact hl)
                  obtain rfl := Option.some.inj hf
                  exact vx_out (E := "java/lang/IndexOutOfBoundsException") (fun x h => (hne x h).elim) hlocks hce hcv hcl (fun t ht ha => ⟨(ad30, gd31, vad32), ⟨hE, hN⟩, ⟨rfl, by rw [ht]; exact hP, va_K.moved ha hK, hD⟩, hS.F ht⟩) hS.2.2 (Nat.le_refl _) (Nat.le_refl _)
                rw [if_neg hk26] at hf
                exact nomatch hf
            rw [if_neg hk5] at hf
            by_cases hk14 : o3.1 = 1
            · rw [if_pos hk14] at hf
              obtain ⟨hm15, hf⟩ := xmoE hf
              have hFc := xm_free hD hS hA
              refine xx_thr (vx_runV (C := "ValueBenchModel") (As := [.int 92]) (rest := []) ⟨hx, hb, hml, hown, htx⟩ (gM_put0_1 l hl9 D cT aK aV H.size n aM adL rd gdL vadL ws9 (92 : Int32) o3 hq4 hk14) ⟨callB_of 1 htx (xw_goodC kw_6_136) rfl rfl rfl (htx _ kw_1_5) (htx _ kw_6_133) ⟨by decide, by decide, by decide +kernel⟩ ⟨Nat.le_of_ble_eq_true rfl, Nat.le_of_ble_eq_true rfl⟩, (htx _ kw_6_135), (htx _ kp_M_put0)⟩ ⟨xPre_blind, va_recv hK hP (ci := 5) rfl (q0 := 0) rfl, (fun U hU hW => ⟨rfl, xPre_of hZ hS hFc hP hD hK U hU hW⟩)⟩ rfl rfl hl.1 rfl (xm_room (Nat.le_of_ble_eq_true rfl)) dM_putString_77 ⟨hm15.1, hm15.2⟩) hS hFc (fun q _ h => hFc q h) (fun E ce q9 u9 t H1 locs ht hvm hr9 hB hz1 hk1 hS hce hcv hcl => ?_)
              obtain ⟨rfl, hP1, hK1, hD1⟩ := hB
              rw [ht] at hP1
              obtain ⟨ad17, gd18, vad19⟩ := u9
              obtain ⟨hv20, hn21⟩ := hr9
              have hP : va_P D xcl (xMw cT aM ad17 rd gd18 vad19 o3.2.2.2 []) H1 := hP1
              have hD : va_D A (xMw cT aM ad17 rd gd18 vad19 o3.2.2.2 []) := hD1.weaken (fun k q _ h => hFc q.1 h)
              generalize H1 = H at hP hS hce ⊢
              have hE9 : ∀ p, p < xct st → vad19 p = vad p := fun p h => (hv20 p (Nat.lt_of_lt_of_le h hN)).trans (hE p h)
              have hE := hE9
              have hN : xct st ≤ xct o3.2.2.2 := Nat.le_trans hN hn21
              have ev22 : xv vadL y1 = xv vad19 y1 := xvE hv20 (fun h => hg1 (Or.inr h))
              have hl : lv_has ls 4 [(3, .int ((xba ws9 3) (((xpi ws9 2) (y1 - 1)) + y2).toNatClampNeg)), (2, .int y2), (0, .ref aM), (1, xv vad19 y1)] := by first | exact hl | ((try (rw [← ev22])); exact hl)
              obtain rfl := Option.some.inj hf
              exact vx_out (E := "java/lang/IndexOutOfBoundsException") (fun x h => (hne x h).elim) hlocks hce hcv hcl (fun t ht ha => ⟨(ad17, gd18, vad19), ⟨hE, hN⟩, ⟨rfl, by rw [ht]; exact hP, va_K.moved ha hK, hD⟩, hS.F ht⟩) hS.2.2 (Nat.le_refl _) (Nat.le_refl _)
            rw [if_neg hk14] at hf
            exact nomatch hf
          · rw [if_neg hc] at hf
            refine lv_iload_n hx hb dM_putString_60 rfl (lv_at hl 0 rfl) ?_
            refine lv_bipush (v := 127) hx hb dM_putString_61 (by decide) ?_
            refine lv_icmp_ge (tgt := 74) hx hb dM_putString_63 (by decide) (fun hc => ?_) (fun hc => ?_)
            · rw [if_pos hc] at hf
              refine lv_aload_n hx hb dM_putString_74 rfl (lv_at hl 2 rfl) ?_
              refine lv_bipush (v := 92) hx hb dM_putString_75 (by decide) ?_
              obtain ⟨o3, hq4, hf⟩ := xbind hf
              by_cases hk5 : o3.1 = 0
              · rw [if_pos hk5] at hf
                obtain ⟨hm6, hf⟩ := xmoE hf
                have hFc := xm_free hD hS hA
                refine va_callv (va_runV (C := "ValueBenchModel") (As := [.int 92]) (rest := []) ⟨hx, hb, hml, hown, htx⟩ (gM_put0 l hl9 D cT aK aV H.size n aM adL rd gdL vadL ws9 (92 : Int32) o3 hq4 hk5) ⟨callB_of 1 htx (xw_goodC kw_6_136) rfl rfl rfl (htx _ kw_1_5) (htx _ kw_6_133) ⟨by decide, by decide, by decide +kernel⟩ ⟨Nat.le_of_ble_eq_true rfl, Nat.le_of_ble_eq_true rfl⟩, (htx _ kw_6_135), (htx _ kp_M_put0)⟩ ⟨xPre_blind, va_recv hK hP (ci := 5) rfl (q0 := 0) rfl, (fun U hU hW => ⟨rfl, xPre_of hZ hS hFc hP hD hK U hU hW⟩)⟩ rfl rfl hl.1 rfl (xm_room (Nat.le_of_ble_eq_true rfl)) dM_putString_77 ⟨hm6.1, hm6.2⟩) hS (fun q _ h => hFc q h) hFc (fun u9 t H1 locs ht hvm hr9 hB hz1 hk1 hS => ?_)
                obtain ⟨hP1, hK1, hD1⟩ := hB
                rw [ht] at hP1
                obtain ⟨ad8, gd9, vad10⟩ := u9
                obtain ⟨hv11, hn12⟩ := hr9
                have hP : va_P D xcl (xMw cT aM ad8 rd gd9 vad10 o3.2.2.2 []) H1 := hP1
                have hD : va_D A (xMw cT aM ad8 rd gd9 vad10 o3.2.2.2 []) := hD1.weaken (fun k q _ h => hFc q.1 h)
                generalize H1 = H at hP hS ⊢
                have hE9 : ∀ p, p < xct st → vad10 p = vad p := fun p h => (hv11 p (Nat.lt_of_lt_of_le h hN)).trans (hE p h)
                have hE := hE9
                have hN : xct st ≤ xct o3.2.2.2 := Nat.le_trans hN hn12
                have ev13 : xv vadL y1 = xv vad10 y1 := xvE hv11 (fun h => hg1 (Or.inr h))
                have hl : lv_has ls 4 [(3, .int ((xba ws9 3) (((xpi ws9 2) (y1 - 1)) + y2).toNatClampNeg)), (2, .int y2), (0, .ref aM), (1, xv vad10 y1)] := by first | exact hl | ((try (rw [← ev13])); exact hl)
                refine W.eq (g2 := F0 m 80 ls []) (by first | rfl | ((try (rw [ev13])); rfl)) ?_
                refine lv_iload_n hx hb dM_putString_80 rfl (lv_at hl 0 rfl) ?_
                refine lv_bipush (v := 8) hx hb dM_putString_81 (by decide) ?_
                refine lv_icmp_ne (tgt := 95) hx hb dM_putString_83 (by decide) (fun hc => ?_) (fun hc => ?_)
                · rw [if_neg hc] at hf
                  refine lv_iload_n hx hb dM_putString_95 rfl (lv_at hl 0 rfl) ?_
                  refine lv_bipush (v := 9) hx hb dM_putString_96 (by decide) ?_
                  refine lv_icmp_ne (tgt := 110) hx hb dM_putString_98 (by decide) (fun hc => ?_) (fun hc => ?_)
                  · rw [if_neg hc] at hf
                    refine lv_iload_n hx hb dM_putString_110 rfl (lv_at hl 0 rfl) ?_
                    refine lv_bipush (v := 10) hx hb dM_putString_111 (by decide) ?_
                    refine lv_icmp_ne (tgt := 125) hx hb dM_putString_113 (by decide) (fun hc => ?_) (fun hc => ?_)
                    · rw [if_neg hc] at hf
                      refine lv_iload_n hx hb dM_putString_125 rfl (lv_at hl 0 rfl) ?_
                      refine lv_bipush (v := 12) hx hb dM_putString_126 (by decide) ?_
                      refine lv_icmp_ne (tgt := 140) hx hb dM_putString_128 (by decide) (fun hc => ?_) (fun hc => ?_)
                      · rw [if_neg hc] at hf
                        refine lv_iload_n hx hb dM_putString_140 rfl (lv_at hl 0 rfl) ?_
                        refine lv_bipush (v := 13) hx hb dM_putString_141 (by decide) ?_
                        refine lv_icmp_ne (tgt := 155) hx hb dM_putString_143 (by decide) (fun hc => ?_) (fun hc => ?_)
                        · rw [if_neg hc] at hf
                          refine lv_aload_n hx hb dM_putString_155 rfl (lv_at hl 2 rfl) ?_
                          refine xm_ldcS (q := aK 14) hx hb hown (hZ.2.2.2.2.2.2.2.2.1 ("ValueBenchModel", 284, "u00", 14) (List.mem_of_getElem? (i := 20) rfl)) dM_putString_156 ?_
                          obtain ⟨o14, hq15, hf⟩ := xbind hf
                          by_cases hk16 : o14.1 = 0
                          · rw [if_pos hk16] at hf
                            obtain ⟨hg17, hf⟩ := xifn hf
                            obtain ⟨hm18, hf⟩ := xmoE hf
                            have hFc := xm_free hD hS hA
                            refine va_callv (va_runV (C := "ValueBenchModel") (As := [.ref (aK 14)]) (rest := []) ⟨hx, hb, hml, hown, htx⟩ (gM_put1c l hl9 D cT aK aV H.size n aM ad8 rd gd9 vad10 o3.2.2.2 o14 hq15 hk16) ⟨callB_of 1 htx (xw_goodC kw_6_132) rfl rfl rfl (htx _ kw_1_5) (htx _ kw_6_129) ⟨by decide, by decide, by decide +kernel⟩ ⟨Nat.le_of_ble_eq_true rfl, Nat.le_of_ble_eq_true rfl⟩, (htx _ kw_6_131), (htx _ kp_M_put1)⟩ ⟨xPre_blind, va_recv hK hP (ci := 5) rfl (q0 := 0) rfl, (fun U hU hW => ⟨rfl, xPre_of hZ hS hFc hP hD hK U hU hW⟩)⟩ rfl rfl hl.1 rfl (xm_room (Nat.le_of_ble_eq_true rfl)) dM_putString_159 ⟨hm18.1, hm18.2⟩) hS (fun q _ h => hFc q h) hFc (fun u9 t H1 locs ht hvm hr9 hB hz1 hk1 hS => ?_)
                            obtain ⟨hP1, hK1, hD1⟩ := hB
                            rw [ht] at hP1
                            obtain ⟨ad20, gd21, vad22⟩ := u9
                            obtain ⟨hv23, hn24⟩ := hr9
                            have hP : va_P D xcl (xMw cT aM ad20 rd gd21 vad22 o14.2.2.2 []) H1 := hP1
                            have hD : va_D A (xMw cT aM ad20 rd gd21 vad22 o14.2.2.2 []) := hD1.weaken (fun k q _ h => hFc q.1 h)
                            generalize H1 = H at hP hS ⊢
                            have hE9 : ∀ p, p < xct st → vad22 p = vad p := fun p h => (hv23 p (Nat.lt_of_lt_of_le h hN)).trans (hE p h)
                            have hE := hE9
                            have hN : xct st ≤ xct o14.2.2.2 := Nat.le_trans hN hn24
                            have ev25 : xv vad10 y1 = xv vad22 y1 := xvE hv23 hg17
                            have hl : lv_has ls 4 [(3, .int ((xba ws9 3) (((xpi ws9 2) (y1 - 1)) + y2).toNatClampNeg)), (2, .int y2), (0, .ref aM), (1, xv vad22 y1)] := by first | exact hl | ((try (rw [← ev25])); exact hl)
                            refine W.eq (g2 := F0 m 162 ls []) (by first | rfl | ((try (rw [ev25])); rfl)) ?_
                            refine lv_aload_n hx hb dM_putString_162 rfl (lv_at hl 2 rfl) ?_
                            refine lv_iload_n hx hb dM_putString_163 rfl (lv_at hl 0 rfl) ?_
                            refine lv_iconst (v := 4) hx hb dM_putString_164 (by decide) ?_
                            refine lv_ishr hx hb dM_putString_165 ?_
                            obtain ⟨o26, hq27, hf⟩ := xbind hf
                            by_cases hk28 : o26.1 = 0
                            · rw [if_pos hk28] at hf
                              obtain ⟨hg29, hf⟩ := xifn hf
                              obtain ⟨hm30, hf⟩ := xmoE hf
                              have hFc := xm_free hD hS hA
                              refine va_callv (va_runV (C := "ValueBenchModel") (As := [.int (((xba ws9 3) (((xpi ws9 2) (y1 - 1)) + y2).toNatClampNeg) >>> ((4 : Int32) &&& 31))]) (rest := []) ⟨hx, hb, hml, hown, htx⟩ (gM_putHex l hl9 D cT aK aV H.size n aM ad20 rd gd21 vad22 o14.2.2.2 (((xba ws9 3) (((xpi ws9 2) (y1 - 1)) + y2).toNatClampNeg) >>> ((4 : Int32) &&& 31)) o26 hq27 hk28) ⟨callB_of 1 htx (xw_goodC kw_6_150) rfl rfl rfl (htx _ kw_1_5) (htx _ kw_6_147) ⟨by decide, by decide, by decide +kernel⟩ ⟨Nat.le_of_ble_eq_true rfl, Nat.le_of_ble_eq_true rfl⟩, (htx _ kw_6_149), (htx _ kp_M_putHex)⟩ ⟨xPre_blind, va_recv hK hP (ci := 5) rfl (q0 := 0) rfl, (fun U hU hW => ⟨rfl, xPre_of hZ hS hFc hP hD hK U hU hW⟩)⟩ rfl rfl hl.1 rfl (xm_room (Nat.le_of_ble_eq_true rfl)) dM_putString_166 ⟨hm30.1, hm30.2⟩) hS (fun q _ h => hFc q h) hFc (fun u9 t H1 locs ht hvm hr9 hB hz1 hk1 hS => ?_)
                              obtain ⟨hP1, hK1, hD1⟩ := hB
                              rw [ht] at hP1
                              obtain ⟨ad32, gd33, vad34⟩ := u9
                              obtain ⟨hv35, hn36⟩ := hr9
                              have hP : va_P D xcl (xMw cT aM ad32 rd gd33 vad34 o26.2.2.2 []) H1 := hP1
                              have hD : va_D A (xMw cT aM ad32 rd gd33 vad34 o26.2.2.2 []) := hD1.weaken (fun k q _ h => hFc q.1 h)
                              generalize H1 = H at hP hS ⊢
                              have hE9 : ∀ p, p < xct st → vad34 p = vad p := fun p h => (hv35 p (Nat.lt_of_lt_of_le h hN)).trans (hE p h)
                              have hE := hE9
                              have hN : xct st ≤ xct o26.2.2.2 := Nat.le_trans hN hn36
                              have ev37 : xv vad22 y1 = xv vad34 y1 := xvE hv35 hg29
                              have hl : lv_has ls 4 [(3, .int ((xba ws9 3) (((xpi ws9 2) (y1 - 1)) + y2).toNatClampNeg)), (2, .int y2), (0, .ref aM), (1, xv vad34 y1)] := by first | exact hl | ((try (rw [← ev37])); exact hl)
                              refine W.eq (g2 := F0 m 169 ls []) (by first | rfl | ((try (rw [ev37])); rfl)) ?_
                              refine lv_aload_n hx hb dM_putString_169 rfl (lv_at hl 2 rfl) ?_
                              refine lv_iload_n hx hb dM_putString_170 rfl (lv_at hl 0 rfl) ?_
                              refine lv_bipush (v := 15) hx hb dM_putString_171 (by decide) ?_
                              refine lv_iand hx hb dM_putString_173 ?_
                              obtain ⟨o38, hq39, hf⟩ := xbind hf
                              by_cases hk40 : o38.1 = 0
                              · rw [if_pos hk40] at hf
                                obtain ⟨hg41, hf⟩ := xifn hf
                                obtain ⟨hm42, hf⟩ := xmoE hf
                                have hFc := xm_free hD hS hA
                                refine va_callv (va_runV (C := "ValueBenchModel") (As := [.int (((xba ws9 3) (((xpi ws9 2) (y1 - 1)) + y2).toNatClampNeg) &&& (15 : Int32))]) (rest := []) ⟨hx, hb, hml, hown, htx⟩ (gM_putHex l hl9 D cT aK aV H.size n aM ad32 rd gd33 vad34 o26.2.2.2 (((xba ws9 3) (((xpi ws9 2) (y1 - 1)) + y2).toNatClampNeg) &&& (15 : Int32)) o38 hq39 hk40) ⟨callB_of 1 htx (xw_goodC kw_6_150) rfl rfl rfl (htx _ kw_1_5) (htx _ kw_6_147) ⟨by decide, by decide, by decide +kernel⟩ ⟨Nat.le_of_ble_eq_true rfl, Nat.le_of_ble_eq_true rfl⟩, (htx _ kw_6_149), (htx _ kp_M_putHex)⟩ ⟨xPre_blind, va_recv hK hP (ci := 5) rfl (q0 := 0) rfl, (fun U hU hW => ⟨rfl, xPre_of hZ hS hFc hP hD hK U hU hW⟩)⟩ rfl rfl hl.1 rfl (xm_room (Nat.le_of_ble_eq_true rfl)) dM_putString_174 ⟨hm42.1, hm42.2⟩) hS (fun q _ h => hFc q h) hFc (fun u9 t H1 locs ht hvm hr9 hB hz1 hk1 hS => ?_)
                                obtain ⟨hP1, hK1, hD1⟩ := hB
                                rw [ht] at hP1
                                obtain ⟨ad44, gd45, vad46⟩ := u9
                                obtain ⟨hv47, hn48⟩ := hr9
                                have hP : va_P D xcl (xMw cT aM ad44 rd gd45 vad46 o38.2.2.2 []) H1 := hP1
                                have hD : va_D A (xMw cT aM ad44 rd gd45 vad46 o38.2.2.2 []) := hD1.weaken (fun k q _ h => hFc q.1 h)
                                generalize H1 = H at hP hS ⊢
                                have hE9 : ∀ p, p < xct st → vad46 p = vad p := fun p h => (hv47 p (Nat.lt_of_lt_of_le h hN)).trans (hE p h)
                                have hE := hE9
                                have hN : xct st ≤ xct o38.2.2.2 := Nat.le_trans hN hn48
                                have ev49 : xv vad34 y1 = xv vad46 y1 := xvE hv47 hg41
                                have hl : lv_has ls 4 [(3, .int ((xba ws9 3) (((xpi ws9 2) (y1 - 1)) + y2).toNatClampNeg)), (2, .int y2), (0, .ref aM), (1, xv vad46 y1)] := by first | exact hl | ((try (rw [← ev49])); exact hl)
                                refine W.eq (g2 := F0 m 177 ls []) (by first | rfl | ((try (rw [ev49])); rfl)) ?_
                                refine lv_iinc (v := (y2 + 1)) (lv' := [(2, .int (y2 + 1)), (3, .int ((xba ws9 3) (((xpi ws9 2) (y1 - 1)) + y2).toNatClampNeg)), (0, .ref aM), (1, xv vad46 y1)]) hx hb dM_putString_177 hl (k := 1) rfl rfl (by decide) (by simp only [List.filter, xvcat, xrscat, xcI, xcL, xcR, xcN]; rfl) (fun ls hl => ?_)
                                refine lv_goto (tgt := 8) hx hb dM_putString_180 (by decide) ?_
                                exact ih (1, (y2 + 1), y1, o38.2.2.2, ((((wc + o3.2.1) + o14.2.1) + o26.2.1) + o38.2.1), ((((wn + o3.2.2.1) + o14.2.2.1) + o26.2.2.1) + o38.2.2.1)) _ _ ls (⟨ad44, gd45, vad46, rfl, hf, hP, hD, hS, lv_sub hl [0, 2, 3] rfl, hE, hN⟩)
                              rw [if_neg hk40] at hf
                              by_cases hk50 : o38.1 = 1
                              · rw [if_pos hk50] at hf
                                obtain ⟨hg51, hf⟩ := xifn hf
                                obtain ⟨hm52, hf⟩ := xmoE hf
                                have hFc := xm_free hD hS hA
                                refine xx_thr (vx_runV (C := "ValueBenchModel") (As := [.int (((xba ws9 3) (((xpi ws9 2) (y1 - 1)) + y2).toNatClampNeg) &&& (15 : Int32))]) (rest := []) ⟨hx, hb, hml, hown, htx⟩ (gM_putHex_1 l hl9 D cT aK aV H.size n aM ad32 rd gd33 vad34 o26.2.2.2 (((xba ws9 3) (((xpi ws9 2) (y1 - 1)) + y2).toNatClampNeg) &&& (15 : Int32)) o38 hq39 hk50) ⟨callB_of 1 htx (xw_goodC kw_6_150) rfl rfl rfl (htx _ kw_1_5) (htx _ kw_6_147) ⟨by decide, by decide, by decide +kernel⟩ ⟨Nat.le_of_ble_eq_true rfl, Nat.le_of_ble_eq_true rfl⟩, (htx _ kw_6_149), (htx _ kp_M_putHex)⟩ ⟨xPre_blind, va_recv hK hP (ci := 5) rfl (q0 := 0) rfl, (fun U hU hW => ⟨rfl, xPre_of hZ hS hFc hP hD hK U hU hW⟩)⟩ rfl rfl hl.1 rfl (xm_room (Nat.le_of_ble_eq_true rfl)) dM_putString_174 ⟨hm52.1, hm52.2⟩) hS hFc (fun q _ h => hFc q h) (fun E ce q9 u9 t H1 locs ht hvm hr9 hB hz1 hk1 hS hce hcv hcl => ?_)
                                obtain ⟨rfl, hP1, hK1, hD1⟩ := hB
                                rw [ht] at hP1
                                obtain ⟨ad54, gd55, vad56⟩ := u9
                                obtain ⟨hv57, hn58⟩ := hr9
                                have hP : va_P D xcl (xMw cT aM ad54 rd gd55 vad56 o38.2.2.2 []) H1 := hP1
                                have hD : va_D A (xMw cT aM ad54 rd gd55 vad56 o38.2.2.2 []) := hD1.weaken (fun k q _ h => hFc q.1 h)
                                generalize H1 = H at hP hS hce ⊢
                                have hE9 : ∀ p, p < xct st → vad56 p = vad p := fun p h => (hv57 p (Nat.lt_of_lt_of_le h hN)).trans (hE p h)
                                have hE := hE9
                                have hN : xct st ≤ xct o38.2.2.2 := Nat.le_trans hN hn58
                                have ev59 : xv vad34 y1 = xv vad56 y1 := xvE hv57 hg51
                                have hl : lv_has ls 4 [(3, .int ((xba ws9 3) (((xpi ws9 2) (y1 - 1)) + y2).toNatClampNeg)), (2, .int y2), (0, .ref aM), (1, xv vad56 y1)] := by first | exact hl | ((try (rw [← ev59])); exact hl)
                                obtain rfl := Option.some.inj hf
                                exact vx_out (E := "java/lang/IndexOutOfBoundsException") (fun x h => (hne x h).elim) hlocks hce hcv hcl (fun t ht ha => ⟨(ad54, gd55, vad56), ⟨hE, hN⟩, ⟨rfl, by rw [ht]; exact hP, va_K.moved ha hK, hD⟩, hS.F ht⟩) hS.2.2 (Nat.le_refl _) (Nat.le_refl _)
                              rw [if_neg hk50] at hf
                              exact nomatch hf
                            rw [if_neg hk28] at hf
                            by_cases hk60 : o26.1 = 1
                            · rw [if_pos hk60] at hf
                              obtain ⟨hg61, hf⟩ := xifn hf
                              obtain ⟨hm62, hf⟩ := xmoE hf
                              have hFc := xm_free hD hS hA
                              refine xx_thr (vx_runV (C := "ValueBenchModel") (As := [.int (((xba ws9 3) (((xpi ws9 2) (y1 - 1)) + y2).toNatClampNeg) >>> ((4 : Int32) &&& 31))]) (rest := []) ⟨hx, hb, hml, hown, htx⟩ (gM_putHex_1 l hl9 D cT aK aV H.size n aM ad20 rd gd21 vad22 o14.2.2.2 (((xba ws9 3) (((xpi ws9 2) (y1 - 1)) + y2).toNatClampNeg) >>> ((4 : Int32) &&& 31)) o26 hq27 hk60) ⟨callB_of 1 htx (xw_goodC kw_6_150) rfl rfl rfl (htx _ kw_1_5) (htx _ kw_6_147) ⟨by decide, by decide, by decide +kernel⟩ ⟨Nat.le_of_ble_eq_true rfl, Nat.le_of_ble_eq_true rfl⟩, (htx _ kw_6_149), (htx _ kp_M_putHex)⟩ ⟨xPre_blind, va_recv hK hP (ci := 5) rfl (q0 := 0) rfl, (fun U hU hW => ⟨rfl, xPre_of hZ hS hFc hP hD hK U hU hW⟩)⟩ rfl rfl hl.1 rfl (xm_room (Nat.le_of_ble_eq_true rfl)) dM_putString_166 ⟨hm62.1, hm62.2⟩) hS hFc (fun q _ h => hFc q h) (fun E ce q9 u9 t H1 locs ht hvm hr9 hB hz1 hk1 hS hce hcv hcl => ?_)
                              obtain ⟨rfl, hP1, hK1, hD1⟩ := hB
                              rw [ht] at hP1
                              obtain ⟨ad64, gd65, vad66⟩ := u9
                              obtain ⟨hv67, hn68⟩ := hr9
                              have hP : va_P D xcl (xMw cT aM ad64 rd gd65 vad66 o26.2.2.2 []) H1 := hP1
                              have hD : va_D A (xMw cT aM ad64 rd gd65 vad66 o26.2.2.2 []) := hD1.weaken (fun k q _ h => hFc q.1 h)
                              generalize H1 = H at hP hS hce ⊢
                              have hE9 : ∀ p, p < xct st → vad66 p = vad p := fun p h => (hv67 p (Nat.lt_of_lt_of_le h hN)).trans (hE p h)
                              have hE := hE9
                              have hN : xct st ≤ xct o26.2.2.2 := Nat.le_trans hN hn68
                              have ev69 : xv vad22 y1 = xv vad66 y1 := xvE hv67 hg61
                              have hl : lv_has ls 4 [(3, .int ((xba ws9 3) (((xpi ws9 2) (y1 - 1)) + y2).toNatClampNeg)), (2, .int y2), (0, .ref aM), (1, xv vad66 y1)] := by first | exact hl | ((try (rw [← ev69])); exact hl)
                              obtain rfl := Option.some.inj hf
                              exact vx_out (E := "java/lang/IndexOutOfBoundsException") (fun x h => (hne x h).elim) hlocks hce hcv hcl (fun t ht ha => ⟨(ad64, gd65, vad66), ⟨hE, hN⟩, ⟨rfl, by rw [ht]; exact hP, va_K.moved ha hK, hD⟩, hS.F ht⟩) hS.2.2 (Nat.le_refl _) (Nat.le_refl _)
                            rw [if_neg hk60] at hf
                            exact nomatch hf
                          rw [if_neg hk16] at hf
                          by_cases hk70 : o14.1 = 1
                          · rw [if_pos hk70] at hf
                            obtain ⟨hg71, hf⟩ := xifn hf
                            obtain ⟨hm72, hf⟩ := xmoE hf
                            have hFc := xm_free hD hS hA
                            refine xx_thr (vx_runV (C := "ValueBenchModel") (As := [.ref (aK 14)]) (rest := []) ⟨hx, hb, hml, hown, htx⟩ (gM_put1c_1 l hl9 D cT aK aV H.size n aM ad8 rd gd9 vad10 o3.2.2.2 o14 hq15 hk70) ⟨callB_of 1 htx (xw_goodC kw_6_132) rfl rfl rfl (htx _ kw_1_5) (htx _ kw_6_129) ⟨by decide, by decide, by decide +kernel⟩ ⟨Nat.le_of_ble_eq_true rfl, Nat.le_of_ble_eq_true rfl⟩, (htx _ kw_6_131), (htx _ kp_M_put1)⟩ ⟨xPre_blind, va_recv hK hP (ci := 5) rfl (q0 := 0) rfl, (fun U hU hW => ⟨rfl, xPre_of hZ hS hFc hP hD hK U hU hW⟩)⟩ rfl rfl hl.1 rfl (xm_room (Nat.le_of_ble_eq_true rfl)) dM_putString_159 ⟨hm72.1, hm72.2⟩) hS hFc (fun q _ h => hFc q h) (fun E ce q9 u9 t H1 locs ht hvm hr9 hB hz1 hk1 hS hce hcv hcl => ?_)
                            obtain ⟨rfl, hP1, hK1, hD1⟩ := hB
                            rw [ht] at hP1
                            obtain ⟨ad74, gd75, vad76⟩ := u9
                            obtain ⟨hv77, hn78⟩ := hr9
                            have hP : va_P D xcl (xMw cT aM ad74 rd gd75 vad76 o14.2.2.2 []) H1 := hP1
                            have hD : va_D A (xMw cT aM ad74 rd gd75 vad76 o14.2.2.2 []) := hD1.weaken (fun k q _ h => hFc q.1 h)
                            generalize H1 = H at hP hS hce ⊢
                            have hE9 : ∀ p, p < xct st → vad76 p = vad p := fun p h => (hv77 p (Nat.lt_of_lt_of_le h hN)).trans (hE p h)
                            have hE := hE9
                            have hN : xct st ≤ xct o14.2.2.2 := Nat.le_trans hN hn78
                            have ev79 : xv vad10 y1 = xv vad76 y1 := xvE hv77 hg71
                            have hl : lv_has ls 4 [(3, .int ((xba ws9 3) (((xpi ws9 2) (y1 - 1)) + y2).toNatClampNeg)), (2, .int y2), (0, .ref aM), (1, xv vad76 y1)] := by first | exact hl | ((try (rw [← ev79])); exact hl)
                            obtain rfl := Option.some.inj hf
                            exact vx_out (E := "java/lang/IndexOutOfBoundsException") (fun x h => (hne x h).elim) hlocks hce hcv hcl (fun t ht ha => ⟨(ad74, gd75, vad76), ⟨hE, hN⟩, ⟨rfl, by rw [ht]; exact hP, va_K.moved ha hK, hD⟩, hS.F ht⟩) hS.2.2 (Nat.le_refl _) (Nat.le_refl _)
                          rw [if_neg hk70] at hf
                          exact nomatch hf
                        · rw [if_pos hc] at hf
                          refine lv_aload_n hx hb dM_putString_146 rfl (lv_at hl 2 rfl) ?_
                          refine lv_bipush (v := 114) hx hb dM_putString_147 (by decide) ?_
                          obtain ⟨o14, hq15, hf⟩ := xbind hf
                          by_cases hk16 : o14.1 = 0
                          · rw [if_pos hk16] at hf
                            obtain ⟨hg17, hf⟩ := xifn hf
                            obtain ⟨hm18, hf⟩ := xmoE hf
                            have hFc := xm_free hD hS hA
                            refine va_callv (va_runV (C := "ValueBenchModel") (As := [.int 114]) (rest := []) ⟨hx, hb, hml, hown, htx⟩ (gM_put0 l hl9 D cT aK aV H.size n aM ad8 rd gd9 vad10 o3.2.2.2 (114 : Int32) o14 hq15 hk16) ⟨callB_of 1 htx (xw_goodC kw_6_136) rfl rfl rfl (htx _ kw_1_5) (htx _ kw_6_133) ⟨by decide, by decide, by decide +kernel⟩ ⟨Nat.le_of_ble_eq_true rfl, Nat.le_of_ble_eq_true rfl⟩, (htx _ kw_6_135), (htx _ kp_M_put0)⟩ ⟨xPre_blind, va_recv hK hP (ci := 5) rfl (q0 := 0) rfl, (fun U hU hW => ⟨rfl, xPre_of hZ hS hFc hP hD hK U hU hW⟩)⟩ rfl rfl hl.1 rfl (xm_room (Nat.le_of_ble_eq_true rfl)) dM_putString_149 ⟨hm18.1, hm18.2⟩) hS (fun q _ h => hFc q h) hFc (fun u9 t H1 locs ht hvm hr9 hB hz1 hk1 hS => ?_)
                            obtain ⟨hP1, hK1, hD1⟩ := hB
                            rw [ht] at hP1
                            obtain ⟨ad20, gd21, vad22⟩ := u9
                            obtain ⟨hv23, hn24⟩ := hr9
                            have hP : va_P D xcl (xMw cT aM ad20 rd gd21 vad22 o14.2.2.2 []) H1 := hP1
                            have hD : va_D A (xMw cT aM ad20 rd gd21 vad22 o14.2.2.2 []) := hD1.weaken (fun k q _ h => hFc q.1 h)
                            generalize H1 = H at hP hS ⊢
                            have hE9 : ∀ p, p < xct st → vad22 p = vad p := fun p h => (hv23 p (Nat.lt_of_lt_of_le h hN)).trans (hE p h)
                            have hE := hE9
                            have hN : xct st ≤ xct o14.2.2.2 := Nat.le_trans hN hn24
                            have ev25 : xv vad10 y1 = xv vad22 y1 := xvE hv23 hg17
                            have hl : lv_has ls 4 [(3, .int ((xba ws9 3) (((xpi ws9 2) (y1 - 1)) + y2).toNatClampNeg)), (2, .int y2), (0, .ref aM), (1, xv vad22 y1)] := by first | exact hl | ((try (rw [← ev25])); exact hl)
                            refine W.eq (g2 := F0 m 152 ls []) (by first | rfl | ((try (rw [ev25])); rfl)) ?_
                            refine lv_goto (tgt := 177) hx hb dM_putString_152 (by decide) ?_
                            refine lv_iinc (v := (y2 + 1)) (lv' := [(2, .int (y2 + 1)), (3, .int ((xba ws9 3) (((xpi ws9 2) (y1 - 1)) + y2).toNatClampNeg)), (0, .ref aM), (1, xv vad22 y1)]) hx hb dM_putString_177 hl (k := 1) rfl rfl (by decide) (by simp only [List.filter, xvcat, xrscat, xcI, xcL, xcR, xcN]; rfl) (fun ls hl => ?_)
                            refine lv_goto (tgt := 8) hx hb dM_putString_180 (by decide) ?_
                            exact ih (1, (y2 + 1), y1, o14.2.2.2, ((wc + o3.2.1) + o14.2.1), ((wn + o3.2.2.1) + o14.2.2.1)) _ _ ls (⟨ad20, gd21, vad22, rfl, hf, hP, hD, hS, lv_sub hl [0, 2, 3] rfl, hE, hN⟩)
                          rw [if_neg hk16] at hf
                          by_cases hk26 : o14.1 = 1
                          · rw [if_pos hk26] at hf
                            obtain ⟨hg27, hf⟩ := xifn hf
                            obtain ⟨hm28, hf⟩ := xmoE hf
                            have hFc := xm_free hD hS hA
                            refine xx_thr (vx_runV (C := "ValueBenchModel") (As := [.int 114]) (rest := []) ⟨hx, hb, hml, hown, htx⟩ (gM_put0_1 l hl9 D cT aK aV H.size n aM ad8 rd gd9 vad10 o3.2.2.2 (114 : Int32) o14 hq15 hk26) ⟨callB_of 1 htx (xw_goodC kw_6_136) rfl rfl rfl (htx _ kw_1_5) (htx _ kw_6_133) ⟨by decide, by decide, by decide +kernel⟩ ⟨Nat.le_of_ble_eq_true rfl, Nat.le_of_ble_eq_true rfl⟩, (htx _ kw_6_135), (htx _ kp_M_put0)⟩ ⟨xPre_blind, va_recv hK hP (ci := 5) rfl (q0 := 0) rfl, (fun U hU hW => ⟨rfl, xPre_of hZ hS hFc hP hD hK U hU hW⟩)⟩ rfl rfl hl.1 rfl (xm_room (Nat.le_of_ble_eq_true rfl)) dM_putString_149 ⟨hm28.1, hm28.2⟩) hS hFc (fun q _ h => hFc q h) (fun E ce q9 u9 t H1 locs ht hvm hr9 hB hz1 hk1 hS hce hcv hcl => ?_)
                            obtain ⟨rfl, hP1, hK1, hD1⟩ := hB
                            rw [ht] at hP1
                            obtain ⟨ad30, gd31, vad32⟩ := u9
                            obtain ⟨hv33, hn34⟩ := hr9
                            have hP : va_P D xcl (xMw cT aM ad30 rd gd31 vad32 o14.2.2.2 []) H1 := hP1
                            have hD : va_D A (xMw cT aM ad30 rd gd31 vad32 o14.2.2.2 []) := hD1.weaken (fun k q _ h => hFc q.1 h)
                            generalize H1 = H at hP hS hce ⊢
                            have hE9 : ∀ p, p < xct st → vad32 p = vad p := fun p h => (hv33 p (Nat.lt_of_lt_of_le h hN)).trans (hE p h)
                            have hE := hE9
                            have hN : xct st ≤ xct o14.2.2.2 := Nat.le_trans hN hn34
                            have ev35 : xv vad10 y1 = xv vad32 y1 := xvE hv33 hg27
                            have hl : lv_has ls 4 [(3, .int ((xba ws9 3) (((xpi ws9 2) (y1 - 1)) + y2).toNatClampNeg)), (2, .int y2), (0, .ref aM), (1, xv vad32 y1)] := by first | exact hl | ((try (rw [← ev35])); exact hl)
                            obtain rfl := Option.some.inj hf
                            exact vx_out (E := "java/lang/IndexOutOfBoundsException") (fun x h => (hne x h).elim) hlocks hce hcv hcl (fun t ht ha => ⟨(ad30, gd31, vad32), ⟨hE, hN⟩, ⟨rfl, by rw [ht]; exact hP, va_K.moved ha hK, hD⟩, hS.F ht⟩) hS.2.2 (Nat.le_refl _) (Nat.le_refl _)
                          rw [if_neg hk26] at hf
                          exact nomatch hf
                      · rw [if_pos hc] at hf
                        refine lv_aload_n hx hb dM_putString_131 rfl (lv_at hl 2 rfl) ?_
                        refine lv_bipush (v := 102) hx hb dM_putString_132 (by decide) ?_
                        obtain ⟨o14, hq15, hf⟩ := xbind hf
                        by_cases hk16 : o14.1 = 0
                        · rw [if_pos hk16] at hf
                          obtain ⟨hg17, hf⟩ := xifn hf
                          obtain ⟨hm18, hf⟩ := xmoE hf
                          have hFc := xm_free hD hS hA
                          refine va_callv (va_runV (C := "ValueBenchModel") (As := [.int 102]) (rest := []) ⟨hx, hb, hml, hown, htx⟩ (gM_put0 l hl9 D cT aK aV H.size n aM ad8 rd gd9 vad10 o3.2.2.2 (102 : Int32) o14 hq15 hk16) ⟨callB_of 1 htx (xw_goodC kw_6_136) rfl rfl rfl (htx _ kw_1_5) (htx _ kw_6_133) ⟨by decide, by decide, by decide +kernel⟩ ⟨Nat.le_of_ble_eq_true rfl, Nat.le_of_ble_eq_true rfl⟩, (htx _ kw_6_135), (htx _ kp_M_put0)⟩ ⟨xPre_blind, va_recv hK hP (ci := 5) rfl (q0 := 0) rfl, (fun U hU hW => ⟨rfl, xPre_of hZ hS hFc hP hD hK U hU hW⟩)⟩ rfl rfl hl.1 rfl (xm_room (Nat.le_of_ble_eq_true rfl)) dM_putString_134 ⟨hm18.1, hm18.2⟩) hS (fun q _ h => hFc q h) hFc (fun u9 t H1 locs ht hvm hr9 hB hz1 hk1 hS => ?_)
                          obtain ⟨hP1, hK1, hD1⟩ := hB
                          rw [ht] at hP1
                          obtain ⟨ad20, gd21, vad22⟩ := u9
                          obtain ⟨hv23, hn24⟩ := hr9
                          have hP : va_P D xcl (xMw cT aM ad20 rd gd21 vad22 o14.2.2.2 []) H1 := hP1
                          have hD : va_D A (xMw cT aM ad20 rd gd21 vad22 o14.2.2.2 []) := hD1.weaken (fun k q _ h => hFc q.1 h)
                          generalize H1 = H at hP hS ⊢
                          have hE9 : ∀ p, p < xct st → vad22 p = vad p := fun p h => (hv23 p (Nat.lt_of_lt_of_le h hN)).trans (hE p h)
                          have hE := hE9
                          have hN : xct st ≤ xct o14.2.2.2 := Nat.le_trans hN hn24
                          have ev25 : xv vad10 y1 = xv vad22 y1 := xvE hv23 hg17
                          have hl : lv_has ls 4 [(3, .int ((xba ws9 3) (((xpi ws9 2) (y1 - 1)) + y2).toNatClampNeg)), (2, .int y2), (0, .ref aM), (1, xv vad22 y1)] := by first | exact hl | ((try (rw [← ev25])); exact hl)
                          refine W.eq (g2 := F0 m 137 ls []) (by first | rfl | ((try (rw [ev25])); rfl)) ?_
                          refine lv_goto (tgt := 177) hx hb dM_putString_137 (by decide) ?_
                          refine lv_iinc (v := (y2 + 1)) (lv' := [(2, .int (y2 + 1)), (3, .int ((xba ws9 3) (((xpi ws9 2) (y1 - 1)) + y2).toNatClampNeg)), (0, .ref aM), (1, xv vad22 y1)]) hx hb dM_putString_177 hl (k := 1) rfl rfl (by decide) (by simp only [List.filter, xvcat, xrscat, xcI, xcL, xcR, xcN]; rfl) (fun ls hl => ?_)
                          refine lv_goto (tgt := 8) hx hb dM_putString_180 (by decide) ?_
                          exact ih (1, (y2 + 1), y1, o14.2.2.2, ((wc + o3.2.1) + o14.2.1), ((wn + o3.2.2.1) + o14.2.2.1)) _ _ ls (⟨ad20, gd21, vad22, rfl, hf, hP, hD, hS, lv_sub hl [0, 2, 3] rfl, hE, hN⟩)
                        rw [if_neg hk16] at hf
                        by_cases hk26 : o14.1 = 1
                        · rw [if_pos hk26] at hf
                          obtain ⟨hg27, hf⟩ := xifn hf
                          obtain ⟨hm28, hf⟩ := xmoE hf
                          have hFc := xm_free hD hS hA
                          refine xx_thr (vx_runV (C := "ValueBenchModel") (As := [.int 102]) (rest := []) ⟨hx, hb, hml, hown, htx⟩ (gM_put0_1 l hl9 D cT aK aV H.size n aM ad8 rd gd9 vad10 o3.2.2.2 (102 : Int32) o14 hq15 hk26) ⟨callB_of 1 htx (xw_goodC kw_6_136) rfl rfl rfl (htx _ kw_1_5) (htx _ kw_6_133) ⟨by decide, by decide, by decide +kernel⟩ ⟨Nat.le_of_ble_eq_true rfl, Nat.le_of_ble_eq_true rfl⟩, (htx _ kw_6_135), (htx _ kp_M_put0)⟩ ⟨xPre_blind, va_recv hK hP (ci := 5) rfl (q0 := 0) rfl, (fun U hU hW => ⟨rfl, xPre_of hZ hS hFc hP hD hK U hU hW⟩)⟩ rfl rfl hl.1 rfl (xm_room (Nat.le_of_ble_eq_true rfl)) dM_putString_134 ⟨hm28.1, hm28.2⟩) hS hFc (fun q _ h => hFc q h) (fun E ce q9 u9 t H1 locs ht hvm hr9 hB hz1 hk1 hS hce hcv hcl => ?_)
                          obtain ⟨rfl, hP1, hK1, hD1⟩ := hB
                          rw [ht] at hP1
                          obtain ⟨ad30, gd31, vad32⟩ := u9
                          obtain ⟨hv33, hn34⟩ := hr9
                          have hP : va_P D xcl (xMw cT aM ad30 rd gd31 vad32 o14.2.2.2 []) H1 := hP1
                          have hD : va_D A (xMw cT aM ad30 rd gd31 vad32 o14.2.2.2 []) := hD1.weaken (fun k q _ h => hFc q.1 h)
                          generalize H1 = H at hP hS hce ⊢
                          have hE9 : ∀ p, p < xct st → vad32 p = vad p := fun p h => (hv33 p (Nat.lt_of_lt_of_le h hN)).trans (hE p h)
                          have hE := hE9
                          have hN : xct st ≤ xct o14.2.2.2 := Nat.le_trans hN hn34
                          have ev35 : xv vad10 y1 = xv vad32 y1 := xvE hv33 hg27
                          have hl : lv_has ls 4 [(3, .int ((xba ws9 3) (((xpi ws9 2) (y1 - 1)) + y2).toNatClampNeg)), (2, .int y2), (0, .ref aM), (1, xv vad32 y1)] := by first | exact hl | ((try (rw [← ev35])); exact hl)
                          obtain rfl := Option.some.inj hf
                          exact vx_out (E := "java/lang/IndexOutOfBoundsException") (fun x h => (hne x h).elim) hlocks hce hcv hcl (fun t ht ha => ⟨(ad30, gd31, vad32), ⟨hE, hN⟩, ⟨rfl, by rw [ht]; exact hP, va_K.moved ha hK, hD⟩, hS.F ht⟩) hS.2.2 (Nat.le_refl _) (Nat.le_refl _)
                        rw [if_neg hk26] at hf
                        exact nomatch hf
                    · rw [if_pos hc] at hf
                      refine lv_aload_n hx hb dM_putString_116 rfl (lv_at hl 2 rfl) ?_
                      refine lv_bipush (v := 110) hx hb dM_putString_117 (by decide) ?_
                      obtain ⟨o14, hq15, hf⟩ := xbind hf
                      by_cases hk16 : o14.1 = 0
                      · rw [if_pos hk16] at hf
                        obtain ⟨hg17, hf⟩ := xifn hf
                        obtain ⟨hm18, hf⟩ := xmoE hf
                        have hFc := xm_free hD hS hA
                        refine va_callv (va_runV (C := "ValueBenchModel") (As := [.int 110]) (rest := []) ⟨hx, hb, hml, hown, htx⟩ (gM_put0 l hl9 D cT aK aV H.size n aM ad8 rd gd9 vad10 o3.2.2.2 (110 : Int32) o14 hq15 hk16) ⟨callB_of 1 htx (xw_goodC kw_6_136) rfl rfl rfl (htx _ kw_1_5) (htx _ kw_6_133) ⟨by decide, by decide, by decide +kernel⟩ ⟨Nat.le_of_ble_eq_true rfl, Nat.le_of_ble_eq_true rfl⟩, (htx _ kw_6_135), (htx _ kp_M_put0)⟩ ⟨xPre_blind, va_recv hK hP (ci := 5) rfl (q0 := 0) rfl, (fun U hU hW => ⟨rfl, xPre_of hZ hS hFc hP hD hK U hU hW⟩)⟩ rfl rfl hl.1 rfl (xm_room (Nat.le_of_ble_eq_true rfl)) dM_putString_119 ⟨hm18.1, hm18.2⟩) hS (fun q _ h => hFc q h) hFc (fun u9 t H1 locs ht hvm hr9 hB hz1 hk1 hS => ?_)
                        obtain ⟨hP1, hK1, hD1⟩ := hB
                        rw [ht] at hP1
                        obtain ⟨ad20, gd21, vad22⟩ := u9
                        obtain ⟨hv23, hn24⟩ := hr9
                        have hP : va_P D xcl (xMw cT aM ad20 rd gd21 vad22 o14.2.2.2 []) H1 := hP1
                        have hD : va_D A (xMw cT aM ad20 rd gd21 vad22 o14.2.2.2 []) := hD1.weaken (fun k q _ h => hFc q.1 h)
                        generalize H1 = H at hP hS ⊢
                        have hE9 : ∀ p, p < xct st → vad22 p = vad p := fun p h => (hv23 p (Nat.lt_of_lt_of_le h hN)).trans (hE p h)
                        have hE := hE9
                        have hN : xct st ≤ xct o14.2.2.2 := Nat.le_trans hN hn24
                        have ev25 : xv vad10 y1 = xv vad22 y1 := xvE hv23 hg17
                        have hl : lv_has ls 4 [(3, .int ((xba ws9 3) (((xpi ws9 2) (y1 - 1)) + y2).toNatClampNeg)), (2, .int y2), (0, .ref aM), (1, xv vad22 y1)] := by first | exact hl | ((try (rw [← ev25])); exact hl)
                        refine W.eq (g2 := F0 m 122 ls []) (by first | rfl | ((try (rw [ev25])); rfl)) ?_
                        refine lv_goto (tgt := 177) hx hb dM_putString_122 (by decide) ?_
                        refine lv_iinc (v := (y2 + 1)) (lv' := [(2, .int (y2 + 1)), (3, .int ((xba ws9 3) (((xpi ws9 2) (y1 - 1)) + y2).toNatClampNeg)), (0, .ref aM), (1, xv vad22 y1)]) hx hb dM_putString_177 hl (k := 1) rfl rfl (by decide) (by simp only [List.filter, xvcat, xrscat, xcI, xcL, xcR, xcN]; rfl) (fun ls hl => ?_)
                        refine lv_goto (tgt := 8) hx hb dM_putString_180 (by decide) ?_
                        exact ih (1, (y2 + 1), y1, o14.2.2.2, ((wc + o3.2.1) + o14.2.1), ((wn + o3.2.2.1) + o14.2.2.1)) _ _ ls (⟨ad20, gd21, vad22, rfl, hf, hP, hD, hS, lv_sub hl [0, 2, 3] rfl, hE, hN⟩)
                      rw [if_neg hk16] at hf
                      by_cases hk26 : o14.1 = 1
                      · rw [if_pos hk26] at hf
                        obtain ⟨hg27, hf⟩ := xifn hf
                        obtain ⟨hm28, hf⟩ := xmoE hf
                        have hFc := xm_free hD hS hA
                        refine xx_thr (vx_runV (C := "ValueBenchModel") (As := [.int 110]) (rest := []) ⟨hx, hb, hml, hown, htx⟩ (gM_put0_1 l hl9 D cT aK aV H.size n aM ad8 rd gd9 vad10 o3.2.2.2 (110 : Int32) o14 hq15 hk26) ⟨callB_of 1 htx (xw_goodC kw_6_136) rfl rfl rfl (htx _ kw_1_5) (htx _ kw_6_133) ⟨by decide, by decide, by decide +kernel⟩ ⟨Nat.le_of_ble_eq_true rfl, Nat.le_of_ble_eq_true rfl⟩, (htx _ kw_6_135), (htx _ kp_M_put0)⟩ ⟨xPre_blind, va_recv hK hP (ci := 5) rfl (q0 := 0) rfl, (fun U hU hW => ⟨rfl, xPre_of hZ hS hFc hP hD hK U hU hW⟩)⟩ rfl rfl hl.1 rfl (xm_room (Nat.le_of_ble_eq_true rfl)) dM_putString_119 ⟨hm28.1, hm28.2⟩) hS hFc (fun q _ h => hFc q h) (fun E ce q9 u9 t H1 locs ht hvm hr9 hB hz1 hk1 hS hce hcv hcl => ?_)
                        obtain ⟨rfl, hP1, hK1, hD1⟩ := hB
                        rw [ht] at hP1
                        obtain ⟨ad30, gd31, vad32⟩ := u9
                        obtain ⟨hv33, hn34⟩ := hr9
                        have hP : va_P D xcl (xMw cT aM ad30 rd gd31 vad32 o14.2.2.2 []) H1 := hP1
                        have hD : va_D A (xMw cT aM ad30 rd gd31 vad32 o14.2.2.2 []) := hD1.weaken (fun k q _ h => hFc q.1 h)
                        generalize H1 = H at hP hS hce ⊢
                        have hE9 : ∀ p, p < xct st → vad32 p = vad p := fun p h => (hv33 p (Nat.lt_of_lt_of_le h hN)).trans (hE p h)
                        have hE := hE9
                        have hN : xct st ≤ xct o14.2.2.2 := Nat.le_trans hN hn34
                        have ev35 : xv vad10 y1 = xv vad32 y1 := xvE hv33 hg27
                        have hl : lv_has ls 4 [(3, .int ((xba ws9 3) (((xpi ws9 2) (y1 - 1)) + y2).toNatClampNeg)), (2, .int y2), (0, .ref aM), (1, xv vad32 y1)] := by first | exact hl | ((try (rw [← ev35])); exact hl)
                        obtain rfl := Option.some.inj hf
                        exact vx_out (E := "java/lang/IndexOutOfBoundsException") (fun x h => (hne x h).elim) hlocks hce hcv hcl (fun t ht ha => ⟨(ad30, gd31, vad32), ⟨hE, hN⟩, ⟨rfl, by rw [ht]; exact hP, va_K.moved ha hK, hD⟩, hS.F ht⟩) hS.2.2 (Nat.le_refl _) (Nat.le_refl _)
                      rw [if_neg hk26] at hf
                      exact nomatch hf
                  · rw [if_pos hc] at hf
                    refine lv_aload_n hx hb dM_putString_101 rfl (lv_at hl 2 rfl) ?_
                    refine lv_bipush (v := 116) hx hb dM_putString_102 (by decide) ?_
                    obtain ⟨o14, hq15, hf⟩ := xbind hf
                    by_cases hk16 : o14.1 = 0
                    · rw [if_pos hk16] at hf
                      obtain ⟨hg17, hf⟩ := xifn hf
                      obtain ⟨hm18, hf⟩ := xmoE hf
                      have hFc := xm_free hD hS hA
                      refine va_callv (va_runV (C := "ValueBenchModel") (As := [.int 116]) (rest := []) ⟨hx, hb, hml, hown, htx⟩ (gM_put0 l hl9 D cT aK aV H.size n aM ad8 rd gd9 vad10 o3.2.2.2 (116 : Int32) o14 hq15 hk16) ⟨callB_of 1 htx (xw_goodC kw_6_136) rfl rfl rfl (htx _ kw_1_5) (htx _ kw_6_133) ⟨by decide, by decide, by decide +kernel⟩ ⟨Nat.le_of_ble_eq_true rfl, Nat.le_of_ble_eq_true rfl⟩, (htx _ kw_6_135), (htx _ kp_M_put0)⟩ ⟨xPre_blind, va_recv hK hP (ci := 5) rfl (q0 := 0) rfl, (fun U hU hW => ⟨rfl, xPre_of hZ hS hFc hP hD hK U hU hW⟩)⟩ rfl rfl hl.1 rfl (xm_room (Nat.le_of_ble_eq_true rfl)) dM_putString_104 ⟨hm18.1, hm18.2⟩) hS (fun q _ h => hFc q h) hFc (fun u9 t H1 locs ht hvm hr9 hB hz1 hk1 hS => ?_)
                      obtain ⟨hP1, hK1, hD1⟩ := hB
                      rw [ht] at hP1
                      obtain ⟨ad20, gd21, vad22⟩ := u9
                      obtain ⟨hv23, hn24⟩ := hr9
                      have hP : va_P D xcl (xMw cT aM ad20 rd gd21 vad22 o14.2.2.2 []) H1 := hP1
                      have hD : va_D A (xMw cT aM ad20 rd gd21 vad22 o14.2.2.2 []) := hD1.weaken (fun k q _ h => hFc q.1 h)
                      generalize H1 = H at hP hS ⊢
                      have hE9 : ∀ p, p < xct st → vad22 p = vad p := fun p h => (hv23 p (Nat.lt_of_lt_of_le h hN)).trans (hE p h)
                      have hE := hE9
                      have hN : xct st ≤ xct o14.2.2.2 := Nat.le_trans hN hn24
                      have ev25 : xv vad10 y1 = xv vad22 y1 := xvE hv23 hg17
                      have hl : lv_has ls 4 [(3, .int ((xba ws9 3) (((xpi ws9 2) (y1 - 1)) + y2).toNatClampNeg)), (2, .int y2), (0, .ref aM), (1, xv vad22 y1)] := by first | exact hl | ((try (rw [← ev25])); exact hl)
                      refine W.eq (g2 := F0 m 107 ls []) (by first | rfl | ((try (rw [ev25])); rfl)) ?_
                      refine lv_goto (tgt := 177) hx hb dM_putString_107 (by decide) ?_
                      refine lv_iinc (v := (y2 + 1)) (lv' := [(2, .int (y2 + 1)), (3, .int ((xba ws9 3) (((xpi ws9 2) (y1 - 1)) + y2).toNatClampNeg)), (0, .ref aM), (1, xv vad22 y1)]) hx hb dM_putString_177 hl (k := 1) rfl rfl (by decide) (by simp only [List.filter, xvcat, xrscat, xcI, xcL, xcR, xcN]; rfl) (fun ls hl => ?_)
                      refine lv_goto (tgt := 8) hx hb dM_putString_180 (by decide) ?_
                      exact ih (1, (y2 + 1), y1, o14.2.2.2, ((wc + o3.2.1) + o14.2.1), ((wn + o3.2.2.1) + o14.2.2.1)) _ _ ls (⟨ad20, gd21, vad22, rfl, hf, hP, hD, hS, lv_sub hl [0, 2, 3] rfl, hE, hN⟩)
                    rw [if_neg hk16] at hf
                    by_cases hk26 : o14.1 = 1
                    · rw [if_pos hk26] at hf
                      obtain ⟨hg27, hf⟩ := xifn hf
                      obtain ⟨hm28, hf⟩ := xmoE hf
                      have hFc := xm_free hD hS hA
                      refine xx_thr (vx_runV (C := "ValueBenchModel") (As := [.int 116]) (rest := []) ⟨hx, hb, hml, hown, htx⟩ (gM_put0_1 l hl9 D cT aK aV H.size n aM ad8 rd gd9 vad10 o3.2.2.2 (116 : Int32) o14 hq15 hk26) ⟨callB_of 1 htx (xw_goodC kw_6_136) rfl rfl rfl (htx _ kw_1_5) (htx _ kw_6_133) ⟨by decide, by decide, by decide +kernel⟩ ⟨Nat.le_of_ble_eq_true rfl, Nat.le_of_ble_eq_true rfl⟩, (htx _ kw_6_135), (htx _ kp_M_put0)⟩ ⟨xPre_blind, va_recv hK hP (ci := 5) rfl (q0 := 0) rfl, (fun U hU hW => ⟨rfl, xPre_of hZ hS hFc hP hD hK U hU hW⟩)⟩ rfl rfl hl.1 rfl (xm_room (Nat.le_of_ble_eq_true rfl)) dM_putString_104 ⟨hm28.1, hm28.2⟩) hS hFc (fun q _ h => hFc q h) (fun E ce q9 u9 t H1 locs ht hvm hr9 hB hz1 hk1 hS hce hcv hcl => ?_)
                      obtain ⟨rfl, hP1, hK1, hD1⟩ := hB
                      rw [ht] at hP1
                      obtain ⟨ad30, gd31, vad32⟩ := u9
                      obtain ⟨hv33, hn34⟩ := hr9
                      have hP : va_P D xcl (xMw cT aM ad30 rd gd31 vad32 o14.2.2.2 []) H1 := hP1
                      have hD : va_D A (xMw cT aM ad30 rd gd31 vad32 o14.2.2.2 []) := hD1.weaken (fun k q _ h => hFc q.1 h)
                      generalize H1 = H at hP hS hce ⊢
                      have hE9 : ∀ p, p < xct st → vad32 p = vad p := fun p h => (hv33 p (Nat.lt_of_lt_of_le h hN)).trans (hE p h)
                      have hE := hE9
                      have hN : xct st ≤ xct o14.2.2.2 := Nat.le_trans hN hn34
                      have ev35 : xv vad10 y1 = xv vad32 y1 := xvE hv33 hg27
                      have hl : lv_has ls 4 [(3, .int ((xba ws9 3) (((xpi ws9 2) (y1 - 1)) + y2).toNatClampNeg)), (2, .int y2), (0, .ref aM), (1, xv vad32 y1)] := by first | exact hl | ((try (rw [← ev35])); exact hl)
                      obtain rfl := Option.some.inj hf
                      exact vx_out (E := "java/lang/IndexOutOfBoundsException") (fun x h => (hne x h).elim) hlocks hce hcv hcl (fun t ht ha => ⟨(ad30, gd31, vad32), ⟨hE, hN⟩, ⟨rfl, by rw [ht]; exact hP, va_K.moved ha hK, hD⟩, hS.F ht⟩) hS.2.2 (Nat.le_refl _) (Nat.le_refl _)
                    rw [if_neg hk26] at hf
                    exact nomatch hf
                · rw [if_pos hc] at hf
                  refine lv_aload_n hx hb dM_putString_86 rfl (lv_at hl 2 rfl) ?_
                  refine lv_bipush (v := 98) hx hb dM_putString_87 (by decide) ?_
                  obtain ⟨o14, hq15, hf⟩ := xbind hf
                  by_cases hk16 : o14.1 = 0
                  · rw [if_pos hk16] at hf
                    obtain ⟨hg17, hf⟩ := xifn hf
                    obtain ⟨hm18, hf⟩ := xmoE hf
                    have hFc := xm_free hD hS hA
                    refine va_callv (va_runV (C := "ValueBenchModel") (As := [.int 98]) (rest := []) ⟨hx, hb, hml, hown, htx⟩ (gM_put0 l hl9 D cT aK aV H.size n aM ad8 rd gd9 vad10 o3.2.2.2 (98 : Int32) o14 hq15 hk16) ⟨callB_of 1 htx (xw_goodC kw_6_136) rfl rfl rfl (htx _ kw_1_5) (htx _ kw_6_133) ⟨by decide, by decide, by decide +kernel⟩ ⟨Nat.le_of_ble_eq_true rfl, Nat.le_of_ble_eq_true rfl⟩, (htx _ kw_6_135), (htx _ kp_M_put0)⟩ ⟨xPre_blind, va_recv hK hP (ci := 5) rfl (q0 := 0) rfl, (fun U hU hW => ⟨rfl, xPre_of hZ hS hFc hP hD hK U hU hW⟩)⟩ rfl rfl hl.1 rfl (xm_room (Nat.le_of_ble_eq_true rfl)) dM_putString_89 ⟨hm18.1, hm18.2⟩) hS (fun q _ h => hFc q h) hFc (fun u9 t H1 locs ht hvm hr9 hB hz1 hk1 hS => ?_)
                    obtain ⟨hP1, hK1, hD1⟩ := hB
                    rw [ht] at hP1
                    obtain ⟨ad20, gd21, vad22⟩ := u9
                    obtain ⟨hv23, hn24⟩ := hr9
                    have hP : va_P D xcl (xMw cT aM ad20 rd gd21 vad22 o14.2.2.2 []) H1 := hP1
                    have hD : va_D A (xMw cT aM ad20 rd gd21 vad22 o14.2.2.2 []) := hD1.weaken (fun k q _ h => hFc q.1 h)
                    generalize H1 = H at hP hS ⊢
                    have hE9 : ∀ p, p < xct st → vad22 p = vad p := fun p h => (hv23 p (Nat.lt_of_lt_of_le h hN)).trans (hE p h)
                    have hE := hE9
                    have hN : xct st ≤ xct o14.2.2.2 := Nat.le_trans hN hn24
                    have ev25 : xv vad10 y1 = xv vad22 y1 := xvE hv23 hg17
                    have hl : lv_has ls 4 [(3, .int ((xba ws9 3) (((xpi ws9 2) (y1 - 1)) + y2).toNatClampNeg)), (2, .int y2), (0, .ref aM), (1, xv vad22 y1)] := by first | exact hl | ((try (rw [← ev25])); exact hl)
                    refine W.eq (g2 := F0 m 92 ls []) (by first | rfl | ((try (rw [ev25])); rfl)) ?_
                    refine lv_goto (tgt := 177) hx hb dM_putString_92 (by decide) ?_
                    refine lv_iinc (v := (y2 + 1)) (lv' := [(2, .int (y2 + 1)), (3, .int ((xba ws9 3) (((xpi ws9 2) (y1 - 1)) + y2).toNatClampNeg)), (0, .ref aM), (1, xv vad22 y1)]) hx hb dM_putString_177 hl (k := 1) rfl rfl (by decide) (by simp only [List.filter, xvcat, xrscat, xcI, xcL, xcR, xcN]; rfl) (fun ls hl => ?_)
                    refine lv_goto (tgt := 8) hx hb dM_putString_180 (by decide) ?_
                    exact ih (1, (y2 + 1), y1, o14.2.2.2, ((wc + o3.2.1) + o14.2.1), ((wn + o3.2.2.1) + o14.2.2.1)) _ _ ls (⟨ad20, gd21, vad22, rfl, hf, hP, hD, hS, lv_sub hl [0, 2, 3] rfl, hE, hN⟩)
                  rw [if_neg hk16] at hf
                  by_cases hk26 : o14.1 = 1
                  · rw [if_pos hk26] at hf
                    obtain ⟨hg27, hf⟩ := xifn hf
                    obtain ⟨hm28, hf⟩ := xmoE hf
                    have hFc := xm_free hD hS hA
                    refine xx_thr (vx_runV (C := "ValueBenchModel") (As := [.int 98]) (rest := []) ⟨hx, hb, hml, hown, htx⟩ (gM_put0_1 l hl9 D cT aK aV H.size n aM ad8 rd gd9 vad10 o3.2.2.2 (98 : Int32) o14 hq15 hk26) ⟨callB_of 1 htx (xw_goodC kw_6_136) rfl rfl rfl (htx _ kw_1_5) (htx _ kw_6_133) ⟨by decide, by decide, by decide +kernel⟩ ⟨Nat.le_of_ble_eq_true rfl, Nat.le_of_ble_eq_true rfl⟩, (htx _ kw_6_135), (htx _ kp_M_put0)⟩ ⟨xPre_blind, va_recv hK hP (ci := 5) rfl (q0 := 0) rfl, (fun U hU hW => ⟨rfl, xPre_of hZ hS hFc hP hD hK U hU hW⟩)⟩ rfl rfl hl.1 rfl (xm_room (Nat.le_of_ble_eq_true rfl)) dM_putString_89 ⟨hm28.1, hm28.2⟩) hS hFc (fun q _ h => hFc q h) (fun E ce q9 u9 t H1 locs ht hvm hr9 hB hz1 hk1 hS hce hcv hcl => ?_)
                    obtain ⟨rfl, hP1, hK1, hD1⟩ := hB
                    rw [ht] at hP1
                    obtain ⟨ad30, gd31, vad32⟩ := u9
                    obtain ⟨hv33, hn34⟩ := hr9
                    have hP : va_P D xcl (xMw cT aM ad30 rd gd31 vad32 o14.2.2.2 []) H1 := hP1
                    have hD : va_D A (xMw cT aM ad30 rd gd31 vad32 o14.2.2.2 []) := hD1.weaken (fun k q _ h => hFc q.1 h)
                    generalize H1 = H at hP hS hce ⊢
                    have hE9 : ∀ p, p < xct st → vad32 p = vad p := fun p h => (hv33 p (Nat.lt_of_lt_of_le h hN)).trans (hE p h)
                    have hE := hE9
                    have hN : xct st ≤ xct o14.2.2.2 := Nat.le_trans hN hn34
                    have ev35 : xv vad10 y1 = xv vad32 y1 := xvE hv33 hg27
                    have hl : lv_has ls 4 [(3, .int ((xba ws9 3) (((xpi ws9 2) (y1 - 1)) + y2).toNatClampNeg)), (2, .int y2), (0, .ref aM), (1, xv vad32 y1)] := by first | exact hl | ((try (rw [← ev35])); exact hl)
                    obtain rfl := Option.some.inj hf
                    exact vx_out (E := "java/lang/IndexOutOfBoundsException") (fun x h => (hne x h).elim) hlocks hce hcv hcl (fun t ht ha => ⟨(ad30, gd31, vad32), ⟨hE, hN⟩, ⟨rfl, by rw [ht]; exact hP, va_K.moved ha hK, hD⟩, hS.F ht⟩) hS.2.2 (Nat.le_refl _) (Nat.le_refl _)
                  rw [if_neg hk26] at hf
                  exact nomatch hf
              rw [if_neg hk5] at hf
              by_cases hk14 : o3.1 = 1
              · rw [if_pos hk14] at hf
                obtain ⟨hm15, hf⟩ := xmoE hf
                have hFc := xm_free hD hS hA
                refine xx_thr (vx_runV (C := "ValueBenchModel") (As := [.int 92]) (rest := []) ⟨hx, hb, hml, hown, htx⟩ (gM_put0_1 l hl9 D cT aK aV H.size n aM adL rd gdL vadL ws9 (92 : Int32) o3 hq4 hk14) ⟨callB_of 1 htx (xw_goodC kw_6_136) rfl rfl rfl (htx _ kw_1_5) (htx _ kw_6_133) ⟨by decide, by decide, by decide +kernel⟩ ⟨Nat.le_of_ble_eq_true rfl, Nat.le_of_ble_eq_true rfl⟩, (htx _ kw_6_135), (htx _ kp_M_put0)⟩ ⟨xPre_blind, va_recv hK hP (ci := 5) rfl (q0 := 0) rfl, (fun U hU hW => ⟨rfl, xPre_of hZ hS hFc hP hD hK U hU hW⟩)⟩ rfl rfl hl.1 rfl (xm_room (Nat.le_of_ble_eq_true rfl)) dM_putString_77 ⟨hm15.1, hm15.2⟩) hS hFc (fun q _ h => hFc q h) (fun E ce q9 u9 t H1 locs ht hvm hr9 hB hz1 hk1 hS hce hcv hcl => ?_)
                obtain ⟨rfl, hP1, hK1, hD1⟩ := hB
                rw [ht] at hP1
                obtain ⟨ad17, gd18, vad19⟩ := u9
                obtain ⟨hv20, hn21⟩ := hr9
                have hP : va_P D xcl (xMw cT aM ad17 rd gd18 vad19 o3.2.2.2 []) H1 := hP1
                have hD : va_D A (xMw cT aM ad17 rd gd18 vad19 o3.2.2.2 []) := hD1.weaken (fun k q _ h => hFc q.1 h)
                generalize H1 = H at hP hS hce ⊢
                have hE9 : ∀ p, p < xct st → vad19 p = vad p := fun p h => (hv20 p (Nat.lt_of_lt_of_le h hN)).trans (hE p h)
                have hE := hE9
                have hN : xct st ≤ xct o3.2.2.2 := Nat.le_trans hN hn21
                have ev22 : xv vadL y1 = xv vad19 y1 := xvE hv20 (fun h => hg1 (Or.inr h))
                have hl : lv_has ls 4 [(3, .int ((xba ws9 3) (((xpi ws9 2) (y1 - 1)) + y2).toNatClampNeg)), (2, .int y2), (0, .ref aM), (1, xv vad19 y1)] := by first | exact hl | ((try (rw [← ev22])); exact hl)
                obtain rfl := Option.some.inj hf
                exact vx_out (E := "java/lang/IndexOutOfBoundsException") (fun x h => (hne x h).elim) hlocks hce hcv hcl (fun t ht ha => ⟨(ad17, gd18, vad19), ⟨hE, hN⟩, ⟨rfl, by rw [ht]; exact hP, va_K.moved ha hK, hD⟩, hS.F ht⟩) hS.2.2 (Nat.le_refl _) (Nat.le_refl _)
              rw [if_neg hk14] at hf
              exact nomatch hf
            · rw [if_neg hc] at hf
              refine lv_aload_n hx hb dM_putString_66 rfl (lv_at hl 2 rfl) ?_
              refine lv_iload_n hx hb dM_putString_67 rfl (lv_at hl 0 rfl) ?_
              obtain ⟨o3, hq4, hf⟩ := xbind hf
              by_cases hk5 : o3.1 = 0
              · rw [if_pos hk5] at hf
                obtain ⟨hm6, hf⟩ := xmoE hf
                have hFc := xm_free hD hS hA
                refine va_callv (va_runV (C := "ValueBenchModel") (As := [.int ((xba ws9 3) (((xpi ws9 2) (y1 - 1)) + y2).toNatClampNeg)]) (rest := []) ⟨hx, hb, hml, hown, htx⟩ (gM_put0 l hl9 D cT aK aV H.size n aM adL rd gdL vadL ws9 ((xba ws9 3) (((xpi ws9 2) (y1 - 1)) + y2).toNatClampNeg) o3 hq4 hk5) ⟨callB_of 1 htx (xw_goodC kw_6_136) rfl rfl rfl (htx _ kw_1_5) (htx _ kw_6_133) ⟨by decide, by decide, by decide +kernel⟩ ⟨Nat.le_of_ble_eq_true rfl, Nat.le_of_ble_eq_true rfl⟩, (htx _ kw_6_135), (htx _ kp_M_put0)⟩ ⟨xPre_blind, va_recv hK hP (ci := 5) rfl (q0 := 0) rfl, (fun U hU hW => ⟨rfl, xPre_of hZ hS hFc hP hD hK U hU hW⟩)⟩ rfl rfl hl.1 rfl (xm_room (Nat.le_of_ble_eq_true rfl)) dM_putString_68 ⟨hm6.1, hm6.2⟩) hS (fun q _ h => hFc q h) hFc (fun u9 t H1 locs ht hvm hr9 hB hz1 hk1 hS => ?_)
                obtain ⟨hP1, hK1, hD1⟩ := hB
                rw [ht] at hP1
                obtain ⟨ad8, gd9, vad10⟩ := u9
                obtain ⟨hv11, hn12⟩ := hr9
                have hP : va_P D xcl (xMw cT aM ad8 rd gd9 vad10 o3.2.2.2 []) H1 := hP1
                have hD : va_D A (xMw cT aM ad8 rd gd9 vad10 o3.2.2.2 []) := hD1.weaken (fun k q _ h => hFc q.1 h)
                generalize H1 = H at hP hS ⊢
                have hE9 : ∀ p, p < xct st → vad10 p = vad p := fun p h => (hv11 p (Nat.lt_of_lt_of_le h hN)).trans (hE p h)
                have hE := hE9
                have hN : xct st ≤ xct o3.2.2.2 := Nat.le_trans hN hn12
                have ev13 : xv vadL y1 = xv vad10 y1 := xvE hv11 (fun h => hg1 (Or.inr h))
                have hl : lv_has ls 4 [(3, .int ((xba ws9 3) (((xpi ws9 2) (y1 - 1)) + y2).toNatClampNeg)), (2, .int y2), (0, .ref aM), (1, xv vad10 y1)] := by first | exact hl | ((try (rw [← ev13])); exact hl)
                refine W.eq (g2 := F0 m 71 ls []) (by first | rfl | ((try (rw [ev13])); rfl)) ?_
                refine lv_goto (tgt := 177) hx hb dM_putString_71 (by decide) ?_
                refine lv_iinc (v := (y2 + 1)) (lv' := [(2, .int (y2 + 1)), (3, .int ((xba ws9 3) (((xpi ws9 2) (y1 - 1)) + y2).toNatClampNeg)), (0, .ref aM), (1, xv vad10 y1)]) hx hb dM_putString_177 hl (k := 1) rfl rfl (by decide) (by simp only [List.filter, xvcat, xrscat, xcI, xcL, xcR, xcN]; rfl) (fun ls hl => ?_)
                refine lv_goto (tgt := 8) hx hb dM_putString_180 (by decide) ?_
                exact ih (1, (y2 + 1), y1, o3.2.2.2, (wc + o3.2.1), (wn + o3.2.2.1)) _ _ ls (⟨ad8, gd9, vad10, rfl, hf, hP, hD, hS, lv_sub hl [0, 2, 3] rfl, hE, hN⟩)
              rw [if_neg hk5] at hf
              by_cases hk14 : o3.1 = 1
              · rw [if_pos hk14] at hf
                obtain ⟨hm15, hf⟩ := xmoE hf
                have hFc := xm_free hD hS hA
                refine xx_thr (vx_runV (C := "ValueBenchModel") (As := [.int ((xba ws9 3) (((xpi ws9 2) (y1 - 1)) + y2).toNatClampNeg)]) (rest := []) ⟨hx, hb, hml, hown, htx⟩ (gM_put0_1 l hl9 D cT aK aV H.size n aM adL rd gdL vadL ws9 ((xba ws9 3) (((xpi ws9 2) (y1 - 1)) + y2).toNatClampNeg) o3 hq4 hk14) ⟨callB_of 1 htx (xw_goodC kw_6_136) rfl rfl rfl (htx _ kw_1_5) (htx _ kw_6_133) ⟨by decide, by decide, by decide +kernel⟩ ⟨Nat.le_of_ble_eq_true rfl, Nat.le_of_ble_eq_true rfl⟩, (htx _ kw_6_135), (htx _ kp_M_put0)⟩ ⟨xPre_blind, va_recv hK hP (ci := 5) rfl (q0 := 0) rfl, (fun U hU hW => ⟨rfl, xPre_of hZ hS hFc hP hD hK U hU hW⟩)⟩ rfl rfl hl.1 rfl (xm_room (Nat.le_of_ble_eq_true rfl)) dM_putString_68 ⟨hm15.1, hm15.2⟩) hS hFc (fun q _ h => hFc q h) (fun E ce q9 u9 t H1 locs ht hvm hr9 hB hz1 hk1 hS hce hcv hcl => ?_)
                obtain ⟨rfl, hP1, hK1, hD1⟩ := hB
                rw [ht] at hP1
                obtain ⟨ad17, gd18, vad19⟩ := u9
                obtain ⟨hv20, hn21⟩ := hr9
                have hP : va_P D xcl (xMw cT aM ad17 rd gd18 vad19 o3.2.2.2 []) H1 := hP1
                have hD : va_D A (xMw cT aM ad17 rd gd18 vad19 o3.2.2.2 []) := hD1.weaken (fun k q _ h => hFc q.1 h)
                generalize H1 = H at hP hS hce ⊢
                have hE9 : ∀ p, p < xct st → vad19 p = vad p := fun p h => (hv20 p (Nat.lt_of_lt_of_le h hN)).trans (hE p h)
                have hE := hE9
                have hN : xct st ≤ xct o3.2.2.2 := Nat.le_trans hN hn21
                have ev22 : xv vadL y1 = xv vad19 y1 := xvE hv20 (fun h => hg1 (Or.inr h))
                have hl : lv_has ls 4 [(3, .int ((xba ws9 3) (((xpi ws9 2) (y1 - 1)) + y2).toNatClampNeg)), (2, .int y2), (0, .ref aM), (1, xv vad19 y1)] := by first | exact hl | ((try (rw [← ev22])); exact hl)
                obtain rfl := Option.some.inj hf
                exact vx_out (E := "java/lang/IndexOutOfBoundsException") (fun x h => (hne x h).elim) hlocks hce hcv hcl (fun t ht ha => ⟨(ad17, gd18, vad19), ⟨hE, hN⟩, ⟨rfl, by rw [ht]; exact hP, va_K.moved ha hK, hD⟩, hS.F ht⟩) hS.2.2 (Nat.le_refl _) (Nat.le_refl _)
              rw [if_neg hk14] at hf
              exact nomatch hf
        · rw [if_pos hc] at hf
          refine lv_aload_n hx hb dM_putString_40 rfl (lv_at hl 2 rfl) ?_
          refine lv_bipush (v := 92) hx hb dM_putString_41 (by decide) ?_
          obtain ⟨o3, hq4, hf⟩ := xbind hf
          by_cases hk5 : o3.1 = 0
          · rw [if_pos hk5] at hf
            obtain ⟨hm6, hf⟩ := xmoE hf
            have hFc := xm_free hD hS hA
            refine va_callv (va_runV (C := "ValueBenchModel") (As := [.int 92]) (rest := []) ⟨hx, hb, hml, hown, htx⟩ (gM_put0 l hl9 D cT aK aV H.size n aM adL rd gdL vadL ws9 (92 : Int32) o3 hq4 hk5) ⟨callB_of 1 htx (xw_goodC kw_6_136) rfl rfl rfl (htx _ kw_1_5) (htx _ kw_6_133) ⟨by decide, by decide, by decide +kernel⟩ ⟨Nat.le_of_ble_eq_true rfl, Nat.le_of_ble_eq_true rfl⟩, (htx _ kw_6_135), (htx _ kp_M_put0)⟩ ⟨xPre_blind, va_recv hK hP (ci := 5) rfl (q0 := 0) rfl, (fun U hU hW => ⟨rfl, xPre_of hZ hS hFc hP hD hK U hU hW⟩)⟩ rfl rfl hl.1 rfl (xm_room (Nat.le_of_ble_eq_true rfl)) dM_putString_43 ⟨hm6.1, hm6.2⟩) hS (fun q _ h => hFc q h) hFc (fun u9 t H1 locs ht hvm hr9 hB hz1 hk1 hS => ?_)
            obtain ⟨hP1, hK1, hD1⟩ := hB
            rw [ht] at hP1
            obtain ⟨ad8, gd9, vad10⟩ := u9
            obtain ⟨hv11, hn12⟩ := hr9
            have hP : va_P D xcl (xMw cT aM ad8 rd gd9 vad10 o3.2.2.2 []) H1 := hP1
            have hD : va_D A (xMw cT aM ad8 rd gd9 vad10 o3.2.2.2 []) := hD1.weaken (fun k q _ h => hFc q.1 h)
            generalize H1 = H at hP hS ⊢
            have hE9 : ∀ p, p < xct st → vad10 p = vad p := fun p h => (hv11 p (Nat.lt_of_lt_of_le h hN)).trans (hE p h)
            have hE := hE9
            have hN : xct st ≤ xct o3.2.2.2 := Nat.le_trans hN hn12
            have ev13 : xv vadL y1 = xv vad10 y1 := xvE hv11 (fun h => hg1 (Or.inr h))
            have hl : lv_has ls 4 [(3, .int ((xba ws9 3) (((xpi ws9 2) (y1 - 1)) + y2).toNatClampNeg)), (2, .int y2), (0, .ref aM), (1, xv vad10 y1)] := by first | exact hl | ((try (rw [← ev13])); exact hl)
            refine W.eq (g2 := F0 m 46 ls []) (by first | rfl | ((try (rw [ev13])); rfl)) ?_
            refine lv_aload_n hx hb dM_putString_46 rfl (lv_at hl 2 rfl) ?_
            refine lv_iload_n hx hb dM_putString_47 rfl (lv_at hl 0 rfl) ?_
            obtain ⟨o14, hq15, hf⟩ := xbind hf
            by_cases hk16 : o14.1 = 0
            · rw [if_pos hk16] at hf
              obtain ⟨hg17, hf⟩ := xifn hf
              obtain ⟨hm18, hf⟩ := xmoE hf
              have hFc := xm_free hD hS hA
              refine va_callv (va_runV (C := "ValueBenchModel") (As := [.int ((xba ws9 3) (((xpi ws9 2) (y1 - 1)) + y2).toNatClampNeg)]) (rest := []) ⟨hx, hb, hml, hown, htx⟩ (gM_put0 l hl9 D cT aK aV H.size n aM ad8 rd gd9 vad10 o3.2.2.2 ((xba ws9 3) (((xpi ws9 2) (y1 - 1)) + y2).toNatClampNeg) o14 hq15 hk16) ⟨callB_of 1 htx (xw_goodC kw_6_136) rfl rfl rfl (htx _ kw_1_5) (htx _ kw_6_133) ⟨by decide, by decide, by decide +kernel⟩ ⟨Nat.le_of_ble_eq_true rfl, Nat.le_of_ble_eq_true rfl⟩, (htx _ kw_6_135), (htx _ kp_M_put0)⟩ ⟨xPre_blind, va_recv hK hP (ci := 5) rfl (q0 := 0) rfl, (fun U hU hW => ⟨rfl, xPre_of hZ hS hFc hP hD hK U hU hW⟩)⟩ rfl rfl hl.1 rfl (xm_room (Nat.le_of_ble_eq_true rfl)) dM_putString_48 ⟨hm18.1, hm18.2⟩) hS (fun q _ h => hFc q h) hFc (fun u9 t H1 locs ht hvm hr9 hB hz1 hk1 hS => ?_)
              obtain ⟨hP1, hK1, hD1⟩ := hB
              rw [ht] at hP1
              obtain ⟨ad20, gd21, vad22⟩ := u9
              obtain ⟨hv23, hn24⟩ := hr9
              have hP : va_P D xcl (xMw cT aM ad20 rd gd21 vad22 o14.2.2.2 []) H1 := hP1
              have hD : va_D A (xMw cT aM ad20 rd gd21 vad22 o14.2.2.2 []) := hD1.weaken (fun k q _ h => hFc q.1 h)
              generalize H1 = H at hP hS ⊢
              have hE9 : ∀ p, p < xct st → vad22 p = vad p := fun p h => (hv23 p (Nat.lt_of_lt_of_le h hN)).trans (hE p h)
              have hE := hE9
              have hN : xct st ≤ xct o14.2.2.2 := Nat.le_trans hN hn24
              have ev25 : xv vad10 y1 = xv vad22 y1 := xvE hv23 hg17
              have hl : lv_has ls 4 [(3, .int ((xba ws9 3) (((xpi ws9 2) (y1 - 1)) + y2).toNatClampNeg)), (2, .int y2), (0, .ref aM), (1, xv vad22 y1)] := by first | exact hl | ((try (rw [← ev25])); exact hl)
              refine W.eq (g2 := F0 m 51 ls []) (by first | rfl | ((try (rw [ev25])); rfl)) ?_
              refine lv_goto (tgt := 177) hx hb dM_putString_51 (by decide) ?_
              refine lv_iinc (v := (y2 + 1)) (lv' := [(2, .int (y2 + 1)), (3, .int ((xba ws9 3) (((xpi ws9 2) (y1 - 1)) + y2).toNatClampNeg)), (0, .ref aM), (1, xv vad22 y1)]) hx hb dM_putString_177 hl (k := 1) rfl rfl (by decide) (by simp only [List.filter, xvcat, xrscat, xcI, xcL, xcR, xcN]; rfl) (fun ls hl => ?_)
              refine lv_goto (tgt := 8) hx hb dM_putString_180 (by decide) ?_
              exact ih (1, (y2 + 1), y1, o14.2.2.2, ((wc + o3.2.1) + o14.2.1), ((wn + o3.2.2.1) + o14.2.2.1)) _ _ ls (⟨ad20, gd21, vad22, rfl, hf, hP, hD, hS, lv_sub hl [0, 2, 3] rfl, hE, hN⟩)
            rw [if_neg hk16] at hf
            by_cases hk26 : o14.1 = 1
            · rw [if_pos hk26] at hf
              obtain ⟨hg27, hf⟩ := xifn hf
              obtain ⟨hm28, hf⟩ := xmoE hf
              have hFc := xm_free hD hS hA
              refine xx_thr (vx_runV (C := "ValueBenchModel") (As := [.int ((xba ws9 3) (((xpi ws9 2) (y1 - 1)) + y2).toNatClampNeg)]) (rest := []) ⟨hx, hb, hml, hown, htx⟩ (gM_put0_1 l hl9 D cT aK aV H.size n aM ad8 rd gd9 vad10 o3.2.2.2 ((xba ws9 3) (((xpi ws9 2) (y1 - 1)) + y2).toNatClampNeg) o14 hq15 hk26) ⟨callB_of 1 htx (xw_goodC kw_6_136) rfl rfl rfl (htx _ kw_1_5) (htx _ kw_6_133) ⟨by decide, by decide, by decide +kernel⟩ ⟨Nat.le_of_ble_eq_true rfl, Nat.le_of_ble_eq_true rfl⟩, (htx _ kw_6_135), (htx _ kp_M_put0)⟩ ⟨xPre_blind, va_recv hK hP (ci := 5) rfl (q0 := 0) rfl, (fun U hU hW => ⟨rfl, xPre_of hZ hS hFc hP hD hK U hU hW⟩)⟩ rfl rfl hl.1 rfl (xm_room (Nat.le_of_ble_eq_true rfl)) dM_putString_48 ⟨hm28.1, hm28.2⟩) hS hFc (fun q _ h => hFc q h) (fun E ce q9 u9 t H1 locs ht hvm hr9 hB hz1 hk1 hS hce hcv hcl => ?_)
              obtain ⟨rfl, hP1, hK1, hD1⟩ := hB
              rw [ht] at hP1
              obtain ⟨ad30, gd31, vad32⟩ := u9
              obtain ⟨hv33, hn34⟩ := hr9
              have hP : va_P D xcl (xMw cT aM ad30 rd gd31 vad32 o14.2.2.2 []) H1 := hP1
              have hD : va_D A (xMw cT aM ad30 rd gd31 vad32 o14.2.2.2 []) := hD1.weaken (fun k q _ h => hFc q.1 h)
              generalize H1 = H at hP hS hce ⊢
              have hE9 : ∀ p, p < xct st → vad32 p = vad p := fun p h => (hv33 p (Nat.lt_of_lt_of_le h hN)).trans (hE p h)
              have hE := hE9
              have hN : xct st ≤ xct o14.2.2.2 := Nat.le_trans hN hn34
              have ev35 : xv vad10 y1 = xv vad32 y1 := xvE hv33 hg27
              have hl : lv_has ls 4 [(3, .int ((xba ws9 3) (((xpi ws9 2) (y1 - 1)) + y2).toNatClampNeg)), (2, .int y2), (0, .ref aM), (1, xv vad32 y1)] := by first | exact hl | ((try (rw [← ev35])); exact hl)
              obtain rfl := Option.some.inj hf
              exact vx_out (E := "java/lang/IndexOutOfBoundsException") (fun x h => (hne x h).elim) hlocks hce hcv hcl (fun t ht ha => ⟨(ad30, gd31, vad32), ⟨hE, hN⟩, ⟨rfl, by rw [ht]; exact hP, va_K.moved ha hK, hD⟩, hS.F ht⟩) hS.2.2 (Nat.le_refl _) (Nat.le_refl _)
            rw [if_neg hk26] at hf
            exact nomatch hf
          rw [if_neg hk5] at hf
          by_cases hk36 : o3.1 = 1
          · rw [if_pos hk36] at hf
            obtain ⟨hm37, hf⟩ := xmoE hf
            have hFc := xm_free hD hS hA
            refine xx_thr (vx_runV (C := "ValueBenchModel") (As := [.int 92]) (rest := []) ⟨hx, hb, hml, hown, htx⟩ (gM_put0_1 l hl9 D cT aK aV H.size n aM adL rd gdL vadL ws9 (92 : Int32) o3 hq4 hk36) ⟨callB_of 1 htx (xw_goodC kw_6_136) rfl rfl rfl (htx _ kw_1_5) (htx _ kw_6_133) ⟨by decide, by decide, by decide +kernel⟩ ⟨Nat.le_of_ble_eq_true rfl, Nat.le_of_ble_eq_true rfl⟩, (htx _ kw_6_135), (htx _ kp_M_put0)⟩ ⟨xPre_blind, va_recv hK hP (ci := 5) rfl (q0 := 0) rfl, (fun U hU hW => ⟨rfl, xPre_of hZ hS hFc hP hD hK U hU hW⟩)⟩ rfl rfl hl.1 rfl (xm_room (Nat.le_of_ble_eq_true rfl)) dM_putString_43 ⟨hm37.1, hm37.2⟩) hS hFc (fun q _ h => hFc q h) (fun E ce q9 u9 t H1 locs ht hvm hr9 hB hz1 hk1 hS hce hcv hcl => ?_)
            obtain ⟨rfl, hP1, hK1, hD1⟩ := hB
            rw [ht] at hP1
            obtain ⟨ad39, gd40, vad41⟩ := u9
            obtain ⟨hv42, hn43⟩ := hr9
            have hP : va_P D xcl (xMw cT aM ad39 rd gd40 vad41 o3.2.2.2 []) H1 := hP1
            have hD : va_D A (xMw cT aM ad39 rd gd40 vad41 o3.2.2.2 []) := hD1.weaken (fun k q _ h => hFc q.1 h)
            generalize H1 = H at hP hS hce ⊢
            have hE9 : ∀ p, p < xct st → vad41 p = vad p := fun p h => (hv42 p (Nat.lt_of_lt_of_le h hN)).trans (hE p h)
            have hE := hE9
            have hN : xct st ≤ xct o3.2.2.2 := Nat.le_trans hN hn43
            have ev44 : xv vadL y1 = xv vad41 y1 := xvE hv42 (fun h => hg1 (Or.inr h))
            have hl : lv_has ls 4 [(3, .int ((xba ws9 3) (((xpi ws9 2) (y1 - 1)) + y2).toNatClampNeg)), (2, .int y2), (0, .ref aM), (1, xv vad41 y1)] := by first | exact hl | ((try (rw [← ev44])); exact hl)
            obtain rfl := Option.some.inj hf
            exact vx_out (E := "java/lang/IndexOutOfBoundsException") (fun x h => (hne x h).elim) hlocks hce hcv hcl (fun t ht ha => ⟨(ad39, gd40, vad41), ⟨hE, hN⟩, ⟨rfl, by rw [ht]; exact hP, va_K.moved ha hK, hD⟩, hS.F ht⟩) hS.2.2 (Nat.le_refl _) (Nat.le_refl _)
          rw [if_neg hk36] at hf
          exact nomatch hf
  refine lv_aload_n hx hb dM_putString_0 rfl (lv_at hl 0 rfl) ?_
  refine lv_bipush (v := 34) hx hb dM_putString_1 (by decide) ?_
  obtain ⟨o1, hq2, hf⟩ := xbind hf
  by_cases hk3 : o1.1 = 0
  · rw [if_pos hk3] at hf
    obtain ⟨hg4, hf⟩ := xifn hf
    obtain ⟨hm5, hf⟩ := xmoE hf
    have hFc := xm_free hD hS hA
    refine va_callv (va_runV (C := "ValueBenchModel") (As := [.int 34]) (rest := []) ⟨hx, hb, hml, hown, htx⟩ (gM_put0 l hl9 D cT aK aV s.heap.size n aM ad rd gd vad st (34 : Int32) o1 hq2 hk3) ⟨callB_of 1 htx (xw_goodC kw_6_136) rfl rfl rfl (htx _ kw_1_5) (htx _ kw_6_133) ⟨by decide, by decide, by decide +kernel⟩ ⟨Nat.le_of_ble_eq_true rfl, Nat.le_of_ble_eq_true rfl⟩, (htx _ kw_6_135), (htx _ kp_M_put0)⟩ ⟨xPre_blind, va_recv hK hP (ci := 5) rfl (q0 := 0) rfl, (fun U hU hW => ⟨rfl, xPre_of hZ hS hFc hP hD hK U hU hW⟩)⟩ rfl rfl hl.1 rfl (xm_room (Nat.le_of_ble_eq_true rfl)) dM_putString_3 ⟨hm5.1, hm5.2⟩) hS (fun q _ h => hFc q h) hFc (fun u9 t H1 locs ht hvm hr9 hB hz1 hk1 hS => ?_)
    obtain ⟨hP1, hK1, hD1⟩ := hB
    rw [ht] at hP1
    obtain ⟨ad7, gd8, vad9⟩ := u9
    obtain ⟨hv10, hn11⟩ := hr9
    have hP : va_P D xcl (xMw cT aM ad7 rd gd8 vad9 o1.2.2.2 []) H1 := hP1
    have hD : va_D A (xMw cT aM ad7 rd gd8 vad9 o1.2.2.2 []) := hD1.weaken (fun k q _ h => hFc q.1 h)
    generalize H1 = H at hP hS ⊢
    have hE9 : ∀ p, p < xct st → vad9 p = vad p := fun p h => (hv10 p (Nat.lt_of_lt_of_le h hN)).trans (hE p h)
    have hE := hE9
    have hN : xct st ≤ xct o1.2.2.2 := Nat.le_trans hN hn11
    have ev12 : xv vad c0 = xv vad9 c0 := xvE hv10 hg4
    have hl : lv_has ls 4 [(0, .ref aM), (1, xv vad9 c0)] := by first | exact hl | ((try (rw [← ev12])); exact hl)
    refine W.eq (g2 := F0 m 6 ls []) (by first | rfl | ((try (rw [ev12])); rfl)) ?_
    refine lv_iconst (v := 0) hx hb dM_putString_6 (by decide) ?_
    refine lv_istore_n (lv' := [(2, .int 0), (0, .ref aM), (1, xv vad9 c0)]) hx hb dM_putString_7 rfl hl (by decide) (by simp only [List.filter, xvcat, xrscat, xcI, xcL, xcR, xcN]; rfl) (fun ls hl => ?_)
    exact key n (1, (0 : Int32), c0, o1.2.2.2, (0 + o1.2.1), (0 + o1.2.2.1)) _ _ ls (⟨ad7, gd8, vad9, rfl, hf, hP, hD, hS, lv_sub hl [0, 1, 2] rfl, hE, hN⟩)
  rw [if_neg hk3] at hf
  by_cases hk13 : o1.1 = 1
  · rw [if_pos hk13] at hf
    obtain ⟨hg14, hf⟩ := xifn hf
    obtain ⟨hm15, hf⟩ := xmoE hf
    have hFc := xm_free hD hS hA
    refine xx_thr (vx_runV (C := "ValueBenchModel") (As := [.int 34]) (rest := []) ⟨hx, hb, hml, hown, htx⟩ (gM_put0_1 l hl9 D cT aK aV s.heap.size n aM ad rd gd vad st (34 : Int32) o1 hq2 hk13) ⟨callB_of 1 htx (xw_goodC kw_6_136) rfl rfl rfl (htx _ kw_1_5) (htx _ kw_6_133) ⟨by decide, by decide, by decide +kernel⟩ ⟨Nat.le_of_ble_eq_true rfl, Nat.le_of_ble_eq_true rfl⟩, (htx _ kw_6_135), (htx _ kp_M_put0)⟩ ⟨xPre_blind, va_recv hK hP (ci := 5) rfl (q0 := 0) rfl, (fun U hU hW => ⟨rfl, xPre_of hZ hS hFc hP hD hK U hU hW⟩)⟩ rfl rfl hl.1 rfl (xm_room (Nat.le_of_ble_eq_true rfl)) dM_putString_3 ⟨hm15.1, hm15.2⟩) hS hFc (fun q _ h => hFc q h) (fun E ce q9 u9 t H1 locs ht hvm hr9 hB hz1 hk1 hS hce hcv hcl => ?_)
    obtain ⟨rfl, hP1, hK1, hD1⟩ := hB
    rw [ht] at hP1
    obtain ⟨ad17, gd18, vad19⟩ := u9
    obtain ⟨hv20, hn21⟩ := hr9
    have hP : va_P D xcl (xMw cT aM ad17 rd gd18 vad19 o1.2.2.2 []) H1 := hP1
    have hD : va_D A (xMw cT aM ad17 rd gd18 vad19 o1.2.2.2 []) := hD1.weaken (fun k q _ h => hFc q.1 h)
    generalize H1 = H at hP hS hce ⊢
    have hE9 : ∀ p, p < xct st → vad19 p = vad p := fun p h => (hv20 p (Nat.lt_of_lt_of_le h hN)).trans (hE p h)
    have hE := hE9
    have hN : xct st ≤ xct o1.2.2.2 := Nat.le_trans hN hn21
    have ev22 : xv vad c0 = xv vad19 c0 := xvE hv20 hg14
    have hl : lv_has ls 4 [(0, .ref aM), (1, xv vad19 c0)] := by first | exact hl | ((try (rw [← ev22])); exact hl)
    obtain rfl := Option.some.inj hf
    exact vx_out (E := "java/lang/IndexOutOfBoundsException") (fun x h => (hne x h).elim) hlocks hce hcv hcl (fun t ht ha => ⟨(ad17, gd18, vad19), ⟨hE, hN⟩, ⟨rfl, by rw [ht]; exact hP, va_K.moved ha hK, hD⟩, hS.F ht⟩) hS.2.2 (Nat.le_refl _) (Nat.le_refl _)
  rw [if_neg hk13] at hf
  exact nomatch hf
set_option maxHeartbeats 400000000 in
set_option maxRecDepth 100000 in
theorem gM_print1 (l : Launch) (hl9 : l.stackTraces = false) (D : va_G) (cT : Nat → ClassId) (aK aV : Nat → Nat) : ∀ (d sz n : Nat) (aM : Nat) (ad rd gd vad : Nat → Nat) (st : xS) (c0 : Nat) (out : Nat × Nat × Nat × xS) (hf : fM_print1 d n st c0 = some out), (out.1 = 0 → xMet l yM_print1 wyM_print1 ((16 * d)) out.2.1 out.2.2.1 ((400 * d)) D cT aK aV sz [.ref aM, xv vad c0] (xMw cT aM ad rd gd vad st []) (fun A => va_Qv (fun u : xU => xE vad st out.2.2.2 u) (fun u t => xB D xcl cT A (xMw cT aM u.1 rd u.2.1 u.2.2 out.2.2.2 []) t) A)) ∧ (out.1 = 1 → xMetY l yM_print1 wyM_print1 ((16 * d)) out.2.1 out.2.2.1 ((400 * d)) D cT aK aV sz [.ref aM, xv vad c0] (xMw cT aM ad rd gd vad st []) "java/lang/IndexOutOfBoundsException" (fun u => xE vad st out.2.2.2 u) (fun A u t => xB D xcl cT A (xMw cT aM u.1 rd u.2.1 u.2.2 out.2.2.2 []) t)) := by
  intro d
  induction d with
  | zero =>
    intro sz n aM ad rd gd vad st c0 out hf
    rw [fM_print1] at hf
    exact nomatch hf
  | succ d ih =>
    intro sz n aM ad rd gd vad st c0 out hf
    rw [fM_print1] at hf
    obtain ⟨rec, hrec, hf⟩ : ∃ rec : xS → Nat → Option (Nat × Nat × Nat × xS), (∀ (sz aM : Nat) (ad rd gd vad : Nat → Nat) (st : xS) (c0 : Nat) (out : Nat × Nat × Nat × xS), rec st c0 = some out → (out.1 = 0 → xMet l yM_print1 wyM_print1 (16 * d) out.2.1 out.2.2.1 (400 * d) D cT aK aV sz [.ref aM, xv vad c0] (xMw cT aM ad rd gd vad st []) (fun A => va_Qv (fun u : xU => xE vad st out.2.2.2 u) (fun u t => xB D xcl cT A (xMw cT aM u.1 rd u.2.1 u.2.2 out.2.2.2 []) t) A)) ∧ (out.1 = 1 → xMetY l yM_print1 wyM_print1 (16 * d) out.2.1 out.2.2.1 (400 * d) D cT aK aV sz [.ref aM, xv vad c0] (xMw cT aM ad rd gd vad st []) "java/lang/IndexOutOfBoundsException" (fun u => xE vad st out.2.2.2 u) (fun A u t => xB D xcl cT A (xMw cT aM u.1 rd u.2.1 u.2.2 out.2.2.2 []) t))) ∧ (if c0 = 0 ∨ (xct st) < c0 then none else (if ((xpi st 0) (c0 - 1)) = 0 then (fM_put1 n st).bind fun o3 => ((if o3.1 = 0 then xmo (fun a => a.2.1) (fun a => a.2.2.1) (0 + o3.2.1) (0 + o3.2.2.1) (some (0, (0 + o3.2.1), (0 + o3.2.2.1), o3.2.2.2)) else (if o3.1 = 1 then xmo (fun a => a.2.1) (fun a => a.2.2.1) (0 + o3.2.1) (0 + o3.2.2.1) (some (1, (0 + o3.2.1), (0 + o3.2.2.1), o3.2.2.2)) else none))) else (if ((xpi st 0) (c0 - 1)) = 1 then (fM_put1a n st).bind fun o22 => ((if o22.1 = 0 then xmo (fun a => a.2.1) (fun a => a.2.2.1) (0 + o22.2.1) (0 + o22.2.2.1) (some (0, (0 + o22.2.1), (0 + o22.2.2.1), o22.2.2.2)) else (if o22.1 = 1 then xmo (fun a => a.2.1) (fun a => a.2.2.1) (0 + o22.2.1) (0 + o22.2.2.1) (some (1, (0 + o22.2.1), (0 + o22.2.2.1), o22.2.2.2)) else none))) else (if ((xpi st 0) (c0 - 1)) = 2 then (fM_put1b n st).bind fun o41 => ((if o41.1 = 0 then xmo (fun a => a.2.1) (fun a => a.2.2.1) (0 + o41.2.1) (0 + o41.2.2.1) (some (0, (0 + o41.2.1), (0 + o41.2.2.1), o41.2.2.2)) else (if o41.1 = 1 then xmo (fun a => a.2.1) (fun a => a.2.2.1) (0 + o41.2.1) (0 + o41.2.2.1) (some (1, (0 + o41.2.1), (0 + o41.2.2.1), o41.2.2.2)) else none))) else (if ((xpi st 0) (c0 - 1)) = 3 then (fM_putNumber n st ((xpl st) (c0 - 1))).bind fun o60 => ((if o60.1 = 0 then xmo (fun a => a.2.1) (fun a => a.2.2.1) (0 + o60.2.1) (0 + o60.2.2.1) (some (0, (0 + o60.2.1), (0 + o60.2.2.1), o60.2.2.2)) else (if o60.1 = 1 then xmo (fun a => a.2.1) (fun a => a.2.2.1) (0 + o60.2.1) (0 + o60.2.2.1) (some (1, (0 + o60.2.1), (0 + o60.2.2.1), o60.2.2.2)) else none))) else (if ((xpi st 0) (c0 - 1)) = 4 then (fM_putString n st c0).bind fun o79 => ((if o79.1 = 0 then xmo (fun a => a.2.1) (fun a => a.2.2.1) (0 + o79.2.1) (0 + o79.2.2.1) (some (0, (0 + o79.2.1), (0 + o79.2.2.1), o79.2.2.2)) else (if o79.1 = 1 then xmo (fun a => a.2.1) (fun a => a.2.2.1) (0 + o79.2.1) (0 + o79.2.2.1) (some (1, (0 + o79.2.1), (0 + o79.2.2.1), o79.2.2.2)) else none))) else (if ((xpi st 0) (c0 - 1)) = 5 then (fM_put0 n st (91 : Int32)).bind fun o97 => ((if o97.1 = 0 then xmo (fun a => a.2.1) (fun a => a.2.2.1) (0 + o97.2.1) (0 + o97.2.2.1) (fM_print1_b rec n 1 (0 : Int32) c0 o97.2.2.2 (0 + o97.2.1) (0 + o97.2.2.1)) else (if o97.1 = 1 then xmo (fun a => a.2.1) (fun a => a.2.2.1) (0 + o97.2.1) (0 + o97.2.2.1) (some (1, (0 + o97.2.1), (0 + o97.2.2.1), o97.2.2.2)) else none))) else (fM_put0 n st (123 : Int32)).bind fun o97 => ((if o97.1 = 0 then xmo (fun a => a.2.1) (fun a => a.2.2.1) (0 + o97.2.1) (0 + o97.2.2.1) (fM_print1_b rec n 1 (0 : Int32) c0 o97.2.2.2 (0 + o97.2.1) (0 + o97.2.2.1)) else (if o97.1 = 1 then xmo (fun a => a.2.1) (fun a => a.2.2.1) (0 + o97.2.1) (0 + o97.2.2.1) (some (1, (0 + o97.2.1), (0 + o97.2.2.1), o97.2.2.2)) else none)))))))))) = some out := ⟨fM_print1 d n, fun sz => ih sz n, hf⟩
    refine ⟨fun hkd => ?_, fun hkd => ?_⟩
    · refine Met.ofW (cc := prog_13_method_46_code) (maxL := 3) (ret := none) (by decide) rfl ?_
      intro p e s m args below meth c s₁ B hml hv
      obtain ⟨rfl, hsz, hZ, hP, hK, hD0⟩ := hv
      have hx := B.exec
      have hb := B.bytes
      have hr := B.returns
      have hts := atoms_spec (ws := wyM_print1) B.pre
      have htx := fun w h => hts w (List.mem_cons_of_mem _ h)
      have hown : s.vm.findClass "ValueBenchModel" = some m.cls := findClass_of_methodNamed B.named
      have hlocks := B.notSynchronized
      subst hsz
      have hD := hD0.self (sz := s.heap.size)
      generalize hAe : va_A (xMw cT aM ad rd gd vad st []) s.heap.size = A at hD hZ ⊢
      have hA : ∀ q : Nat, s.heap.size ≤ q → A q := fun q h => by rw [← hAe]; exact Or.inr h
      have hS : va_S A s.heap s.heap [] := va_S.rf
      have hl := lv_entry ([.ref aM, xv vad c0]) (n := 3) (by simp [lg_sl, xvcat, xrscat, xcI, xcL, xcR, xcN])
      rw [show lv_args 0 [.ref aM, xv vad c0] = [(0, .ref aM), (1, xv vad c0)] from by simp [lv_args, xvcat, xrscat, xcI, xcL, xcR, xcN]] at hl
      rw [lg_entry_eq]
      generalize (lg_sl ([.ref aM, xv vad c0]) ++ List.replicate (3 - (lg_sl ([.ref aM, xv vad c0])).length) Slot.unset).toArray = ls at hl ⊢
      have hl : lv_has ls 3 [(0, .ref aM), (1, xv vad c0)] := hl
      have hE : ∀ p, p < xct st → vad p = vad p := fun _ _ => rfl
      have hN : xct st ≤ xct st := Nat.le_refl _
      refine xloopM (σ := Nat × Int32 × Nat × xS × Nat × Nat) (fun n x H locs ls => (∃ (adL gdL vadL : Nat → Nat), x.1 = 1 ∧ fM_print1_b rec n x.1 x.2.1 x.2.2.1 x.2.2.2.1 x.2.2.2.2.1 x.2.2.2.2.2 = some out ∧ va_P D xcl (xMw cT aM adL rd gdL vadL x.2.2.2.1 []) H ∧ va_D A (xMw cT aM adL rd gdL vadL x.2.2.2.1 []) ∧ va_S A s.heap H locs ∧ lv_has ls 3 [(2, .int x.2.1), (0, .ref aM), (1, xv vadL x.2.2.1)] ∧ (∀ p, p < xct st → vadL p = vad p) ∧ xct st ≤ xct x.2.2.2.1)) (fun x => 97) (fun x => x.2.2.2.2.1) (fun x => x.2.2.2.2.2) (fun x H locs ls h => by (obtain ⟨_, _, _, h⟩ := h; exact absurd h.2.1 (by rw [fM_print1_b]; exact fun h => nomatch h))) (fun n ih x H locs ls hv => ?_) (fun key => ?_)
      · obtain ⟨lb, y2, y1, ws9, wc, wn⟩ := x
        rcases hv with ⟨adL, gdL, vadL, hj, hf, hP, hD, hS, hl, hE, hN⟩
        subst hj
        have hf : fM_print1_b rec (n + 1) 1 y2 y1 ws9 wc wn = some out := hf
        rw [fM_print1_b] at hf
        obtain ⟨hP, hD⟩ : xPD D xcl A (xMw cT aM adL rd gdL vadL ws9 []) H := ⟨hP, hD⟩
        have hl : lv_has ls 3 [(2, .int y2), (0, .ref aM), (1, xv vadL y1)] := hl
        refine W.eq (g2 := F0 m 97 ls []) rfl ?_
        show W p l e _ s m _ below meth c H locs wc wn _ _
        obtain ⟨hm0, hf⟩ := xmoE hf
        refine lv_iload_n hx hb dM_print1_97 rfl (lv_at hl 0 rfl) ?_
        refine xm_aload_n hx hb (xvor _ _) dM_print1_98 rfl (lv_at hl 2 rfl) ?_
        obtain ⟨hg1, hf⟩ := xifn hf
        refine xm_vget (v := .int ((xpi ws9 3) (y1 - 1))) hx hb htx hown hK hP 3 (by decide) hg1 rfl ((hZ.1 (103, "count", "I") (List.mem_of_getElem? (i := 3) rfl)).use rfl) rfl dM_print1_99 ?_
        refine lv_icmp_ge (tgt := 156) hx hb dM_print1_102 (by decide) (fun hc => ?_) (fun hc => ?_)
        · rw [if_pos hc] at hf
          refine lv_aload_n hx hb dM_print1_156 rfl (lv_at hl 1 rfl) ?_
          refine xm_aload_n hx hb (xvor _ _) dM_print1_157 rfl (lv_at hl 2 rfl) ?_
          refine xm_vget (v := .int ((xpi ws9 0) (y1 - 1))) hx hb htx hown hK hP 0 (by decide) hg1 rfl ((hZ.1 (93, "kind", "I") (List.mem_of_getElem? (i := 0) rfl)).use rfl) rfl dM_print1_158 ?_
          refine lv_iconst (v := 5) hx hb dM_print1_161 (by decide) ?_
          refine lv_icmp_ne (tgt := 170) hx hb dM_print1_162 (by decide) (fun hc => ?_) (fun hc => ?_)
          · rw [if_neg hc] at hf
            refine lv_bipush (v := 125) hx hb dM_print1_170 (by decide) ?_
            obtain ⟨o2, hq3, hf⟩ := xbind hf
            have hl := lv_sub (l' := [(2, .int y2), (0, .ref aM)]) hl [0, 1] rfl
            by_cases hk4 : o2.1 = 0
            · rw [if_pos hk4] at hf
              obtain ⟨hm5, hf⟩ := xmoE hf
              have hFc := xm_free hD hS hA
              refine va_callv (va_runV (C := "ValueBenchModel") (As := [.int 125]) (rest := []) ⟨hx, hb, hml, hown, htx⟩ (gM_put0 l hl9 D cT aK aV H.size n aM adL rd gdL vadL ws9 (125 : Int32) o2 hq3 hk4) ⟨callB_of 1 htx (xw_goodC kw_6_136) rfl rfl rfl (htx _ kw_1_5) (htx _ kw_6_133) ⟨by decide, by decide, by decide +kernel⟩ ⟨Nat.le_of_ble_eq_true rfl, Nat.le_of_ble_eq_true rfl⟩, (htx _ kw_6_135), (htx _ kp_M_put0)⟩ ⟨xPre_blind, va_recv hK hP (ci := 5) rfl (q0 := 0) rfl, (fun U hU hW => ⟨rfl, xPre_of hZ hS hFc hP hD hK U hU hW⟩)⟩ rfl rfl hl.1 rfl (xm_room (Nat.le_of_ble_eq_true rfl)) dM_print1_172 ⟨hm5.1, hm5.2⟩) hS (fun q _ h => hFc q h) hFc (fun u9 t H1 locs ht hvm hr9 hB hz1 hk1 hS => ?_)
              obtain ⟨hP1, hK1, hD1⟩ := hB
              rw [ht] at hP1
              obtain ⟨ad7, gd8, vad9⟩ := u9
              obtain ⟨hv10, hn11⟩ := hr9
              have hP : va_P D xcl (xMw cT aM ad7 rd gd8 vad9 o2.2.2.2 []) H1 := hP1
              have hD : va_D A (xMw cT aM ad7 rd gd8 vad9 o2.2.2.2 []) := hD1.weaken (fun k q _ h => hFc q.1 h)
              generalize H1 = H at hP hS ⊢
              have hE9 : ∀ p, p < xct st → vad9 p = vad p := fun p h => (hv10 p (Nat.lt_of_lt_of_le h hN)).trans (hE p h)
              have hE := hE9
              have hN : xct st ≤ xct o2.2.2.2 := Nat.le_trans hN hn11
              refine W.eq (g2 := F0 m 175 ls []) (by first | rfl | (skip; rfl)) ?_
              obtain rfl := Option.some.inj hf
              exact W.vret hx hb hr (fun t ht hW => ⟨⟨(ad7, gd8, vad9), rfl, ⟨hE, hN⟩, by rw [ht]; exact hP, va_K.moved hW.alike hK, hD⟩, hS.F ht⟩) hS.2.2 dM_print1_175
            rw [if_neg hk4] at hf
            by_cases hk12 : o2.1 = 1
            · rw [if_pos hk12] at hf
              obtain ⟨hm13, hf⟩ := xmoE hf
              obtain rfl := Option.some.inj hf
              exact absurd (show (1 : Nat) = 0 from hkd) (by decide)
            rw [if_neg hk12] at hf
            exact nomatch hf
          · rw [if_pos hc] at hf
            refine lv_bipush (v := 93) hx hb dM_print1_165 (by decide) ?_
            refine lv_goto (tgt := 172) hx hb dM_print1_167 (by decide) ?_
            obtain ⟨o2, hq3, hf⟩ := xbind hf
            have hl := lv_sub (l' := [(2, .int y2), (0, .ref aM)]) hl [0, 1] rfl
            by_cases hk4 : o2.1 = 0
            · rw [if_pos hk4] at hf
              obtain ⟨hm5, hf⟩ := xmoE hf
              have hFc := xm_free hD hS hA
              refine va_callv (va_runV (C := "ValueBenchModel") (As := [.int 93]) (rest := []) ⟨hx, hb, hml, hown, htx⟩ (gM_put0 l hl9 D cT aK aV H.size n aM adL rd gdL vadL ws9 (93 : Int32) o2 hq3 hk4) ⟨callB_of 1 htx (xw_goodC kw_6_136) rfl rfl rfl (htx _ kw_1_5) (htx _ kw_6_133) ⟨by decide, by decide, by decide +kernel⟩ ⟨Nat.le_of_ble_eq_true rfl, Nat.le_of_ble_eq_true rfl⟩, (htx _ kw_6_135), (htx _ kp_M_put0)⟩ ⟨xPre_blind, va_recv hK hP (ci := 5) rfl (q0 := 0) rfl, (fun U hU hW => ⟨rfl, xPre_of hZ hS hFc hP hD hK U hU hW⟩)⟩ rfl rfl hl.1 rfl (xm_room (Nat.le_of_ble_eq_true rfl)) dM_print1_172 ⟨hm5.1, hm5.2⟩) hS (fun q _ h => hFc q h) hFc (fun u9 t H1 locs ht hvm hr9 hB hz1 hk1 hS => ?_)
              obtain ⟨hP1, hK1, hD1⟩ := hB
              rw [ht] at hP1
              obtain ⟨ad7, gd8, vad9⟩ := u9
              obtain ⟨hv10, hn11⟩ := hr9
              have hP : va_P D xcl (xMw cT aM ad7 rd gd8 vad9 o2.2.2.2 []) H1 := hP1
              have hD : va_D A (xMw cT aM ad7 rd gd8 vad9 o2.2.2.2 []) := hD1.weaken (fun k q _ h => hFc q.1 h)
              generalize H1 = H at hP hS ⊢
              have hE9 : ∀ p, p < xct st → vad9 p = vad p := fun p h => (hv10 p (Nat.lt_of_lt_of_le h hN)).trans (hE p h)
              have hE := hE9
              have hN : xct st ≤ xct o2.2.2.2 := Nat.le_trans hN hn11
              refine W.eq (g2 := F0 m 175 ls []) (by first | rfl | (skip; rfl)) ?_
              obtain rfl := Option.some.inj hf
              exact W.vret hx hb hr (fun t ht hW => ⟨⟨(ad7, gd8, vad9), rfl, ⟨hE, hN⟩, by rw [ht]; exact hP, va_K.moved hW.alike hK, hD⟩, hS.F ht⟩) hS.2.2 dM_print1_175
            rw [if_neg hk4] at hf
            by_cases hk12 : o2.1 = 1
            · rw [if_pos hk12] at hf
              obtain ⟨hm13, hf⟩ := xmoE hf
              obtain rfl := Option.some.inj hf
              exact absurd (show (1 : Nat) = 0 from hkd) (by decide)
            rw [if_neg hk12] at hf
            exact nomatch hf
        · rw [if_neg hc] at hf
          refine lv_iload_n hx hb dM_print1_105 rfl (lv_at hl 0 rfl) ?_
          refine lv_if_le (tgt := 115) hx hb dM_print1_106 (by decide) (fun hc => ?_) (fun hc => ?_)
          · rw [if_pos hc] at hf
            refine xm_aload_n hx hb (xvor _ _) dM_print1_115 rfl (lv_at hl 2 rfl) ?_
            refine xm_vget (v := .int ((xpi ws9 0) (y1 - 1))) hx hb htx hown hK hP 0 (by decide) hg1 rfl ((hZ.1 (93, "kind", "I") (List.mem_of_getElem? (i := 0) rfl)).use rfl) rfl dM_print1_116 ?_
            refine lv_bipush (v := 6) hx hb dM_print1_119 (by decide) ?_
            refine lv_icmp_ne (tgt := 140) hx hb dM_print1_121 (by decide) (fun hc => ?_) (fun hc => ?_)
            · rw [if_neg hc] at hf
              refine lv_aload_n hx hb dM_print1_140 rfl (lv_at hl 1 rfl) ?_
              refine lv_aload_n hx hb dM_print1_141 rfl (lv_at hl 1 rfl) ?_
              refine xm_aload_n hx hb (xvor _ _) dM_print1_142 rfl (lv_at hl 2 rfl) ?_
              refine lv_iload_n hx hb dM_print1_143 rfl (lv_at hl 0 rfl) ?_
              obtain ⟨o2, hq3, hf⟩ := xbind hf
              have hFc := xm_free hD hS hA
              refine va_callq (va_runV (C := "ValueBenchModel") (As := [xv vadL y1, .int y2]) (rest := [.ref aM]) ⟨hx, hb, hml, hown, htx⟩ (gM_kid l hl9 D cT aK aV H.size n aM adL rd gdL vadL ws9 y1 y2 o2 hq3) ⟨callB_of 2 htx (xw_goodC kw_6_158) rfl rfl rfl (htx _ kw_1_5) (htx _ kw_6_155) ⟨by decide, by decide, by decide +kernel⟩ ⟨Nat.le_of_ble_eq_true rfl, Nat.le_of_ble_eq_true rfl⟩, (htx _ kw_6_157), (htx _ kp_M_kid)⟩ ⟨xPre_blind, va_recv hK hP (ci := 5) rfl (q0 := 0) rfl, (fun U hU hW => ⟨rfl, xPre_of hZ hS hFc hP hD hK U hU hW⟩)⟩ rfl rfl hl.1 rfl (xm_room (Nat.le_of_ble_eq_true rfl)) dM_print1_144 ⟨hm0.1, hm0.2⟩) hS (fun q _ h => hFc q h) hFc (fun r4 u9 t H1 locs ht hvm hr9 hB hz1 hk1 hS => ?_)
              obtain ⟨hP1, hK1, hD1⟩ := hB
              rw [ht] at hP1
              have hP : va_P D xcl (xMw cT aM adL rd gdL vadL ws9 []) H1 := hP1
              have hD : va_D A (xMw cT aM adL rd gdL vadL ws9 []) := hD1.weaken (fun k q _ h => hFc q.1 h)
              generalize H1 = H at hP hS ⊢
              rw [hr9]
              refine W.eq (g2 := F0 m 147 ls [xv vadL o2, .ref aM]) (by first | rfl | (skip; rfl)) ?_
              obtain ⟨o5, hq6, hf⟩ := xbind hf
              by_cases hk7 : o5.1 = 0
              · rw [if_pos hk7] at hf
                obtain ⟨hm8, hf⟩ := xmoE hf
                have hFc := xm_free hD hS hA
                refine va_callv (va_runV (C := "ValueBenchModel") (As := [xv vadL o2]) (rest := []) ⟨hx, hb, hml, hown, htx⟩ ((hrec H.size aM adL rd gdL vadL ws9 o2 o5 hq6).1 hk7) ⟨callB_of 1 htx (xw_goodC kw_6_128) rfl rfl rfl (htx _ kw_1_5) (htx _ kw_6_125) ⟨by decide, by decide, by decide +kernel⟩ ⟨(by show (16 * d) + 1 ≤ 16 * (d + 1); omega), (by show 8 + (3 + 11) + (400 * d) ≤ 400 * (d + 1); omega)⟩, (htx _ kw_6_127), (htx _ kp_M_print1)⟩ ⟨xPre_blind, va_recv hK hP (ci := 5) rfl (q0 := 0) rfl, (fun U hU hW => ⟨rfl, xPre_of hZ hS hFc hP hD hK U hU hW⟩)⟩ rfl rfl hl.1 rfl (xm_room (Nat.le_of_ble_eq_true rfl)) dM_print1_147 ⟨hm8.1, hm8.2⟩) hS (fun q _ h => hFc q h) hFc (fun u9 t H1 locs ht hvm hr9 hB hz1 hk1 hS => ?_)
                obtain ⟨hP1, hK1, hD1⟩ := hB
                rw [ht] at hP1
                obtain ⟨ad10, gd11, vad12⟩ := u9
                obtain ⟨hv13, hn14⟩ := hr9
                have hP : va_P D xcl (xMw cT aM ad10 rd gd11 vad12 o5.2.2.2 []) H1 := hP1
                have hD : va_D A (xMw cT aM ad10 rd gd11 vad12 o5.2.2.2 []) := hD1.weaken (fun k q _ h => hFc q.1 h)
                generalize H1 = H at hP hS ⊢
                have hE9 : ∀ p, p < xct st → vad12 p = vad p := fun p h => (hv13 p (Nat.lt_of_lt_of_le h hN)).trans (hE p h)
                have hE := hE9
                have hN : xct st ≤ xct o5.2.2.2 := Nat.le_trans hN hn14
                have ev15 : xv vadL y1 = xv vad12 y1 := xvE hv13 (fun h => hg1 (Or.inr h))
                have hl : lv_has ls 3 [(2, .int y2), (0, .ref aM), (1, xv vad12 y1)] := by first | exact hl | ((try (rw [← ev15])); exact hl)
                refine W.eq (g2 := F0 m 150 ls []) (by first | rfl | ((try (rw [ev15])); rfl)) ?_
                refine lv_iinc (v := (y2 + 1)) (lv' := [(2, .int (y2 + 1)), (0, .ref aM), (1, xv vad12 y1)]) hx hb dM_print1_150 hl (k := 0) rfl rfl (by decide) (by simp only [List.filter, xvcat, xrscat, xcI, xcL, xcR, xcN]; rfl) (fun ls hl => ?_)
                refine lv_goto (tgt := 97) hx hb dM_print1_153 (by decide) ?_
                exact ih (1, (y2 + 1), y1, o5.2.2.2, (wc + o5.2.1), (wn + o5.2.2.1)) _ _ ls (⟨ad10, gd11, vad12, rfl, hf, hP, hD, hS, lv_sub hl [0, 1, 2] rfl, hE, hN⟩)
              rw [if_neg hk7] at hf
              by_cases hk16 : o5.1 = 1
              · rw [if_pos hk16] at hf
                obtain ⟨hm17, hf⟩ := xmoE hf
                obtain rfl := Option.some.inj hf
                exact absurd (show (1 : Nat) = 0 from hkd) (by decide)
              rw [if_neg hk16] at hf
              exact nomatch hf
            · rw [if_pos hc] at hf
              refine lv_aload_n hx hb dM_print1_124 rfl (lv_at hl 1 rfl) ?_
              refine lv_aload_n hx hb dM_print1_125 rfl (lv_at hl 1 rfl) ?_
              refine xm_aload_n hx hb (xvor _ _) dM_print1_126 rfl (lv_at hl 2 rfl) ?_
              refine lv_iload_n hx hb dM_print1_127 rfl (lv_at hl 0 rfl) ?_
              obtain ⟨o2, hq3, hf⟩ := xbind hf
              have hFc := xm_free hD hS hA
              refine va_callq (va_runV (C := "ValueBenchModel") (As := [xv vadL y1, .int y2]) (rest := [.ref aM]) ⟨hx, hb, hml, hown, htx⟩ (gM_name l hl9 D cT aK aV H.size n aM adL rd gdL vadL ws9 y1 y2 o2 hq3) ⟨callB_of 2 htx (xw_goodC kw_6_154) rfl rfl rfl (htx _ kw_1_5) (htx _ kw_6_151) ⟨by decide, by decide, by decide +kernel⟩ ⟨Nat.le_of_ble_eq_true rfl, Nat.le_of_ble_eq_true rfl⟩, (htx _ kw_6_153), (htx _ kp_M_name)⟩ ⟨xPre_blind, va_recv hK hP (ci := 5) rfl (q0 := 0) rfl, (fun U hU hW => ⟨rfl, xPre_of hZ hS hFc hP hD hK U hU hW⟩)⟩ rfl rfl hl.1 rfl (xm_room (Nat.le_of_ble_eq_true rfl)) dM_print1_128 ⟨hm0.1, hm0.2⟩) hS (fun q _ h => hFc q h) hFc (fun r4 u9 t H1 locs ht hvm hr9 hB hz1 hk1 hS => ?_)
              obtain ⟨hP1, hK1, hD1⟩ := hB
              rw [ht] at hP1
              have hP : va_P D xcl (xMw cT aM adL rd gdL vadL ws9 []) H1 := hP1
              have hD : va_D A (xMw cT aM adL rd gdL vadL ws9 []) := hD1.weaken (fun k q _ h => hFc q.1 h)
              generalize H1 = H at hP hS ⊢
              rw [hr9]
              refine W.eq (g2 := F0 m 131 ls [xv vadL o2, .ref aM]) (by first | rfl | (skip; rfl)) ?_
              obtain ⟨o5, hq6, hf⟩ := xbind hf
              by_cases hk7 : o5.1 = 0
              · rw [if_pos hk7] at hf
                obtain ⟨hm8, hf⟩ := xmoE hf
                have hFc := xm_free hD hS hA
                refine va_callv (va_runV (C := "ValueBenchModel") (As := [xv vadL o2]) (rest := []) ⟨hx, hb, hml, hown, htx⟩ (gM_putString l hl9 D cT aK aV H.size n aM adL rd gdL vadL ws9 o2 o5 hq6 hk7) ⟨callB_of 1 htx (xw_goodC kw_6_145) rfl rfl rfl (htx _ kw_1_5) (htx _ kw_6_142) ⟨by decide, by decide, by decide +kernel⟩ ⟨Nat.le_of_ble_eq_true rfl, Nat.le_of_ble_eq_true rfl⟩, (htx _ kw_6_144), (htx _ kp_M_putString)⟩ ⟨xPre_blind, va_recv hK hP (ci := 5) rfl (q0 := 0) rfl, (fun U hU hW => ⟨rfl, xPre_of hZ hS hFc hP hD hK U hU hW⟩)⟩ rfl rfl hl.1 rfl (xm_room (Nat.le_of_ble_eq_true rfl)) dM_print1_131 ⟨hm8.1, hm8.2⟩) hS (fun q _ h => hFc q h) hFc (fun u9 t H1 locs ht hvm hr9 hB hz1 hk1 hS => ?_)
                obtain ⟨hP1, hK1, hD1⟩ := hB
                rw [ht] at hP1
                obtain ⟨ad10, gd11, vad12⟩ := u9
                obtain ⟨hv13, hn14⟩ := hr9
                have hP : va_P D xcl (xMw cT aM ad10 rd gd11 vad12 o5.2.2.2 []) H1 := hP1
                have hD : va_D A (xMw cT aM ad10 rd gd11 vad12 o5.2.2.2 []) := hD1.weaken (fun k q _ h => hFc q.1 h)
                generalize H1 = H at hP hS ⊢
                have hE9 : ∀ p, p < xct st → vad12 p = vad p := fun p h => (hv13 p (Nat.lt_of_lt_of_le h hN)).trans (hE p h)
                have hE := hE9
                have hN : xct st ≤ xct o5.2.2.2 := Nat.le_trans hN hn14
                have ev15 : xv vadL y1 = xv vad12 y1 := xvE hv13 (fun h => hg1 (Or.inr h))
                have hl : lv_has ls 3 [(2, .int y2), (0, .ref aM), (1, xv vad12 y1)] := by first | exact hl | ((try (rw [← ev15])); exact hl)
                refine W.eq (g2 := F0 m 134 ls []) (by first | rfl | ((try (rw [ev15])); rfl)) ?_
                refine lv_aload_n hx hb dM_print1_134 rfl (lv_at hl 1 rfl) ?_
                refine lv_bipush (v := 58) hx hb dM_print1_135 (by decide) ?_
                obtain ⟨o16, hq17, hf⟩ := xbind hf
                by_cases hk18 : o16.1 = 0
                · rw [if_pos hk18] at hf
                  obtain ⟨hg19, hf⟩ := xifn hf
                  obtain ⟨hm20, hf⟩ := xmoE hf
                  have hFc := xm_free hD hS hA
                  refine va_callv (va_runV (C := "ValueBenchModel") (As := [.int 58]) (rest := []) ⟨hx, hb, hml, hown, htx⟩ (gM_put0 l hl9 D cT aK aV H.size n aM ad10 rd gd11 vad12 o5.2.2.2 (58 : Int32) o16 hq17 hk18) ⟨callB_of 1 htx (xw_goodC kw_6_136) rfl rfl rfl (htx _ kw_1_5) (htx _ kw_6_133) ⟨by decide, by decide, by decide +kernel⟩ ⟨Nat.le_of_ble_eq_true rfl, Nat.le_of_ble_eq_true rfl⟩, (htx _ kw_6_135), (htx _ kp_M_put0)⟩ ⟨xPre_blind, va_recv hK hP (ci := 5) rfl (q0 := 0) rfl, (fun U hU hW => ⟨rfl, xPre_of hZ hS hFc hP hD hK U hU hW⟩)⟩ rfl rfl hl.1 rfl (xm_room (Nat.le_of_ble_eq_true rfl)) dM_print1_137 ⟨hm20.1, hm20.2⟩) hS (fun q _ h => hFc q h) hFc (fun u9 t H1 locs ht hvm hr9 hB hz1 hk1 hS => ?_)
                  obtain ⟨hP1, hK1, hD1⟩ := hB
                  rw [ht] at hP1
                  obtain ⟨ad22, gd23, vad24⟩ := u9
                  obtain ⟨hv25, hn26⟩ := hr9
                  have hP : va_P D xcl (xMw cT aM ad22 rd gd23 vad24 o16.2.2.2 []) H1 := hP1
                  have hD : va_D A (xMw cT aM ad22 rd gd23 vad24 o16.2.2.2 []) := hD1.weaken (fun k q _ h => hFc q.1 h)
                  generalize H1 = H at hP hS ⊢
                  have hE9 : ∀ p, p < xct st → vad24 p = vad p := fun p h => (hv25 p (Nat.lt_of_lt_of_le h hN)).trans (hE p h)
                  have hE := hE9
                  have hN : xct st ≤ xct o16.2.2.2 := Nat.le_trans hN hn26
                  have ev27 : xv vad12 y1 = xv vad24 y1 := xvE hv25 hg19
                  have hl : lv_has ls 3 [(2, .int y2), (0, .ref aM), (1, xv vad24 y1)] := by first | exact hl | ((try (rw [← ev27])); exact hl)
                  refine W.eq (g2 := F0 m 140 ls []) (by first | rfl | ((try (rw [ev27])); rfl)) ?_
                  refine lv_aload_n hx hb dM_print1_140 rfl (lv_at hl 1 rfl) ?_
                  refine lv_aload_n hx hb dM_print1_141 rfl (lv_at hl 1 rfl) ?_
                  refine xm_aload_n hx hb (xvor _ _) dM_print1_142 rfl (lv_at hl 2 rfl) ?_
                  refine lv_iload_n hx hb dM_print1_143 rfl (lv_at hl 0 rfl) ?_
                  obtain ⟨o28, hq29, hf⟩ := xbind hf
                  have hFc := xm_free hD hS hA
                  refine va_callq (va_runV (C := "ValueBenchModel") (As := [xv vad24 y1, .int y2]) (rest := [.ref aM]) ⟨hx, hb, hml, hown, htx⟩ (gM_kid l hl9 D cT aK aV H.size n aM ad22 rd gd23 vad24 o16.2.2.2 y1 y2 o28 hq29) ⟨callB_of 2 htx (xw_goodC kw_6_158) rfl rfl rfl (htx _ kw_1_5) (htx _ kw_6_155) ⟨by decide, by decide, by decide +kernel⟩ ⟨Nat.le_of_ble_eq_true rfl, Nat.le_of_ble_eq_true rfl⟩, (htx _ kw_6_157), (htx _ kp_M_kid)⟩ ⟨xPre_blind, va_recv hK hP (ci := 5) rfl (q0 := 0) rfl, (fun U hU hW => ⟨rfl, xPre_of hZ hS hFc hP hD hK U hU hW⟩)⟩ rfl rfl hl.1 rfl (xm_room (Nat.le_of_ble_eq_true rfl)) dM_print1_144 ⟨hm20.1, hm20.2⟩) hS (fun q _ h => hFc q h) hFc (fun r30 u9 t H1 locs ht hvm hr9 hB hz1 hk1 hS => ?_)
                  obtain ⟨hP1, hK1, hD1⟩ := hB
                  rw [ht] at hP1
                  have hP : va_P D xcl (xMw cT aM ad22 rd gd23 vad24 o16.2.2.2 []) H1 := hP1
                  have hD : va_D A (xMw cT aM ad22 rd gd23 vad24 o16.2.2.2 []) := hD1.weaken (fun k q _ h => hFc q.1 h)
                  generalize H1 = H at hP hS ⊢
                  rw [hr9]
                  refine W.eq (g2 := F0 m 147 ls [xv vad24 o28, .ref aM]) (by first | rfl | (skip; rfl)) ?_
                  obtain ⟨o31, hq32, hf⟩ := xbind hf
                  by_cases hk33 : o31.1 = 0
                  · rw [if_pos hk33] at hf
                    obtain ⟨hg34, hf⟩ := xifn hf
                    obtain ⟨hm35, hf⟩ := xmoE hf
                    have hFc := xm_free hD hS hA
                    refine va_callv (va_runV (C := "ValueBenchModel") (As := [xv vad24 o28]) (rest := []) ⟨hx, hb, hml, hown, htx⟩ ((hrec H.size aM ad22 rd gd23 vad24 o16.2.2.2 o28 o31 hq32).1 hk33) ⟨callB_of 1 htx (xw_goodC kw_6_128) rfl rfl rfl (htx _ kw_1_5) (htx _ kw_6_125) ⟨by decide, by decide, by decide +kernel⟩ ⟨(by show (16 * d) + 1 ≤ 16 * (d + 1); omega), (by show 8 + (3 + 11) + (400 * d) ≤ 400 * (d + 1); omega)⟩, (htx _ kw_6_127), (htx _ kp_M_print1)⟩ ⟨xPre_blind, va_recv hK hP (ci := 5) rfl (q0 := 0) rfl, (fun U hU hW => ⟨rfl, xPre_of hZ hS hFc hP hD hK U hU hW⟩)⟩ rfl rfl hl.1 rfl (xm_room (Nat.le_of_ble_eq_true rfl)) dM_print1_147 ⟨hm35.1, hm35.2⟩) hS (fun q _ h => hFc q h) hFc (fun u9 t H1 locs ht hvm hr9 hB hz1 hk1 hS => ?_)
                    obtain ⟨hP1, hK1, hD1⟩ := hB
                    rw [ht] at hP1
                    obtain ⟨ad37, gd38, vad39⟩ := u9
                    obtain ⟨hv40, hn41⟩ := hr9
                    have hP : va_P D xcl (xMw cT aM ad37 rd gd38 vad39 o31.2.2.2 []) H1 := hP1
                    have hD : va_D A (xMw cT aM ad37 rd gd38 vad39 o31.2.2.2 []) := hD1.weaken (fun k q _ h => hFc q.1 h)
                    generalize H1 = H at hP hS ⊢
                    have hE9 : ∀ p, p < xct st → vad39 p = vad p := fun p h => (hv40 p (Nat.lt_of_lt_of_le h hN)).trans (hE p h)
                    have hE := hE9
                    have hN : xct st ≤ xct o31.2.2.2 := Nat.le_trans hN hn41
                    have ev42 : xv vad24 y1 = xv vad39 y1 := xvE hv40 hg34
                    have hl : lv_has ls 3 [(2, .int y2), (0, .ref aM), (1, xv vad39 y1)] := by first | exact hl | ((try (rw [← ev42])); exact hl)
                    refine W.eq (g2 := F0 m 150 ls []) (by first | rfl | ((try (rw [ev42])); rfl)) ?_
                    refine lv_iinc (v := (y2 + 1)) (lv' := [(2, .int (y2 + 1)), (0, .ref aM), (1, xv vad39 y1)]) hx hb dM_print1_150 hl (k := 0) rfl rfl (by decide) (by simp only [List.filter, xvcat, xrscat, xcI, xcL, xcR, xcN]; rfl) (fun ls hl => ?_)
                    refine lv_goto (tgt := 97) hx hb dM_print1_153 (by decide) ?_
                    exact ih (1, (y2 + 1), y1, o31.2.2.2, (((wc + o5.2.1) + o16.2.1) + o31.2.1), (((wn + o5.2.2.1) + o16.2.2.1) + o31.2.2.1)) _ _ ls (⟨ad37, gd38, vad39, rfl, hf, hP, hD, hS, lv_sub hl [0, 1, 2] rfl, hE, hN⟩)
                  rw [if_neg hk33] at hf
                  by_cases hk43 : o31.1 = 1
                  · rw [if_pos hk43] at hf
                    obtain ⟨hg44, hf⟩ := xifn hf
                    obtain ⟨hm45, hf⟩ := xmoE hf
                    obtain rfl := Option.some.inj hf
                    exact absurd (show (1 : Nat) = 0 from hkd) (by decide)
                  rw [if_neg hk43] at hf
                  exact nomatch hf
                rw [if_neg hk18] at hf
                by_cases hk53 : o16.1 = 1
                · rw [if_pos hk53] at hf
                  obtain ⟨hg54, hf⟩ := xifn hf
                  obtain ⟨hm55, hf⟩ := xmoE hf
                  obtain rfl := Option.some.inj hf
                  exact absurd (show (1 : Nat) = 0 from hkd) (by decide)
                rw [if_neg hk53] at hf
                exact nomatch hf
              rw [if_neg hk7] at hf
              by_cases hk63 : o5.1 = 1
              · rw [if_pos hk63] at hf
                obtain ⟨hm64, hf⟩ := xmoE hf
                obtain rfl := Option.some.inj hf
                exact absurd (show (1 : Nat) = 0 from hkd) (by decide)
              rw [if_neg hk63] at hf
              exact nomatch hf
          · rw [if_neg hc] at hf
            refine lv_aload_n hx hb dM_print1_109 rfl (lv_at hl 1 rfl) ?_
            refine lv_bipush (v := 44) hx hb dM_print1_110 (by decide) ?_
            obtain ⟨o2, hq3, hf⟩ := xbind hf
            by_cases hk4 : o2.1 = 0
            · rw [if_pos hk4] at hf
              obtain ⟨hm5, hf⟩ := xmoE hf
              have hFc := xm_free hD hS hA
              refine va_callv (va_runV (C := "ValueBenchModel") (As := [.int 44]) (rest := []) ⟨hx, hb, hml, hown, htx⟩ (gM_put0 l hl9 D cT aK aV H.size n aM adL rd gdL vadL ws9 (44 : Int32) o2 hq3 hk4) ⟨callB_of 1 htx (xw_goodC kw_6_136) rfl rfl rfl (htx _ kw_1_5) (htx _ kw_6_133) ⟨by decide, by decide, by decide +kernel⟩ ⟨Nat.le_of_ble_eq_true rfl, Nat.le_of_ble_eq_true rfl⟩, (htx _ kw_6_135), (htx _ kp_M_put0)⟩ ⟨xPre_blind, va_recv hK hP (ci := 5) rfl (q0 := 0) rfl, (fun U hU hW => ⟨rfl, xPre_of hZ hS hFc hP hD hK U hU hW⟩)⟩ rfl rfl hl.1 rfl (xm_room (Nat.le_of_ble_eq_true rfl)) dM_print1_112 ⟨hm5.1, hm5.2⟩) hS (fun q _ h => hFc q h) hFc (fun u9 t H1 locs ht hvm hr9 hB hz1 hk1 hS => ?_)
              obtain ⟨hP1, hK1, hD1⟩ := hB
              rw [ht] at hP1
              obtain ⟨ad7, gd8, vad9⟩ := u9
              obtain ⟨hv10, hn11⟩ := hr9
              have hP : va_P D xcl (xMw cT aM ad7 rd gd8 vad9 o2.2.2.2 []) H1 := hP1
              have hD : va_D A (xMw cT aM ad7 rd gd8 vad9 o2.2.2.2 []) := hD1.weaken (fun k q _ h => hFc q.1 h)
              generalize H1 = H at hP hS ⊢
              have hE9 : ∀ p, p < xct st → vad9 p = vad p := fun p h => (hv10 p (Nat.lt_of_lt_of_le h hN)).trans (hE p h)
              have hE := hE9
              have hN : xct st ≤ xct o2.2.2.2 := Nat.le_trans hN hn11
              have ev12 : xv vadL y1 = xv vad9 y1 := xvE hv10 (fun h => hg1 (Or.inr h))
              have hl : lv_has ls 3 [(2, .int y2), (0, .ref aM), (1, xv vad9 y1)] := by first | exact hl | ((try (rw [← ev12])); exact hl)
              refine W.eq (g2 := F0 m 115 ls []) (by first | rfl | ((try (rw [ev12])); rfl)) ?_
              refine xm_aload_n hx hb (xvor _ _) dM_print1_115 rfl (lv_at hl 2 rfl) ?_
              obtain ⟨hg13, hf⟩ := xifn hf
              refine xm_vget (v := .int ((xpi o2.2.2.2 0) (y1 - 1))) hx hb htx hown hK hP 0 (by decide) hg13 rfl ((hZ.1 (93, "kind", "I") (List.mem_of_getElem? (i := 0) rfl)).use rfl) rfl dM_print1_116 ?_
              refine lv_bipush (v := 6) hx hb dM_print1_119 (by decide) ?_
              refine lv_icmp_ne (tgt := 140) hx hb dM_print1_121 (by decide) (fun hc => ?_) (fun hc => ?_)
              · rw [if_neg hc] at hf
                refine lv_aload_n hx hb dM_print1_140 rfl (lv_at hl 1 rfl) ?_
                refine lv_aload_n hx hb dM_print1_141 rfl (lv_at hl 1 rfl) ?_
                refine xm_aload_n hx hb (xvor _ _) dM_print1_142 rfl (lv_at hl 2 rfl) ?_
                refine lv_iload_n hx hb dM_print1_143 rfl (lv_at hl 0 rfl) ?_
                obtain ⟨o14, hq15, hf⟩ := xbind hf
                have hFc := xm_free hD hS hA
                refine va_callq (va_runV (C := "ValueBenchModel") (As := [xv vad9 y1, .int y2]) (rest := [.ref aM]) ⟨hx, hb, hml, hown, htx⟩ (gM_kid l hl9 D cT aK aV H.size n aM ad7 rd gd8 vad9 o2.2.2.2 y1 y2 o14 hq15) ⟨callB_of 2 htx (xw_goodC kw_6_158) rfl rfl rfl (htx _ kw_1_5) (htx _ kw_6_155) ⟨by decide, by decide, by decide +kernel⟩ ⟨Nat.le_of_ble_eq_true rfl, Nat.le_of_ble_eq_true rfl⟩, (htx _ kw_6_157), (htx _ kp_M_kid)⟩ ⟨xPre_blind, va_recv hK hP (ci := 5) rfl (q0 := 0) rfl, (fun U hU hW => ⟨rfl, xPre_of hZ hS hFc hP hD hK U hU hW⟩)⟩ rfl rfl hl.1 rfl (xm_room (Nat.le_of_ble_eq_true rfl)) dM_print1_144 ⟨hm5.1, hm5.2⟩) hS (fun q _ h => hFc q h) hFc (fun r16 u9 t H1 locs ht hvm hr9 hB hz1 hk1 hS => ?_)
                obtain ⟨hP1, hK1, hD1⟩ := hB
                rw [ht] at hP1
                have hP : va_P D xcl (xMw cT aM ad7 rd gd8 vad9 o2.2.2.2 []) H1 := hP1
                have hD : va_D A (xMw cT aM ad7 rd gd8 vad9 o2.2.2.2 []) := hD1.weaken (fun k q _ h => hFc q.1 h)
                generalize H1 = H at hP hS ⊢
                rw [hr9]
                refine W.eq (g2 := F0 m 147 ls [xv vad9 o14, .ref aM]) (by first | rfl | (skip; rfl)) ?_
                obtain ⟨o17, hq18, hf⟩ := xbind hf
                by_cases hk19 : o17.1 = 0
                · rw [if_pos hk19] at hf
                  obtain ⟨hm20, hf⟩ := xmoE hf
                  have hFc := xm_free hD hS hA
                  refine va_callv (va_runV (C := "ValueBenchModel") (As := [xv vad9 o14]) (rest := []) ⟨hx, hb, hml, hown, htx⟩ ((hrec H.size aM ad7 rd gd8 vad9 o2.2.2.2 o14 o17 hq18).1 hk19) ⟨callB_of 1 htx (xw_goodC kw_6_128) rfl rfl rfl (htx _ kw_1_5) (htx _ kw_6_125) ⟨by decide, by decide, by decide +kernel⟩ ⟨(by show (16 * d) + 1 ≤ 16 * (d + 1); omega), (by show 8 + (3 + 11) + (400 * d) ≤ 400 * (d + 1); omega)⟩, (htx _ kw_6_127), (htx _ kp_M_print1)⟩ ⟨xPre_blind, va_recv hK hP (ci := 5) rfl (q0 := 0) rfl, (fun U hU hW => ⟨rfl, xPre_of hZ hS hFc hP hD hK U hU hW⟩)⟩ rfl rfl hl.1 rfl (xm_room (Nat.le_of_ble_eq_true rfl)) dM_print1_147 ⟨hm20.1, hm20.2⟩) hS (fun q _ h => hFc q h) hFc (fun u9 t H1 locs ht hvm hr9 hB hz1 hk1 hS => ?_)
                  obtain ⟨hP1, hK1, hD1⟩ := hB
                  rw [ht] at hP1
                  obtain ⟨ad22, gd23, vad24⟩ := u9
                  obtain ⟨hv25, hn26⟩ := hr9
                  have hP : va_P D xcl (xMw cT aM ad22 rd gd23 vad24 o17.2.2.2 []) H1 := hP1
                  have hD : va_D A (xMw cT aM ad22 rd gd23 vad24 o17.2.2.2 []) := hD1.weaken (fun k q _ h => hFc q.1 h)
                  generalize H1 = H at hP hS ⊢
                  have hE9 : ∀ p, p < xct st → vad24 p = vad p := fun p h => (hv25 p (Nat.lt_of_lt_of_le h hN)).trans (hE p h)
                  have hE := hE9
                  have hN : xct st ≤ xct o17.2.2.2 := Nat.le_trans hN hn26
                  have ev27 : xv vad9 y1 = xv vad24 y1 := xvE hv25 (fun h => hg13 (Or.inr h))
                  have hl : lv_has ls 3 [(2, .int y2), (0, .ref aM), (1, xv vad24 y1)] := by first | exact hl | ((try (rw [← ev27])); exact hl)
                  refine W.eq (g2 := F0 m 150 ls []) (by first | rfl | ((try (rw [ev27])); rfl)) ?_
                  refine lv_iinc (v := (y2 + 1)) (lv' := [(2, .int (y2 + 1)), (0, .ref aM), (1, xv vad24 y1)]) hx hb dM_print1_150 hl (k := 0) rfl rfl (by decide) (by simp only [List.filter, xvcat, xrscat, xcI, xcL, xcR, xcN]; rfl) (fun ls hl => ?_)
                  refine lv_goto (tgt := 97) hx hb dM_print1_153 (by decide) ?_
                  exact ih (1, (y2 + 1), y1, o17.2.2.2, ((wc + o2.2.1) + o17.2.1), ((wn + o2.2.2.1) + o17.2.2.1)) _ _ ls (⟨ad22, gd23, vad24, rfl, hf, hP, hD, hS, lv_sub hl [0, 1, 2] rfl, hE, hN⟩)
                rw [if_neg hk19] at hf
                by_cases hk28 : o17.1 = 1
                · rw [if_pos hk28] at hf
                  obtain ⟨hm29, hf⟩ := xmoE hf
                  obtain rfl := Option.some.inj hf
                  exact absurd (show (1 : Nat) = 0 from hkd) (by decide)
                rw [if_neg hk28] at hf
                exact nomatch hf
              · rw [if_pos hc] at hf
                refine lv_aload_n hx hb dM_print1_124 rfl (lv_at hl 1 rfl) ?_
                refine lv_aload_n hx hb dM_print1_125 rfl (lv_at hl 1 rfl) ?_
                refine xm_aload_n hx hb (xvor _ _) dM_print1_126 rfl (lv_at hl 2 rfl) ?_
                refine lv_iload_n hx hb dM_print1_127 rfl (lv_at hl 0 rfl) ?_
                obtain ⟨o14, hq15, hf⟩ := xbind hf
                have hFc := xm_free hD hS hA
                refine va_callq (va_runV (C := "ValueBenchModel") (As := [xv vad9 y1, .int y2]) (rest := [.ref aM]) ⟨hx, hb, hml, hown, htx⟩ (gM_name l hl9 D cT aK aV H.size n aM ad7 rd gd8 vad9 o2.2.2.2 y1 y2 o14 hq15) ⟨callB_of 2 htx (xw_goodC kw_6_154) rfl rfl rfl (htx _ kw_1_5) (htx _ kw_6_151) ⟨by decide, by decide, by decide +kernel⟩ ⟨Nat.le_of_ble_eq_true rfl, Nat.le_of_ble_eq_true rfl⟩, (htx _ kw_6_153), (htx _ kp_M_name)⟩ ⟨xPre_blind, va_recv hK hP (ci := 5) rfl (q0 := 0) rfl, (fun U hU hW => ⟨rfl, xPre_of hZ hS hFc hP hD hK U hU hW⟩)⟩ rfl rfl hl.1 rfl (xm_room (Nat.le_of_ble_eq_true rfl)) dM_print1_128 ⟨hm5.1, hm5.2⟩) hS (fun q _ h => hFc q h) hFc (fun r16 u9 t H1 locs ht hvm hr9 hB hz1 hk1 hS => ?_)
                obtain ⟨hP1, hK1, hD1⟩ := hB
                rw [ht] at hP1
                have hP : va_P D xcl (xMw cT aM ad7 rd gd8 vad9 o2.2.2.2 []) H1 := hP1
                have hD : va_D A (xMw cT aM ad7 rd gd8 vad9 o2.2.2.2 []) := hD1.weaken (fun k q _ h => hFc q.1 h)
                generalize H1 = H at hP hS ⊢
                rw [hr9]
                refine W.eq (g2 := F0 m 131 ls [xv vad9 o14, .ref aM]) (by first | rfl | (skip; rfl)) ?_
                obtain ⟨o17, hq18, hf⟩ := xbind hf
                by_cases hk19 : o17.1 = 0
                · rw [if_pos hk19] at hf
                  obtain ⟨hm20, hf⟩ := xmoE hf
                  have hFc := xm_free hD hS hA
                  refine va_callv (va_runV (C := "ValueBenchModel") (As := [xv vad9 o14]) (rest := []) ⟨hx, hb, hml, hown, htx⟩ (gM_putString l hl9 D cT aK aV H.size n aM ad7 rd gd8 vad9 o2.2.2.2 o14 o17 hq18 hk19) ⟨callB_of 1 htx (xw_goodC kw_6_145) rfl rfl rfl (htx _ kw_1_5) (htx _ kw_6_142) ⟨by decide, by decide, by decide +kernel⟩ ⟨Nat.le_of_ble_eq_true rfl, Nat.le_of_ble_eq_true rfl⟩, (htx _ kw_6_144), (htx _ kp_M_putString)⟩ ⟨xPre_blind, va_recv hK hP (ci := 5) rfl (q0 := 0) rfl, (fun U hU hW => ⟨rfl, xPre_of hZ hS hFc hP hD hK U hU hW⟩)⟩ rfl rfl hl.1 rfl (xm_room (Nat.le_of_ble_eq_true rfl)) dM_print1_131 ⟨hm20.1, hm20.2⟩) hS (fun q _ h => hFc q h) hFc (fun u9 t H1 locs ht hvm hr9 hB hz1 hk1 hS => ?_)
                  obtain ⟨hP1, hK1, hD1⟩ := hB
                  rw [ht] at hP1
                  obtain ⟨ad22, gd23, vad24⟩ := u9
                  obtain ⟨hv25, hn26⟩ := hr9
                  have hP : va_P D xcl (xMw cT aM ad22 rd gd23 vad24 o17.2.2.2 []) H1 := hP1
                  have hD : va_D A (xMw cT aM ad22 rd gd23 vad24 o17.2.2.2 []) := hD1.weaken (fun k q _ h => hFc q.1 h)
                  generalize H1 = H at hP hS ⊢
                  have hE9 : ∀ p, p < xct st → vad24 p = vad p := fun p h => (hv25 p (Nat.lt_of_lt_of_le h hN)).trans (hE p h)
                  have hE := hE9
                  have hN : xct st ≤ xct o17.2.2.2 := Nat.le_trans hN hn26
                  have ev27 : xv vad9 y1 = xv vad24 y1 := xvE hv25 (fun h => hg13 (Or.inr h))
                  have hl : lv_has ls 3 [(2, .int y2), (0, .ref aM), (1, xv vad24 y1)] := by first | exact hl | ((try (rw [← ev27])); exact hl)
                  refine W.eq (g2 := F0 m 134 ls []) (by first | rfl | ((try (rw [ev27])); rfl)) ?_
                  refine lv_aload_n hx hb dM_print1_134 rfl (lv_at hl 1 rfl) ?_
                  refine lv_bipush (v := 58) hx hb dM_print1_135 (by decide) ?_
                  obtain ⟨o28, hq29, hf⟩ := xbind hf
                  by_cases hk30 : o28.1 = 0
                  · rw [if_pos hk30] at hf
                    obtain ⟨hg31, hf⟩ := xifn hf
                    obtain ⟨hm32, hf⟩ := xmoE hf
                    have hFc := xm_free hD hS hA
                    refine va_callv (va_runV (C := "ValueBenchModel") (As := [.int 58]) (rest := []) ⟨hx, hb, hml, hown, htx⟩ (gM_put0 l hl9 D cT aK aV H.size n aM ad22 rd gd23 vad24 o17.2.2.2 (58 : Int32) o28 hq29 hk30) ⟨callB_of 1 htx (xw_goodC kw_6_136) rfl rfl rfl (htx _ kw_1_5) (htx _ kw_6_133) ⟨by decide, by decide, by decide +kernel⟩ ⟨Nat.le_of_ble_eq_true rfl, Nat.le_of_ble_eq_true rfl⟩, (htx _ kw_6_135), (htx _ kp_M_put0)⟩ ⟨xPre_blind, va_recv hK hP (ci := 5) rfl (q0 := 0) rfl, (fun U hU hW => ⟨rfl, xPre_of hZ hS hFc hP hD hK U hU hW⟩)⟩ rfl rfl hl.1 rfl (xm_room (Nat.le_of_ble_eq_true rfl)) dM_print1_137 ⟨hm32.1, hm32.2⟩) hS (fun q _ h => hFc q h) hFc (fun u9 t H1 locs ht hvm hr9 hB hz1 hk1 hS => ?_)
                    obtain ⟨hP1, hK1, hD1⟩ := hB
                    rw [ht] at hP1
                    obtain ⟨ad34, gd35, vad36⟩ := u9
                    obtain ⟨hv37, hn38⟩ := hr9
                    have hP : va_P D xcl (xMw cT aM ad34 rd gd35 vad36 o28.2.2.2 []) H1 := hP1
                    have hD : va_D A (xMw cT aM ad34 rd gd35 vad36 o28.2.2.2 []) := hD1.weaken (fun k q _ h => hFc q.1 h)
                    generalize H1 = H at hP hS ⊢
                    have hE9 : ∀ p, p < xct st → vad36 p = vad p := fun p h => (hv37 p (Nat.lt_of_lt_of_le h hN)).trans (hE p h)
                    have hE := hE9
                    have hN : xct st ≤ xct o28.2.2.2 := Nat.le_trans hN hn38
                    have ev39 : xv vad24 y1 = xv vad36 y1 := xvE hv37 hg31
                    have hl : lv_has ls 3 [(2, .int y2), (0, .ref aM), (1, xv vad36 y1)] := by first | exact hl | ((try (rw [← ev39])); exact hl)
                    refine W.eq (g2 := F0 m 140 ls []) (by first | rfl | ((try (rw [ev39])); rfl)) ?_
                    refine lv_aload_n hx hb dM_print1_140 rfl (lv_at hl 1 rfl) ?_
                    refine lv_aload_n hx hb dM_print1_141 rfl (lv_at hl 1 rfl) ?_
                    refine xm_aload_n hx hb (xvor _ _) dM_print1_142 rfl (lv_at hl 2 rfl) ?_
                    refine lv_iload_n hx hb dM_print1_143 rfl (lv_at hl 0 rfl) ?_
                    obtain ⟨o40, hq41, hf⟩ := xbind hf
                    have hFc := xm_free hD hS hA
                    refine va_callq (va_runV (C := "ValueBenchModel") (As := [xv vad36 y1, .int y2]) (rest := [.ref aM]) ⟨hx, hb, hml, hown, htx⟩ (gM_kid l hl9 D cT aK aV H.size n aM ad34 rd gd35 vad36 o28.2.2.2 y1 y2 o40 hq41) ⟨callB_of 2 htx (xw_goodC kw_6_158) rfl rfl rfl (htx _ kw_1_5) (htx _ kw_6_155) ⟨by decide, by decide, by decide +kernel⟩ ⟨Nat.le_of_ble_eq_true rfl, Nat.le_of_ble_eq_true rfl⟩, (htx _ kw_6_157), (htx _ kp_M_kid)⟩ ⟨xPre_blind, va_recv hK hP (ci := 5) rfl (q0 := 0) rfl, (fun U hU hW => ⟨rfl, xPre_of hZ hS hFc hP hD hK U hU hW⟩)⟩ rfl rfl hl.1 rfl (xm_room (Nat.le_of_ble_eq_true rfl)) dM_print1_144 ⟨hm32.1, hm32.2⟩) hS (fun q _ h => hFc q h) hFc (fun r42 u9 t H1 locs ht hvm hr9 hB hz1 hk1 hS => ?_)
                    obtain ⟨hP1, hK1, hD1⟩ := hB
                    rw [ht] at hP1
                    have hP : va_P D xcl (xMw cT aM ad34 rd gd35 vad36 o28.2.2.2 []) H1 := hP1
                    have hD : va_D A (xMw cT aM ad34 rd gd35 vad36 o28.2.2.2 []) := hD1.weaken (fun k q _ h => hFc q.1 h)
                    generalize H1 = H at hP hS ⊢
                    rw [hr9]
                    refine W.eq (g2 := F0 m 147 ls [xv vad36 o40, .ref aM]) (by first | rfl | (skip; rfl)) ?_
                    obtain ⟨o43, hq44, hf⟩ := xbind hf
                    by_cases hk45 : o43.1 = 0
                    · rw [if_pos hk45] at hf
                      obtain ⟨hg46, hf⟩ := xifn hf
                      obtain ⟨hm47, hf⟩ := xmoE hf
                      have hFc := xm_free hD hS hA
                      refine va_callv (va_runV (C := "ValueBenchModel") (As := [xv vad36 o40]) (rest := []) ⟨hx, hb, hml, hown, htx⟩ ((hrec H.size aM ad34 rd gd35 vad36 o28.2.2.2 o40 o43 hq44).1 hk45) ⟨callB_of 1 htx (xw_goodC kw_6_128) rfl rfl rfl (htx _ kw_1_5) (htx _ kw_6_125) ⟨by decide, by decide, by decide +kernel⟩ ⟨(by show (16 * d) + 1 ≤ 16 * (d + 1); omega), (by show 8 + (3 + 11) + (400 * d) ≤ 400 * (d + 1); omega)⟩, (htx _ kw_6_127), (htx _ kp_M_print1)⟩ ⟨xPre_blind, va_recv hK hP (ci := 5) rfl (q0 := 0) rfl, (fun U hU hW => ⟨rfl, xPre_of hZ hS hFc hP hD hK U hU hW⟩)⟩ rfl rfl hl.1 rfl (xm_room (Nat.le_of_ble_eq_true rfl)) dM_print1_147 ⟨hm47.1, hm47.2⟩) hS (fun q _ h => hFc q h) hFc (fun u9 t H1 locs ht hvm hr9 hB hz1 hk1 hS => ?_)
                      obtain ⟨hP1, hK1, hD1⟩ := hB
                      rw [ht] at hP1
                      obtain ⟨ad49, gd50, vad51⟩ := u9
                      obtain ⟨hv52, hn53⟩ := hr9
                      have hP : va_P D xcl (xMw cT aM ad49 rd gd50 vad51 o43.2.2.2 []) H1 := hP1
                      have hD : va_D A (xMw cT aM ad49 rd gd50 vad51 o43.2.2.2 []) := hD1.weaken (fun k q _ h => hFc q.1 h)
                      generalize H1 = H at hP hS ⊢
                      have hE9 : ∀ p, p < xct st → vad51 p = vad p := fun p h => (hv52 p (Nat.lt_of_lt_of_le h hN)).trans (hE p h)
                      have hE := hE9
                      have hN : xct st ≤ xct o43.2.2.2 := Nat.le_trans hN hn53
                      have ev54 : xv vad36 y1 = xv vad51 y1 := xvE hv52 hg46
                      have hl : lv_has ls 3 [(2, .int y2), (0, .ref aM), (1, xv vad51 y1)] := by first | exact hl | ((try (rw [← ev54])); exact hl)
                      refine W.eq (g2 := F0 m 150 ls []) (by first | rfl | ((try (rw [ev54])); rfl)) ?_
                      refine lv_iinc (v := (y2 + 1)) (lv' := [(2, .int (y2 + 1)), (0, .ref aM), (1, xv vad51 y1)]) hx hb dM_print1_150 hl (k := 0) rfl rfl (by decide) (by simp only [List.filter, xvcat, xrscat, xcI, xcL, xcR, xcN]; rfl) (fun ls hl => ?_)
                      refine lv_goto (tgt := 97) hx hb dM_print1_153 (by decide) ?_
                      exact ih (1, (y2 + 1), y1, o43.2.2.2, ((((wc + o2.2.1) + o17.2.1) + o28.2.1) + o43.2.1), ((((wn + o2.2.2.1) + o17.2.2.1) + o28.2.2.1) + o43.2.2.1)) _ _ ls (⟨ad49, gd50, vad51, rfl, hf, hP, hD, hS, lv_sub hl [0, 1, 2] rfl, hE, hN⟩)
                    rw [if_neg hk45] at hf
                    by_cases hk55 : o43.1 = 1
                    · rw [if_pos hk55] at hf
                      obtain ⟨hg56, hf⟩ := xifn hf
                      obtain ⟨hm57, hf⟩ := xmoE hf
                      obtain rfl := Option.some.inj hf
                      exact absurd (show (1 : Nat) = 0 from hkd) (by decide)
                    rw [if_neg hk55] at hf
                    exact nomatch hf
                  rw [if_neg hk30] at hf
                  by_cases hk65 : o28.1 = 1
                  · rw [if_pos hk65] at hf
                    obtain ⟨hg66, hf⟩ := xifn hf
                    obtain ⟨hm67, hf⟩ := xmoE hf
                    obtain rfl := Option.some.inj hf
                    exact absurd (show (1 : Nat) = 0 from hkd) (by decide)
                  rw [if_neg hk65] at hf
                  exact nomatch hf
                rw [if_neg hk19] at hf
                by_cases hk75 : o17.1 = 1
                · rw [if_pos hk75] at hf
                  obtain ⟨hm76, hf⟩ := xmoE hf
                  obtain rfl := Option.some.inj hf
                  exact absurd (show (1 : Nat) = 0 from hkd) (by decide)
                rw [if_neg hk75] at hf
                exact nomatch hf
            rw [if_neg hk4] at hf
            by_cases hk14 : o2.1 = 1
            · rw [if_pos hk14] at hf
              obtain ⟨hm15, hf⟩ := xmoE hf
              obtain rfl := Option.some.inj hf
              exact absurd (show (1 : Nat) = 0 from hkd) (by decide)
            rw [if_neg hk14] at hf
            exact nomatch hf
      refine xm_aload_n hx hb (xvor _ _) dM_print1_0 rfl (lv_at hl 1 rfl) ?_
      obtain ⟨hg1, hf⟩ := xifn hf
      refine xm_vget (v := .int ((xpi st 0) (c0 - 1))) hx hb htx hown hK hP 0 (by decide) hg1 rfl ((hZ.1 (93, "kind", "I") (List.mem_of_getElem? (i := 0) rfl)).use rfl) rfl dM_print1_1 ?_
      by_cases hc2 : ((xpi st 0) (c0 - 1)) = 0
      · rw [if_pos hc2] at hf
        refine lv_tableIn (off := 36) (tgt := 40) hx hb dM_print1_4 (by rw [hc2]; decide) (by rw [hc2]; decide) (by rw [hc2]; decide) (by decide) ?_
        refine lv_aload_n hx hb dM_print1_40 rfl (lv_at hl 0 rfl) ?_
        refine va_ldcS (q := aK 10) hx hb hown (hZ.2.2.2.2.2.2.2.2.1 ("ValueBenchModel", 69, "null", 10) (List.mem_of_getElem? (i := 17) rfl)) dM_print1_41 ?_
        obtain ⟨o3, hq4, hf⟩ := xbind hf
        have hl := lv_sub (l' := [(0, .ref aM)]) hl [0] rfl
        by_cases hk5 : o3.1 = 0
        · rw [if_pos hk5] at hf
          obtain ⟨hm6, hf⟩ := xmoE hf
          have hFc := xm_free hD hS hA
          refine va_callv (va_runV (C := "ValueBenchModel") (As := [.ref (aK 10)]) (rest := []) ⟨hx, hb, hml, hown, htx⟩ (gM_put1 l hl9 D cT aK aV s.heap.size n aM ad rd gd vad st o3 hq4 hk5) ⟨callB_of 1 htx (xw_goodC kw_6_132) rfl rfl rfl (htx _ kw_1_5) (htx _ kw_6_129) ⟨by decide, by decide, by decide +kernel⟩ ⟨Nat.le_of_ble_eq_true rfl, Nat.le_of_ble_eq_true rfl⟩, (htx _ kw_6_131), (htx _ kp_M_put1)⟩ ⟨xPre_blind, va_recv hK hP (ci := 5) rfl (q0 := 0) rfl, (fun U hU hW => ⟨rfl, xPre_of hZ hS hFc hP hD hK U hU hW⟩)⟩ rfl rfl hl.1 rfl (xm_room (Nat.le_of_ble_eq_true rfl)) dM_print1_43 ⟨hm6.1, hm6.2⟩) hS (fun q _ h => hFc q h) hFc (fun u9 t H1 locs ht hvm hr9 hB hz1 hk1 hS => ?_)
          obtain ⟨hP1, hK1, hD1⟩ := hB
          rw [ht] at hP1
          obtain ⟨ad8, gd9, vad10⟩ := u9
          obtain ⟨hv11, hn12⟩ := hr9
          have hP : va_P D xcl (xMw cT aM ad8 rd gd9 vad10 o3.2.2.2 []) H1 := hP1
          have hD : va_D A (xMw cT aM ad8 rd gd9 vad10 o3.2.2.2 []) := hD1.weaken (fun k q _ h => hFc q.1 h)
          generalize H1 = H at hP hS ⊢
          have hE9 : ∀ p, p < xct st → vad10 p = vad p := fun p h => (hv11 p (Nat.lt_of_lt_of_le h hN)).trans (hE p h)
          have hE := hE9
          have hN : xct st ≤ xct o3.2.2.2 := Nat.le_trans hN hn12
          refine W.eq (g2 := F0 m 46 ls []) (by first | rfl | (skip; rfl)) ?_
          obtain rfl := Option.some.inj hf
          exact W.vret hx hb hr (fun t ht hW => ⟨⟨(ad8, gd9, vad10), rfl, ⟨hE, hN⟩, by rw [ht]; exact hP, va_K.moved hW.alike hK, hD⟩, hS.F ht⟩) hS.2.2 dM_print1_46
        rw [if_neg hk5] at hf
        by_cases hk13 : o3.1 = 1
        · rw [if_pos hk13] at hf
          obtain ⟨hm14, hf⟩ := xmoE hf
          obtain rfl := Option.some.inj hf
          exact absurd (show (1 : Nat) = 0 from hkd) (by decide)
        rw [if_neg hk13] at hf
        exact nomatch hf
      rw [if_neg hc2] at hf
      by_cases hc21 : ((xpi st 0) (c0 - 1)) = 1
      · rw [if_pos hc21] at hf
        refine lv_tableIn (off := 43) (tgt := 47) hx hb dM_print1_4 (by rw [hc21]; decide) (by rw [hc21]; decide) (by rw [hc21]; decide) (by decide) ?_
        refine lv_aload_n hx hb dM_print1_47 rfl (lv_at hl 0 rfl) ?_
        refine va_ldcS (q := aK 11) hx hb hown (hZ.2.2.2.2.2.2.2.2.1 ("ValueBenchModel", 238, "false", 11) (List.mem_of_getElem? (i := 19) rfl)) dM_print1_48 ?_
        obtain ⟨o22, hq23, hf⟩ := xbind hf
        have hl := lv_sub (l' := [(0, .ref aM)]) hl [0] rfl
        by_cases hk24 : o22.1 = 0
        · rw [if_pos hk24] at hf
          obtain ⟨hm25, hf⟩ := xmoE hf
          have hFc := xm_free hD hS hA
          refine va_callv (va_runV (C := "ValueBenchModel") (As := [.ref (aK 11)]) (rest := []) ⟨hx, hb, hml, hown, htx⟩ (gM_put1a l hl9 D cT aK aV s.heap.size n aM ad rd gd vad st o22 hq23 hk24) ⟨callB_of 1 htx (xw_goodC kw_6_132) rfl rfl rfl (htx _ kw_1_5) (htx _ kw_6_129) ⟨by decide, by decide, by decide +kernel⟩ ⟨Nat.le_of_ble_eq_true rfl, Nat.le_of_ble_eq_true rfl⟩, (htx _ kw_6_131), (htx _ kp_M_put1)⟩ ⟨xPre_blind, va_recv hK hP (ci := 5) rfl (q0 := 0) rfl, (fun U hU hW => ⟨rfl, xPre_of hZ hS hFc hP hD hK U hU hW⟩)⟩ rfl rfl hl.1 rfl (xm_room (Nat.le_of_ble_eq_true rfl)) dM_print1_50 ⟨hm25.1, hm25.2⟩) hS (fun q _ h => hFc q h) hFc (fun u9 t H1 locs ht hvm hr9 hB hz1 hk1 hS => ?_)
          obtain ⟨hP1, hK1, hD1⟩ := hB
          rw [ht] at hP1
          obtain ⟨ad27, gd28, vad29⟩ := u9
          obtain ⟨hv30, hn31⟩ := hr9
          have hP : va_P D xcl (xMw cT aM ad27 rd gd28 vad29 o22.2.2.2 []) H1 := hP1
          have hD : va_D A (xMw cT aM ad27 rd gd28 vad29 o22.2.2.2 []) := hD1.weaken (fun k q _ h => hFc q.1 h)
          generalize H1 = H at hP hS ⊢
          have hE9 : ∀ p, p < xct st → vad29 p = vad p := fun p h => (hv30 p (Nat.lt_of_lt_of_le h hN)).trans (hE p h)
          have hE := hE9
          have hN : xct st ≤ xct o22.2.2.2 := Nat.le_trans hN hn31
          refine W.eq (g2 := F0 m 53 ls []) (by first | rfl | (skip; rfl)) ?_
          obtain rfl := Option.some.inj hf
          exact W.vret hx hb hr (fun t ht hW => ⟨⟨(ad27, gd28, vad29), rfl, ⟨hE, hN⟩, by rw [ht]; exact hP, va_K.moved hW.alike hK, hD⟩, hS.F ht⟩) hS.2.2 dM_print1_53
        rw [if_neg hk24] at hf
        by_cases hk32 : o22.1 = 1
        · rw [if_pos hk32] at hf
          obtain ⟨hm33, hf⟩ := xmoE hf
          obtain rfl := Option.some.inj hf
          exact absurd (show (1 : Nat) = 0 from hkd) (by decide)
        rw [if_neg hk32] at hf
        exact nomatch hf
      rw [if_neg hc21] at hf
      by_cases hc40 : ((xpi st 0) (c0 - 1)) = 2
      · rw [if_pos hc40] at hf
        refine lv_tableIn (off := 50) (tgt := 54) hx hb dM_print1_4 (by rw [hc40]; decide) (by rw [hc40]; decide) (by rw [hc40]; decide) (by decide) ?_
        refine lv_aload_n hx hb dM_print1_54 rfl (lv_at hl 0 rfl) ?_
        refine va_ldcS (q := aK 12) hx hb hown (hZ.2.2.2.2.2.2.2.2.1 ("ValueBenchModel", 236, "true", 12) (List.mem_of_getElem? (i := 18) rfl)) dM_print1_55 ?_
        obtain ⟨o41, hq42, hf⟩ := xbind hf
        have hl := lv_sub (l' := [(0, .ref aM)]) hl [0] rfl
        by_cases hk43 : o41.1 = 0
        · rw [if_pos hk43] at hf
          obtain ⟨hm44, hf⟩ := xmoE hf
          have hFc := xm_free hD hS hA
          refine va_callv (va_runV (C := "ValueBenchModel") (As := [.ref (aK 12)]) (rest := []) ⟨hx, hb, hml, hown, htx⟩ (gM_put1b l hl9 D cT aK aV s.heap.size n aM ad rd gd vad st o41 hq42 hk43) ⟨callB_of 1 htx (xw_goodC kw_6_132) rfl rfl rfl (htx _ kw_1_5) (htx _ kw_6_129) ⟨by decide, by decide, by decide +kernel⟩ ⟨Nat.le_of_ble_eq_true rfl, Nat.le_of_ble_eq_true rfl⟩, (htx _ kw_6_131), (htx _ kp_M_put1)⟩ ⟨xPre_blind, va_recv hK hP (ci := 5) rfl (q0 := 0) rfl, (fun U hU hW => ⟨rfl, xPre_of hZ hS hFc hP hD hK U hU hW⟩)⟩ rfl rfl hl.1 rfl (xm_room (Nat.le_of_ble_eq_true rfl)) dM_print1_57 ⟨hm44.1, hm44.2⟩) hS (fun q _ h => hFc q h) hFc (fun u9 t H1 locs ht hvm hr9 hB hz1 hk1 hS => ?_)
          obtain ⟨hP1, hK1, hD1⟩ := hB
          rw [ht] at hP1
          obtain ⟨ad46, gd47, vad48⟩ := u9
          obtain ⟨hv49, hn50⟩ := hr9
          have hP : va_P D xcl (xMw cT aM ad46 rd gd47 vad48 o41.2.2.2 []) H1 := hP1
          have hD : va_D A (xMw cT aM ad46 rd gd47 vad48 o41.2.2.2 []) := hD1.weaken (fun k q _ h => hFc q.1 h)
          generalize H1 = H at hP hS ⊢
          have hE9 : ∀ p, p < xct st → vad48 p = vad p := fun p h => (hv49 p (Nat.lt_of_lt_of_le h hN)).trans (hE p h)
          have hE := hE9
          have hN : xct st ≤ xct o41.2.2.2 := Nat.le_trans hN hn50
          refine W.eq (g2 := F0 m 60 ls []) (by first | rfl | (skip; rfl)) ?_
          obtain rfl := Option.some.inj hf
          exact W.vret hx hb hr (fun t ht hW => ⟨⟨(ad46, gd47, vad48), rfl, ⟨hE, hN⟩, by rw [ht]; exact hP, va_K.moved hW.alike hK, hD⟩, hS.F ht⟩) hS.2.2 dM_print1_60
        rw [if_neg hk43] at hf
        by_cases hk51 : o41.1 = 1
        · rw [if_pos hk51] at hf
          obtain ⟨hm52, hf⟩ := xmoE hf
          obtain rfl := Option.some.inj hf
          exact absurd (show (1 : Nat) = 0 from hkd) (by decide)
        rw [if_neg hk51] at hf
        exact nomatch hf
      rw [if_neg hc40] at hf
      by_cases hc59 : ((xpi st 0) (c0 - 1)) = 3
      · rw [if_pos hc59] at hf
        refine lv_tableIn (off := 57) (tgt := 61) hx hb dM_print1_4 (by rw [hc59]; decide) (by rw [hc59]; decide) (by rw [hc59]; decide) (by decide) ?_
        refine lv_aload_n hx hb dM_print1_61 rfl (lv_at hl 0 rfl) ?_
        refine xm_aload_n hx hb (xvor _ _) dM_print1_62 rfl (lv_at hl 1 rfl) ?_
        refine xm_vget (v := .long ((xpl st) (c0 - 1))) hx hb htx hown hK hP 1 (by decide) hg1 rfl ((hZ.1 (96, "n", "J") (List.mem_of_getElem? (i := 1) rfl)).use rfl) rfl dM_print1_63 ?_
        obtain ⟨o60, hq61, hf⟩ := xbind hf
        have hl := lv_sub (l' := [(0, .ref aM)]) hl [0] rfl
        by_cases hk62 : o60.1 = 0
        · rw [if_pos hk62] at hf
          obtain ⟨hm63, hf⟩ := xmoE hf
          have hFc := xm_free hD hS hA
          refine va_callv (va_runV (C := "ValueBenchModel") (As := [.long ((xpl st) (c0 - 1))]) (rest := []) ⟨hx, hb, hml, hown, htx⟩ (gM_putNumber l hl9 D cT aK aV s.heap.size n aM ad rd gd vad st ((xpl st) (c0 - 1)) o60 hq61 hk62) ⟨callB_of 1 htx (xw_goodC kw_6_140) rfl rfl rfl (htx _ kw_1_5) (htx _ kw_6_137) ⟨by decide, by decide, by decide +kernel⟩ ⟨Nat.le_of_ble_eq_true rfl, Nat.le_of_ble_eq_true rfl⟩, (htx _ kw_6_139), (htx _ kp_M_putNumber)⟩ ⟨xPre_blind, va_recv hK hP (ci := 5) rfl (q0 := 0) rfl, (fun U hU hW => ⟨rfl, xPre_of hZ hS hFc hP hD hK U hU hW⟩)⟩ rfl rfl hl.1 rfl (xm_room (Nat.le_of_ble_eq_true rfl)) dM_print1_66 ⟨hm63.1, hm63.2⟩) hS (fun q _ h => hFc q h) hFc (fun u9 t H1 locs ht hvm hr9 hB hz1 hk1 hS => ?_)
          obtain ⟨hP1, hK1, hD1⟩ := hB
          rw [ht] at hP1
          obtain ⟨ad65, gd66, vad67⟩ := u9
          obtain ⟨hv68, hn69⟩ := hr9
          have hP : va_P D xcl (xMw cT aM ad65 rd gd66 vad67 o60.2.2.2 []) H1 := hP1
          have hD : va_D A (xMw cT aM ad65 rd gd66 vad67 o60.2.2.2 []) := hD1.weaken (fun k q _ h => hFc q.1 h)
          generalize H1 = H at hP hS ⊢
          have hE9 : ∀ p, p < xct st → vad67 p = vad p := fun p h => (hv68 p (Nat.lt_of_lt_of_le h hN)).trans (hE p h)
          have hE := hE9
          have hN : xct st ≤ xct o60.2.2.2 := Nat.le_trans hN hn69
          refine W.eq (g2 := F0 m 69 ls []) (by first | rfl | (skip; rfl)) ?_
          obtain rfl := Option.some.inj hf
          exact W.vret hx hb hr (fun t ht hW => ⟨⟨(ad65, gd66, vad67), rfl, ⟨hE, hN⟩, by rw [ht]; exact hP, va_K.moved hW.alike hK, hD⟩, hS.F ht⟩) hS.2.2 dM_print1_69
        rw [if_neg hk62] at hf
        by_cases hk70 : o60.1 = 1
        · rw [if_pos hk70] at hf
          obtain ⟨hm71, hf⟩ := xmoE hf
          obtain rfl := Option.some.inj hf
          exact absurd (show (1 : Nat) = 0 from hkd) (by decide)
        rw [if_neg hk70] at hf
        exact nomatch hf
      rw [if_neg hc59] at hf
      by_cases hc78 : ((xpi st 0) (c0 - 1)) = 4
      · rw [if_pos hc78] at hf
        refine lv_tableIn (off := 66) (tgt := 70) hx hb dM_print1_4 (by rw [hc78]; decide) (by rw [hc78]; decide) (by rw [hc78]; decide) (by decide) ?_
        refine lv_aload_n hx hb dM_print1_70 rfl (lv_at hl 0 rfl) ?_
        refine xm_aload_n hx hb (xvor _ _) dM_print1_71 rfl (lv_at hl 1 rfl) ?_
        obtain ⟨o79, hq80, hf⟩ := xbind hf
        have hl := lv_sub (l' := [(0, .ref aM)]) hl [0] rfl
        by_cases hk81 : o79.1 = 0
        · rw [if_pos hk81] at hf
          obtain ⟨hm82, hf⟩ := xmoE hf
          have hFc := xm_free hD hS hA
          refine va_callv (va_runV (C := "ValueBenchModel") (As := [xv vad c0]) (rest := []) ⟨hx, hb, hml, hown, htx⟩ (gM_putString l hl9 D cT aK aV s.heap.size n aM ad rd gd vad st c0 o79 hq80 hk81) ⟨callB_of 1 htx (xw_goodC kw_6_145) rfl rfl rfl (htx _ kw_1_5) (htx _ kw_6_142) ⟨by decide, by decide, by decide +kernel⟩ ⟨Nat.le_of_ble_eq_true rfl, Nat.le_of_ble_eq_true rfl⟩, (htx _ kw_6_144), (htx _ kp_M_putString)⟩ ⟨xPre_blind, va_recv hK hP (ci := 5) rfl (q0 := 0) rfl, (fun U hU hW => ⟨rfl, xPre_of hZ hS hFc hP hD hK U hU hW⟩)⟩ rfl rfl hl.1 rfl (xm_room (Nat.le_of_ble_eq_true rfl)) dM_print1_72 ⟨hm82.1, hm82.2⟩) hS (fun q _ h => hFc q h) hFc (fun u9 t H1 locs ht hvm hr9 hB hz1 hk1 hS => ?_)
          obtain ⟨hP1, hK1, hD1⟩ := hB
          rw [ht] at hP1
          obtain ⟨ad84, gd85, vad86⟩ := u9
          obtain ⟨hv87, hn88⟩ := hr9
          have hP : va_P D xcl (xMw cT aM ad84 rd gd85 vad86 o79.2.2.2 []) H1 := hP1
          have hD : va_D A (xMw cT aM ad84 rd gd85 vad86 o79.2.2.2 []) := hD1.weaken (fun k q _ h => hFc q.1 h)
          generalize H1 = H at hP hS ⊢
          have hE9 : ∀ p, p < xct st → vad86 p = vad p := fun p h => (hv87 p (Nat.lt_of_lt_of_le h hN)).trans (hE p h)
          have hE := hE9
          have hN : xct st ≤ xct o79.2.2.2 := Nat.le_trans hN hn88
          refine W.eq (g2 := F0 m 75 ls []) (by first | rfl | (skip; rfl)) ?_
          obtain rfl := Option.some.inj hf
          exact W.vret hx hb hr (fun t ht hW => ⟨⟨(ad84, gd85, vad86), rfl, ⟨hE, hN⟩, by rw [ht]; exact hP, va_K.moved hW.alike hK, hD⟩, hS.F ht⟩) hS.2.2 dM_print1_75
        rw [if_neg hk81] at hf
        by_cases hk89 : o79.1 = 1
        · rw [if_pos hk89] at hf
          obtain ⟨hm90, hf⟩ := xmoE hf
          obtain rfl := Option.some.inj hf
          exact absurd (show (1 : Nat) = 0 from hkd) (by decide)
        rw [if_neg hk89] at hf
        exact nomatch hf
      rw [if_neg hc78] at hf
      refine lv_tableOut (tgt := 76) hx hb dM_print1_4 (by have e0 : ((xpi st 0) (c0 - 1)).toInt ≠ 0 := xsw hc2 (by decide); have e1 : ((xpi st 0) (c0 - 1)).toInt ≠ 1 := xsw hc21 (by decide); have e2 : ((xpi st 0) (c0 - 1)).toInt ≠ 2 := xsw hc40 (by decide); have e3 : ((xpi st 0) (c0 - 1)).toInt ≠ 3 := xsw hc59 (by decide); have e4 : ((xpi st 0) (c0 - 1)).toInt ≠ 4 := xsw hc78 (by decide); omega) (by decide) ?_
      refine lv_aload_n hx hb dM_print1_76 rfl (lv_at hl 0 rfl) ?_
      refine xm_aload_n hx hb (xvor _ _) dM_print1_77 rfl (lv_at hl 1 rfl) ?_
      refine xm_vget (v := .int ((xpi st 0) (c0 - 1))) hx hb htx hown hK hP 0 (by decide) hg1 rfl ((hZ.1 (93, "kind", "I") (List.mem_of_getElem? (i := 0) rfl)).use rfl) rfl dM_print1_78 ?_
      refine lv_iconst (v := 5) hx hb dM_print1_81 (by decide) ?_
      refine lv_icmp_ne (tgt := 90) hx hb dM_print1_82 (by decide) (fun hc => ?_) (fun hc => ?_)
      · rw [if_neg hc] at hf
        refine lv_bipush (v := 123) hx hb dM_print1_90 (by decide) ?_
        obtain ⟨o97, hq98, hf⟩ := xbind hf
        by_cases hk99 : o97.1 = 0
        · rw [if_pos hk99] at hf
          obtain ⟨hm100, hf⟩ := xmoE hf
          have hFc := xm_free hD hS hA
          refine va_callv (va_runV (C := "ValueBenchModel") (As := [.int 123]) (rest := []) ⟨hx, hb, hml, hown, htx⟩ (gM_put0 l hl9 D cT aK aV s.heap.size n aM ad rd gd vad st (123 : Int32) o97 hq98 hk99) ⟨callB_of 1 htx (xw_goodC kw_6_136) rfl rfl rfl (htx _ kw_1_5) (htx _ kw_6_133) ⟨by decide, by decide, by decide +kernel⟩ ⟨Nat.le_of_ble_eq_true rfl, Nat.le_of_ble_eq_true rfl⟩, (htx _ kw_6_135), (htx _ kp_M_put0)⟩ ⟨xPre_blind, va_recv hK hP (ci := 5) rfl (q0 := 0) rfl, (fun U hU hW => ⟨rfl, xPre_of hZ hS hFc hP hD hK U hU hW⟩)⟩ rfl rfl hl.1 rfl (xm_room (Nat.le_of_ble_eq_true rfl)) dM_print1_92 ⟨hm100.1, hm100.2⟩) hS (fun q _ h => hFc q h) hFc (fun u9 t H1 locs ht hvm hr9 hB hz1 hk1 hS => ?_)
          obtain ⟨hP1, hK1, hD1⟩ := hB
          rw [ht] at hP1
          obtain ⟨ad102, gd103, vad104⟩ := u9
          obtain ⟨hv105, hn106⟩ := hr9
          have hP : va_P D xcl (xMw cT aM ad102 rd gd103 vad104 o97.2.2.2 []) H1 := hP1
          have hD : va_D A (xMw cT aM ad102 rd gd103 vad104 o97.2.2.2 []) := hD1.weaken (fun k q _ h => hFc q.1 h)
          generalize H1 = H at hP hS ⊢
          have hE9 : ∀ p, p < xct st → vad104 p = vad p := fun p h => (hv105 p (Nat.lt_of_lt_of_le h hN)).trans (hE p h)
          have hE := hE9
          have hN : xct st ≤ xct o97.2.2.2 := Nat.le_trans hN hn106
          have ev107 : xv vad c0 = xv vad104 c0 := xvE hv105 (fun h => hg1 (Or.inr h))
          have hl : lv_has ls 3 [(0, .ref aM), (1, xv vad104 c0)] := by first | exact hl | ((try (rw [← ev107])); exact hl)
          refine W.eq (g2 := F0 m 95 ls []) (by first | rfl | ((try (rw [ev107])); rfl)) ?_
          refine lv_iconst (v := 0) hx hb dM_print1_95 (by decide) ?_
          refine lv_istore_n (lv' := [(2, .int 0), (0, .ref aM), (1, xv vad104 c0)]) hx hb dM_print1_96 rfl hl (by decide) (by simp only [List.filter, xvcat, xrscat, xcI, xcL, xcR, xcN]; rfl) (fun ls hl => ?_)
          exact key n (1, (0 : Int32), c0, o97.2.2.2, (0 + o97.2.1), (0 + o97.2.2.1)) _ _ ls (⟨ad102, gd103, vad104, rfl, hf, hP, hD, hS, lv_sub hl [0, 1, 2] rfl, hE, hN⟩)
        rw [if_neg hk99] at hf
        by_cases hk108 : o97.1 = 1
        · rw [if_pos hk108] at hf
          obtain ⟨hm109, hf⟩ := xmoE hf
          obtain rfl := Option.some.inj hf
          exact absurd (show (1 : Nat) = 0 from hkd) (by decide)
        rw [if_neg hk108] at hf
        exact nomatch hf
      · rw [if_pos hc] at hf
        refine lv_bipush (v := 91) hx hb dM_print1_85 (by decide) ?_
        refine lv_goto (tgt := 92) hx hb dM_print1_87 (by decide) ?_
        obtain ⟨o97, hq98, hf⟩ := xbind hf
        by_cases hk99 : o97.1 = 0
        · rw [if_pos hk99] at hf
          obtain ⟨hm100, hf⟩ := xmoE hf
          have hFc := xm_free hD hS hA
          refine va_callv (va_runV (C := "ValueBenchModel") (As := [.int 91]) (rest := []) ⟨hx, hb, hml, hown, htx⟩ (gM_put0 l hl9 D cT aK aV s.heap.size n aM ad rd gd vad st (91 : Int32) o97 hq98 hk99) ⟨callB_of 1 htx (xw_goodC kw_6_136) rfl rfl rfl (htx _ kw_1_5) (htx _ kw_6_133) ⟨by decide, by decide, by decide +kernel⟩ ⟨Nat.le_of_ble_eq_true rfl, Nat.le_of_ble_eq_true rfl⟩, (htx _ kw_6_135), (htx _ kp_M_put0)⟩ ⟨xPre_blind, va_recv hK hP (ci := 5) rfl (q0 := 0) rfl, (fun U hU hW => ⟨rfl, xPre_of hZ hS hFc hP hD hK U hU hW⟩)⟩ rfl rfl hl.1 rfl (xm_room (Nat.le_of_ble_eq_true rfl)) dM_print1_92 ⟨hm100.1, hm100.2⟩) hS (fun q _ h => hFc q h) hFc (fun u9 t H1 locs ht hvm hr9 hB hz1 hk1 hS => ?_)
          obtain ⟨hP1, hK1, hD1⟩ := hB
          rw [ht] at hP1
          obtain ⟨ad102, gd103, vad104⟩ := u9
          obtain ⟨hv105, hn106⟩ := hr9
          have hP : va_P D xcl (xMw cT aM ad102 rd gd103 vad104 o97.2.2.2 []) H1 := hP1
          have hD : va_D A (xMw cT aM ad102 rd gd103 vad104 o97.2.2.2 []) := hD1.weaken (fun k q _ h => hFc q.1 h)
          generalize H1 = H at hP hS ⊢
          have hE9 : ∀ p, p < xct st → vad104 p = vad p := fun p h => (hv105 p (Nat.lt_of_lt_of_le h hN)).trans (hE p h)
          have hE := hE9
          have hN : xct st ≤ xct o97.2.2.2 := Nat.le_trans hN hn106
          have ev107 : xv vad c0 = xv vad104 c0 := xvE hv105 (fun h => hg1 (Or.inr h))
          have hl : lv_has ls 3 [(0, .ref aM), (1, xv vad104 c0)] := by first | exact hl | ((try (rw [← ev107])); exact hl)
          refine W.eq (g2 := F0 m 95 ls []) (by first | rfl | ((try (rw [ev107])); rfl)) ?_
          refine lv_iconst (v := 0) hx hb dM_print1_95 (by decide) ?_
          refine lv_istore_n (lv' := [(2, .int 0), (0, .ref aM), (1, xv vad104 c0)]) hx hb dM_print1_96 rfl hl (by decide) (by simp only [List.filter, xvcat, xrscat, xcI, xcL, xcR, xcN]; rfl) (fun ls hl => ?_)
          exact key n (1, (0 : Int32), c0, o97.2.2.2, (0 + o97.2.1), (0 + o97.2.2.1)) _ _ ls (⟨ad102, gd103, vad104, rfl, hf, hP, hD, hS, lv_sub hl [0, 1, 2] rfl, hE, hN⟩)
        rw [if_neg hk99] at hf
        by_cases hk108 : o97.1 = 1
        · rw [if_pos hk108] at hf
          obtain ⟨hm109, hf⟩ := xmoE hf
          obtain rfl := Option.some.inj hf
          exact absurd (show (1 : Nat) = 0 from hkd) (by decide)
        rw [if_neg hk108] at hf
        exact nomatch hf
    · refine vx_ofW (cc := prog_13_method_46_code) (maxL := 3) (ret := none) (by decide) rfl ?_
      intro p e s m args below meth c s₁ B hml hne hv
      obtain ⟨rfl, hsz, hZ, hP, hK, hD0⟩ := hv
      have hx := B.exec
      have hb := B.bytes
      have hr := B.returns
      have hts := atoms_spec (ws := wyM_print1) B.pre
      have htx := fun w h => hts w (List.mem_cons_of_mem _ h)
      have hown : s.vm.findClass "ValueBenchModel" = some m.cls := findClass_of_methodNamed B.named
      have hlocks := B.notSynchronized
      subst hsz
      have hD := hD0.self (sz := s.heap.size)
      generalize hAe : va_A (xMw cT aM ad rd gd vad st []) s.heap.size = A at hD hZ ⊢
      have hA : ∀ q : Nat, s.heap.size ≤ q → A q := fun q h => by rw [← hAe]; exact Or.inr h
      have hS : va_S A s.heap s.heap [] := va_S.rf
      have hl := lv_entry ([.ref aM, xv vad c0]) (n := 3) (by simp [lg_sl, xvcat, xrscat, xcI, xcL, xcR, xcN])
      rw [show lv_args 0 [.ref aM, xv vad c0] = [(0, .ref aM), (1, xv vad c0)] from by simp [lv_args, xvcat, xrscat, xcI, xcL, xcR, xcN]] at hl
      rw [lg_entry_eq]
      generalize (lg_sl ([.ref aM, xv vad c0]) ++ List.replicate (3 - (lg_sl ([.ref aM, xv vad c0])).length) Slot.unset).toArray = ls at hl ⊢
      have hl : lv_has ls 3 [(0, .ref aM), (1, xv vad c0)] := hl
      have hE : ∀ p, p < xct st → vad p = vad p := fun _ _ => rfl
      have hN : xct st ≤ xct st := Nat.le_refl _
      refine xloopM (σ := Nat × Int32 × Nat × xS × Nat × Nat) (fun n x H locs ls => (∃ (adL gdL vadL : Nat → Nat), x.1 = 1 ∧ fM_print1_b rec n x.1 x.2.1 x.2.2.1 x.2.2.2.1 x.2.2.2.2.1 x.2.2.2.2.2 = some out ∧ va_P D xcl (xMw cT aM adL rd gdL vadL x.2.2.2.1 []) H ∧ va_D A (xMw cT aM adL rd gdL vadL x.2.2.2.1 []) ∧ va_S A s.heap H locs ∧ lv_has ls 3 [(2, .int x.2.1), (0, .ref aM), (1, xv vadL x.2.2.1)] ∧ (∀ p, p < xct st → vadL p = vad p) ∧ xct st ≤ xct x.2.2.2.1)) (fun x => 97) (fun x => x.2.2.2.2.1) (fun x => x.2.2.2.2.2) (fun x H locs ls h => by (obtain ⟨_, _, _, h⟩ := h; exact absurd h.2.1 (by rw [fM_print1_b]; exact fun h => nomatch h))) (fun n ih x H locs ls hv => ?_) (fun key => ?_)
      · obtain ⟨lb, y2, y1, ws9, wc, wn⟩ := x
        rcases hv with ⟨adL, gdL, vadL, hj, hf, hP, hD, hS, hl, hE, hN⟩
        subst hj
        have hf : fM_print1_b rec (n + 1) 1 y2 y1 ws9 wc wn = some out := hf
        rw [fM_print1_b] at hf
        obtain ⟨hP, hD⟩ : xPD D xcl A (xMw cT aM adL rd gdL vadL ws9 []) H := ⟨hP, hD⟩
        have hl : lv_has ls 3 [(2, .int y2), (0, .ref aM), (1, xv vadL y1)] := hl
        refine W.eq (g2 := F0 m 97 ls []) rfl ?_
        show W p l e _ s m _ below meth c H locs wc wn _ _
        obtain ⟨hm0, hf⟩ := xmoE hf
        refine lv_iload_n hx hb dM_print1_97 rfl (lv_at hl 0 rfl) ?_
        refine xm_aload_n hx hb (xvor _ _) dM_print1_98 rfl (lv_at hl 2 rfl) ?_
        obtain ⟨hg1, hf⟩ := xifn hf
        refine xm_vget (v := .int ((xpi ws9 3) (y1 - 1))) hx hb htx hown hK hP 3 (by decide) hg1 rfl ((hZ.1 (103, "count", "I") (List.mem_of_getElem? (i := 3) rfl)).use rfl) rfl dM_print1_99 ?_
        refine lv_icmp_ge (tgt := 156) hx hb dM_print1_102 (by decide) (fun hc => ?_) (fun hc => ?_)
        · rw [if_pos hc] at hf
          refine lv_aload_n hx hb dM_print1_156 rfl (lv_at hl 1 rfl) ?_
          refine xm_aload_n hx hb (xvor _ _) dM_print1_157 rfl (lv_at hl 2 rfl) ?_
          refine xm_vget (v := .int ((xpi ws9 0) (y1 - 1))) hx hb htx hown hK hP 0 (by decide) hg1 rfl ((hZ.1 (93, "kind", "I") (List.mem_of_getElem? (i := 0) rfl)).use rfl) rfl dM_print1_158 ?_
          refine lv_iconst (v := 5) hx hb dM_print1_161 (by decide) ?_
          refine lv_icmp_ne (tgt := 170) hx hb dM_print1_162 (by decide) (fun hc => ?_) (fun hc => ?_)
          · rw [if_neg hc] at hf
            refine lv_bipush (v := 125) hx hb dM_print1_170 (by decide) ?_
            obtain ⟨o2, hq3, hf⟩ := xbind hf
            have hl := lv_sub (l' := [(2, .int y2), (0, .ref aM)]) hl [0, 1] rfl
            by_cases hk4 : o2.1 = 0
            · rw [if_pos hk4] at hf
              obtain ⟨hm5, hf⟩ := xmoE hf
              have hFc := xm_free hD hS hA
              refine va_callv (va_runV (C := "ValueBenchModel") (As := [.int 125]) (rest := []) ⟨hx, hb, hml, hown, htx⟩ (gM_put0 l hl9 D cT aK aV H.size n aM adL rd gdL vadL ws9 (125 : Int32) o2 hq3 hk4) ⟨callB_of 1 htx (xw_goodC kw_6_136) rfl rfl rfl (htx _ kw_1_5) (htx _ kw_6_133) ⟨by decide, by decide, by decide +kernel⟩ ⟨Nat.le_of_ble_eq_true rfl, Nat.le_of_ble_eq_true rfl⟩, (htx _ kw_6_135), (htx _ kp_M_put0)⟩ ⟨xPre_blind, va_recv hK hP (ci := 5) rfl (q0 := 0) rfl, (fun U hU hW => ⟨rfl, xPre_of hZ hS hFc hP hD hK U hU hW⟩)⟩ rfl rfl hl.1 rfl (xm_room (Nat.le_of_ble_eq_true rfl)) dM_print1_172 ⟨hm5.1, hm5.2⟩) hS (fun q _ h => hFc q h) hFc (fun u9 t H1 locs ht hvm hr9 hB hz1 hk1 hS => ?_)
              obtain ⟨hP1, hK1, hD1⟩ := hB
              rw [ht] at hP1
              obtain ⟨ad7, gd8, vad9⟩ := u9
              obtain ⟨hv10, hn11⟩ := hr9
              have hP : va_P D xcl (xMw cT aM ad7 rd gd8 vad9 o2.2.2.2 []) H1 := hP1
              have hD : va_D A (xMw cT aM ad7 rd gd8 vad9 o2.2.2.2 []) := hD1.weaken (fun k q _ h => hFc q.1 h)
              generalize H1 = H at hP hS ⊢
              have hE9 : ∀ p, p < xct st → vad9 p = vad p := fun p h => (hv10 p (Nat.lt_of_lt_of_le h hN)).trans (hE p h)
              have hE := hE9
              have hN : xct st ≤ xct o2.2.2.2 := Nat.le_trans hN hn11
              refine W.eq (g2 := F0 m 175 ls []) (by first | rfl | (skip; rfl)) ?_
              obtain rfl := Option.some.inj hf
              exact absurd (show (0 : Nat) = 1 from hkd) (by decide)
            rw [if_neg hk4] at hf
            by_cases hk12 : o2.1 = 1
            · rw [if_pos hk12] at hf
              obtain ⟨hm13, hf⟩ := xmoE hf
              have hFc := xm_free hD hS hA
              refine xx_thr (vx_runV (C := "ValueBenchModel") (As := [.int 125]) (rest := []) ⟨hx, hb, hml, hown, htx⟩ (gM_put0_1 l hl9 D cT aK aV H.size n aM adL rd gdL vadL ws9 (125 : Int32) o2 hq3 hk12) ⟨callB_of 1 htx (xw_goodC kw_6_136) rfl rfl rfl (htx _ kw_1_5) (htx _ kw_6_133) ⟨by decide, by decide, by decide +kernel⟩ ⟨Nat.le_of_ble_eq_true rfl, Nat.le_of_ble_eq_true rfl⟩, (htx _ kw_6_135), (htx _ kp_M_put0)⟩ ⟨xPre_blind, va_recv hK hP (ci := 5) rfl (q0 := 0) rfl, (fun U hU hW => ⟨rfl, xPre_of hZ hS hFc hP hD hK U hU hW⟩)⟩ rfl rfl hl.1 rfl (xm_room (Nat.le_of_ble_eq_true rfl)) dM_print1_172 ⟨hm13.1, hm13.2⟩) hS hFc (fun q _ h => hFc q h) (fun E ce q9 u9 t H1 locs ht hvm hr9 hB hz1 hk1 hS hce hcv hcl => ?_)
              obtain ⟨rfl, hP1, hK1, hD1⟩ := hB
              rw [ht] at hP1
              obtain ⟨ad15, gd16, vad17⟩ := u9
              obtain ⟨hv18, hn19⟩ := hr9
              have hP : va_P D xcl (xMw cT aM ad15 rd gd16 vad17 o2.2.2.2 []) H1 := hP1
              have hD : va_D A (xMw cT aM ad15 rd gd16 vad17 o2.2.2.2 []) := hD1.weaken (fun k q _ h => hFc q.1 h)
              generalize H1 = H at hP hS hce ⊢
              have hE9 : ∀ p, p < xct st → vad17 p = vad p := fun p h => (hv18 p (Nat.lt_of_lt_of_le h hN)).trans (hE p h)
              have hE := hE9
              have hN : xct st ≤ xct o2.2.2.2 := Nat.le_trans hN hn19
              obtain rfl := Option.some.inj hf
              exact vx_out (E := "java/lang/IndexOutOfBoundsException") (fun x h => (hne x h).elim) hlocks hce hcv hcl (fun t ht ha => ⟨(ad15, gd16, vad17), ⟨hE, hN⟩, ⟨rfl, by rw [ht]; exact hP, va_K.moved ha hK, hD⟩, hS.F ht⟩) hS.2.2 (Nat.le_refl _) (Nat.le_refl _)
            rw [if_neg hk12] at hf
            exact nomatch hf
          · rw [if_pos hc] at hf
            refine lv_bipush (v := 93) hx hb dM_print1_165 (by decide) ?_
            refine lv_goto (tgt := 172) hx hb dM_print1_167 (by decide) ?_
            obtain ⟨o2, hq3, hf⟩ := xbind hf
            have hl := lv_sub (l' := [(2, .int y2), (0, .ref aM)]) hl [0, 1] rfl
            by_cases hk4 : o2.1 = 0
            · rw [if_pos hk4] at hf
              obtain ⟨hm5, hf⟩ := xmoE hf
              have hFc := xm_free hD hS hA
              refine va_callv (va_runV (C := "ValueBenchModel") (As := [.int 93]) (rest := []) ⟨hx, hb, hml, hown, htx⟩ (gM_put0 l hl9 D cT aK aV H.size n aM adL rd gdL vadL ws9 (93 : Int32) o2 hq3 hk4) ⟨callB_of 1 htx (xw_goodC kw_6_136) rfl rfl rfl (htx _ kw_1_5) (htx _ kw_6_133) ⟨by decide, by decide, by decide +kernel⟩ ⟨Nat.le_of_ble_eq_true rfl, Nat.le_of_ble_eq_true rfl⟩, (htx _ kw_6_135), (htx _ kp_M_put0)⟩ ⟨xPre_blind, va_recv hK hP (ci := 5) rfl (q0 := 0) rfl, (fun U hU hW => ⟨rfl, xPre_of hZ hS hFc hP hD hK U hU hW⟩)⟩ rfl rfl hl.1 rfl (xm_room (Nat.le_of_ble_eq_true rfl)) dM_print1_172 ⟨hm5.1, hm5.2⟩) hS (fun q _ h => hFc q h) hFc (fun u9 t H1 locs ht hvm hr9 hB hz1 hk1 hS => ?_)
              obtain ⟨hP1, hK1, hD1⟩ := hB
              rw [ht] at hP1
              obtain ⟨ad7, gd8, vad9⟩ := u9
              obtain ⟨hv10, hn11⟩ := hr9
              have hP : va_P D xcl (xMw cT aM ad7 rd gd8 vad9 o2.2.2.2 []) H1 := hP1
              have hD : va_D A (xMw cT aM ad7 rd gd8 vad9 o2.2.2.2 []) := hD1.weaken (fun k q _ h => hFc q.1 h)
              generalize H1 = H at hP hS ⊢
              have hE9 : ∀ p, p < xct st → vad9 p = vad p := fun p h => (hv10 p (Nat.lt_of_lt_of_le h hN)).trans (hE p h)
              have hE := hE9
              have hN : xct st ≤ xct o2.2.2.2 := Nat.le_trans hN hn11
              refine W.eq (g2 := F0 m 175 ls []) (by first | rfl | (skip; rfl)) ?_
              obtain rfl := Option.some.inj hf
              exact absurd (show (0 : Nat) = 1 from hkd) (by decide)
            rw [if_neg hk4] at hf
            by_cases hk12 : o2.1 = 1
            · rw [if_pos hk12] at hf
              obtain ⟨hm13, hf⟩ := xmoE hf
              have hFc := xm_free hD hS hA
              refine xx_thr (vx_runV (C := "ValueBenchModel") (As := [.int 93]) (rest := []) ⟨hx, hb, hml, hown, htx⟩ (gM_put0_1 l hl9 D cT aK aV H.size n aM adL rd gdL vadL ws9 (93 : Int32) o2 hq3 hk12) ⟨callB_of 1 htx (xw_goodC kw_6_136) rfl rfl rfl (htx _ kw_1_5) (htx _ kw_6_133) ⟨by decide, by decide, by decide +kernel⟩ ⟨Nat.le_of_ble_eq_true rfl, Nat.le_of_ble_eq_true rfl⟩, (htx _ kw_6_135), (htx _ kp_M_put0)⟩ ⟨xPre_blind, va_recv hK hP (ci := 5) rfl (q0 := 0) rfl, (fun U hU hW => ⟨rfl, xPre_of hZ hS hFc hP hD hK U hU hW⟩)⟩ rfl rfl hl.1 rfl (xm_room (Nat.le_of_ble_eq_true rfl)) dM_print1_172 ⟨hm13.1, hm13.2⟩) hS hFc (fun q _ h => hFc q h) (fun E ce q9 u9 t H1 locs ht hvm hr9 hB hz1 hk1 hS hce hcv hcl => ?_)
              obtain ⟨rfl, hP1, hK1, hD1⟩ := hB
              rw [ht] at hP1
              obtain ⟨ad15, gd16, vad17⟩ := u9
              obtain ⟨hv18, hn19⟩ := hr9
              have hP : va_P D xcl (xMw cT aM ad15 rd gd16 vad17 o2.2.2.2 []) H1 := hP1
              have hD : va_D A (xMw cT aM ad15 rd gd16 vad17 o2.2.2.2 []) := hD1.weaken (fun k q _ h => hFc q.1 h)
              generalize H1 = H at hP hS hce ⊢
              have hE9 : ∀ p, p < xct st → vad17 p = vad p := fun p h => (hv18 p (Nat.lt_of_lt_of_le h hN)).trans (hE p h)
              have hE := hE9
              have hN : xct st ≤ xct o2.2.2.2 := Nat.le_trans hN hn19
              obtain rfl := Option.some.inj hf
              exact vx_out (E := "java/lang/IndexOutOfBoundsException") (fun x h => (hne x h).elim) hlocks hce hcv hcl (fun t ht ha => ⟨(ad15, gd16, vad17), ⟨hE, hN⟩, ⟨rfl, by rw [ht]; exact hP, va_K.moved ha hK, hD⟩, hS.F ht⟩) hS.2.2 (Nat.le_refl _) (Nat.le_refl _)
            rw [if_neg hk12] at hf
            exact nomatch hf
        · rw [if_neg hc] at hf
          refine lv_iload_n hx hb dM_print1_105 rfl (lv_at hl 0 rfl) ?_
          refine lv_if_le (tgt := 115) hx hb dM_print1_106 (by decide) (fun hc => ?_) (fun hc => ?_)
          · rw [if_pos hc] at hf
            refine xm_aload_n hx hb (xvor _ _) dM_print1_115 rfl (lv_at hl 2 rfl) ?_
            refine xm_vget (v := .int ((xpi ws9 0) (y1 - 1))) hx hb htx hown hK hP 0 (by decide) hg1 rfl ((hZ.1 (93, "kind", "I") (List.mem_of_getElem? (i := 0) rfl)).use rfl) rfl dM_print1_116 ?_
            refine lv_bipush (v := 6) hx hb dM_print1_119 (by decide) ?_
            refine lv_icmp_ne (tgt := 140) hx hb dM_print1_121 (by decide) (fun hc => ?_) (fun hc => ?_)
            · rw [if_neg hc] at hf
              refine lv_aload_n hx hb dM_print1_140 rfl (lv_at hl 1 rfl) ?_
              refine lv_aload_n hx hb dM_print1_141 rfl (lv_at hl 1 rfl) ?_
              refine xm_aload_n hx hb (xvor _ _) dM_print1_142 rfl (lv_at hl 2 rfl) ?_
              refine lv_iload_n hx hb dM_print1_143 rfl (lv_at hl 0 rfl) ?_
              obtain ⟨o2, hq3, hf⟩ := xbind hf
              have hFc := xm_free hD hS hA
              refine va_callq (va_runV (C := "ValueBenchModel") (As := [xv vadL y1, .int y2]) (rest := [.ref aM]) ⟨hx, hb, hml, hown, htx⟩ (gM_kid l hl9 D cT aK aV H.size n aM adL rd gdL vadL ws9 y1 y2 o2 hq3) ⟨callB_of 2 htx (xw_goodC kw_6_158) rfl rfl rfl (htx _ kw_1_5) (htx _ kw_6_155) ⟨by decide, by decide, by decide +kernel⟩ ⟨Nat.le_of_ble_eq_true rfl, Nat.le_of_ble_eq_true rfl⟩, (htx _ kw_6_157), (htx _ kp_M_kid)⟩ ⟨xPre_blind, va_recv hK hP (ci := 5) rfl (q0 := 0) rfl, (fun U hU hW => ⟨rfl, xPre_of hZ hS hFc hP hD hK U hU hW⟩)⟩ rfl rfl hl.1 rfl (xm_room (Nat.le_of_ble_eq_true rfl)) dM_print1_144 ⟨hm0.1, hm0.2⟩) hS (fun q _ h => hFc q h) hFc (fun r4 u9 t H1 locs ht hvm hr9 hB hz1 hk1 hS => ?_)
              obtain ⟨hP1, hK1, hD1⟩ := hB
              rw [ht] at hP1
              have hP : va_P D xcl (xMw cT aM adL rd gdL vadL ws9 []) H1 := hP1
              have hD : va_D A (xMw cT aM adL rd gdL vadL ws9 []) := hD1.weaken (fun k q _ h => hFc q.1 h)
              generalize H1 = H at hP hS ⊢
              rw [hr9]
              refine W.eq (g2 := F0 m 147 ls [xv vadL o2, .ref aM]) (by first | rfl | (skip; rfl)) ?_
              obtain ⟨o5, hq6, hf⟩ := xbind hf
              by_cases hk7 : o5.1 = 0
              · rw [if_pos hk7] at hf
                obtain ⟨hm8, hf⟩ := xmoE hf
                have hFc := xm_free hD hS hA
                refine va_callv (va_runV (C := "ValueBenchModel") (As := [xv vadL o2]) (rest := []) ⟨hx, hb, hml, hown, htx⟩ ((hrec H.size aM adL rd gdL vadL ws9 o2 o5 hq6).1 hk7) ⟨callB_of 1 htx (xw_goodC kw_6_128) rfl rfl rfl (htx _ kw_1_5) (htx _ kw_6_125) ⟨by decide, by decide, by decide +kernel⟩ ⟨(by show (16 * d) + 1 ≤ 16 * (d + 1); omega), (by show 8 + (3 + 11) + (400 * d) ≤ 400 * (d + 1); omega)⟩, (htx _ kw_6_127), (htx _ kp_M_print1)⟩ ⟨xPre_blind, va_recv hK hP (ci := 5) rfl (q0 := 0) rfl, (fun U hU hW => ⟨rfl, xPre_of hZ hS hFc hP hD hK U hU hW⟩)⟩ rfl rfl hl.1 rfl (xm_room (Nat.le_of_ble_eq_true rfl)) dM_print1_147 ⟨hm8.1, hm8.2⟩) hS (fun q _ h => hFc q h) hFc (fun u9 t H1 locs ht hvm hr9 hB hz1 hk1 hS => ?_)
                obtain ⟨hP1, hK1, hD1⟩ := hB
                rw [ht] at hP1
                obtain ⟨ad10, gd11, vad12⟩ := u9
                obtain ⟨hv13, hn14⟩ := hr9
                have hP : va_P D xcl (xMw cT aM ad10 rd gd11 vad12 o5.2.2.2 []) H1 := hP1
                have hD : va_D A (xMw cT aM ad10 rd gd11 vad12 o5.2.2.2 []) := hD1.weaken (fun k q _ h => hFc q.1 h)
                generalize H1 = H at hP hS ⊢
                have hE9 : ∀ p, p < xct st → vad12 p = vad p := fun p h => (hv13 p (Nat.lt_of_lt_of_le h hN)).trans (hE p h)
                have hE := hE9
                have hN : xct st ≤ xct o5.2.2.2 := Nat.le_trans hN hn14
                have ev15 : xv vadL y1 = xv vad12 y1 := xvE hv13 (fun h => hg1 (Or.inr h))
                have hl : lv_has ls 3 [(2, .int y2), (0, .ref aM), (1, xv vad12 y1)] := by first | exact hl | ((try (rw [← ev15])); exact hl)
                refine W.eq (g2 := F0 m 150 ls []) (by first | rfl | ((try (rw [ev15])); rfl)) ?_
                refine lv_iinc (v := (y2 + 1)) (lv' := [(2, .int (y2 + 1)), (0, .ref aM), (1, xv vad12 y1)]) hx hb dM_print1_150 hl (k := 0) rfl rfl (by decide) (by simp only [List.filter, xvcat, xrscat, xcI, xcL, xcR, xcN]; rfl) (fun ls hl => ?_)
                refine lv_goto (tgt := 97) hx hb dM_print1_153 (by decide) ?_
                exact ih (1, (y2 + 1), y1, o5.2.2.2, (wc + o5.2.1), (wn + o5.2.2.1)) _ _ ls (⟨ad10, gd11, vad12, rfl, hf, hP, hD, hS, lv_sub hl [0, 1, 2] rfl, hE, hN⟩)
              rw [if_neg hk7] at hf
              by_cases hk16 : o5.1 = 1
              · rw [if_pos hk16] at hf
                obtain ⟨hm17, hf⟩ := xmoE hf
                have hFc := xm_free hD hS hA
                refine xx_thr (vx_runV (C := "ValueBenchModel") (As := [xv vadL o2]) (rest := []) ⟨hx, hb, hml, hown, htx⟩ ((hrec H.size aM adL rd gdL vadL ws9 o2 o5 hq6).2 hk16) ⟨callB_of 1 htx (xw_goodC kw_6_128) rfl rfl rfl (htx _ kw_1_5) (htx _ kw_6_125) ⟨by decide, by decide, by decide +kernel⟩ ⟨(by show (16 * d) + 1 ≤ 16 * (d + 1); omega), (by show 8 + (3 + 11) + (400 * d) ≤ 400 * (d + 1); omega)⟩, (htx _ kw_6_127), (htx _ kp_M_print1)⟩ ⟨xPre_blind, va_recv hK hP (ci := 5) rfl (q0 := 0) rfl, (fun U hU hW => ⟨rfl, xPre_of hZ hS hFc hP hD hK U hU hW⟩)⟩ rfl rfl hl.1 rfl (xm_room (Nat.le_of_ble_eq_true rfl)) dM_print1_147 ⟨hm17.1, hm17.2⟩) hS hFc (fun q _ h => hFc q h) (fun E ce q9 u9 t H1 locs ht hvm hr9 hB hz1 hk1 hS hce hcv hcl => ?_)
                obtain ⟨rfl, hP1, hK1, hD1⟩ := hB
                rw [ht] at hP1
                obtain ⟨ad19, gd20, vad21⟩ := u9
                obtain ⟨hv22, hn23⟩ := hr9
                have hP : va_P D xcl (xMw cT aM ad19 rd gd20 vad21 o5.2.2.2 []) H1 := hP1
                have hD : va_D A (xMw cT aM ad19 rd gd20 vad21 o5.2.2.2 []) := hD1.weaken (fun k q _ h => hFc q.1 h)
                generalize H1 = H at hP hS hce ⊢
                have hE9 : ∀ p, p < xct st → vad21 p = vad p := fun p h => (hv22 p (Nat.lt_of_lt_of_le h hN)).trans (hE p h)
                have hE := hE9
                have hN : xct st ≤ xct o5.2.2.2 := Nat.le_trans hN hn23
                have ev24 : xv vadL y1 = xv vad21 y1 := xvE hv22 (fun h => hg1 (Or.inr h))
                have hl : lv_has ls 3 [(2, .int y2), (0, .ref aM), (1, xv vad21 y1)] := by first | exact hl | ((try (rw [← ev24])); exact hl)
                obtain rfl := Option.some.inj hf
                exact vx_out (E := "java/lang/IndexOutOfBoundsException") (fun x h => (hne x h).elim) hlocks hce hcv hcl (fun t ht ha => ⟨(ad19, gd20, vad21), ⟨hE, hN⟩, ⟨rfl, by rw [ht]; exact hP, va_K.moved ha hK, hD⟩, hS.F ht⟩) hS.2.2 (Nat.le_refl _) (Nat.le_refl _)
              rw [if_neg hk16] at hf
              exact nomatch hf
            · rw [if_pos hc] at hf
              refine lv_aload_n hx hb dM_print1_124 rfl (lv_at hl 1 rfl) ?_
              refine lv_aload_n hx hb dM_print1_125 rfl (lv_at hl 1 rfl) ?_
              refine xm_aload_n hx hb (xvor _ _) dM_print1_126 rfl (lv_at hl 2 rfl) ?_
              refine lv_iload_n hx hb dM_print1_127 rfl (lv_at hl 0 rfl) ?_
              obtain ⟨o2, hq3, hf⟩ := xbind hf
              have hFc := xm_free hD hS hA
              refine va_callq (va_runV (C := "ValueBenchModel") (As := [xv vadL y1, .int y2]) (rest := [.ref aM]) ⟨hx, hb, hml, hown, htx⟩ (gM_name l hl9 D cT aK aV H.size n aM adL rd gdL vadL ws9 y1 y2 o2 hq3) ⟨callB_of 2 htx (xw_goodC kw_6_154) rfl rfl rfl (htx _ kw_1_5) (htx _ kw_6_151) ⟨by decide, by decide, by decide +kernel⟩ ⟨Nat.le_of_ble_eq_true rfl, Nat.le_of_ble_eq_true rfl⟩, (htx _ kw_6_153), (htx _ kp_M_name)⟩ ⟨xPre_blind, va_recv hK hP (ci := 5) rfl (q0 := 0) rfl, (fun U hU hW => ⟨rfl, xPre_of hZ hS hFc hP hD hK U hU hW⟩)⟩ rfl rfl hl.1 rfl (xm_room (Nat.le_of_ble_eq_true rfl)) dM_print1_128 ⟨hm0.1, hm0.2⟩) hS (fun q _ h => hFc q h) hFc (fun r4 u9 t H1 locs ht hvm hr9 hB hz1 hk1 hS => ?_)
              obtain ⟨hP1, hK1, hD1⟩ := hB
              rw [ht] at hP1
              have hP : va_P D xcl (xMw cT aM adL rd gdL vadL ws9 []) H1 := hP1
              have hD : va_D A (xMw cT aM adL rd gdL vadL ws9 []) := hD1.weaken (fun k q _ h => hFc q.1 h)
              generalize H1 = H at hP hS ⊢
              rw [hr9]
              refine W.eq (g2 := F0 m 131 ls [xv vadL o2, .ref aM]) (by first | rfl | (skip; rfl)) ?_
              obtain ⟨o5, hq6, hf⟩ := xbind hf
              by_cases hk7 : o5.1 = 0
              · rw [if_pos hk7] at hf
                obtain ⟨hm8, hf⟩ := xmoE hf
                have hFc := xm_free hD hS hA
                refine va_callv (va_runV (C := "ValueBenchModel") (As := [xv vadL o2]) (rest := []) ⟨hx, hb, hml, hown, htx⟩ (gM_putString l hl9 D cT aK aV H.size n aM adL rd gdL vadL ws9 o2 o5 hq6 hk7) ⟨callB_of 1 htx (xw_goodC kw_6_145) rfl rfl rfl (htx _ kw_1_5) (htx _ kw_6_142) ⟨by decide, by decide, by decide +kernel⟩ ⟨Nat.le_of_ble_eq_true rfl, Nat.le_of_ble_eq_true rfl⟩, (htx _ kw_6_144), (htx _ kp_M_putString)⟩ ⟨xPre_blind, va_recv hK hP (ci := 5) rfl (q0 := 0) rfl, (fun U hU hW => ⟨rfl, xPre_of hZ hS hFc hP hD hK U hU hW⟩)⟩ rfl rfl hl.1 rfl (xm_room (Nat.le_of_ble_eq_true rfl)) dM_print1_131 ⟨hm8.1, hm8.2⟩) hS (fun q _ h => hFc q h) hFc (fun u9 t H1 locs ht hvm hr9 hB hz1 hk1 hS => ?_)
                obtain ⟨hP1, hK1, hD1⟩ := hB
                rw [ht] at hP1
                obtain ⟨ad10, gd11, vad12⟩ := u9
                obtain ⟨hv13, hn14⟩ := hr9
                have hP : va_P D xcl (xMw cT aM ad10 rd gd11 vad12 o5.2.2.2 []) H1 := hP1
                have hD : va_D A (xMw cT aM ad10 rd gd11 vad12 o5.2.2.2 []) := hD1.weaken (fun k q _ h => hFc q.1 h)
                generalize H1 = H at hP hS ⊢
                have hE9 : ∀ p, p < xct st → vad12 p = vad p := fun p h => (hv13 p (Nat.lt_of_lt_of_le h hN)).trans (hE p h)
                have hE := hE9
                have hN : xct st ≤ xct o5.2.2.2 := Nat.le_trans hN hn14
                have ev15 : xv vadL y1 = xv vad12 y1 := xvE hv13 (fun h => hg1 (Or.inr h))
                have hl : lv_has ls 3 [(2, .int y2), (0, .ref aM), (1, xv vad12 y1)] := by first | exact hl | ((try (rw [← ev15])); exact hl)
                refine W.eq (g2 := F0 m 134 ls []) (by first | rfl | ((try (rw [ev15])); rfl)) ?_
                refine lv_aload_n hx hb dM_print1_134 rfl (lv_at hl 1 rfl) ?_
                refine lv_bipush (v := 58) hx hb dM_print1_135 (by decide) ?_
                obtain ⟨o16, hq17, hf⟩ := xbind hf
                by_cases hk18 : o16.1 = 0
                · rw [if_pos hk18] at hf
                  obtain ⟨hg19, hf⟩ := xifn hf
                  obtain ⟨hm20, hf⟩ := xmoE hf
                  have hFc := xm_free hD hS hA
                  refine va_callv (va_runV (C := "ValueBenchModel") (As := [.int 58]) (rest := []) ⟨hx, hb, hml, hown, htx⟩ (gM_put0 l hl9 D cT aK aV H.size n aM ad10 rd gd11 vad12 o5.2.2.2 (58 : Int32) o16 hq17 hk18) ⟨callB_of 1 htx (xw_goodC kw_6_136) rfl rfl rfl (htx _ kw_1_5) (htx _ kw_6_133) ⟨by decide, by decide, by decide +kernel⟩ ⟨Nat.le_of_ble_eq_true rfl, Nat.le_of_ble_eq_true rfl⟩, (htx _ kw_6_135), (htx _ kp_M_put0)⟩ ⟨xPre_blind, va_recv hK hP (ci := 5) rfl (q0 := 0) rfl, (fun U hU hW => ⟨rfl, xPre_of hZ hS hFc hP hD hK U hU hW⟩)⟩ rfl rfl hl.1 rfl (xm_room (Nat.le_of_ble_eq_true rfl)) dM_print1_137 ⟨hm20.1, hm20.2⟩) hS (fun q _ h => hFc q h) hFc (fun u9 t H1 locs ht hvm hr9 hB hz1 hk1 hS => ?_)
                  obtain ⟨hP1, hK1, hD1⟩ := hB
                  rw [ht] at hP1
                  obtain ⟨ad22, gd23, vad24⟩ := u9
                  obtain ⟨hv25, hn26⟩ := hr9
                  have hP : va_P D xcl (xMw cT aM ad22 rd gd23 vad24 o16.2.2.2 []) H1 := hP1
                  have hD : va_D A (xMw cT aM ad22 rd gd23 vad24 o16.2.2.2 []) := hD1.weaken (fun k q _ h => hFc q.1 h)
                  generalize H1 = H at hP hS ⊢
                  have hE9 : ∀ p, p < xct st → vad24 p = vad p := fun p h => (hv25 p (Nat.lt_of_lt_of_le h hN)).trans (hE p h)
                  have hE := hE9
                  have hN : xct st ≤ xct o16.2.2.2 := Nat.le_trans hN hn26
                  have ev27 : xv vad12 y1 = xv vad24 y1 := xvE hv25 hg19
                  have hl : lv_has ls 3 [(2, .int y2), (0, .ref aM), (1, xv vad24 y1)] := by first | exact hl | ((try (rw [← ev27])); exact hl)
                  refine W.eq (g2 := F0 m 140 ls []) (by first | rfl | ((try (rw [ev27])); rfl)) ?_
                  refine lv_aload_n hx hb dM_print1_140 rfl (lv_at hl 1 rfl) ?_
                  refine lv_aload_n hx hb dM_print1_141 rfl (lv_at hl 1 rfl) ?_
                  refine xm_aload_n hx hb (xvor _ _) dM_print1_142 rfl (lv_at hl 2 rfl) ?_
                  refine lv_iload_n hx hb dM_print1_143 rfl (lv_at hl 0 rfl) ?_
                  obtain ⟨o28, hq29, hf⟩ := xbind hf
                  have hFc := xm_free hD hS hA
                  refine va_callq (va_runV (C := "ValueBenchModel") (As := [xv vad24 y1, .int y2]) (rest := [.ref aM]) ⟨hx, hb, hml, hown, htx⟩ (gM_kid l hl9 D cT aK aV H.size n aM ad22 rd gd23 vad24 o16.2.2.2 y1 y2 o28 hq29) ⟨callB_of 2 htx (xw_goodC kw_6_158) rfl rfl rfl (htx _ kw_1_5) (htx _ kw_6_155) ⟨by decide, by decide, by decide +kernel⟩ ⟨Nat.le_of_ble_eq_true rfl, Nat.le_of_ble_eq_true rfl⟩, (htx _ kw_6_157), (htx _ kp_M_kid)⟩ ⟨xPre_blind, va_recv hK hP (ci := 5) rfl (q0 := 0) rfl, (fun U hU hW => ⟨rfl, xPre_of hZ hS hFc hP hD hK U hU hW⟩)⟩ rfl rfl hl.1 rfl (xm_room (Nat.le_of_ble_eq_true rfl)) dM_print1_144 ⟨hm20.1, hm20.2⟩) hS (fun q _ h => hFc q h) hFc (fun r30 u9 t H1 locs ht hvm hr9 hB hz1 hk1 hS => ?_)
                  obtain ⟨hP1, hK1, hD1⟩ := hB
                  rw [ht] at hP1
                  have hP : va_P D xcl (xMw cT aM ad22 rd gd23 vad24 o16.2.2.2 []) H1 := hP1
                  have hD : va_D A (xMw cT aM ad22 rd gd23 vad24 o16.2.2.2 []) := hD1.weaken (fun k q _ h => hFc q.1 h)
                  generalize H1 = H at hP hS ⊢
                  rw [hr9]
                  refine W.eq (g2 := F0 m 147 ls [xv vad24 o28, .ref aM]) (by first | rfl | (skip; rfl)) ?_
                  obtain ⟨o31, hq32, hf⟩ := xbind hf
                  by_cases hk33 : o31.1 = 0
                  · rw [if_pos hk33] at hf
                    obtain ⟨hg34, hf⟩ := xifn hf
                    obtain ⟨hm35, hf⟩ := xmoE hf
                    have hFc := xm_free hD hS hA
                    refine va_callv (va_runV (C := "ValueBenchModel") (As := [xv vad24 o28]) (rest := []) ⟨hx, hb, hml, hown, htx⟩ ((hrec H.size aM ad22 rd gd23 vad24 o16.2.2.2 o28 o31 hq32).1 hk33) ⟨callB_of 1 htx (xw_goodC kw_6_128) rfl rfl rfl (htx _ kw_1_5) (htx _ kw_6_125) ⟨by decide, by decide, by decide +kernel⟩ ⟨(by show (16 * d) + 1 ≤ 16 * (d + 1); omega), (by show 8 + (3 + 11) + (400 * d) ≤ 400 * (d + 1); omega)⟩, (htx _ kw_6_127), (htx _ kp_M_print1)⟩ ⟨xPre_blind, va_recv hK hP (ci := 5) rfl (q0 := 0) rfl, (fun U hU hW => ⟨rfl, xPre_of hZ hS hFc hP hD hK U hU hW⟩)⟩ rfl rfl hl.1 rfl (xm_room (Nat.le_of_ble_eq_true rfl)) dM_print1_147 ⟨hm35.1, hm35.2⟩) hS (fun q _ h => hFc q h) hFc (fun u9 t H1 locs ht hvm hr9 hB hz1 hk1 hS => ?_)
                    obtain ⟨hP1, hK1, hD1⟩ := hB
                    rw [ht] at hP1
                    obtain ⟨ad37, gd38, vad39⟩ := u9
                    obtain ⟨hv40, hn41⟩ := hr9
                    have hP : va_P D xcl (xMw cT aM ad37 rd gd38 vad39 o31.2.2.2 []) H1 := hP1
                    have hD : va_D A (xMw cT aM ad37 rd gd38 vad39 o31.2.2.2 []) := hD1.weaken (fun k q _ h => hFc q.1 h)
                    generalize H1 = H at hP hS ⊢
                    have hE9 : ∀ p, p < xct st → vad39 p = vad p := fun p h => (hv40 p (Nat.lt_of_lt_of_le h hN)).trans (hE p h)
                    have hE := hE9
                    have hN : xct st ≤ xct o31.2.2.2 := Nat.le_trans hN hn41
                    have ev42 : xv vad24 y1 = xv vad39 y1 := xvE hv40 hg34
                    have hl : lv_has ls 3 [(2, .int y2), (0, .ref aM), (1, xv vad39 y1)] := by first | exact hl | ((try (rw [← ev42])); exact hl)
                    refine W.eq (g2 := F0 m 150 ls []) (by first | rfl | ((try (rw [ev42])); rfl)) ?_
                    refine lv_iinc (v := (y2 + 1)) (lv' := [(2, .int (y2 + 1)), (0, .ref aM), (1, xv vad39 y1)]) hx hb dM_print1_150 hl (k := 0) rfl rfl (by decide) (by simp only [List.filter, xvcat, xrscat, xcI, xcL, xcR, xcN]; rfl) (fun ls hl => ?_)
                    refine lv_goto (tgt := 97) hx hb dM_print1_153 (by decide) ?_
                    exact ih (1, (y2 + 1), y1, o31.2.2.2, (((wc + o5.2.1) + o16.2.1) + o31.2.1), (((wn + o5.2.2.1) + o16.2.2.1) + o31.2.2.1)) _ _ ls (⟨ad37, gd38, vad39, rfl, hf, hP, hD, hS, lv_sub hl [0, 1, 2] rfl, hE, hN⟩)
                  rw [if_neg hk33] at hf
                  by_cases hk43 : o31.1 = 1
                  · rw [if_pos hk43] at hf
                    obtain ⟨hg44, hf⟩ := xifn hf
                    obtain ⟨hm45, hf⟩ := xmoE hf
                    have hFc := xm_free hD hS hA
                    refine xx_thr (vx_runV (C := "ValueBenchModel") (As := [xv vad24 o28]) (rest := []) ⟨hx, hb, hml, hown, htx⟩ ((hrec H.size aM ad22 rd gd23 vad24 o16.2.2.2 o28 o31 hq32).2 hk43) ⟨callB_of 1 htx (xw_goodC kw_6_128) rfl rfl rfl (htx _ kw_1_5) (htx _ kw_6_125) ⟨by decide, by decide, by decide +kernel⟩ ⟨(by show (16 * d) + 1 ≤ 16 * (d + 1); omega), (by show 8 + (3 + 11) + (400 * d) ≤ 400 * (d + 1); omega)⟩, (htx _ kw_6_127), (htx _ kp_M_print1)⟩ ⟨xPre_blind, va_recv hK hP (ci := 5) rfl (q0 := 0) rfl, (fun U hU hW => ⟨rfl, xPre_of hZ hS hFc hP hD hK U hU hW⟩)⟩ rfl rfl hl.1 rfl (xm_room (Nat.le_of_ble_eq_true rfl)) dM_print1_147 ⟨hm45.1, hm45.2⟩) hS hFc (fun q _ h => hFc q h) (fun E ce q9 u9 t H1 locs ht hvm hr9 hB hz1 hk1 hS hce hcv hcl => ?_)
                    obtain ⟨rfl, hP1, hK1, hD1⟩ := hB
                    rw [ht] at hP1
                    obtain ⟨ad47, gd48, vad49⟩ := u9
                    obtain ⟨hv50, hn51⟩ := hr9
                    have hP : va_P D xcl (xMw cT aM ad47 rd gd48 vad49 o31.2.2.2 []) H1 := hP1
                    have hD : va_D A (xMw cT aM ad47 rd gd48 vad49 o31.2.2.2 []) := hD1.weaken (fun k q _ h => hFc q.1 h)
                    generalize H1 = H at hP hS hce ⊢
                    have hE9 : ∀ p, p < xct st → vad49 p = vad p := fun p h => (hv50 p (Nat.lt_of_lt_of_le h hN)).trans (hE p h)
                    have hE := hE9
                    have hN : xct st ≤ xct o31.2.2.2 := Nat.le_trans hN hn51
                    have ev52 : xv vad24 y1 = xv vad49 y1 := xvE hv50 hg44
                    have hl : lv_has ls 3 [(2, .int y2), (0, .ref aM), (1, xv vad49 y1)] := by first | exact hl | ((try (rw [← ev52])); exact hl)
                    obtain rfl := Option.some.inj hf
                    exact vx_out (E := "java/lang/IndexOutOfBoundsException") (fun x h => (hne x h).elim) hlocks hce hcv hcl (fun t ht ha => ⟨(ad47, gd48, vad49), ⟨hE, hN⟩, ⟨rfl, by rw [ht]; exact hP, va_K.moved ha hK, hD⟩, hS.F ht⟩) hS.2.2 (Nat.le_refl _) (Nat.le_refl _)
                  rw [if_neg hk43] at hf
                  exact nomatch hf
                rw [if_neg hk18] at hf
                by_cases hk53 : o16.1 = 1
                · rw [if_pos hk53] at hf
                  obtain ⟨hg54, hf⟩ := xifn hf
                  obtain ⟨hm55, hf⟩ := xmoE hf
                  have hFc := xm_free hD hS hA
                  refine xx_thr (vx_runV (C := "ValueBenchModel") (As := [.int 58]) (rest := []) ⟨hx, hb, hml, hown, htx⟩ (gM_put0_1 l hl9 D cT aK aV H.size n aM ad10 rd gd11 vad12 o5.2.2.2 (58 : Int32) o16 hq17 hk53) ⟨callB_of 1 htx (xw_goodC kw_6_136) rfl rfl rfl (htx _ kw_1_5) (htx _ kw_6_133) ⟨by decide, by decide, by decide +kernel⟩ ⟨Nat.le_of_ble_eq_true rfl, Nat.le_of_ble_eq_true rfl⟩, (htx _ kw_6_135), (htx _ kp_M_put0)⟩ ⟨xPre_blind, va_recv hK hP (ci := 5) rfl (q0 := 0) rfl, (fun U hU hW => ⟨rfl, xPre_of hZ hS hFc hP hD hK U hU hW⟩)⟩ rfl rfl hl.1 rfl (xm_room (Nat.le_of_ble_eq_true rfl)) dM_print1_137 ⟨hm55.1, hm55.2⟩) hS hFc (fun q _ h => hFc q h) (fun E ce q9 u9 t H1 locs ht hvm hr9 hB hz1 hk1 hS hce hcv hcl => ?_)
                  obtain ⟨rfl, hP1, hK1, hD1⟩ := hB
                  rw [ht] at hP1
                  obtain ⟨ad57, gd58, vad59⟩ := u9
                  obtain ⟨hv60, hn61⟩ := hr9
                  have hP : va_P D xcl (xMw cT aM ad57 rd gd58 vad59 o16.2.2.2 []) H1 := hP1
                  have hD : va_D A (xMw cT aM ad57 rd gd58 vad59 o16.2.2.2 []) := hD1.weaken (fun k q _ h => hFc q.1 h)
                  generalize H1 = H at hP hS hce ⊢
                  have hE9 : ∀ p, p < xct st → vad59 p = vad p := fun p h => (hv60 p (Nat.lt_of_lt_of_le h hN)).trans (hE p h)
                  have hE := hE9
                  have hN : xct st ≤ xct o16.2.2.2 := Nat.le_trans hN hn61
                  have ev62 : xv vad12 y1 = xv vad59 y1 := xvE hv60 hg54
                  have hl : lv_has ls 3 [(2, .int y2), (0, .ref aM), (1, xv vad59 y1)] := by first | exact hl | ((try (rw [← ev62])); exact hl)
                  obtain rfl := Option.some.inj hf
                  exact vx_out (E := "java/lang/IndexOutOfBoundsException") (fun x h => (hne x h).elim) hlocks hce hcv hcl (fun t ht ha => ⟨(ad57, gd58, vad59), ⟨hE, hN⟩, ⟨rfl, by rw [ht]; exact hP, va_K.moved ha hK, hD⟩, hS.F ht⟩) hS.2.2 (Nat.le_refl _) (Nat.le_refl _)
                rw [if_neg hk53] at hf
                exact nomatch hf
              rw [if_neg hk7] at hf
              by_cases hk63 : o5.1 = 1
              · rw [if_pos hk63] at hf
                obtain ⟨hm64, hf⟩ := xmoE hf
                have hFc := xm_free hD hS hA
                refine xx_thr (vx_runV (C := "ValueBenchModel") (As := [xv vadL o2]) (rest := []) ⟨hx, hb, hml, hown, htx⟩ (gM_putString_1 l hl9 D cT aK aV H.size n aM adL rd gdL vadL ws9 o2 o5 hq6 hk63) ⟨callB_of 1 htx (xw_goodC kw_6_145) rfl rfl rfl (htx _ kw_1_5) (htx _ kw_6_142) ⟨by decide, by decide, by decide +kernel⟩ ⟨Nat.le_of_ble_eq_true rfl, Nat.le_of_ble_eq_true rfl⟩, (htx _ kw_6_144), (htx _ kp_M_putString)⟩ ⟨xPre_blind, va_recv hK hP (ci := 5) rfl (q0 := 0) rfl, (fun U hU hW => ⟨rfl, xPre_of hZ hS hFc hP hD hK U hU hW⟩)⟩ rfl rfl hl.1 rfl (xm_room (Nat.le_of_ble_eq_true rfl)) dM_print1_131 ⟨hm64.1, hm64.2⟩) hS hFc (fun q _ h => hFc q h) (fun E ce q9 u9 t H1 locs ht hvm hr9 hB hz1 hk1 hS hce hcv hcl => ?_)
                obtain ⟨rfl, hP1, hK1, hD1⟩ := hB
                rw [ht] at hP1
                obtain ⟨ad66, gd67, vad68⟩ := u9
                obtain ⟨hv69, hn70⟩ := hr9
                have hP : va_P D xcl (xMw cT aM ad66 rd gd67 vad68 o5.2.2.2 []) H1 := hP1
                have hD : va_D A (xMw cT aM ad66 rd gd67 vad68 o5.2.2.2 []) := hD1.weaken (fun k q _ h => hFc q.1 h)
                generalize H1 = H at hP hS hce ⊢
                have hE9 : ∀ p, p < xct st → vad68 p = vad p := fun p h => (hv69 p (Nat.lt_of_lt_of_le h hN)).trans (hE p h)
                have hE := hE9
                have hN : xct st ≤ xct o5.2.2.2 := Nat.le_trans hN hn70
                have ev71 : xv vadL y1 = xv vad68 y1 := xvE hv69 (fun h => hg1 (Or.inr h))
                have hl : lv_has ls 3 [(2, .int y2), (0, .ref aM), (1, xv vad68 y1)] := by first | exact hl | ((try (rw [← ev71])); exact hl)
                obtain rfl := Option.some.inj hf
                exact vx_out (E := "java/lang/IndexOutOfBoundsException") (fun x h => (hne x h).elim) hlocks hce hcv hcl (fun t ht ha => ⟨(ad66, gd67, vad68), ⟨hE, hN⟩, ⟨rfl, by rw [ht]; exact hP, va_K.moved ha hK, hD⟩, hS.F ht⟩) hS.2.2 (Nat.le_refl _) (Nat.le_refl _)
              rw [if_neg hk63] at hf
              exact nomatch hf
          · rw [if_neg hc] at hf
            refine lv_aload_n hx hb dM_print1_109 rfl (lv_at hl 1 rfl) ?_
            refine lv_bipush (v := 44) hx hb dM_print1_110 (by decide) ?_
            obtain ⟨o2, hq3, hf⟩ := xbind hf
            by_cases hk4 : o2.1 = 0
            · rw [if_pos hk4] at hf
              obtain ⟨hm5, hf⟩ := xmoE hf
              have hFc := xm_free hD hS hA
              refine va_callv (va_runV (C := "ValueBenchModel") (As := [.int 44]) (rest := []) ⟨hx, hb, hml, hown, htx⟩ (gM_put0 l hl9 D cT aK aV H.size n aM adL rd gdL vadL ws9 (44 : Int32) o2 hq3 hk4) ⟨callB_of 1 htx (xw_goodC kw_6_136) rfl rfl rfl (htx _ kw_1_5) (htx _ kw_6_133) ⟨by decide, by decide, by decide +kernel⟩ ⟨Nat.le_of_ble_eq_true rfl, Nat.le_of_ble_eq_true rfl⟩, (htx _ kw_6_135), (htx _ kp_M_put0)⟩ ⟨xPre_blind, va_recv hK hP (ci := 5) rfl (q0 := 0) rfl, (fun U hU hW => ⟨rfl, xPre_of hZ hS hFc hP hD hK U hU hW⟩)⟩ rfl rfl hl.1 rfl (xm_room (Nat.le_of_ble_eq_true rfl)) dM_print1_112 ⟨hm5.1, hm5.2⟩) hS (fun q _ h => hFc q h) hFc (fun u9 t H1 locs ht hvm hr9 hB hz1 hk1 hS => ?_)
              obtain ⟨hP1, hK1, hD1⟩ := hB
              rw [ht] at hP1
              obtain ⟨ad7, gd8, vad9⟩ := u9
              obtain ⟨hv10, hn11⟩ := hr9
              have hP : va_P D xcl (xMw cT aM ad7 rd gd8 vad9 o2.2.2.2 []) H1 := hP1
              have hD : va_D A (xMw cT aM ad7 rd gd8 vad9 o2.2.2.2 []) := hD1.weaken (fun k q _ h => hFc q.1 h)
              generalize H1 = H at hP hS ⊢
              have hE9 : ∀ p, p < xct st → vad9 p = vad p := fun p h => (hv10 p (Nat.lt_of_lt_of_le h hN)).trans (hE p h)
              have hE := hE9
              have hN : xct st ≤ xct o2.2.2.2 := Nat.le_trans hN hn11
              have ev12 : xv vadL y1 = xv vad9 y1 := xvE hv10 (fun h => hg1 (Or.inr h))
              have hl : lv_has ls 3 [(2, .int y2), (0, .ref aM), (1, xv vad9 y1)] := by first | exact hl | ((try (rw [← ev12])); exact hl)
              refine W.eq (g2 := F0 m 115 ls []) (by first | rfl | ((try (rw [ev12])); rfl)) ?_
              refine xm_aload_n hx hb (xvor _ _) dM_print1_115 rfl (lv_at hl 2 rfl) ?_
              obtain ⟨hg13, hf⟩ := xifn hf
              refine xm_vget (v := .int ((xpi o2.2.2.2 0) (y1 - 1))) hx hb htx hown hK hP 0 (by decide) hg13 rfl ((hZ.1 (93, "kind", "I") (List.mem_of_getElem? (i := 0) rfl)).use rfl) rfl dM_print1_116 ?_
              refine lv_bipush (v := 6) hx hb dM_print1_119 (by decide) ?_
              refine lv_icmp_ne (tgt := 140) hx hb dM_print1_121 (by decide) (fun hc => ?_) (fun hc => ?_)
              · rw [if_neg hc] at hf
                refine lv_aload_n hx hb dM_print1_140 rfl (lv_at hl 1 rfl) ?_
                refine lv_aload_n hx hb dM_print1_141 rfl (lv_at hl 1 rfl) ?_
                refine xm_aload_n hx hb (xvor _ _) dM_print1_142 rfl (lv_at hl 2 rfl) ?_
                refine lv_iload_n hx hb dM_print1_143 rfl (lv_at hl 0 rfl) ?_
                obtain ⟨o14, hq15, hf⟩ := xbind hf
                have hFc := xm_free hD hS hA
                refine va_callq (va_runV (C := "ValueBenchModel") (As := [xv vad9 y1, .int y2]) (rest := [.ref aM]) ⟨hx, hb, hml, hown, htx⟩ (gM_kid l hl9 D cT aK aV H.size n aM ad7 rd gd8 vad9 o2.2.2.2 y1 y2 o14 hq15) ⟨callB_of 2 htx (xw_goodC kw_6_158) rfl rfl rfl (htx _ kw_1_5) (htx _ kw_6_155) ⟨by decide, by decide, by decide +kernel⟩ ⟨Nat.le_of_ble_eq_true rfl, Nat.le_of_ble_eq_true rfl⟩, (htx _ kw_6_157), (htx _ kp_M_kid)⟩ ⟨xPre_blind, va_recv hK hP (ci := 5) rfl (q0 := 0) rfl, (fun U hU hW => ⟨rfl, xPre_of hZ hS hFc hP hD hK U hU hW⟩)⟩ rfl rfl hl.1 rfl (xm_room (Nat.le_of_ble_eq_true rfl)) dM_print1_144 ⟨hm5.1, hm5.2⟩) hS (fun q _ h => hFc q h) hFc (fun r16 u9 t H1 locs ht hvm hr9 hB hz1 hk1 hS => ?_)
                obtain ⟨hP1, hK1, hD1⟩ := hB
                rw [ht] at hP1
                have hP : va_P D xcl (xMw cT aM ad7 rd gd8 vad9 o2.2.2.2 []) H1 := hP1
                have hD : va_D A (xMw cT aM ad7 rd gd8 vad9 o2.2.2.2 []) := hD1.weaken (fun k q _ h => hFc q.1 h)
                generalize H1 = H at hP hS ⊢
                rw [hr9]
                refine W.eq (g2 := F0 m 147 ls [xv vad9 o14, .ref aM]) (by first | rfl | (skip; rfl)) ?_
                obtain ⟨o17, hq18, hf⟩ := xbind hf
                by_cases hk19 : o17.1 = 0
                · rw [if_pos hk19] at hf
                  obtain ⟨hm20, hf⟩ := xmoE hf
                  have hFc := xm_free hD hS hA
                  refine va_callv (va_runV (C := "ValueBenchModel") (As := [xv vad9 o14]) (rest := []) ⟨hx, hb, hml, hown, htx⟩ ((hrec H.size aM ad7 rd gd8 vad9 o2.2.2.2 o14 o17 hq18).1 hk19) ⟨callB_of 1 htx (xw_goodC kw_6_128) rfl rfl rfl (htx _ kw_1_5) (htx _ kw_6_125) ⟨by decide, by decide, by decide +kernel⟩ ⟨(by show (16 * d) + 1 ≤ 16 * (d + 1); omega), (by show 8 + (3 + 11) + (400 * d) ≤ 400 * (d + 1); omega)⟩, (htx _ kw_6_127), (htx _ kp_M_print1)⟩ ⟨xPre_blind, va_recv hK hP (ci := 5) rfl (q0 := 0) rfl, (fun U hU hW => ⟨rfl, xPre_of hZ hS hFc hP hD hK U hU hW⟩)⟩ rfl rfl hl.1 rfl (xm_room (Nat.le_of_ble_eq_true rfl)) dM_print1_147 ⟨hm20.1, hm20.2⟩) hS (fun q _ h => hFc q h) hFc (fun u9 t H1 locs ht hvm hr9 hB hz1 hk1 hS => ?_)
                  obtain ⟨hP1, hK1, hD1⟩ := hB
                  rw [ht] at hP1
                  obtain ⟨ad22, gd23, vad24⟩ := u9
                  obtain ⟨hv25, hn26⟩ := hr9
                  have hP : va_P D xcl (xMw cT aM ad22 rd gd23 vad24 o17.2.2.2 []) H1 := hP1
                  have hD : va_D A (xMw cT aM ad22 rd gd23 vad24 o17.2.2.2 []) := hD1.weaken (fun k q _ h => hFc q.1 h)
                  generalize H1 = H at hP hS ⊢
                  have hE9 : ∀ p, p < xct st → vad24 p = vad p := fun p h => (hv25 p (Nat.lt_of_lt_of_le h hN)).trans (hE p h)
                  have hE := hE9
                  have hN : xct st ≤ xct o17.2.2.2 := Nat.le_trans hN hn26
                  have ev27 : xv vad9 y1 = xv vad24 y1 := xvE hv25 (fun h => hg13 (Or.inr h))
                  have hl : lv_has ls 3 [(2, .int y2), (0, .ref aM), (1, xv vad24 y1)] := by first | exact hl | ((try (rw [← ev27])); exact hl)
                  refine W.eq (g2 := F0 m 150 ls []) (by first | rfl | ((try (rw [ev27])); rfl)) ?_
                  refine lv_iinc (v := (y2 + 1)) (lv' := [(2, .int (y2 + 1)), (0, .ref aM), (1, xv vad24 y1)]) hx hb dM_print1_150 hl (k := 0) rfl rfl (by decide) (by simp only [List.filter, xvcat, xrscat, xcI, xcL, xcR, xcN]; rfl) (fun ls hl => ?_)
                  refine lv_goto (tgt := 97) hx hb dM_print1_153 (by decide) ?_
                  exact ih (1, (y2 + 1), y1, o17.2.2.2, ((wc + o2.2.1) + o17.2.1), ((wn + o2.2.2.1) + o17.2.2.1)) _ _ ls (⟨ad22, gd23, vad24, rfl, hf, hP, hD, hS, lv_sub hl [0, 1, 2] rfl, hE, hN⟩)
                rw [if_neg hk19] at hf
                by_cases hk28 : o17.1 = 1
                · rw [if_pos hk28] at hf
                  obtain ⟨hm29, hf⟩ := xmoE hf
                  have hFc := xm_free hD hS hA
                  refine xx_thr (vx_runV (C := "ValueBenchModel") (As := [xv vad9 o14]) (rest := []) ⟨hx, hb, hml, hown, htx⟩ ((hrec H.size aM ad7 rd gd8 vad9 o2.2.2.2 o14 o17 hq18).2 hk28) ⟨callB_of 1 htx (xw_goodC kw_6_128) rfl rfl rfl (htx _ kw_1_5) (htx _ kw_6_125) ⟨by decide, by decide, by decide +kernel⟩ ⟨(by show (16 * d) + 1 ≤ 16 * (d + 1); omega), (by show 8 + (3 + 11) + (400 * d) ≤ 400 * (d + 1); omega)⟩, (htx _ kw_6_127), (htx _ kp_M_print1)⟩ ⟨xPre_blind, va_recv hK hP (ci := 5) rfl (q0 := 0) rfl, (fun U hU hW => ⟨rfl, xPre_of hZ hS hFc hP hD hK U hU hW⟩)⟩ rfl rfl hl.1 rfl (xm_room (Nat.le_of_ble_eq_true rfl)) dM_print1_147 ⟨hm29.1, hm29.2⟩) hS hFc (fun q _ h => hFc q h) (fun E ce q9 u9 t H1 locs ht hvm hr9 hB hz1 hk1 hS hce hcv hcl => ?_)
                  obtain ⟨rfl, hP1, hK1, hD1⟩ := hB
                  rw [ht] at hP1
                  obtain ⟨ad31, gd32, vad33⟩ := u9
                  obtain ⟨hv34, hn35⟩ := hr9
                  have hP : va_P D xcl (xMw cT aM ad31 rd gd32 vad33 o17.2.2.2 []) H1 := hP1
                  have hD : va_D A (xMw cT aM ad31 rd gd32 vad33 o17.2.2.2 []) := hD1.weaken (fun k q _ h => hFc q.1 h)
                  generalize H1 = H at hP hS hce ⊢
                  have hE9 : ∀ p, p < xct st → vad33 p = vad p := fun p h => (hv34 p (Nat.lt_of_lt_of_le h hN)).trans (hE p h)
                  have hE := hE9
                  have hN : xct st ≤ xct o17.2.2.2 := Nat.le_trans hN hn35
                  have ev36 : xv vad9 y1 = xv vad33 y1 := xvE hv34 (fun h => hg13 (Or.inr h))
                  have hl : lv_has ls 3 [(2, .int y2), (0, .ref aM), (1, xv vad33 y1)] := by first | exact hl | ((try (rw [← ev36])); exact hl)
                  obtain rfl := Option.some.inj hf
                  exact vx_out (E := "java/lang/IndexOutOfBoundsException") (fun x h => (hne x h).elim) hlocks hce hcv hcl (fun t ht ha => ⟨(ad31, gd32, vad33), ⟨hE, hN⟩, ⟨rfl, by rw [ht]; exact hP, va_K.moved ha hK, hD⟩, hS.F ht⟩) hS.2.2 (Nat.le_refl _) (Nat.le_refl _)
                rw [if_neg hk28] at hf
                exact nomatch hf
              · rw [if_pos hc] at hf
                refine lv_aload_n hx hb dM_print1_124 rfl (lv_at hl 1 rfl) ?_
                refine lv_aload_n hx hb dM_print1_125 rfl (lv_at hl 1 rfl) ?_
                refine xm_aload_n hx hb (xvor _ _) dM_print1_126 rfl (lv_at hl 2 rfl) ?_
                refine lv_iload_n hx hb dM_print1_127 rfl (lv_at hl 0 rfl) ?_
                obtain ⟨o14, hq15, hf⟩ := xbind hf
                have hFc := xm_free hD hS hA
                refine va_callq (va_runV (C := "ValueBenchModel") (As := [xv vad9 y1, .int y2]) (rest := [.ref aM]) ⟨hx, hb, hml, hown, htx⟩ (gM_name l hl9 D cT aK aV H.size n aM ad7 rd gd8 vad9 o2.2.2.2 y1 y2 o14 hq15) ⟨callB_of 2 htx (xw_goodC kw_6_154) rfl rfl rfl (htx _ kw_1_5) (htx _ kw_6_151) ⟨by decide, by decide, by decide +kernel⟩ ⟨Nat.le_of_ble_eq_true rfl, Nat.le_of_ble_eq_true rfl⟩, (htx _ kw_6_153), (htx _ kp_M_name)⟩ ⟨xPre_blind, va_recv hK hP (ci := 5) rfl (q0 := 0) rfl, (fun U hU hW => ⟨rfl, xPre_of hZ hS hFc hP hD hK U hU hW⟩)⟩ rfl rfl hl.1 rfl (xm_room (Nat.le_of_ble_eq_true rfl)) dM_print1_128 ⟨hm5.1, hm5.2⟩) hS (fun q _ h => hFc q h) hFc (fun r16 u9 t H1 locs ht hvm hr9 hB hz1 hk1 hS => ?_)
                obtain ⟨hP1, hK1, hD1⟩ := hB
                rw [ht] at hP1
                have hP : va_P D xcl (xMw cT aM ad7 rd gd8 vad9 o2.2.2.2 []) H1 := hP1
                have hD : va_D A (xMw cT aM ad7 rd gd8 vad9 o2.2.2.2 []) := hD1.weaken (fun k q _ h => hFc q.1 h)
                generalize H1 = H at hP hS ⊢
                rw [hr9]
                refine W.eq (g2 := F0 m 131 ls [xv vad9 o14, .ref aM]) (by first | rfl | (skip; rfl)) ?_
                obtain ⟨o17, hq18, hf⟩ := xbind hf
                by_cases hk19 : o17.1 = 0
                · rw [if_pos hk19] at hf
                  obtain ⟨hm20, hf⟩ := xmoE hf
                  have hFc := xm_free hD hS hA
                  refine va_callv (va_runV (C := "ValueBenchModel") (As := [xv vad9 o14]) (rest := []) ⟨hx, hb, hml, hown, htx⟩ (gM_putString l hl9 D cT aK aV H.size n aM ad7 rd gd8 vad9 o2.2.2.2 o14 o17 hq18 hk19) ⟨callB_of 1 htx (xw_goodC kw_6_145) rfl rfl rfl (htx _ kw_1_5) (htx _ kw_6_142) ⟨by decide, by decide, by decide +kernel⟩ ⟨Nat.le_of_ble_eq_true rfl, Nat.le_of_ble_eq_true rfl⟩, (htx _ kw_6_144), (htx _ kp_M_putString)⟩ ⟨xPre_blind, va_recv hK hP (ci := 5) rfl (q0 := 0) rfl, (fun U hU hW => ⟨rfl, xPre_of hZ hS hFc hP hD hK U hU hW⟩)⟩ rfl rfl hl.1 rfl (xm_room (Nat.le_of_ble_eq_true rfl)) dM_print1_131 ⟨hm20.1, hm20.2⟩) hS (fun q _ h => hFc q h) hFc (fun u9 t H1 locs ht hvm hr9 hB hz1 hk1 hS => ?_)
                  obtain ⟨hP1, hK1, hD1⟩ := hB
                  rw [ht] at hP1
                  obtain ⟨ad22, gd23, vad24⟩ := u9
                  obtain ⟨hv25, hn26⟩ := hr9
                  have hP : va_P D xcl (xMw cT aM ad22 rd gd23 vad24 o17.2.2.2 []) H1 := hP1
                  have hD : va_D A (xMw cT aM ad22 rd gd23 vad24 o17.2.2.2 []) := hD1.weaken (fun k q _ h => hFc q.1 h)
                  generalize H1 = H at hP hS ⊢
                  have hE9 : ∀ p, p < xct st → vad24 p = vad p := fun p h => (hv25 p (Nat.lt_of_lt_of_le h hN)).trans (hE p h)
                  have hE := hE9
                  have hN : xct st ≤ xct o17.2.2.2 := Nat.le_trans hN hn26
                  have ev27 : xv vad9 y1 = xv vad24 y1 := xvE hv25 (fun h => hg13 (Or.inr h))
                  have hl : lv_has ls 3 [(2, .int y2), (0, .ref aM), (1, xv vad24 y1)] := by first | exact hl | ((try (rw [← ev27])); exact hl)
                  refine W.eq (g2 := F0 m 134 ls []) (by first | rfl | ((try (rw [ev27])); rfl)) ?_
                  refine lv_aload_n hx hb dM_print1_134 rfl (lv_at hl 1 rfl) ?_
                  refine lv_bipush (v := 58) hx hb dM_print1_135 (by decide) ?_
                  obtain ⟨o28, hq29, hf⟩ := xbind hf
                  by_cases hk30 : o28.1 = 0
                  · rw [if_pos hk30] at hf
                    obtain ⟨hg31, hf⟩ := xifn hf
                    obtain ⟨hm32, hf⟩ := xmoE hf
                    have hFc := xm_free hD hS hA
                    refine va_callv (va_runV (C := "ValueBenchModel") (As := [.int 58]) (rest := []) ⟨hx, hb, hml, hown, htx⟩ (gM_put0 l hl9 D cT aK aV H.size n aM ad22 rd gd23 vad24 o17.2.2.2 (58 : Int32) o28 hq29 hk30) ⟨callB_of 1 htx (xw_goodC kw_6_136) rfl rfl rfl (htx _ kw_1_5) (htx _ kw_6_133) ⟨by decide, by decide, by decide +kernel⟩ ⟨Nat.le_of_ble_eq_true rfl, Nat.le_of_ble_eq_true rfl⟩, (htx _ kw_6_135), (htx _ kp_M_put0)⟩ ⟨xPre_blind, va_recv hK hP (ci := 5) rfl (q0 := 0) rfl, (fun U hU hW => ⟨rfl, xPre_of hZ hS hFc hP hD hK U hU hW⟩)⟩ rfl rfl hl.1 rfl (xm_room (Nat.le_of_ble_eq_true rfl)) dM_print1_137 ⟨hm32.1, hm32.2⟩) hS (fun q _ h => hFc q h) hFc (fun u9 t H1 locs ht hvm hr9 hB hz1 hk1 hS => ?_)
                    obtain ⟨hP1, hK1, hD1⟩ := hB
                    rw [ht] at hP1
                    obtain ⟨ad34, gd35, vad36⟩ := u9
                    obtain ⟨hv37, hn38⟩ := hr9
                    have hP : va_P D xcl (xMw cT aM ad34 rd gd35 vad36 o28.2.2.2 []) H1 := hP1
                    have hD : va_D A (xMw cT aM ad34 rd gd35 vad36 o28.2.2.2 []) := hD1.weaken (fun k q _ h => hFc q.1 h)
                    generalize H1 = H at hP hS ⊢
                    have hE9 : ∀ p, p < xct st → vad36 p = vad p := fun p h => (hv37 p (Nat.lt_of_lt_of_le h hN)).trans (hE p h)
                    have hE := hE9
                    have hN : xct st ≤ xct o28.2.2.2 := Nat.le_trans hN hn38
                    have ev39 : xv vad24 y1 = xv vad36 y1 := xvE hv37 hg31
                    have hl : lv_has ls 3 [(2, .int y2), (0, .ref aM), (1, xv vad36 y1)] := by first | exact hl | ((try (rw [← ev39])); exact hl)
                    refine W.eq (g2 := F0 m 140 ls []) (by first | rfl | ((try (rw [ev39])); rfl)) ?_
                    refine lv_aload_n hx hb dM_print1_140 rfl (lv_at hl 1 rfl) ?_
                    refine lv_aload_n hx hb dM_print1_141 rfl (lv_at hl 1 rfl) ?_
                    refine xm_aload_n hx hb (xvor _ _) dM_print1_142 rfl (lv_at hl 2 rfl) ?_
                    refine lv_iload_n hx hb dM_print1_143 rfl (lv_at hl 0 rfl) ?_
                    obtain ⟨o40, hq41, hf⟩ := xbind hf
                    have hFc := xm_free hD hS hA
                    refine va_callq (va_runV (C := "ValueBenchModel") (As := [xv vad36 y1, .int y2]) (rest := [.ref aM]) ⟨hx, hb, hml, hown, htx⟩ (gM_kid l hl9 D cT aK aV H.size n aM ad34 rd gd35 vad36 o28.2.2.2 y1 y2 o40 hq41) ⟨callB_of 2 htx (xw_goodC kw_6_158) rfl rfl rfl (htx _ kw_1_5) (htx _ kw_6_155) ⟨by decide, by decide, by decide +kernel⟩ ⟨Nat.le_of_ble_eq_true rfl, Nat.le_of_ble_eq_true rfl⟩, (htx _ kw_6_157), (htx _ kp_M_kid)⟩ ⟨xPre_blind, va_recv hK hP (ci := 5) rfl (q0 := 0) rfl, (fun U hU hW => ⟨rfl, xPre_of hZ hS hFc hP hD hK U hU hW⟩)⟩ rfl rfl hl.1 rfl (xm_room (Nat.le_of_ble_eq_true rfl)) dM_print1_144 ⟨hm32.1, hm32.2⟩) hS (fun q _ h => hFc q h) hFc (fun r42 u9 t H1 locs ht hvm hr9 hB hz1 hk1 hS => ?_)
                    obtain ⟨hP1, hK1, hD1⟩ := hB
                    rw [ht] at hP1
                    have hP : va_P D xcl (xMw cT aM ad34 rd gd35 vad36 o28.2.2.2 []) H1 := hP1
                    have hD : va_D A (xMw cT aM ad34 rd gd35 vad36 o28.2.2.2 []) := hD1.weaken (fun k q _ h => hFc q.1 h)
                    generalize H1 = H at hP hS ⊢
                    rw [hr9]
                    refine W.eq (g2 := F0 m 147 ls [xv vad36 o40, .ref aM]) (by first | rfl | (skip; rfl)) ?_
                    obtain ⟨o43, hq44, hf⟩ := xbind hf
                    by_cases hk45 : o43.1 = 0
                    · rw [if_pos hk45] at hf
                      obtain ⟨hg46, hf⟩ := xifn hf
                      obtain ⟨hm47, hf⟩ := xmoE hf
                      have hFc := xm_free hD hS hA
                      refine va_callv (va_runV (C := "ValueBenchModel") (As := [xv vad36 o40]) (rest := []) ⟨hx, hb, hml, hown, htx⟩ ((hrec H.size aM ad34 rd gd35 vad36 o28.2.2.2 o40 o43 hq44).1 hk45) ⟨callB_of 1 htx (xw_goodC kw_6_128) rfl rfl rfl (htx _ kw_1_5) (htx _ kw_6_125) ⟨by decide, by decide, by decide +kernel⟩ ⟨(by show (16 * d) + 1 ≤ 16 * (d + 1); omega), (by show 8 + (3 + 11) + (400 * d) ≤ 400 * (d + 1); omega)⟩, (htx _ kw_6_127), (htx _ kp_M_print1)⟩ ⟨xPre_blind, va_recv hK hP (ci := 5) rfl (q0 := 0) rfl, (fun U hU hW => ⟨rfl, xPre_of hZ hS hFc hP hD hK U hU hW⟩)⟩ rfl rfl hl.1 rfl (xm_room (Nat.le_of_ble_eq_true rfl)) dM_print1_147 ⟨hm47.1, hm47.2⟩) hS (fun q _ h => hFc q h) hFc (fun u9 t H1 locs ht hvm hr9 hB hz1 hk1 hS => ?_)
                      obtain ⟨hP1, hK1, hD1⟩ := hB
                      rw [ht] at hP1
                      obtain ⟨ad49, gd50, vad51⟩ := u9
                      obtain ⟨hv52, hn53⟩ := hr9
                      have hP : va_P D xcl (xMw cT aM ad49 rd gd50 vad51 o43.2.2.2 []) H1 := hP1
                      have hD : va_D A (xMw cT aM ad49 rd gd50 vad51 o43.2.2.2 []) := hD1.weaken (fun k q _ h => hFc q.1 h)
                      generalize H1 = H at hP hS ⊢
                      have hE9 : ∀ p, p < xct st → vad51 p = vad p := fun p h => (hv52 p (Nat.lt_of_lt_of_le h hN)).trans (hE p h)
                      have hE := hE9
                      have hN : xct st ≤ xct o43.2.2.2 := Nat.le_trans hN hn53
                      have ev54 : xv vad36 y1 = xv vad51 y1 := xvE hv52 hg46
                      have hl : lv_has ls 3 [(2, .int y2), (0, .ref aM), (1, xv vad51 y1)] := by first | exact hl | ((try (rw [← ev54])); exact hl)
                      refine W.eq (g2 := F0 m 150 ls []) (by first | rfl | ((try (rw [ev54])); rfl)) ?_
                      refine lv_iinc (v := (y2 + 1)) (lv' := [(2, .int (y2 + 1)), (0, .ref aM), (1, xv vad51 y1)]) hx hb dM_print1_150 hl (k := 0) rfl rfl (by decide) (by simp only [List.filter, xvcat, xrscat, xcI, xcL, xcR, xcN]; rfl) (fun ls hl => ?_)
                      refine lv_goto (tgt := 97) hx hb dM_print1_153 (by decide) ?_
                      exact ih (1, (y2 + 1), y1, o43.2.2.2, ((((wc + o2.2.1) + o17.2.1) + o28.2.1) + o43.2.1), ((((wn + o2.2.2.1) + o17.2.2.1) + o28.2.2.1) + o43.2.2.1)) _ _ ls (⟨ad49, gd50, vad51, rfl, hf, hP, hD, hS, lv_sub hl [0, 1, 2] rfl, hE, hN⟩)
                    rw [if_neg hk45] at hf
                    by_cases hk55 : o43.1 = 1
                    · rw [if_pos hk55] at hf
                      obtain ⟨hg56, hf⟩ := xifn hf
                      obtain ⟨hm57, hf⟩ := xmoE hf
                      have hFc := xm_free hD hS hA
                      refine xx_thr (vx_runV (C := "ValueBenchModel") (As := [xv vad36 o40]) (rest := []) ⟨hx, hb, hml, hown, htx⟩ ((hrec H.size aM ad34 rd gd35 vad36 o28.2.2.2 o40 o43 hq44).2 hk55) ⟨callB_of 1 htx (xw_goodC kw_6_128) rfl rfl rfl (htx _ kw_1_5) (htx _ kw_6_125) ⟨by decide, by decide, by decide +kernel⟩ ⟨(by show (16 * d) + 1 ≤ 16 * (d + 1); omega), (by show 8 + (3 + 11) + (400 * d) ≤ 400 * (d + 1); omega)⟩, (htx _ kw_6_127), (htx _ kp_M_print1)⟩ ⟨xPre_blind, va_recv hK hP (ci := 5) rfl (q0 := 0) rfl, (fun U hU hW => ⟨rfl, xPre_of hZ hS hFc hP hD hK U hU hW⟩)⟩ rfl rfl hl.1 rfl (xm_room (Nat.le_of_ble_eq_true rfl)) dM_print1_147 ⟨hm57.1, hm57.2⟩) hS hFc (fun q _ h => hFc q h) (fun E ce q9 u9 t H1 locs ht hvm hr9 hB hz1 hk1 hS hce hcv hcl => ?_)
                      obtain ⟨rfl, hP1, hK1, hD1⟩ := hB
                      rw [ht] at hP1
                      obtain ⟨ad59, gd60, vad61⟩ := u9
                      obtain ⟨hv62, hn63⟩ := hr9
                      have hP : va_P D xcl (xMw cT aM ad59 rd gd60 vad61 o43.2.2.2 []) H1 := hP1
                      have hD : va_D A (xMw cT aM ad59 rd gd60 vad61 o43.2.2.2 []) := hD1.weaken (fun k q _ h => hFc q.1 h)
                      generalize H1 = H at hP hS hce ⊢
                      have hE9 : ∀ p, p < xct st → vad61 p = vad p := fun p h => (hv62 p (Nat.lt_of_lt_of_le h hN)).trans (hE p h)
                      have hE := hE9
                      have hN : xct st ≤ xct o43.2.2.2 := Nat.le_trans hN hn63
                      have ev64 : xv vad36 y1 = xv vad61 y1 := xvE hv62 hg56
                      have hl : lv_has ls 3 [(2, .int y2), (0, .ref aM), (1, xv vad61 y1)] := by first | exact hl | ((try (rw [← ev64])); exact hl)
                      obtain rfl := Option.some.inj hf
                      exact vx_out (E := "java/lang/IndexOutOfBoundsException") (fun x h => (hne x h).elim) hlocks hce hcv hcl (fun t ht ha => ⟨(ad59, gd60, vad61), ⟨hE, hN⟩, ⟨rfl, by rw [ht]; exact hP, va_K.moved ha hK, hD⟩, hS.F ht⟩) hS.2.2 (Nat.le_refl _) (Nat.le_refl _)
                    rw [if_neg hk55] at hf
                    exact nomatch hf
                  rw [if_neg hk30] at hf
                  by_cases hk65 : o28.1 = 1
                  · rw [if_pos hk65] at hf
                    obtain ⟨hg66, hf⟩ := xifn hf
                    obtain ⟨hm67, hf⟩ := xmoE hf
                    have hFc := xm_free hD hS hA
                    refine xx_thr (vx_runV (C := "ValueBenchModel") (As := [.int 58]) (rest := []) ⟨hx, hb, hml, hown, htx⟩ (gM_put0_1 l hl9 D cT aK aV H.size n aM ad22 rd gd23 vad24 o17.2.2.2 (58 : Int32) o28 hq29 hk65) ⟨callB_of 1 htx (xw_goodC kw_6_136) rfl rfl rfl (htx _ kw_1_5) (htx _ kw_6_133) ⟨by decide, by decide, by decide +kernel⟩ ⟨Nat.le_of_ble_eq_true rfl, Nat.le_of_ble_eq_true rfl⟩, (htx _ kw_6_135), (htx _ kp_M_put0)⟩ ⟨xPre_blind, va_recv hK hP (ci := 5) rfl (q0 := 0) rfl, (fun U hU hW => ⟨rfl, xPre_of hZ hS hFc hP hD hK U hU hW⟩)⟩ rfl rfl hl.1 rfl (xm_room (Nat.le_of_ble_eq_true rfl)) dM_print1_137 ⟨hm67.1, hm67.2⟩) hS hFc (fun q _ h => hFc q h) (fun E ce q9 u9 t H1 locs ht hvm hr9 hB hz1 hk1 hS hce hcv hcl => ?_)
                    obtain ⟨rfl, hP1, hK1, hD1⟩ := hB
                    rw [ht] at hP1
                    obtain ⟨ad69, gd70, vad71⟩ := u9
                    obtain ⟨hv72, hn73⟩ := hr9
                    have hP : va_P D xcl (xMw cT aM ad69 rd gd70 vad71 o28.2.2.2 []) H1 := hP1
                    have hD : va_D A (xMw cT aM ad69 rd gd70 vad71 o28.2.2.2 []) := hD1.weaken (fun k q _ h => hFc q.1 h)
                    generalize H1 = H at hP hS hce ⊢
                    have hE9 : ∀ p, p < xct st → vad71 p = vad p := fun p h => (hv72 p (Nat.lt_of_lt_of_le h hN)).trans (hE p h)
                    have hE := hE9
                    have hN : xct st ≤ xct o28.2.2.2 := Nat.le_trans hN hn73
                    have ev74 : xv vad24 y1 = xv vad71 y1 := xvE hv72 hg66
                    have hl : lv_has ls 3 [(2, .int y2), (0, .ref aM), (1, xv vad71 y1)] := by first | exact hl | ((try (rw [← ev74])); exact hl)
                    obtain rfl := Option.some.inj hf
                    exact vx_out (E := "java/lang/IndexOutOfBoundsException") (fun x h => (hne x h).elim) hlocks hce hcv hcl (fun t ht ha => ⟨(ad69, gd70, vad71), ⟨hE, hN⟩, ⟨rfl, by rw [ht]; exact hP, va_K.moved ha hK, hD⟩, hS.F ht⟩) hS.2.2 (Nat.le_refl _) (Nat.le_refl _)
                  rw [if_neg hk65] at hf
                  exact nomatch hf
                rw [if_neg hk19] at hf
                by_cases hk75 : o17.1 = 1
                · rw [if_pos hk75] at hf
                  obtain ⟨hm76, hf⟩ := xmoE hf
                  have hFc := xm_free hD hS hA
                  refine xx_thr (vx_runV (C := "ValueBenchModel") (As := [xv vad9 o14]) (rest := []) ⟨hx, hb, hml, hown, htx⟩ (gM_putString_1 l hl9 D cT aK aV H.size n aM ad7 rd gd8 vad9 o2.2.2.2 o14 o17 hq18 hk75) ⟨callB_of 1 htx (xw_goodC kw_6_145) rfl rfl rfl (htx _ kw_1_5) (htx _ kw_6_142) ⟨by decide, by decide, by decide +kernel⟩ ⟨Nat.le_of_ble_eq_true rfl, Nat.le_of_ble_eq_true rfl⟩, (htx _ kw_6_144), (htx _ kp_M_putString)⟩ ⟨xPre_blind, va_recv hK hP (ci := 5) rfl (q0 := 0) rfl, (fun U hU hW => ⟨rfl, xPre_of hZ hS hFc hP hD hK U hU hW⟩)⟩ rfl rfl hl.1 rfl (xm_room (Nat.le_of_ble_eq_true rfl)) dM_print1_131 ⟨hm76.1, hm76.2⟩) hS hFc (fun q _ h => hFc q h) (fun E ce q9 u9 t H1 locs ht hvm hr9 hB hz1 hk1 hS hce hcv hcl => ?_)
                  obtain ⟨rfl, hP1, hK1, hD1⟩ := hB
                  rw [ht] at hP1
                  obtain ⟨ad78, gd79, vad80⟩ := u9
                  obtain ⟨hv81, hn82⟩ := hr9
                  have hP : va_P D xcl (xMw cT aM ad78 rd gd79 vad80 o17.2.2.2 []) H1 := hP1
                  have hD : va_D A (xMw cT aM ad78 rd gd79 vad80 o17.2.2.2 []) := hD1.weaken (fun k q _ h => hFc q.1 h)
                  generalize H1 = H at hP hS hce ⊢
                  have hE9 : ∀ p, p < xct st → vad80 p = vad p := fun p h => (hv81 p (Nat.lt_of_lt_of_le h hN)).trans (hE p h)
                  have hE := hE9
                  have hN : xct st ≤ xct o17.2.2.2 := Nat.le_trans hN hn82
                  have ev83 : xv vad9 y1 = xv vad80 y1 := xvE hv81 (fun h => hg13 (Or.inr h))
                  have hl : lv_has ls 3 [(2, .int y2), (0, .ref aM), (1, xv vad80 y1)] := by first | exact hl | ((try (rw [← ev83])); exact hl)
                  obtain rfl := Option.some.inj hf
                  exact vx_out (E := "java/lang/IndexOutOfBoundsException") (fun x h => (hne x h).elim) hlocks hce hcv hcl (fun t ht ha => ⟨(ad78, gd79, vad80), ⟨hE, hN⟩, ⟨rfl, by rw [ht]; exact hP, va_K.moved ha hK, hD⟩, hS.F ht⟩) hS.2.2 (Nat.le_refl _) (Nat.le_refl _)
                rw [if_neg hk75] at hf
                exact nomatch hf
            rw [if_neg hk4] at hf
            by_cases hk14 : o2.1 = 1
            · rw [if_pos hk14] at hf
              obtain ⟨hm15, hf⟩ := xmoE hf
              have hFc := xm_free hD hS hA
              refine xx_thr (vx_runV (C := "ValueBenchModel") (As := [.int 44]) (rest := []) ⟨hx, hb, hml, hown, htx⟩ (gM_put0_1 l hl9 D cT aK aV H.size n aM adL rd gdL vadL ws9 (44 : Int32) o2 hq3 hk14) ⟨callB_of 1 htx (xw_goodC kw_6_136) rfl rfl rfl (htx _ kw_1_5) (htx _ kw_6_133) ⟨by decide, by decide, by decide +kernel⟩ ⟨Nat.le_of_ble_eq_true rfl, Nat.le_of_ble_eq_true rfl⟩, (htx _ kw_6_135), (htx _ kp_M_put0)⟩ ⟨xPre_blind, va_recv hK hP (ci := 5) rfl (q0 := 0) rfl, (fun U hU hW => ⟨rfl, xPre_of hZ hS hFc hP hD hK U hU hW⟩)⟩ rfl rfl hl.1 rfl (xm_room (Nat.le_of_ble_eq_true rfl)) dM_print1_112 ⟨hm15.1, hm15.2⟩) hS hFc (fun q _ h => hFc q h) (fun E ce q9 u9 t H1 locs ht hvm hr9 hB hz1 hk1 hS hce hcv hcl => ?_)
              obtain ⟨rfl, hP1, hK1, hD1⟩ := hB
              rw [ht] at hP1
              obtain ⟨ad17, gd18, vad19⟩ := u9
              obtain ⟨hv20, hn21⟩ := hr9
              have hP : va_P D xcl (xMw cT aM ad17 rd gd18 vad19 o2.2.2.2 []) H1 := hP1
              have hD : va_D A (xMw cT aM ad17 rd gd18 vad19 o2.2.2.2 []) := hD1.weaken (fun k q _ h => hFc q.1 h)
              generalize H1 = H at hP hS hce ⊢
              have hE9 : ∀ p, p < xct st → vad19 p = vad p := fun p h => (hv20 p (Nat.lt_of_lt_of_le h hN)).trans (hE p h)
              have hE := hE9
              have hN : xct st ≤ xct o2.2.2.2 := Nat.le_trans hN hn21
              have ev22 : xv vadL y1 = xv vad19 y1 := xvE hv20 (fun h => hg1 (Or.inr h))
              have hl : lv_has ls 3 [(2, .int y2), (0, .ref aM), (1, xv vad19 y1)] := by first | exact hl | ((try (rw [← ev22])); exact hl)
              obtain rfl := Option.some.inj hf
              exact vx_out (E := "java/lang/IndexOutOfBoundsException") (fun x h => (hne x h).elim) hlocks hce hcv hcl (fun t ht ha => ⟨(ad17, gd18, vad19), ⟨hE, hN⟩, ⟨rfl, by rw [ht]; exact hP, va_K.moved ha hK, hD⟩, hS.F ht⟩) hS.2.2 (Nat.le_refl _) (Nat.le_refl _)
            rw [if_neg hk14] at hf
            exact nomatch hf
      refine xm_aload_n hx hb (xvor _ _) dM_print1_0 rfl (lv_at hl 1 rfl) ?_
      obtain ⟨hg1, hf⟩ := xifn hf
      refine xm_vget (v := .int ((xpi st 0) (c0 - 1))) hx hb htx hown hK hP 0 (by decide) hg1 rfl ((hZ.1 (93, "kind", "I") (List.mem_of_getElem? (i := 0) rfl)).use rfl) rfl dM_print1_1 ?_
      by_cases hc2 : ((xpi st 0) (c0 - 1)) = 0
      · rw [if_pos hc2] at hf
        refine lv_tableIn (off := 36) (tgt := 40) hx hb dM_print1_4 (by rw [hc2]; decide) (by rw [hc2]; decide) (by rw [hc2]; decide) (by decide) ?_
        refine lv_aload_n hx hb dM_print1_40 rfl (lv_at hl 0 rfl) ?_
        refine va_ldcS (q := aK 10) hx hb hown (hZ.2.2.2.2.2.2.2.2.1 ("ValueBenchModel", 69, "null", 10) (List.mem_of_getElem? (i := 17) rfl)) dM_print1_41 ?_
        obtain ⟨o3, hq4, hf⟩ := xbind hf
        have hl := lv_sub (l' := [(0, .ref aM)]) hl [0] rfl
        by_cases hk5 : o3.1 = 0
        · rw [if_pos hk5] at hf
          obtain ⟨hm6, hf⟩ := xmoE hf
          have hFc := xm_free hD hS hA
          refine va_callv (va_runV (C := "ValueBenchModel") (As := [.ref (aK 10)]) (rest := []) ⟨hx, hb, hml, hown, htx⟩ (gM_put1 l hl9 D cT aK aV s.heap.size n aM ad rd gd vad st o3 hq4 hk5) ⟨callB_of 1 htx (xw_goodC kw_6_132) rfl rfl rfl (htx _ kw_1_5) (htx _ kw_6_129) ⟨by decide, by decide, by decide +kernel⟩ ⟨Nat.le_of_ble_eq_true rfl, Nat.le_of_ble_eq_true rfl⟩, (htx _ kw_6_131), (htx _ kp_M_put1)⟩ ⟨xPre_blind, va_recv hK hP (ci := 5) rfl (q0 := 0) rfl, (fun U hU hW => ⟨rfl, xPre_of hZ hS hFc hP hD hK U hU hW⟩)⟩ rfl rfl hl.1 rfl (xm_room (Nat.le_of_ble_eq_true rfl)) dM_print1_43 ⟨hm6.1, hm6.2⟩) hS (fun q _ h => hFc q h) hFc (fun u9 t H1 locs ht hvm hr9 hB hz1 hk1 hS => ?_)
          obtain ⟨hP1, hK1, hD1⟩ := hB
          rw [ht] at hP1
          obtain ⟨ad8, gd9, vad10⟩ := u9
          obtain ⟨hv11, hn12⟩ := hr9
          have hP : va_P D xcl (xMw cT aM ad8 rd gd9 vad10 o3.2.2.2 []) H1 := hP1
          have hD : va_D A (xMw cT aM ad8 rd gd9 vad10 o3.2.2.2 []) := hD1.weaken (fun k q _ h => hFc q.1 h)
          generalize H1 = H at hP hS ⊢
          have hE9 : ∀ p, p < xct st → vad10 p = vad p := fun p h => (hv11 p (Nat.lt_of_lt_of_le h hN)).trans (hE p h)
          have hE := hE9
          have hN : xct st ≤ xct o3.2.2.2 := Nat.le_trans hN hn12
          refine W.eq (g2 := F0 m 46 ls []) (by first | rfl | (skip; rfl)) ?_
          obtain rfl := Option.some.inj hf
          exact absurd (show (0 : Nat) = 1 from hkd) (by decide)
        rw [if_neg hk5] at hf
        by_cases hk13 : o3.1 = 1
        · rw [if_pos hk13] at hf
          obtain ⟨hm14, hf⟩ := xmoE hf
          have hFc := xm_free hD hS hA
          refine xx_thr (vx_runV (C := "ValueBenchModel") (As := [.ref (aK 10)]) (rest := []) ⟨hx, hb, hml, hown, htx⟩ (gM_put1_1 l hl9 D cT aK aV s.heap.size n aM ad rd gd vad st o3 hq4 hk13) ⟨callB_of 1 htx (xw_goodC kw_6_132) rfl rfl rfl (htx _ kw_1_5) (htx _ kw_6_129) ⟨by decide, by decide, by decide +kernel⟩ ⟨Nat.le_of_ble_eq_true rfl, Nat.le_of_ble_eq_true rfl⟩, (htx _ kw_6_131), (htx _ kp_M_put1)⟩ ⟨xPre_blind, va_recv hK hP (ci := 5) rfl (q0 := 0) rfl, (fun U hU hW => ⟨rfl, xPre_of hZ hS hFc hP hD hK U hU hW⟩)⟩ rfl rfl hl.1 rfl (xm_room (Nat.le_of_ble_eq_true rfl)) dM_print1_43 ⟨hm14.1, hm14.2⟩) hS hFc (fun q _ h => hFc q h) (fun E ce q9 u9 t H1 locs ht hvm hr9 hB hz1 hk1 hS hce hcv hcl => ?_)
          obtain ⟨rfl, hP1, hK1, hD1⟩ := hB
          rw [ht] at hP1
          obtain ⟨ad16, gd17, vad18⟩ := u9
          obtain ⟨hv19, hn20⟩ := hr9
          have hP : va_P D xcl (xMw cT aM ad16 rd gd17 vad18 o3.2.2.2 []) H1 := hP1
          have hD : va_D A (xMw cT aM ad16 rd gd17 vad18 o3.2.2.2 []) := hD1.weaken (fun k q _ h => hFc q.1 h)
          generalize H1 = H at hP hS hce ⊢
          have hE9 : ∀ p, p < xct st → vad18 p = vad p := fun p h => (hv19 p (Nat.lt_of_lt_of_le h hN)).trans (hE p h)
          have hE := hE9
          have hN : xct st ≤ xct o3.2.2.2 := Nat.le_trans hN hn20
          obtain rfl := Option.some.inj hf
          exact vx_out (E := "java/lang/IndexOutOfBoundsException") (fun x h => (hne x h).elim) hlocks hce hcv hcl (fun t ht ha => ⟨(ad16, gd17, vad18), ⟨hE, hN⟩, ⟨rfl, by rw [ht]; exact hP, va_K.moved ha hK, hD⟩, hS.F ht⟩) hS.2.2 (Nat.le_refl _) (Nat.le_refl _)
        rw [if_neg hk13] at hf
        exact nomatch hf
      rw [if_neg hc2] at hf
      by_cases hc21 : ((xpi st 0) (c0 - 1)) = 1
      · rw [if_pos hc21] at hf
        refine lv_tableIn (off := 43) (tgt := 47) hx hb dM_print1_4 (by rw [hc21]; decide) (by rw [hc21]; decide) (by rw [hc21]; decide) (by decide) ?_
        refine lv_aload_n hx hb dM_print1_47 rfl (lv_at hl 0 rfl) ?_
        refine va_ldcS (q := aK 11) hx hb hown (hZ.2.2.2.2.2.2.2.2.1 ("ValueBenchModel", 238, "false", 11) (List.mem_of_getElem? (i := 19) rfl)) dM_print1_48 ?_
        obtain ⟨o22, hq23, hf⟩ := xbind hf
        have hl := lv_sub (l' := [(0, .ref aM)]) hl [0] rfl
        by_cases hk24 : o22.1 = 0
        · rw [if_pos hk24] at hf
          obtain ⟨hm25, hf⟩ := xmoE hf
          have hFc := xm_free hD hS hA
          refine va_callv (va_runV (C := "ValueBenchModel") (As := [.ref (aK 11)]) (rest := []) ⟨hx, hb, hml, hown, htx⟩ (gM_put1a l hl9 D cT aK aV s.heap.size n aM ad rd gd vad st o22 hq23 hk24) ⟨callB_of 1 htx (xw_goodC kw_6_132) rfl rfl rfl (htx _ kw_1_5) (htx _ kw_6_129) ⟨by decide, by decide, by decide +kernel⟩ ⟨Nat.le_of_ble_eq_true rfl, Nat.le_of_ble_eq_true rfl⟩, (htx _ kw_6_131), (htx _ kp_M_put1)⟩ ⟨xPre_blind, va_recv hK hP (ci := 5) rfl (q0 := 0) rfl, (fun U hU hW => ⟨rfl, xPre_of hZ hS hFc hP hD hK U hU hW⟩)⟩ rfl rfl hl.1 rfl (xm_room (Nat.le_of_ble_eq_true rfl)) dM_print1_50 ⟨hm25.1, hm25.2⟩) hS (fun q _ h => hFc q h) hFc (fun u9 t H1 locs ht hvm hr9 hB hz1 hk1 hS => ?_)
          obtain ⟨hP1, hK1, hD1⟩ := hB
          rw [ht] at hP1
          obtain ⟨ad27, gd28, vad29⟩ := u9
          obtain ⟨hv30, hn31⟩ := hr9
          have hP : va_P D xcl (xMw cT aM ad27 rd gd28 vad29 o22.2.2.2 []) H1 := hP1
          have hD : va_D A (xMw cT aM ad27 rd gd28 vad29 o22.2.2.2 []) := hD1.weaken (fun k q _ h => hFc q.1 h)
          generalize H1 = H at hP hS ⊢
          have hE9 : ∀ p, p < xct st → vad29 p = vad p := fun p h => (hv30 p (Nat.lt_of_lt_of_le h hN)).trans (hE p h)
          have hE := hE9
          have hN : xct st ≤ xct o22.2.2.2 := Nat.le_trans hN hn31
          refine W.eq (g2 := F0 m 53 ls []) (by first | rfl | (skip; rfl)) ?_
          obtain rfl := Option.some.inj hf
          exact absurd (show (0 : Nat) = 1 from hkd) (by decide)
        rw [if_neg hk24] at hf
        by_cases hk32 : o22.1 = 1
        · rw [if_pos hk32] at hf
          obtain ⟨hm33, hf⟩ := xmoE hf
          have hFc := xm_free hD hS hA
          refine xx_thr (vx_runV (C := "ValueBenchModel") (As := [.ref (aK 11)]) (rest := []) ⟨hx, hb, hml, hown, htx⟩ (gM_put1a_1 l hl9 D cT aK aV s.heap.size n aM ad rd gd vad st o22 hq23 hk32) ⟨callB_of 1 htx (xw_goodC kw_6_132) rfl rfl rfl (htx _ kw_1_5) (htx _ kw_6_129) ⟨by decide, by decide, by decide +kernel⟩ ⟨Nat.le_of_ble_eq_true rfl, Nat.le_of_ble_eq_true rfl⟩, (htx _ kw_6_131), (htx _ kp_M_put1)⟩ ⟨xPre_blind, va_recv hK hP (ci := 5) rfl (q0 := 0) rfl, (fun U hU hW => ⟨rfl, xPre_of hZ hS hFc hP hD hK U hU hW⟩)⟩ rfl rfl hl.1 rfl (xm_room (Nat.le_of_ble_eq_true rfl)) dM_print1_50 ⟨hm33.1, hm33.2⟩) hS hFc (fun q _ h => hFc q h) (fun E ce q9 u9 t H1 locs ht hvm hr9 hB hz1 hk1 hS hce hcv hcl => ?_)
          obtain ⟨rfl, hP1, hK1, hD1⟩ := hB
          rw [ht] at hP1
          obtain ⟨ad35, gd36, vad37⟩ := u9
          obtain ⟨hv38, hn39⟩ := hr9
          have hP : va_P D xcl (xMw cT aM ad35 rd gd36 vad37 o22.2.2.2 []) H1 := hP1
          have hD : va_D A (xMw cT aM ad35 rd gd36 vad37 o22.2.2.2 []) := hD1.weaken (fun k q _ h => hFc q.1 h)
          generalize H1 = H at hP hS hce ⊢
          have hE9 : ∀ p, p < xct st → vad37 p = vad p := fun p h => (hv38 p (Nat.lt_of_lt_of_le h hN)).trans (hE p h)
          have hE := hE9
          have hN : xct st ≤ xct o22.2.2.2 := Nat.le_trans hN hn39
          obtain rfl := Option.some.inj hf
          exact vx_out (E := "java/lang/IndexOutOfBoundsException") (fun x h => (hne x h).elim) hlocks hce hcv hcl (fun t ht ha => ⟨(ad35, gd36, vad37), ⟨hE, hN⟩, ⟨rfl, by rw [ht]; exact hP, va_K.moved ha hK, hD⟩, hS.F ht⟩) hS.2.2 (Nat.le_refl _) (Nat.le_refl _)
        rw [if_neg hk32] at hf
        exact nomatch hf
      rw [if_neg hc21] at hf
      by_cases hc40 : ((xpi st 0) (c0 - 1)) = 2
      · rw [if_pos hc40] at hf
        refine lv_tableIn (off := 50) (tgt := 54) hx hb dM_print1_4 (by rw [hc40]; decide) (by rw [hc40]; decide) (by rw [hc40]; decide) (by decide) ?_
        refine lv_aload_n hx hb dM_print1_54 rfl (lv_at hl 0 rfl) ?_
        refine va_ldcS (q := aK 12) hx hb hown (hZ.2.2.2.2.2.2.2.2.1 ("ValueBenchModel", 236, "true", 12) (List.mem_of_getElem? (i := 18) rfl)) dM_print1_55 ?_
        obtain ⟨o41, hq42, hf⟩ := xbind hf
        have hl := lv_sub (l' := [(0, .ref aM)]) hl [0] rfl
        by_cases hk43 : o41.1 = 0
        · rw [if_pos hk43] at hf
          obtain ⟨hm44, hf⟩ := xmoE hf
          have hFc := xm_free hD hS hA
          refine va_callv (va_runV (C := "ValueBenchModel") (As := [.ref (aK 12)]) (rest := []) ⟨hx, hb, hml, hown, htx⟩ (gM_put1b l hl9 D cT aK aV s.heap.size n aM ad rd gd vad st o41 hq42 hk43) ⟨callB_of 1 htx (xw_goodC kw_6_132) rfl rfl rfl (htx _ kw_1_5) (htx _ kw_6_129) ⟨by decide, by decide, by decide +kernel⟩ ⟨Nat.le_of_ble_eq_true rfl, Nat.le_of_ble_eq_true rfl⟩, (htx _ kw_6_131), (htx _ kp_M_put1)⟩ ⟨xPre_blind, va_recv hK hP (ci := 5) rfl (q0 := 0) rfl, (fun U hU hW => ⟨rfl, xPre_of hZ hS hFc hP hD hK U hU hW⟩)⟩ rfl rfl hl.1 rfl (xm_room (Nat.le_of_ble_eq_true rfl)) dM_print1_57 ⟨hm44.1, hm44.2⟩) hS (fun q _ h => hFc q h) hFc (fun u9 t H1 locs ht hvm hr9 hB hz1 hk1 hS => ?_)
          obtain ⟨hP1, hK1, hD1⟩ := hB
          rw [ht] at hP1
          obtain ⟨ad46, gd47, vad48⟩ := u9
          obtain ⟨hv49, hn50⟩ := hr9
          have hP : va_P D xcl (xMw cT aM ad46 rd gd47 vad48 o41.2.2.2 []) H1 := hP1
          have hD : va_D A (xMw cT aM ad46 rd gd47 vad48 o41.2.2.2 []) := hD1.weaken (fun k q _ h => hFc q.1 h)
          generalize H1 = H at hP hS ⊢
          have hE9 : ∀ p, p < xct st → vad48 p = vad p := fun p h => (hv49 p (Nat.lt_of_lt_of_le h hN)).trans (hE p h)
          have hE := hE9
          have hN : xct st ≤ xct o41.2.2.2 := Nat.le_trans hN hn50
          refine W.eq (g2 := F0 m 60 ls []) (by first | rfl | (skip; rfl)) ?_
          obtain rfl := Option.some.inj hf
          exact absurd (show (0 : Nat) = 1 from hkd) (by decide)
        rw [if_neg hk43] at hf
        by_cases hk51 : o41.1 = 1
        · rw [if_pos hk51] at hf
          obtain ⟨hm52, hf⟩ := xmoE hf
          have hFc := xm_free hD hS hA
          refine xx_thr (vx_runV (C := "ValueBenchModel") (As := [.ref (aK 12)]) (rest := []) ⟨hx, hb, hml, hown, htx⟩ (gM_put1b_1 l hl9 D cT aK aV s.heap.size n aM ad rd gd vad st o41 hq42 hk51) ⟨callB_of 1 htx (xw_goodC kw_6_132) rfl rfl rfl (htx _ kw_1_5) (htx _ kw_6_129) ⟨by decide, by decide, by decide +kernel⟩ ⟨Nat.le_of_ble_eq_true rfl, Nat.le_of_ble_eq_true rfl⟩, (htx _ kw_6_131), (htx _ kp_M_put1)⟩ ⟨xPre_blind, va_recv hK hP (ci := 5) rfl (q0 := 0) rfl, (fun U hU hW => ⟨rfl, xPre_of hZ hS hFc hP hD hK U hU hW⟩)⟩ rfl rfl hl.1 rfl (xm_room (Nat.le_of_ble_eq_true rfl)) dM_print1_57 ⟨hm52.1, hm52.2⟩) hS hFc (fun q _ h => hFc q h) (fun E ce q9 u9 t H1 locs ht hvm hr9 hB hz1 hk1 hS hce hcv hcl => ?_)
          obtain ⟨rfl, hP1, hK1, hD1⟩ := hB
          rw [ht] at hP1
          obtain ⟨ad54, gd55, vad56⟩ := u9
          obtain ⟨hv57, hn58⟩ := hr9
          have hP : va_P D xcl (xMw cT aM ad54 rd gd55 vad56 o41.2.2.2 []) H1 := hP1
          have hD : va_D A (xMw cT aM ad54 rd gd55 vad56 o41.2.2.2 []) := hD1.weaken (fun k q _ h => hFc q.1 h)
          generalize H1 = H at hP hS hce ⊢
          have hE9 : ∀ p, p < xct st → vad56 p = vad p := fun p h => (hv57 p (Nat.lt_of_lt_of_le h hN)).trans (hE p h)
          have hE := hE9
          have hN : xct st ≤ xct o41.2.2.2 := Nat.le_trans hN hn58
          obtain rfl := Option.some.inj hf
          exact vx_out (E := "java/lang/IndexOutOfBoundsException") (fun x h => (hne x h).elim) hlocks hce hcv hcl (fun t ht ha => ⟨(ad54, gd55, vad56), ⟨hE, hN⟩, ⟨rfl, by rw [ht]; exact hP, va_K.moved ha hK, hD⟩, hS.F ht⟩) hS.2.2 (Nat.le_refl _) (Nat.le_refl _)
        rw [if_neg hk51] at hf
        exact nomatch hf
      rw [if_neg hc40] at hf
      by_cases hc59 : ((xpi st 0) (c0 - 1)) = 3
      · rw [if_pos hc59] at hf
        refine lv_tableIn (off := 57) (tgt := 61) hx hb dM_print1_4 (by rw [hc59]; decide) (by rw [hc59]; decide) (by rw [hc59]; decide) (by decide) ?_
        refine lv_aload_n hx hb dM_print1_61 rfl (lv_at hl 0 rfl) ?_
        refine xm_aload_n hx hb (xvor _ _) dM_print1_62 rfl (lv_at hl 1 rfl) ?_
        refine xm_vget (v := .long ((xpl st) (c0 - 1))) hx hb htx hown hK hP 1 (by decide) hg1 rfl ((hZ.1 (96, "n", "J") (List.mem_of_getElem? (i := 1) rfl)).use rfl) rfl dM_print1_63 ?_
        obtain ⟨o60, hq61, hf⟩ := xbind hf
        have hl := lv_sub (l' := [(0, .ref aM)]) hl [0] rfl
        by_cases hk62 : o60.1 = 0
        · rw [if_pos hk62] at hf
          obtain ⟨hm63, hf⟩ := xmoE hf
          have hFc := xm_free hD hS hA
          refine va_callv (va_runV (C := "ValueBenchModel") (As := [.long ((xpl st) (c0 - 1))]) (rest := []) ⟨hx, hb, hml, hown, htx⟩ (gM_putNumber l hl9 D cT aK aV s.heap.size n aM ad rd gd vad st ((xpl st) (c0 - 1)) o60 hq61 hk62) ⟨callB_of 1 htx (xw_goodC kw_6_140) rfl rfl rfl (htx _ kw_1_5) (htx _ kw_6_137) ⟨by decide, by decide, by decide +kernel⟩ ⟨Nat.le_of_ble_eq_true rfl, Nat.le_of_ble_eq_true rfl⟩, (htx _ kw_6_139), (htx _ kp_M_putNumber)⟩ ⟨xPre_blind, va_recv hK hP (ci := 5) rfl (q0 := 0) rfl, (fun U hU hW => ⟨rfl, xPre_of hZ hS hFc hP hD hK U hU hW⟩)⟩ rfl rfl hl.1 rfl (xm_room (Nat.le_of_ble_eq_true rfl)) dM_print1_66 ⟨hm63.1, hm63.2⟩) hS (fun q _ h => hFc q h) hFc (fun u9 t H1 locs ht hvm hr9 hB hz1 hk1 hS => ?_)
          obtain ⟨hP1, hK1, hD1⟩ := hB
          rw [ht] at hP1
          obtain ⟨ad65, gd66, vad67⟩ := u9
          obtain ⟨hv68, hn69⟩ := hr9
          have hP : va_P D xcl (xMw cT aM ad65 rd gd66 vad67 o60.2.2.2 []) H1 := hP1
          have hD : va_D A (xMw cT aM ad65 rd gd66 vad67 o60.2.2.2 []) := hD1.weaken (fun k q _ h => hFc q.1 h)
          generalize H1 = H at hP hS ⊢
          have hE9 : ∀ p, p < xct st → vad67 p = vad p := fun p h => (hv68 p (Nat.lt_of_lt_of_le h hN)).trans (hE p h)
          have hE := hE9
          have hN : xct st ≤ xct o60.2.2.2 := Nat.le_trans hN hn69
          refine W.eq (g2 := F0 m 69 ls []) (by first | rfl | (skip; rfl)) ?_
          obtain rfl := Option.some.inj hf
          exact absurd (show (0 : Nat) = 1 from hkd) (by decide)
        rw [if_neg hk62] at hf
        by_cases hk70 : o60.1 = 1
        · rw [if_pos hk70] at hf
          obtain ⟨hm71, hf⟩ := xmoE hf
          have hFc := xm_free hD hS hA
          refine xx_thr (vx_runV (C := "ValueBenchModel") (As := [.long ((xpl st) (c0 - 1))]) (rest := []) ⟨hx, hb, hml, hown, htx⟩ (gM_putNumber_1 l hl9 D cT aK aV s.heap.size n aM ad rd gd vad st ((xpl st) (c0 - 1)) o60 hq61 hk70) ⟨callB_of 1 htx (xw_goodC kw_6_140) rfl rfl rfl (htx _ kw_1_5) (htx _ kw_6_137) ⟨by decide, by decide, by decide +kernel⟩ ⟨Nat.le_of_ble_eq_true rfl, Nat.le_of_ble_eq_true rfl⟩, (htx _ kw_6_139), (htx _ kp_M_putNumber)⟩ ⟨xPre_blind, va_recv hK hP (ci := 5) rfl (q0 := 0) rfl, (fun U hU hW => ⟨rfl, xPre_of hZ hS hFc hP hD hK U hU hW⟩)⟩ rfl rfl hl.1 rfl (xm_room (Nat.le_of_ble_eq_true rfl)) dM_print1_66 ⟨hm71.1, hm71.2⟩) hS hFc (fun q _ h => hFc q h) (fun E ce q9 u9 t H1 locs ht hvm hr9 hB hz1 hk1 hS hce hcv hcl => ?_)
          obtain ⟨rfl, hP1, hK1, hD1⟩ := hB
          rw [ht] at hP1
          obtain ⟨ad73, gd74, vad75⟩ := u9
          obtain ⟨hv76, hn77⟩ := hr9
          have hP : va_P D xcl (xMw cT aM ad73 rd gd74 vad75 o60.2.2.2 []) H1 := hP1
          have hD : va_D A (xMw cT aM ad73 rd gd74 vad75 o60.2.2.2 []) := hD1.weaken (fun k q _ h => hFc q.1 h)
          generalize H1 = H at hP hS hce ⊢
          have hE9 : ∀ p, p < xct st → vad75 p = vad p := fun p h => (hv76 p (Nat.lt_of_lt_of_le h hN)).trans (hE p h)
          have hE := hE9
          have hN : xct st ≤ xct o60.2.2.2 := Nat.le_trans hN hn77
          obtain rfl := Option.some.inj hf
          exact vx_out (E := "java/lang/IndexOutOfBoundsException") (fun x h => (hne x h).elim) hlocks hce hcv hcl (fun t ht ha => ⟨(ad73, gd74, vad75), ⟨hE, hN⟩, ⟨rfl, by rw [ht]; exact hP, va_K.moved ha hK, hD⟩, hS.F ht⟩) hS.2.2 (Nat.le_refl _) (Nat.le_refl _)
        rw [if_neg hk70] at hf
        exact nomatch hf
      rw [if_neg hc59] at hf
      by_cases hc78 : ((xpi st 0) (c0 - 1)) = 4
      · rw [if_pos hc78] at hf
        refine lv_tableIn (off := 66) (tgt := 70) hx hb dM_print1_4 (by rw [hc78]; decide) (by rw [hc78]; decide) (by rw [hc78]; decide) (by decide) ?_
        refine lv_aload_n hx hb dM_print1_70 rfl (lv_at hl 0 rfl) ?_
        refine xm_aload_n hx hb (xvor _ _) dM_print1_71 rfl (lv_at hl 1 rfl) ?_
        obtain ⟨o79, hq80, hf⟩ := xbind hf
        have hl := lv_sub (l' := [(0, .ref aM)]) hl [0] rfl
        by_cases hk81 : o79.1 = 0
        · rw [if_pos hk81] at hf
          obtain ⟨hm82, hf⟩ := xmoE hf
          have hFc := xm_free hD hS hA
          refine va_callv (va_runV (C := "ValueBenchModel") (As := [xv vad c0]) (rest := []) ⟨hx, hb, hml, hown, htx⟩ (gM_putString l hl9 D cT aK aV s.heap.size n aM ad rd gd vad st c0 o79 hq80 hk81) ⟨callB_of 1 htx (xw_goodC kw_6_145) rfl rfl rfl (htx _ kw_1_5) (htx _ kw_6_142) ⟨by decide, by decide, by decide +kernel⟩ ⟨Nat.le_of_ble_eq_true rfl, Nat.le_of_ble_eq_true rfl⟩, (htx _ kw_6_144), (htx _ kp_M_putString)⟩ ⟨xPre_blind, va_recv hK hP (ci := 5) rfl (q0 := 0) rfl, (fun U hU hW => ⟨rfl, xPre_of hZ hS hFc hP hD hK U hU hW⟩)⟩ rfl rfl hl.1 rfl (xm_room (Nat.le_of_ble_eq_true rfl)) dM_print1_72 ⟨hm82.1, hm82.2⟩) hS (fun q _ h => hFc q h) hFc (fun u9 t H1 locs ht hvm hr9 hB hz1 hk1 hS => ?_)
          obtain ⟨hP1, hK1, hD1⟩ := hB
          rw [ht] at hP1
          obtain ⟨ad84, gd85, vad86⟩ := u9
          obtain ⟨hv87, hn88⟩ := hr9
          have hP : va_P D xcl (xMw cT aM ad84 rd gd85 vad86 o79.2.2.2 []) H1 := hP1
          have hD : va_D A (xMw cT aM ad84 rd gd85 vad86 o79.2.2.2 []) := hD1.weaken (fun k q _ h => hFc q.1 h)
          generalize H1 = H at hP hS ⊢
          have hE9 : ∀ p, p < xct st → vad86 p = vad p := fun p h => (hv87 p (Nat.lt_of_lt_of_le h hN)).trans (hE p h)
          have hE := hE9
          have hN : xct st ≤ xct o79.2.2.2 := Nat.le_trans hN hn88
          refine W.eq (g2 := F0 m 75 ls []) (by first | rfl | (skip; rfl)) ?_
          obtain rfl := Option.some.inj hf
          exact absurd (show (0 : Nat) = 1 from hkd) (by decide)
        rw [if_neg hk81] at hf
        by_cases hk89 : o79.1 = 1
        · rw [if_pos hk89] at hf
          obtain ⟨hm90, hf⟩ := xmoE hf
          have hFc := xm_free hD hS hA
          refine xx_thr (vx_runV (C := "ValueBenchModel") (As := [xv vad c0]) (rest := []) ⟨hx, hb, hml, hown, htx⟩ (gM_putString_1 l hl9 D cT aK aV s.heap.size n aM ad rd gd vad st c0 o79 hq80 hk89) ⟨callB_of 1 htx (xw_goodC kw_6_145) rfl rfl rfl (htx _ kw_1_5) (htx _ kw_6_142) ⟨by decide, by decide, by decide +kernel⟩ ⟨Nat.le_of_ble_eq_true rfl, Nat.le_of_ble_eq_true rfl⟩, (htx _ kw_6_144), (htx _ kp_M_putString)⟩ ⟨xPre_blind, va_recv hK hP (ci := 5) rfl (q0 := 0) rfl, (fun U hU hW => ⟨rfl, xPre_of hZ hS hFc hP hD hK U hU hW⟩)⟩ rfl rfl hl.1 rfl (xm_room (Nat.le_of_ble_eq_true rfl)) dM_print1_72 ⟨hm90.1, hm90.2⟩) hS hFc (fun q _ h => hFc q h) (fun E ce q9 u9 t H1 locs ht hvm hr9 hB hz1 hk1 hS hce hcv hcl => ?_)
          obtain ⟨rfl, hP1, hK1, hD1⟩ := hB
          rw [ht] at hP1
          obtain ⟨ad92, gd93, vad94⟩ := u9
          obtain ⟨hv95, hn96⟩ := hr9
          have hP : va_P D xcl (xMw cT aM ad92 rd gd93 vad94 o79.2.2.2 []) H1 := hP1
          have hD : va_D A (xMw cT aM ad92 rd gd93 vad94 o79.2.2.2 []) := hD1.weaken (fun k q _ h => hFc q.1 h)
          generalize H1 = H at hP hS hce ⊢
          have hE9 : ∀ p, p < xct st → vad94 p = vad p := fun p h => (hv95 p (Nat.lt_of_lt_of_le h hN)).trans (hE p h)
          have hE := hE9
          have hN : xct st ≤ xct o79.2.2.2 := Nat.le_trans hN hn96
          obtain rfl := Option.some.inj hf
          exact vx_out (E := "java/lang/IndexOutOfBoundsException") (fun x h => (hne x h).elim) hlocks hce hcv hcl (fun t ht ha => ⟨(ad92, gd93, vad94), ⟨hE, hN⟩, ⟨rfl, by rw [ht]; exact hP, va_K.moved ha hK, hD⟩, hS.F ht⟩) hS.2.2 (Nat.le_refl _) (Nat.le_refl _)
        rw [if_neg hk89] at hf
        exact nomatch hf
      rw [if_neg hc78] at hf
      refine lv_tableOut (tgt := 76) hx hb dM_print1_4 (by have e0 : ((xpi st 0) (c0 - 1)).toInt ≠ 0 := xsw hc2 (by decide); have e1 : ((xpi st 0) (c0 - 1)).toInt ≠ 1 := xsw hc21 (by decide); have e2 : ((xpi st 0) (c0 - 1)).toInt ≠ 2 := xsw hc40 (by decide); have e3 : ((xpi st 0) (c0 - 1)).toInt ≠ 3 := xsw hc59 (by decide); have e4 : ((xpi st 0) (c0 - 1)).toInt ≠ 4 := xsw hc78 (by decide); omega) (by decide) ?_
      refine lv_aload_n hx hb dM_print1_76 rfl (lv_at hl 0 rfl) ?_
      refine xm_aload_n hx hb (xvor _ _) dM_print1_77 rfl (lv_at hl 1 rfl) ?_
      refine xm_vget (v := .int ((xpi st 0) (c0 - 1))) hx hb htx hown hK hP 0 (by decide) hg1 rfl ((hZ.1 (93, "kind", "I") (List.mem_of_getElem? (i := 0) rfl)).use rfl) rfl dM_print1_78 ?_
      refine lv_iconst (v := 5) hx hb dM_print1_81 (by decide) ?_
      refine lv_icmp_ne (tgt := 90) hx hb dM_print1_82 (by decide) (fun hc => ?_) (fun hc => ?_)
      · rw [if_neg hc] at hf
        refine lv_bipush (v := 123) hx hb dM_print1_90 (by decide) ?_
        obtain ⟨o97, hq98, hf⟩ := xbind hf
        by_cases hk99 : o97.1 = 0
        · rw [if_pos hk99] at hf
          obtain ⟨hm100, hf⟩ := xmoE hf
          have hFc := xm_free hD hS hA
          refine va_callv (va_runV (C := "ValueBenchModel") (As := [.int 123]) (rest := []) ⟨hx, hb, hml, hown, htx⟩ (gM_put0 l hl9 D cT aK aV s.heap.size n aM ad rd gd vad st (123 : Int32) o97 hq98 hk99) ⟨callB_of 1 htx (xw_goodC kw_6_136) rfl rfl rfl (htx _ kw_1_5) (htx _ kw_6_133) ⟨by decide, by decide, by decide +kernel⟩ ⟨Nat.le_of_ble_eq_true rfl, Nat.le_of_ble_eq_true rfl⟩, (htx _ kw_6_135), (htx _ kp_M_put0)⟩ ⟨xPre_blind, va_recv hK hP (ci := 5) rfl (q0 := 0) rfl, (fun U hU hW => ⟨rfl, xPre_of hZ hS hFc hP hD hK U hU hW⟩)⟩ rfl rfl hl.1 rfl (xm_room (Nat.le_of_ble_eq_true rfl)) dM_print1_92 ⟨hm100.1, hm100.2⟩) hS (fun q _ h => hFc q h) hFc (fun u9 t H1 locs ht hvm hr9 hB hz1 hk1 hS => ?_)
          obtain ⟨hP1, hK1, hD1⟩ := hB
          rw [ht] at hP1
          obtain ⟨ad102, gd103, vad104⟩ := u9
          obtain ⟨hv105, hn106⟩ := hr9
          have hP : va_P D xcl (xMw cT aM ad102 rd gd103 vad104 o97.2.2.2 []) H1 := hP1
          have hD : va_D A (xMw cT aM ad102 rd gd103 vad104 o97.2.2.2 []) := hD1.weaken (fun k q _ h => hFc q.1 h)
          generalize H1 = H at hP hS ⊢
          have hE9 : ∀ p, p < xct st → vad104 p = vad p := fun p h => (hv105 p (Nat.lt_of_lt_of_le h hN)).trans (hE p h)
          have hE := hE9
          have hN : xct st ≤ xct o97.2.2.2 := Nat.le_trans hN hn106
          have ev107 : xv vad c0 = xv vad104 c0 := xvE hv105 (fun h => hg1 (Or.inr h))
          have hl : lv_has ls 3 [(0, .ref aM), (1, xv vad104 c0)] := by first | exact hl | ((try (rw [← ev107])); exact hl)
          refine W.eq (g2 := F0 m 95 ls []) (by first | rfl | ((try (rw [ev107])); rfl)) ?_
          refine lv_iconst (v := 0) hx hb dM_print1_95 (by decide) ?_
          refine lv_istore_n (lv' := [(2, .int 0), (0, .ref aM), (1, xv vad104 c0)]) hx hb dM_print1_96 rfl hl (by decide) (by simp only [List.filter, xvcat, xrscat, xcI, xcL, xcR, xcN]; rfl) (fun ls hl => ?_)
          exact key n (1, (0 : Int32), c0, o97.2.2.2, (0 + o97.2.1), (0 + o97.2.2.1)) _ _ ls (⟨ad102, gd103, vad104, rfl, hf, hP, hD, hS, lv_sub hl [0, 1, 2] rfl, hE, hN⟩)
        rw [if_neg hk99] at hf
        by_cases hk108 : o97.1 = 1
        · rw [if_pos hk108] at hf
          obtain ⟨hm109, hf⟩ := xmoE hf
          have hFc := xm_free hD hS hA
          refine xx_thr (vx_runV (C := "ValueBenchModel") (As := [.int 123]) (rest := []) ⟨hx, hb, hml, hown, htx⟩ (gM_put0_1 l hl9 D cT aK aV s.heap.size n aM ad rd gd vad st (123 : Int32) o97 hq98 hk108) ⟨callB_of 1 htx (xw_goodC kw_6_136) rfl rfl rfl (htx _ kw_1_5) (htx _ kw_6_133) ⟨by decide, by decide, by decide +kernel⟩ ⟨Nat.le_of_ble_eq_true rfl, Nat.le_of_ble_eq_true rfl⟩, (htx _ kw_6_135), (htx _ kp_M_put0)⟩ ⟨xPre_blind, va_recv hK hP (ci := 5) rfl (q0 := 0) rfl, (fun U hU hW => ⟨rfl, xPre_of hZ hS hFc hP hD hK U hU hW⟩)⟩ rfl rfl hl.1 rfl (xm_room (Nat.le_of_ble_eq_true rfl)) dM_print1_92 ⟨hm109.1, hm109.2⟩) hS hFc (fun q _ h => hFc q h) (fun E ce q9 u9 t H1 locs ht hvm hr9 hB hz1 hk1 hS hce hcv hcl => ?_)
          obtain ⟨rfl, hP1, hK1, hD1⟩ := hB
          rw [ht] at hP1
          obtain ⟨ad111, gd112, vad113⟩ := u9
          obtain ⟨hv114, hn115⟩ := hr9
          have hP : va_P D xcl (xMw cT aM ad111 rd gd112 vad113 o97.2.2.2 []) H1 := hP1
          have hD : va_D A (xMw cT aM ad111 rd gd112 vad113 o97.2.2.2 []) := hD1.weaken (fun k q _ h => hFc q.1 h)
          generalize H1 = H at hP hS hce ⊢
          have hE9 : ∀ p, p < xct st → vad113 p = vad p := fun p h => (hv114 p (Nat.lt_of_lt_of_le h hN)).trans (hE p h)
          have hE := hE9
          have hN : xct st ≤ xct o97.2.2.2 := Nat.le_trans hN hn115
          have ev116 : xv vad c0 = xv vad113 c0 := xvE hv114 (fun h => hg1 (Or.inr h))
          have hl : lv_has ls 3 [(0, .ref aM), (1, xv vad113 c0)] := by first | exact hl | ((try (rw [← ev116])); exact hl)
          obtain rfl := Option.some.inj hf
          exact vx_out (E := "java/lang/IndexOutOfBoundsException") (fun x h => (hne x h).elim) hlocks hce hcv hcl (fun t ht ha => ⟨(ad111, gd112, vad113), ⟨hE, hN⟩, ⟨rfl, by rw [ht]; exact hP, va_K.moved ha hK, hD⟩, hS.F ht⟩) hS.2.2 (Nat.le_refl _) (Nat.le_refl _)
        rw [if_neg hk108] at hf
        exact nomatch hf
      · rw [if_pos hc] at hf
        refine lv_bipush (v := 91) hx hb dM_print1_85 (by decide) ?_
        refine lv_goto (tgt := 92) hx hb dM_print1_87 (by decide) ?_
        obtain ⟨o97, hq98, hf⟩ := xbind hf
        by_cases hk99 : o97.1 = 0
        · rw [if_pos hk99] at hf
          obtain ⟨hm100, hf⟩ := xmoE hf
          have hFc := xm_free hD hS hA
          refine va_callv (va_runV (C := "ValueBenchModel") (As := [.int 91]) (rest := []) ⟨hx, hb, hml, hown, htx⟩ (gM_put0 l hl9 D cT aK aV s.heap.size n aM ad rd gd vad st (91 : Int32) o97 hq98 hk99) ⟨callB_of 1 htx (xw_goodC kw_6_136) rfl rfl rfl (htx _ kw_1_5) (htx _ kw_6_133) ⟨by decide, by decide, by decide +kernel⟩ ⟨Nat.le_of_ble_eq_true rfl, Nat.le_of_ble_eq_true rfl⟩, (htx _ kw_6_135), (htx _ kp_M_put0)⟩ ⟨xPre_blind, va_recv hK hP (ci := 5) rfl (q0 := 0) rfl, (fun U hU hW => ⟨rfl, xPre_of hZ hS hFc hP hD hK U hU hW⟩)⟩ rfl rfl hl.1 rfl (xm_room (Nat.le_of_ble_eq_true rfl)) dM_print1_92 ⟨hm100.1, hm100.2⟩) hS (fun q _ h => hFc q h) hFc (fun u9 t H1 locs ht hvm hr9 hB hz1 hk1 hS => ?_)
          obtain ⟨hP1, hK1, hD1⟩ := hB
          rw [ht] at hP1
          obtain ⟨ad102, gd103, vad104⟩ := u9
          obtain ⟨hv105, hn106⟩ := hr9
          have hP : va_P D xcl (xMw cT aM ad102 rd gd103 vad104 o97.2.2.2 []) H1 := hP1
          have hD : va_D A (xMw cT aM ad102 rd gd103 vad104 o97.2.2.2 []) := hD1.weaken (fun k q _ h => hFc q.1 h)
          generalize H1 = H at hP hS ⊢
          have hE9 : ∀ p, p < xct st → vad104 p = vad p := fun p h => (hv105 p (Nat.lt_of_lt_of_le h hN)).trans (hE p h)
          have hE := hE9
          have hN : xct st ≤ xct o97.2.2.2 := Nat.le_trans hN hn106
          have ev107 : xv vad c0 = xv vad104 c0 := xvE hv105 (fun h => hg1 (Or.inr h))
          have hl : lv_has ls 3 [(0, .ref aM), (1, xv vad104 c0)] := by first | exact hl | ((try (rw [← ev107])); exact hl)
          refine W.eq (g2 := F0 m 95 ls []) (by first | rfl | ((try (rw [ev107])); rfl)) ?_
          refine lv_iconst (v := 0) hx hb dM_print1_95 (by decide) ?_
          refine lv_istore_n (lv' := [(2, .int 0), (0, .ref aM), (1, xv vad104 c0)]) hx hb dM_print1_96 rfl hl (by decide) (by simp only [List.filter, xvcat, xrscat, xcI, xcL, xcR, xcN]; rfl) (fun ls hl => ?_)
          exact key n (1, (0 : Int32), c0, o97.2.2.2, (0 + o97.2.1), (0 + o97.2.2.1)) _ _ ls (⟨ad102, gd103, vad104, rfl, hf, hP, hD, hS, lv_sub hl [0, 1, 2] rfl, hE, hN⟩)
        rw [if_neg hk99] at hf
        by_cases hk108 : o97.1 = 1
        · rw [if_pos hk108] at hf
          obtain ⟨hm109, hf⟩ := xmoE hf
          have hFc := xm_free hD hS hA
          refine xx_thr (vx_runV (C := "ValueBenchModel") (As := [.int 91]) (rest := []) ⟨hx, hb, hml, hown, htx⟩ (gM_put0_1 l hl9 D cT aK aV s.heap.size n aM ad rd gd vad st (91 : Int32) o97 hq98 hk108) ⟨callB_of 1 htx (xw_goodC kw_6_136) rfl rfl rfl (htx _ kw_1_5) (htx _ kw_6_133) ⟨by decide, by decide, by decide +kernel⟩ ⟨Nat.le_of_ble_eq_true rfl, Nat.le_of_ble_eq_true rfl⟩, (htx _ kw_6_135), (htx _ kp_M_put0)⟩ ⟨xPre_blind, va_recv hK hP (ci := 5) rfl (q0 := 0) rfl, (fun U hU hW => ⟨rfl, xPre_of hZ hS hFc hP hD hK U hU hW⟩)⟩ rfl rfl hl.1 rfl (xm_room (Nat.le_of_ble_eq_true rfl)) dM_print1_92 ⟨hm109.1, hm109.2⟩) hS hFc (fun q _ h => hFc q h) (fun E ce q9 u9 t H1 locs ht hvm hr9 hB hz1 hk1 hS hce hcv hcl => ?_)
          obtain ⟨rfl, hP1, hK1, hD1⟩ := hB
          rw [ht] at hP1
          obtain ⟨ad111, gd112, vad113⟩ := u9
          obtain ⟨hv114, hn115⟩ := hr9
          have hP : va_P D xcl (xMw cT aM ad111 rd gd112 vad113 o97.2.2.2 []) H1 := hP1
          have hD : va_D A (xMw cT aM ad111 rd gd112 vad113 o97.2.2.2 []) := hD1.weaken (fun k q _ h => hFc q.1 h)
          generalize H1 = H at hP hS hce ⊢
          have hE9 : ∀ p, p < xct st → vad113 p = vad p := fun p h => (hv114 p (Nat.lt_of_lt_of_le h hN)).trans (hE p h)
          have hE := hE9
          have hN : xct st ≤ xct o97.2.2.2 := Nat.le_trans hN hn115
          have ev116 : xv vad c0 = xv vad113 c0 := xvE hv114 (fun h => hg1 (Or.inr h))
          have hl : lv_has ls 3 [(0, .ref aM), (1, xv vad113 c0)] := by first | exact hl | ((try (rw [← ev116])); exact hl)
          obtain rfl := Option.some.inj hf
          exact vx_out (E := "java/lang/IndexOutOfBoundsException") (fun x h => (hne x h).elim) hlocks hce hcv hcl (fun t ht ha => ⟨(ad111, gd112, vad113), ⟨hE, hN⟩, ⟨rfl, by rw [ht]; exact hP, va_K.moved ha hK, hD⟩, hS.F ht⟩) hS.2.2 (Nat.le_refl _) (Nat.le_refl _)
        rw [if_neg hk108] at hf
        exact nomatch hf
