set_option maxHeartbeats 400000000 in
set_option maxRecDepth 100000 in
theorem gM_piece (l : Launch) (hl9 : l.stackTraces = false) (D : va_G) (cT : Nat → ClassId) (aK aV : Nat → Nat) (sz n : Nat) (aM : Nat) (ad rd gd vad : Nat → Nat) (st : xS) (c0 : Nat) (x1 : Int32) (x2 : Int32) (out : Nat × Nat × Nat × xS) (hf : fM_piece n st c0 x1 x2 = some out) : xMet l yM_piece wyM_piece 3 out.1 out.2.1 55 D cT aK aV sz [.ref aM, xv vad c0, .int x1, .int x2] (xMw cT aM ad rd gd vad st []) (fun A => va_Qq (fun (r : Option Nat) (u : xU) => r = xca u.2.2 out.2.2.1 ∧ xE vad st out.2.2.2 u) (fun u t => xB D xcl cT A (xMw cT aM u.1 rd u.2.1 u.2.2 out.2.2.2 []) t) A) := by
  refine Met.ofW (cc := prog_13_method_13_code) (maxL := 5) (ret := (some (.object "ValueBenchModel$V"))) (by decide) rfl ?_
  intro p e s m args below meth c s₁ B hml hv
  obtain ⟨rfl, hsz, hZ, hP, hK, hD0⟩ := hv
  have hx := B.exec
  have hb := B.bytes
  have hr := B.returns
  have hts := atoms_spec (ws := wyM_piece) B.pre
  have htx := fun w h => hts w (List.mem_cons_of_mem _ h)
  have hown : s.vm.findClass "ValueBenchModel" = some m.cls := findClass_of_methodNamed B.named
  have hlocks := B.notSynchronized
  subst hsz
  have hD := hD0.self (sz := s.heap.size)
  generalize hAe : va_A (xMw cT aM ad rd gd vad st []) s.heap.size = A at hD hZ ⊢
  have hA : ∀ q : Nat, s.heap.size ≤ q → A q := fun q h => by rw [← hAe]; exact Or.inr h
  have hS : va_S A s.heap s.heap [] := va_S.rf
  have hl := lv_entry ([.ref aM, xv vad c0, .int x1, .int x2]) (n := 5) (by simp [lg_sl, xvcat, xrscat, xcI, xcL, xcR, xcN])
  rw [show lv_args 0 [.ref aM, xv vad c0, .int x1, .int x2] = [(0, .ref aM), (1, xv vad c0), (2, .int x1), (3, .int x2)] from by simp [lv_args, xvcat, xrscat, xcI, xcL, xcR, xcN]] at hl
  rw [lg_entry_eq]
  generalize (lg_sl ([.ref aM, xv vad c0, .int x1, .int x2]) ++ List.replicate (5 - (lg_sl ([.ref aM, xv vad c0, .int x1, .int x2])).length) Slot.unset).toArray = ls at hl ⊢
  have hl : lv_has ls 5 [(0, .ref aM), (1, xv vad c0), (2, .int x1), (3, .int x2)] := hl
  have hE : ∀ p, p < xct st → vad p = vad p := fun _ _ => rfl
  have hN : xct st ≤ xct st := Nat.le_refl _
  unfold fM_piece at hf
  refine lv_aload_n hx hb dM_piece_0 rfl (lv_at hl 0 rfl) ?_
  refine lv_iconst (v := 4) hx hb dM_piece_1 (by decide) ?_
  obtain ⟨o1, hq2, hf⟩ := xbind hf
  obtain ⟨hg3, hf⟩ := xifn hf
  obtain ⟨hm4, hf⟩ := xmoE hf
  have hFc := xm_free hD hS hA
  refine va_callq (va_runV (C := "ValueBenchModel") (As := [.int 4]) (rest := []) ⟨hx, hb, hml, hown, htx⟩ (gM_fresh l hl9 D cT aK aV s.heap.size n aM ad rd gd vad st (4 : Int32) o1 hq2) ⟨callB_of 1 htx (xw_goodC kw_6_16) rfl rfl rfl (htx _ kw_1_5) (htx _ kw_6_13) ⟨by decide, by decide, by decide +kernel⟩ ⟨Nat.le_of_ble_eq_true rfl, Nat.le_of_ble_eq_true rfl⟩, (htx _ kw_6_15), (htx _ kp_M_fresh)⟩ ⟨xPre_blind, va_recv hK hP (ci := 5) rfl (q0 := 0) rfl, (fun U hU hW => ⟨rfl, xPre_of hZ hS hFc hP hD hK U hU hW⟩)⟩ rfl rfl hl.1 rfl (xm_room (Nat.le_of_ble_eq_true rfl)) dM_piece_2 ⟨hm4.1, hm4.2⟩) hS (fun q _ h => hFc q h) hFc (fun r5 u9 t H1 locs ht hvm hr9 hB hz1 hk1 hS => ?_)
  obtain ⟨hP1, hK1, hD1⟩ := hB
  rw [ht] at hP1
  obtain ⟨ad6, gd7, vad8⟩ := u9
  obtain ⟨hr9, hv9, hn10⟩ := hr9
  have hP : va_P D xcl (xMw cT aM ad6 rd gd7 vad8 o1.2.2.2 []) H1 := hP1
  have hD : va_D A (xMw cT aM ad6 rd gd7 vad8 o1.2.2.2 []) := hD1.weaken (fun k q _ h => hFc q.1 h)
  generalize H1 = H at hP hS ⊢
  have hE9 : ∀ p, p < xct st → vad8 p = vad p := fun p h => (hv9 p (Nat.lt_of_lt_of_le h hN)).trans (hE p h)
  have hE := hE9
  have hN : xct st ≤ xct o1.2.2.2 := Nat.le_trans hN hn10
  have ev11 : xv vad c0 = xv vad8 c0 := xvE hv9 hg3
  have hl : lv_has ls 5 [(0, .ref aM), (1, xv vad8 c0), (2, .int x1), (3, .int x2)] := by first | exact hl | ((try (rw [← ev11])); exact hl)
  rw [hr9]
  refine W.eq (g2 := F0 m 5 ls [xv vad8 o1.2.2.1]) (by first | rfl | ((try (rw [ev11])); rfl)) ?_
  refine xm_astore (lv' := [(4, xv vad8 o1.2.2.1), (0, .ref aM), (1, xv vad8 c0), (2, .int x1), (3, .int x2)]) hx hb (xvor _ _) dM_piece_5 hl (by decide) rfl (fun ls hl => ?_)
  refine xm_aload hx hb (xvor _ _) dM_piece_7 (lv_at hl 0 rfl) ?_
  refine xm_aload_n hx hb (xvor _ _) dM_piece_9 rfl (lv_at hl 2 rfl) ?_
  obtain ⟨hg12, hf⟩ := xifn hf
  refine xm_vget (v := .int ((xpi o1.2.2.2 2) (c0 - 1))) hx hb htx hown hK hP 2 (by decide) hg12 rfl ((hZ.1 (100, "off", "I") (List.mem_of_getElem? (i := 2) rfl)).use rfl) rfl dM_piece_10 ?_
  refine lv_iload_n hx hb dM_piece_13 rfl (lv_at hl 3 rfl) ?_
  refine lv_iadd hx hb dM_piece_14 ?_
  obtain ⟨hg13, hf⟩ := xifn hf
  refine xm_vput (v := .int (((xpi o1.2.2.2 2) (c0 - 1)) + x1)) (ty := .int) hx hb htx hown hK hP hD hS 2 (by decide) hg13 (xsP o1.2.2.2 2 (o1.2.2.1 - 1) (((xpi o1.2.2.2 2) (c0 - 1)) + x1)) rfl rfl rfl (xVf_P 2 (by decide)) (xVf_P2 2 (by decide)) ((hZ.1 (100, "off", "I") (List.mem_of_getElem? (i := 2) rfl)).use rfl) rfl rfl (by decide +kernel) rfl rfl dM_piece_15 (fun H locs hP hD hS => ?_)
  refine xm_aload hx hb (xvor _ _) dM_piece_18 (lv_at hl 0 rfl) ?_
  refine lv_iload_n hx hb dM_piece_20 rfl (lv_at hl 4 rfl) ?_
  refine lv_iload_n hx hb dM_piece_21 rfl (lv_at hl 3 rfl) ?_
  refine lv_isub hx hb dM_piece_22 ?_
  refine xm_vput (v := .int (x2 - x1)) (ty := .int) hx hb htx hown hK hP hD hS 3 (by decide) hg13 (xsP (xsP o1.2.2.2 2 (o1.2.2.1 - 1) (((xpi o1.2.2.2 2) (c0 - 1)) + x1)) 3 (o1.2.2.1 - 1) (x2 - x1)) rfl rfl rfl (xVf_P 3 (by decide)) (xVf_P2 3 (by decide)) ((hZ.1 (103, "count", "I") (List.mem_of_getElem? (i := 3) rfl)).use rfl) rfl rfl (by decide +kernel) rfl rfl dM_piece_23 (fun H locs hP hD hS => ?_)
  refine xm_aload hx hb (xvor _ _) dM_piece_26 (lv_at hl 0 rfl) ?_
  refine lv_iconst (v := 1) hx hb dM_piece_28 (by decide) ?_
  refine xm_aload hx hb (xvor _ _) dM_piece_29 (lv_at hl 0 rfl) ?_
  refine xm_vget (v := .int ((upd (xpi o1.2.2.2 3) (o1.2.2.1 - 1) (x2 - x1)) (o1.2.2.1 - 1))) hx hb htx hown hK hP 3 (by decide) hg13 rfl ((hZ.1 (103, "count", "I") (List.mem_of_getElem? (i := 3) rfl)).use rfl) rfl dM_piece_31 ?_
  refine lv_iadd hx hb dM_piece_34 ?_
  refine xm_vput (v := .int ((1 : Int32) + ((upd (xpi o1.2.2.2 3) (o1.2.2.1 - 1) (x2 - x1)) (o1.2.2.1 - 1)))) (ty := .int) hx hb htx hown hK hP hD hS 5 (by decide) hg13 (xsP (xsP (xsP o1.2.2.2 2 (o1.2.2.1 - 1) (((xpi o1.2.2.2 2) (c0 - 1)) + x1)) 3 (o1.2.2.1 - 1) (x2 - x1)) 5 (o1.2.2.1 - 1) ((1 : Int32) + ((upd (xpi o1.2.2.2 3) (o1.2.2.1 - 1) (x2 - x1)) (o1.2.2.1 - 1)))) rfl rfl rfl (xVf_P 5 (by decide)) (xVf_P2 5 (by decide)) ((hZ.1 (109, "weight", "I") (List.mem_of_getElem? (i := 5) rfl)).use rfl) rfl rfl (by decide +kernel) rfl rfl dM_piece_35 (fun H locs hP hD hS => ?_)
  refine xm_aload hx hb (xvor _ _) dM_piece_38 (lv_at hl 0 rfl) ?_
  obtain rfl := Option.some.inj hf
  exact W.aret (v := xv vad8 o1.2.2.1) hx hb hr (Or.inl ⟨_, rfl⟩) (xvor _ _) (fun t ht hW => ⟨⟨xca vad8 o1.2.2.1, (ad6, gd7, vad8), rfl, ⟨rfl, hE, hN⟩, by rw [ht]; exact hP, va_K.moved hW.alike hK, hD⟩, hS.F ht⟩) hS.2.2 dM_piece_40
set_option maxHeartbeats 400000000 in
set_option maxRecDepth 100000 in
theorem gM_flat (l : Launch) (hl9 : l.stackTraces = false) (D : va_G) (cT : Nat → ClassId) (aK aV : Nat → Nat) : ∀ (d sz n : Nat) (aM : Nat) (ad rd gd vad : Nat → Nat) (st : xS) (c0 : Nat) (x1 : Int64) (out : Nat × Nat × xS) (hf : fM_flat d n st c0 x1 = some out), xMet l yM_flat wyM_flat ((16 * d)) out.1 out.2.1 ((400 * d)) D cT aK aV sz [.ref aM, xv vad c0, .long x1] (xMw cT aM ad rd gd vad st []) (fun A => va_Qv (fun u : xU => xE vad st out.2.2 u) (fun u t => xB D xcl cT A (xMw cT aM u.1 rd u.2.1 u.2.2 out.2.2 []) t) A) := by
  intro d
  induction d with
  | zero =>
    intro sz n aM ad rd gd vad st c0 x1 out hf
    rw [fM_flat] at hf
    exact nomatch hf
  | succ d ih =>
    intro sz n aM ad rd gd vad st c0 x1 out hf
    rw [fM_flat] at hf
    obtain ⟨rec, hrec, hf⟩ : ∃ rec : xS → Nat → Int64 → Option (Nat × Nat × xS), (∀ (sz aM : Nat) (ad rd gd vad : Nat → Nat) (st : xS) (c0 : Nat) (x1 : Int64) (out : Nat × Nat × xS), rec st c0 x1 = some out → xMet l yM_flat wyM_flat (16 * d) out.1 out.2.1 (400 * d) D cT aK aV sz [.ref aM, xv vad c0, .long x1] (xMw cT aM ad rd gd vad st []) (fun A => va_Qv (fun u : xU => xE vad st out.2.2 u) (fun u t => xB D xcl cT A (xMw cT aM u.1 rd u.2.1 u.2.2 out.2.2 []) t) A)) ∧ (fM_flat_b rec n 1 (0 : Int32) c0 x1 st 0 0) = some out := ⟨fM_flat d n, fun sz => ih sz n, hf⟩
    refine Met.ofW (cc := prog_13_method_73_code) (maxL := 6) (ret := none) (by decide) rfl ?_
    intro p e s m args below meth c s₁ B hml hv
    obtain ⟨rfl, hsz, hZ, hP, hK, hD0⟩ := hv
    have hx := B.exec
    have hb := B.bytes
    have hr := B.returns
    have hts := atoms_spec (ws := wyM_flat) B.pre
    have htx := fun w h => hts w (List.mem_cons_of_mem _ h)
    have hown : s.vm.findClass "ValueBenchModel" = some m.cls := findClass_of_methodNamed B.named
    have hlocks := B.notSynchronized
    subst hsz
    have hD := hD0.self (sz := s.heap.size)
    generalize hAe : va_A (xMw cT aM ad rd gd vad st []) s.heap.size = A at hD hZ ⊢
    have hA : ∀ q : Nat, s.heap.size ≤ q → A q := fun q h => by rw [← hAe]; exact Or.inr h
    have hS : va_S A s.heap s.heap [] := va_S.rf
    have hl := lv_entry ([.ref aM, xv vad c0, .long x1]) (n := 6) (by simp [lg_sl, xvcat, xrscat, xcI, xcL, xcR, xcN])
    rw [show lv_args 0 [.ref aM, xv vad c0, .long x1] = [(0, .ref aM), (1, xv vad c0), (2, .long x1)] from by simp [lv_args, xvcat, xrscat, xcI, xcL, xcR, xcN]] at hl
    rw [lg_entry_eq]
    generalize (lg_sl ([.ref aM, xv vad c0, .long x1]) ++ List.replicate (6 - (lg_sl ([.ref aM, xv vad c0, .long x1])).length) Slot.unset).toArray = ls at hl ⊢
    have hl : lv_has ls 6 [(0, .ref aM), (1, xv vad c0), (2, .long x1)] := hl
    have hE : ∀ p, p < xct st → vad p = vad p := fun _ _ => rfl
    have hN : xct st ≤ xct st := Nat.le_refl _
    refine xloopM (σ := Nat × Int32 × Nat × Int64 × xS × Nat × Nat) (fun n x H locs ls => (∃ (adL gdL vadL : Nat → Nat), x.1 = 1 ∧ fM_flat_b rec n x.1 x.2.1 x.2.2.1 x.2.2.2.1 x.2.2.2.2.1 x.2.2.2.2.2.1 x.2.2.2.2.2.2 = some out ∧ va_P D xcl (xMw cT aM adL rd gdL vadL x.2.2.2.2.1 []) H ∧ va_D A (xMw cT aM adL rd gdL vadL x.2.2.2.2.1 []) ∧ va_S A s.heap H locs ∧ lv_has ls 6 [(4, .int x.2.1), (0, .ref aM), (1, xv vadL x.2.2.1), (2, .long x.2.2.2.1)] ∧ (∀ p, p < xct st → vadL p = vad p) ∧ xct st ≤ xct x.2.2.2.2.1)) (fun x => 3) (fun x => x.2.2.2.2.2.1) (fun x => x.2.2.2.2.2.2) (fun x H locs ls h => by (obtain ⟨_, _, _, h⟩ := h; exact absurd h.2.1 (by rw [fM_flat_b]; exact fun h => nomatch h))) (fun n ih x H locs ls hv => ?_) (fun key => ?_)
    · obtain ⟨lb, y4, y1, y2, ws9, wc, wn⟩ := x
      rcases hv with ⟨adL, gdL, vadL, hj, hf, hP, hD, hS, hl, hE, hN⟩
      subst hj
      have hf : fM_flat_b rec (n + 1) 1 y4 y1 y2 ws9 wc wn = some out := hf
      rw [fM_flat_b] at hf
      obtain ⟨hP, hD⟩ : xPD D xcl A (xMw cT aM adL rd gdL vadL ws9 []) H := ⟨hP, hD⟩
      have hl : lv_has ls 6 [(4, .int y4), (0, .ref aM), (1, xv vadL y1), (2, .long y2)] := hl
      refine W.eq (g2 := F0 m 3 ls []) rfl ?_
      show W p l e _ s m _ below meth c H locs wc wn _ _
      obtain ⟨hm0, hf⟩ := xmoE hf
      refine lv_iload hx hb dM_flat_3 (lv_at hl 0 rfl) ?_
      refine xm_aload_n hx hb (xvor _ _) dM_flat_5 rfl (lv_at hl 2 rfl) ?_
      obtain ⟨hg1, hf⟩ := xifn hf
      refine xm_vget (v := .int ((xpi ws9 3) (y1 - 1))) hx hb htx hown hK hP 3 (by decide) hg1 rfl ((hZ.1 (103, "count", "I") (List.mem_of_getElem? (i := 3) rfl)).use rfl) rfl dM_flat_6 ?_
      refine lv_icmp_ge (tgt := 61) hx hb dM_flat_9 (by decide) (fun hc => ?_) (fun hc => ?_)
      · rw [if_pos hc] at hf
        obtain rfl := Option.some.inj hf
        exact W.vret hx hb hr (fun t ht hW => ⟨⟨(adL, gdL, vadL), rfl, ⟨hE, hN⟩, by rw [ht]; exact hP, va_K.moved hW.alike hK, hD⟩, hS.F ht⟩) hS.2.2 dM_flat_61
      · rw [if_neg hc] at hf
        refine lv_aload_n hx hb dM_flat_12 rfl (lv_at hl 1 rfl) ?_
        refine xm_aload_n hx hb (xvor _ _) dM_flat_13 rfl (lv_at hl 2 rfl) ?_
        refine lv_iload hx hb dM_flat_14 (lv_at hl 0 rfl) ?_
        obtain ⟨o2, hq3, hf⟩ := xbind hf
        have hFc := xm_free hD hS hA
        refine va_callq (va_runV (C := "ValueBenchModel") (As := [xv vadL y1, .int y4]) (rest := []) ⟨hx, hb, hml, hown, htx⟩ (gM_kid l hl9 D cT aK aV H.size n aM adL rd gdL vadL ws9 y1 y4 o2 hq3) ⟨callB_of 2 htx (xw_goodC kw_6_158) rfl rfl rfl (htx _ kw_1_5) (htx _ kw_6_155) ⟨by decide, by decide, by decide +kernel⟩ ⟨Nat.le_of_ble_eq_true rfl, Nat.le_of_ble_eq_true rfl⟩, (htx _ kw_6_157), (htx _ kp_M_kid)⟩ ⟨xPre_blind, va_recv hK hP (ci := 5) rfl (q0 := 0) rfl, (fun U hU hW => ⟨rfl, xPre_of hZ hS hFc hP hD hK U hU hW⟩)⟩ rfl rfl hl.1 rfl (xm_room (Nat.le_of_ble_eq_true rfl)) dM_flat_16 ⟨hm0.1, hm0.2⟩) hS (fun q _ h => hFc q h) hFc (fun r4 u9 t H1 locs ht hvm hr9 hB hz1 hk1 hS => ?_)
        obtain ⟨hP1, hK1, hD1⟩ := hB
        rw [ht] at hP1
        have hP : va_P D xcl (xMw cT aM adL rd gdL vadL ws9 []) H1 := hP1
        have hD : va_D A (xMw cT aM adL rd gdL vadL ws9 []) := hD1.weaken (fun k q _ h => hFc q.1 h)
        generalize H1 = H at hP hS ⊢
        rw [hr9]
        refine W.eq (g2 := F0 m 19 ls [xv vadL o2]) (by first | rfl | (skip; rfl)) ?_
        refine xm_astore (lv' := [(5, xv vadL o2), (4, .int y4), (0, .ref aM), (1, xv vadL y1), (2, .long y2)]) hx hb (xvor _ _) dM_flat_19 hl (by decide) rfl (fun ls hl => ?_)
        refine xm_aload hx hb (xvor _ _) dM_flat_21 (lv_at hl 0 rfl) ?_
        obtain ⟨hg5, hf⟩ := xifn hf
        refine xm_vget (v := .int ((xpi ws9 0) (o2 - 1))) hx hb htx hown hK hP 0 (by decide) hg5 rfl ((hZ.1 (93, "kind", "I") (List.mem_of_getElem? (i := 0) rfl)).use rfl) rfl dM_flat_23 ?_
        refine lv_iconst (v := 5) hx hb dM_flat_26 (by decide) ?_
        refine lv_icmp_ne (tgt := 48) hx hb dM_flat_27 (by decide) (fun hc => ?_) (fun hc => ?_)
        · rw [if_neg hc] at hf
          refine lv_aload_n hx hb dM_flat_48 rfl (lv_at hl 2 rfl) ?_
          refine lv_null hx hb dM_flat_49 ?_
          refine xm_aload hx hb (xvor _ _) dM_flat_50 (lv_at hl 0 rfl) ?_
          obtain ⟨o6, hq7, hf⟩ := xbind hf
          obtain ⟨hm8, hf⟩ := xmoE hf
          have hFc := xm_free hD hS hA
          refine va_callv (va_runV (C := "ValueBenchModel") (As := [.null, xv vadL o2]) (rest := []) ⟨hx, hb, hml, hown, htx⟩ (gM_wait l hl9 D cT aK aV H.size n aM adL rd gdL vadL ws9 0 o2 o6 hq7) ⟨callB_of 2 htx (xw_goodC kw_6_112) rfl rfl rfl (htx _ kw_1_5) (htx _ kw_6_109) ⟨by decide, by decide, by decide +kernel⟩ ⟨Nat.le_of_ble_eq_true rfl, Nat.le_of_ble_eq_true rfl⟩, (htx _ kw_6_111), (htx _ kp_M_wait)⟩ ⟨xPre_blind, va_recv hK hP (ci := 5) rfl (q0 := 0) rfl, (fun U hU hW => ⟨rfl, xPre_of hZ hS hFc hP hD hK U hU hW⟩)⟩ rfl rfl hl.1 rfl (xm_room (Nat.le_of_ble_eq_true rfl)) dM_flat_52 ⟨hm8.1, hm8.2⟩) hS (fun q _ h => hFc q h) hFc (fun u9 t H1 locs ht hvm hr9 hB hz1 hk1 hS => ?_)
          obtain ⟨hP1, hK1, hD1⟩ := hB
          rw [ht] at hP1
          obtain ⟨ad10, gd11, vad12⟩ := u9
          obtain ⟨hv13, hn14⟩ := hr9
          have hP : va_P D xcl (xMw cT aM ad10 rd gd11 vad12 o6.2.2 []) H1 := hP1
          have hD : va_D A (xMw cT aM ad10 rd gd11 vad12 o6.2.2 []) := hD1.weaken (fun k q _ h => hFc q.1 h)
          generalize H1 = H at hP hS ⊢
          have hE9 : ∀ p, p < xct st → vad12 p = vad p := fun p h => (hv13 p (Nat.lt_of_lt_of_le h hN)).trans (hE p h)
          have hE := hE9
          have hN : xct st ≤ xct o6.2.2 := Nat.le_trans hN hn14
          have ev15 : xv vadL o2 = xv vad12 o2 := xvE hv13 (fun h => hg5 (Or.inr h))
          have ev16 : xv vadL y1 = xv vad12 y1 := xvE hv13 (fun h => hg1 (Or.inr h))
          have hl : lv_has ls 6 [(5, xv vad12 o2), (4, .int y4), (0, .ref aM), (1, xv vad12 y1), (2, .long y2)] := by first | exact hl | ((try (rw [← ev15])); (try (rw [← ev16])); exact hl)
          refine W.eq (g2 := F0 m 55 ls []) (by first | rfl | ((try (rw [ev15])); (try (rw [ev16])); rfl)) ?_
          refine lv_iinc (v := (y4 + 1)) (lv' := [(4, .int (y4 + 1)), (5, xv vad12 o2), (0, .ref aM), (1, xv vad12 y1), (2, .long y2)]) hx hb dM_flat_55 hl (k := 1) rfl rfl (by decide) rfl (fun ls hl => ?_)
          refine lv_goto (tgt := 3) hx hb dM_flat_58 (by decide) ?_
          exact ih (1, (y4 + 1), y1, y2, o6.2.2, (wc + o6.1), (wn + o6.2.1)) _ _ ls (⟨ad10, gd11, vad12, rfl, hf, hP, hD, hS, lv_sub hl [0, 2, 3, 4] rfl, hE, hN⟩)
        · rw [if_pos hc] at hf
          refine lv_lload_n hx hb dM_flat_30 rfl (lv_at hl 4 rfl) ?_
          refine lv_lconst (v := 0) hx hb dM_flat_31 (by decide) ?_
          refine W.lcmp hx hb dM_flat_32 ?_
          refine lv_if_le (tgt := 48) hx hb dM_flat_33 (by decide) (fun hc => ?_) (fun hc => ?_)
          · rw [if_pos hc] at hf
            refine lv_aload_n hx hb dM_flat_48 rfl (lv_at hl 2 rfl) ?_
            refine lv_null hx hb dM_flat_49 ?_
            refine xm_aload hx hb (xvor _ _) dM_flat_50 (lv_at hl 0 rfl) ?_
            obtain ⟨o6, hq7, hf⟩ := xbind hf
            obtain ⟨hm8, hf⟩ := xmoE hf
            have hFc := xm_free hD hS hA
            refine va_callv (va_runV (C := "ValueBenchModel") (As := [.null, xv vadL o2]) (rest := []) ⟨hx, hb, hml, hown, htx⟩ (gM_wait l hl9 D cT aK aV H.size n aM adL rd gdL vadL ws9 0 o2 o6 hq7) ⟨callB_of 2 htx (xw_goodC kw_6_112) rfl rfl rfl (htx _ kw_1_5) (htx _ kw_6_109) ⟨by decide, by decide, by decide +kernel⟩ ⟨Nat.le_of_ble_eq_true rfl, Nat.le_of_ble_eq_true rfl⟩, (htx _ kw_6_111), (htx _ kp_M_wait)⟩ ⟨xPre_blind, va_recv hK hP (ci := 5) rfl (q0 := 0) rfl, (fun U hU hW => ⟨rfl, xPre_of hZ hS hFc hP hD hK U hU hW⟩)⟩ rfl rfl hl.1 rfl (xm_room (Nat.le_of_ble_eq_true rfl)) dM_flat_52 ⟨hm8.1, hm8.2⟩) hS (fun q _ h => hFc q h) hFc (fun u9 t H1 locs ht hvm hr9 hB hz1 hk1 hS => ?_)
            obtain ⟨hP1, hK1, hD1⟩ := hB
            rw [ht] at hP1
            obtain ⟨ad10, gd11, vad12⟩ := u9
            obtain ⟨hv13, hn14⟩ := hr9
            have hP : va_P D xcl (xMw cT aM ad10 rd gd11 vad12 o6.2.2 []) H1 := hP1
            have hD : va_D A (xMw cT aM ad10 rd gd11 vad12 o6.2.2 []) := hD1.weaken (fun k q _ h => hFc q.1 h)
            generalize H1 = H at hP hS ⊢
            have hE9 : ∀ p, p < xct st → vad12 p = vad p := fun p h => (hv13 p (Nat.lt_of_lt_of_le h hN)).trans (hE p h)
            have hE := hE9
            have hN : xct st ≤ xct o6.2.2 := Nat.le_trans hN hn14
            have ev15 : xv vadL o2 = xv vad12 o2 := xvE hv13 (fun h => hg5 (Or.inr h))
            have ev16 : xv vadL y1 = xv vad12 y1 := xvE hv13 (fun h => hg1 (Or.inr h))
            have hl : lv_has ls 6 [(5, xv vad12 o2), (4, .int y4), (0, .ref aM), (1, xv vad12 y1), (2, .long y2)] := by first | exact hl | ((try (rw [← ev15])); (try (rw [← ev16])); exact hl)
            refine W.eq (g2 := F0 m 55 ls []) (by first | rfl | ((try (rw [ev15])); (try (rw [ev16])); rfl)) ?_
            refine lv_iinc (v := (y4 + 1)) (lv' := [(4, .int (y4 + 1)), (5, xv vad12 o2), (0, .ref aM), (1, xv vad12 y1), (2, .long y2)]) hx hb dM_flat_55 hl (k := 1) rfl rfl (by decide) rfl (fun ls hl => ?_)
            refine lv_goto (tgt := 3) hx hb dM_flat_58 (by decide) ?_
            exact ih (1, (y4 + 1), y1, y2, o6.2.2, (wc + o6.1), (wn + o6.2.1)) _ _ ls (⟨ad10, gd11, vad12, rfl, hf, hP, hD, hS, lv_sub hl [0, 2, 3, 4] rfl, hE, hN⟩)
          · rw [if_neg hc] at hf
            refine lv_aload_n hx hb dM_flat_36 rfl (lv_at hl 2 rfl) ?_
            refine xm_aload hx hb (xvor _ _) dM_flat_37 (lv_at hl 0 rfl) ?_
            refine lv_lload_n hx hb dM_flat_39 rfl (lv_at hl 4 rfl) ?_
            refine lv_lconst (v := 1) hx hb dM_flat_40 (by decide) ?_
            refine lv_lsub hx hb dM_flat_41 ?_
            obtain ⟨o6, hq7, hf⟩ := xbind hf
            obtain ⟨hm8, hf⟩ := xmoE hf
            have hFc := xm_free hD hS hA
            refine va_callv (va_runV (C := "ValueBenchModel") (As := [xv vadL o2, .long (y2 - (1 : Int64))]) (rest := []) ⟨hx, hb, hml, hown, htx⟩ (hrec H.size aM adL rd gdL vadL ws9 o2 (y2 - (1 : Int64)) o6 hq7) ⟨callB_of 2 htx (xw_goodC kw_7_111) rfl rfl rfl (htx _ kw_1_5) (htx _ kw_7_108) ⟨by decide, by decide, by decide +kernel⟩ ⟨(by show (16 * d) + 1 ≤ 16 * (d + 1); omega), (by show 8 + (6 + 11) + (400 * d) ≤ 400 * (d + 1); omega)⟩, (htx _ kw_7_110), (htx _ kp_M_flat)⟩ ⟨xPre_blind, va_recv hK hP (ci := 5) rfl (q0 := 0) rfl, (fun U hU hW => ⟨rfl, xPre_of hZ hS hFc hP hD hK U hU hW⟩)⟩ rfl rfl hl.1 rfl (xm_room (Nat.le_of_ble_eq_true rfl)) dM_flat_42 ⟨hm8.1, hm8.2⟩) hS (fun q _ h => hFc q h) hFc (fun u9 t H1 locs ht hvm hr9 hB hz1 hk1 hS => ?_)
            obtain ⟨hP1, hK1, hD1⟩ := hB
            rw [ht] at hP1
            obtain ⟨ad10, gd11, vad12⟩ := u9
            obtain ⟨hv13, hn14⟩ := hr9
            have hP : va_P D xcl (xMw cT aM ad10 rd gd11 vad12 o6.2.2 []) H1 := hP1
            have hD : va_D A (xMw cT aM ad10 rd gd11 vad12 o6.2.2 []) := hD1.weaken (fun k q _ h => hFc q.1 h)
            generalize H1 = H at hP hS ⊢
            have hE9 : ∀ p, p < xct st → vad12 p = vad p := fun p h => (hv13 p (Nat.lt_of_lt_of_le h hN)).trans (hE p h)
            have hE := hE9
            have hN : xct st ≤ xct o6.2.2 := Nat.le_trans hN hn14
            have ev15 : xv vadL o2 = xv vad12 o2 := xvE hv13 (fun h => hg5 (Or.inr h))
            have ev16 : xv vadL y1 = xv vad12 y1 := xvE hv13 (fun h => hg1 (Or.inr h))
            have hl : lv_has ls 6 [(5, xv vad12 o2), (4, .int y4), (0, .ref aM), (1, xv vad12 y1), (2, .long y2)] := by first | exact hl | ((try (rw [← ev15])); (try (rw [← ev16])); exact hl)
            refine W.eq (g2 := F0 m 45 ls []) (by first | rfl | ((try (rw [ev15])); (try (rw [ev16])); rfl)) ?_
            refine lv_goto (tgt := 55) hx hb dM_flat_45 (by decide) ?_
            refine lv_iinc (v := (y4 + 1)) (lv' := [(4, .int (y4 + 1)), (5, xv vad12 o2), (0, .ref aM), (1, xv vad12 y1), (2, .long y2)]) hx hb dM_flat_55 hl (k := 1) rfl rfl (by decide) rfl (fun ls hl => ?_)
            refine lv_goto (tgt := 3) hx hb dM_flat_58 (by decide) ?_
            exact ih (1, (y4 + 1), y1, y2, o6.2.2, (wc + o6.1), (wn + o6.2.1)) _ _ ls (⟨ad10, gd11, vad12, rfl, hf, hP, hD, hS, lv_sub hl [0, 2, 3, 4] rfl, hE, hN⟩)
    refine lv_iconst (v := 0) hx hb dM_flat_0 (by decide) ?_
    refine lv_istore (lv' := [(4, .int 0), (0, .ref aM), (1, xv vad c0), (2, .long x1)]) hx hb dM_flat_1 hl (by decide) rfl (fun ls hl => ?_)
    exact key n (1, (0 : Int32), c0, x1, st, 0, 0) _ _ ls (⟨ad, gd, vad, rfl, hf, hP, hD, hS, lv_sub hl [0, 1, 2, 3] rfl, hE, hN⟩)
set_option maxHeartbeats 400000000 in
set_option maxRecDepth 100000 in
theorem gM_flatten (l : Launch) (hl9 : l.stackTraces = false) (D : va_G) (cT : Nat → ClassId) (aK aV : Nat → Nat) (sz d n : Nat) (aM : Nat) (ad rd gd vad : Nat → Nat) (st : xS) (c0 : Nat) (c1 : Nat) (out : Nat × Nat × Nat × Nat × xS) (hf : fM_flatten d n st c0 c1 = some out) (hkd : out.1 = 0) : xMet l yM_flatten wyM_flatten (16 * d + 8) out.2.1 out.2.2.1 (400 * d + 147) D cT aK aV sz [.ref aM, xv vad c0, xv vad c1] (xMw cT aM ad rd gd vad st []) (fun A => va_Qq (fun (r : Option Nat) (u : xU) => r = xca u.2.2 out.2.2.2.1 ∧ xE vad st out.2.2.2.2 u) (fun u t => xB D xcl cT A (xMw cT aM u.1 rd u.2.1 u.2.2 out.2.2.2.2 []) t) A) := by
  refine Met.ofW (cc := prog_13_method_74_code) (maxL := 4) (ret := (some (.object "ValueBenchModel$V"))) (by decide) rfl ?_
  intro p e s m args below meth c s₁ B hml hv
  obtain ⟨rfl, hsz, hZ, hP, hK, hD0⟩ := hv
  have hx := B.exec
  have hb := B.bytes
  have hr := B.returns
  have hts := atoms_spec (ws := wyM_flatten) B.pre
  have htx := fun w h => hts w (List.mem_cons_of_mem _ h)
  have hown : s.vm.findClass "ValueBenchModel" = some m.cls := findClass_of_methodNamed B.named
  have hlocks := B.notSynchronized
  subst hsz
  have hD := hD0.self (sz := s.heap.size)
  generalize hAe : va_A (xMw cT aM ad rd gd vad st []) s.heap.size = A at hD hZ ⊢
  have hA : ∀ q : Nat, s.heap.size ≤ q → A q := fun q h => by rw [← hAe]; exact Or.inr h
  have hS : va_S A s.heap s.heap [] := va_S.rf
  have hl := lv_entry ([.ref aM, xv vad c0, xv vad c1]) (n := 4) (by simp [lg_sl, xvcat, xrscat, xcI, xcL, xcR, xcN])
  rw [show lv_args 0 [.ref aM, xv vad c0, xv vad c1] = [(0, .ref aM), (1, xv vad c0), (2, xv vad c1)] from by simp [lv_args, xvcat, xrscat, xcI, xcL, xcR, xcN]] at hl
  rw [lg_entry_eq]
  generalize (lg_sl ([.ref aM, xv vad c0, xv vad c1]) ++ List.replicate (4 - (lg_sl ([.ref aM, xv vad c0, xv vad c1])).length) Slot.unset).toArray = ls at hl ⊢
  have hl : lv_has ls 4 [(0, .ref aM), (1, xv vad c0), (2, xv vad c1)] := hl
  have hE : ∀ p, p < xct st → vad p = vad p := fun _ _ => rfl
  have hN : xct st ≤ xct st := Nat.le_refl _
  unfold fM_flatten at hf
  refine lv_aload_n hx hb dM_flatten_0 rfl (lv_at hl 0 rfl) ?_
  refine xm_aload_n hx hb (xvor _ _) dM_flatten_1 rfl (lv_at hl 1 rfl) ?_
  obtain ⟨o1, hq2, hf⟩ := xbind hf
  by_cases hk3 : o1.1 = 0
  · rw [if_pos hk3] at hf
    obtain ⟨hg4, hf⟩ := xifn hf
    obtain ⟨hg5, hf⟩ := xifn hf
    obtain ⟨hm6, hf⟩ := xmoE hf
    have hFc := xm_free hD hS hA
    refine va_callq (va_runV (C := "ValueBenchModel") (As := [xv vad c0]) (rest := []) ⟨hx, hb, hml, hown, htx⟩ (gM_array l hl9 D cT aK aV s.heap.size n aM ad rd gd vad st c0 o1 hq2 hk3) ⟨callB_of 1 htx (xw_goodC kw_7_42) rfl rfl rfl (htx _ kw_1_5) (htx _ kw_7_39) ⟨by decide, by decide, by decide +kernel⟩ ⟨Nat.le_of_ble_eq_true rfl, Nat.le_of_ble_eq_true rfl⟩, (htx _ kw_7_41), (htx _ kp_M_array)⟩ ⟨xPre_blind, va_recv hK hP (ci := 5) rfl (q0 := 0) rfl, (fun U hU hW => ⟨rfl, xPre_of hZ hS hFc hP hD hK U hU hW⟩)⟩ rfl rfl hl.1 rfl (xm_room (Nat.le_of_ble_eq_true rfl)) dM_flatten_2 ⟨hm6.1, hm6.2⟩) hS (fun q _ h => hFc q h) hFc (fun r7 u9 t H1 locs ht hvm hr9 hB hz1 hk1 hS => ?_)
    obtain ⟨hP1, hK1, hD1⟩ := hB
    rw [ht] at hP1
    obtain ⟨ad8, gd9, vad10⟩ := u9
    obtain ⟨hr9, hv11, hn12⟩ := hr9
    have hP : va_P D xcl (xMw cT aM ad8 rd gd9 vad10 o1.2.2.2.2 []) H1 := hP1
    have hD : va_D A (xMw cT aM ad8 rd gd9 vad10 o1.2.2.2.2 []) := hD1.weaken (fun k q _ h => hFc q.1 h)
    generalize H1 = H at hP hS ⊢
    have hE9 : ∀ p, p < xct st → vad10 p = vad p := fun p h => (hv11 p (Nat.lt_of_lt_of_le h hN)).trans (hE p h)
    have hE := hE9
    have hN : xct st ≤ xct o1.2.2.2.2 := Nat.le_trans hN hn12
    have ev13 : xv vad c0 = xv vad10 c0 := xvE hv11 hg4
    have ev14 : xv vad c1 = xv vad10 c1 := xvE hv11 hg5
    have hl : lv_has ls 4 [(0, .ref aM), (1, xv vad10 c0), (2, xv vad10 c1)] := by first | exact hl | ((try (rw [← ev13])); (try (rw [← ev14])); exact hl)
    rw [hr9]
    refine W.eq (g2 := F0 m 5 ls [xv vad10 o1.2.2.2.1]) (by first | rfl | ((try (rw [ev13])); (try (rw [ev14])); rfl)) ?_
    obtain ⟨hg15, hf⟩ := xifn hf
    refine xm_vget (v := .int ((xpi o1.2.2.2.2 0) (o1.2.2.2.1 - 1))) hx hb htx hown hK hP 0 (by decide) hg15 rfl ((hZ.1 (93, "kind", "I") (List.mem_of_getElem? (i := 0) rfl)).use rfl) rfl dM_flatten_5 ?_
    refine lv_iconst (v := 5) hx hb dM_flatten_8 (by decide) ?_
    refine lv_icmp_ne (tgt := 20) hx hb dM_flatten_9 (by decide) (fun hc => ?_) (fun hc => ?_)
    · rw [if_neg hc] at hf
      refine lv_aload_n hx hb dM_flatten_20 rfl (lv_at hl 0 rfl) ?_
      refine lv_iconst (v := 1) hx hb dM_flatten_21 (by decide) ?_
      obtain ⟨o16, hq17, hf⟩ := xbind hf
      have hl := lv_sub (l' := [(0, .ref aM)]) hl [0] rfl
      by_cases hk18 : o16.1 = 1
      · rw [if_pos hk18] at hf
        obtain ⟨hm19, hf⟩ := xmoE hf
        obtain rfl := Option.some.inj hf
        exact absurd (show (1 : Nat) = 0 from hkd) (by decide)
      rw [if_neg hk18] at hf
      exact nomatch hf
    · rw [if_pos hc] at hf
      refine xm_aload_n hx hb (xvor _ _) dM_flatten_12 rfl (lv_at hl 2 rfl) ?_
      obtain ⟨hg16, hf⟩ := xifn hf
      refine xm_vget (v := .int ((xpi o1.2.2.2.2 0) (c1 - 1))) hx hb htx hown hK hP 0 (by decide) hg16 rfl ((hZ.1 (93, "kind", "I") (List.mem_of_getElem? (i := 0) rfl)).use rfl) rfl dM_flatten_13 ?_
      refine lv_iconst (v := 3) hx hb dM_flatten_16 (by decide) ?_
      refine lv_icmp_eq (tgt := 26) hx hb dM_flatten_17 (by decide) (fun hc => ?_) (fun hc => ?_)
      · rw [if_pos hc] at hf
        refine xm_aload_n hx hb (xvor _ _) dM_flatten_26 rfl (lv_at hl 2 rfl) ?_
        refine xm_vget (v := .long ((xpl o1.2.2.2.2) (c1 - 1))) hx hb htx hown hK hP 1 (by decide) hg16 rfl ((hZ.1 (96, "n", "J") (List.mem_of_getElem? (i := 1) rfl)).use rfl) rfl dM_flatten_27 ?_
        refine lv_lconst (v := 0) hx hb dM_flatten_30 (by decide) ?_
        refine W.lcmp hx hb dM_flatten_31 ?_
        refine lv_if_ge (tgt := 41) hx hb dM_flatten_32 (by decide) (fun hc => ?_) (fun hc => ?_)
        · rw [if_pos hc] at hf
          refine lv_aload_n hx hb dM_flatten_41 rfl (lv_at hl 0 rfl) ?_
          refine xm_get (v := .int (xsi o1.2.2.2.2 12)) hx hb htx hown hK hP 12 (by decide) rfl (htx _ kw_5_99) rfl dM_flatten_42 ?_
          refine lv_istore_n (lv' := [(3, .int (xsi o1.2.2.2.2 12)), (0, .ref aM), (1, xv vad10 c0), (2, xv vad10 c1)]) hx hb dM_flatten_45 rfl hl (by decide) (by simp only [List.filter, xvcat, xrscat, xcI, xcL, xcR, xcN]; rfl) (fun ls hl => ?_)
          refine lv_aload_n hx hb dM_flatten_46 rfl (lv_at hl 1 rfl) ?_
          refine xm_aload_n hx hb (xvor _ _) dM_flatten_47 rfl (lv_at hl 2 rfl) ?_
          refine xm_aload_n hx hb (xvor _ _) dM_flatten_48 rfl (lv_at hl 3 rfl) ?_
          refine xm_vget (v := .long ((xpl o1.2.2.2.2) (c1 - 1))) hx hb htx hown hK hP 1 (by decide) hg16 rfl ((hZ.1 (96, "n", "J") (List.mem_of_getElem? (i := 1) rfl)).use rfl) rfl dM_flatten_49 ?_
          obtain ⟨o17, hq18, hf⟩ := xbind hf
          have hl := lv_sub (l' := [(3, .int (xsi o1.2.2.2.2 12)), (0, .ref aM)]) hl [0, 1] rfl
          obtain ⟨hm19, hf⟩ := xmoE hf
          have hFc := xm_free hD hS hA
          refine va_callv (va_runV (C := "ValueBenchModel") (As := [xv vad10 c0, .long ((xpl o1.2.2.2.2) (c1 - 1))]) (rest := []) ⟨hx, hb, hml, hown, htx⟩ (gM_flat l hl9 D cT aK aV d H.size n aM ad8 rd gd9 vad10 o1.2.2.2.2 c0 ((xpl o1.2.2.2.2) (c1 - 1)) o17 hq18) ⟨callB_of 2 htx (xw_goodC kw_7_111) rfl rfl rfl (htx _ kw_1_5) (htx _ kw_7_108) ⟨by decide, by decide, by decide +kernel⟩ ⟨(by show (16 * d) + 1 ≤ 16 * d + 8; omega), (by show 8 + (6 + 11) + (400 * d) ≤ 400 * d + 147; omega)⟩, (htx _ kw_7_110), (htx _ kp_M_flat)⟩ ⟨xPre_blind, va_recv hK hP (ci := 5) rfl (q0 := 0) rfl, (fun U hU hW => ⟨rfl, xPre_of hZ hS hFc hP hD hK U hU hW⟩)⟩ rfl rfl hl.1 rfl (xm_room (Nat.le_of_ble_eq_true rfl)) dM_flatten_52 ⟨hm19.1, hm19.2⟩) hS (fun q _ h => hFc q h) hFc (fun u9 t H1 locs ht hvm hr9 hB hz1 hk1 hS => ?_)
          obtain ⟨hP1, hK1, hD1⟩ := hB
          rw [ht] at hP1
          obtain ⟨ad21, gd22, vad23⟩ := u9
          obtain ⟨hv24, hn25⟩ := hr9
          have hP : va_P D xcl (xMw cT aM ad21 rd gd22 vad23 o17.2.2 []) H1 := hP1
          have hD : va_D A (xMw cT aM ad21 rd gd22 vad23 o17.2.2 []) := hD1.weaken (fun k q _ h => hFc q.1 h)
          generalize H1 = H at hP hS ⊢
          have hE9 : ∀ p, p < xct st → vad23 p = vad p := fun p h => (hv24 p (Nat.lt_of_lt_of_le h hN)).trans (hE p h)
          have hE := hE9
          have hN : xct st ≤ xct o17.2.2 := Nat.le_trans hN hn25
          refine W.eq (g2 := F0 m 55 ls []) (by first | rfl | (skip; rfl)) ?_
          refine lv_aload_n hx hb dM_flatten_55 rfl (lv_at hl 1 rfl) ?_
          refine lv_iconst (v := 5) hx hb dM_flatten_56 (by decide) ?_
          refine lv_iload_n hx hb dM_flatten_57 rfl (lv_at hl 0 rfl) ?_
          obtain ⟨o26, hq27, hf⟩ := xbind hf
          by_cases hk28 : o26.1 = 0
          · rw [if_pos hk28] at hf
            obtain ⟨hm29, hf⟩ := xmoE hf
            have hFc := xm_free hD hS hA
            refine va_callq (va_runV (C := "ValueBenchModel") (As := [.int 5, .int (xsi o1.2.2.2.2 12)]) (rest := []) ⟨hx, hb, hml, hown, htx⟩ (gM_whole l hl9 D cT aK aV H.size n aM ad21 rd gd22 vad23 o17.2.2 (5 : Int32) (xsi o1.2.2.2.2 12) o26 hq27 hk28) ⟨callB_of 2 htx (xw_goodC kw_6_106) rfl rfl rfl (htx _ kw_1_5) (htx _ kw_6_103) ⟨by decide, by decide, by decide +kernel⟩ ⟨Nat.le_of_ble_eq_true rfl, Nat.le_of_ble_eq_true rfl⟩, (htx _ kw_6_105), (htx _ kp_M_whole)⟩ ⟨xPre_blind, va_recv hK hP (ci := 5) rfl (q0 := 0) rfl, (fun U hU hW => ⟨rfl, xPre_of hZ hS hFc hP hD hK U hU hW⟩)⟩ rfl rfl hl.1 rfl (xm_room (Nat.le_of_ble_eq_true rfl)) dM_flatten_58 ⟨hm29.1, hm29.2⟩) hS (fun q _ h => hFc q h) hFc (fun r30 u9 t H1 locs ht hvm hr9 hB hz1 hk1 hS => ?_)
            obtain ⟨hP1, hK1, hD1⟩ := hB
            rw [ht] at hP1
            obtain ⟨ad31, gd32, vad33⟩ := u9
            obtain ⟨hr9, hv34, hn35⟩ := hr9
            have hP : va_P D xcl (xMw cT aM ad31 rd gd32 vad33 o26.2.2.2.2 []) H1 := hP1
            have hD : va_D A (xMw cT aM ad31 rd gd32 vad33 o26.2.2.2.2 []) := hD1.weaken (fun k q _ h => hFc q.1 h)
            generalize H1 = H at hP hS ⊢
            have hE9 : ∀ p, p < xct st → vad33 p = vad p := fun p h => (hv34 p (Nat.lt_of_lt_of_le h hN)).trans (hE p h)
            have hE := hE9
            have hN : xct st ≤ xct o26.2.2.2.2 := Nat.le_trans hN hn35
            rw [hr9]
            refine W.eq (g2 := F0 m 61 ls [xv vad33 o26.2.2.2.1]) (by first | rfl | (skip; rfl)) ?_
            obtain rfl := Option.some.inj hf
            exact W.aret (v := xv vad33 o26.2.2.2.1) hx hb hr (Or.inl ⟨_, rfl⟩) (xvor _ _) (fun t ht hW => ⟨⟨xca vad33 o26.2.2.2.1, (ad31, gd32, vad33), rfl, ⟨rfl, hE, hN⟩, by rw [ht]; exact hP, va_K.moved hW.alike hK, hD⟩, hS.F ht⟩) hS.2.2 dM_flatten_61
          rw [if_neg hk28] at hf
          by_cases hk36 : o26.1 = 1
          · rw [if_pos hk36] at hf
            obtain ⟨hm37, hf⟩ := xmoE hf
            obtain rfl := Option.some.inj hf
            exact absurd (show (2 : Nat) = 0 from hkd) (by decide)
          rw [if_neg hk36] at hf
          exact nomatch hf
        · rw [if_neg hc] at hf
          refine lv_aload_n hx hb dM_flatten_35 rfl (lv_at hl 0 rfl) ?_
          refine lv_iconst (v := 2) hx hb dM_flatten_36 (by decide) ?_
          obtain ⟨o17, hq18, hf⟩ := xbind hf
          have hl := lv_sub (l' := [(0, .ref aM)]) hl [0] rfl
          by_cases hk19 : o17.1 = 1
          · rw [if_pos hk19] at hf
            obtain ⟨hm20, hf⟩ := xmoE hf
            obtain rfl := Option.some.inj hf
            exact absurd (show (1 : Nat) = 0 from hkd) (by decide)
          rw [if_neg hk19] at hf
          exact nomatch hf
      · rw [if_neg hc] at hf
        refine lv_aload_n hx hb dM_flatten_20 rfl (lv_at hl 0 rfl) ?_
        refine lv_iconst (v := 1) hx hb dM_flatten_21 (by decide) ?_
        obtain ⟨o17, hq18, hf⟩ := xbind hf
        have hl := lv_sub (l' := [(0, .ref aM)]) hl [0] rfl
        by_cases hk19 : o17.1 = 1
        · rw [if_pos hk19] at hf
          obtain ⟨hm20, hf⟩ := xmoE hf
          obtain rfl := Option.some.inj hf
          exact absurd (show (1 : Nat) = 0 from hkd) (by decide)
        rw [if_neg hk19] at hf
        exact nomatch hf
  rw [if_neg hk3] at hf
  by_cases hk16 : o1.1 = 1
  · rw [if_pos hk16] at hf
    obtain ⟨hg17, hf⟩ := xifn hf
    obtain ⟨hg18, hf⟩ := xifn hf
    obtain ⟨hm19, hf⟩ := xmoE hf
    obtain rfl := Option.some.inj hf
    exact absurd (show (1 : Nat) = 0 from hkd) (by decide)
  rw [if_neg hk16] at hf
  exact nomatch hf
set_option maxHeartbeats 400000000 in
set_option maxRecDepth 100000 in
theorem gM_flatten_1 (l : Launch) (hl9 : l.stackTraces = false) (D : va_G) (cT : Nat → ClassId) (aK aV : Nat → Nat) (sz d n : Nat) (aM : Nat) (ad rd gd vad : Nat → Nat) (st : xS) (c0 : Nat) (c1 : Nat) (out : Nat × Nat × Nat × Nat × xS) (hf : fM_flatten d n st c0 c1 = some out) (hkd : out.1 = 1) : xMetY l yM_flatten wyM_flatten (16 * d + 8) out.2.1 out.2.2.1 (400 * d + 147) D cT aK aV sz [.ref aM, xv vad c0, xv vad c1] (xMw cT aM ad rd gd vad st []) "java/lang/ArithmeticException" (fun u => xE vad st out.2.2.2.2 u) (fun A u t => xB D xcl cT A (xMw cT aM u.1 rd u.2.1 u.2.2 out.2.2.2.2 []) t) := by
  refine vx_ofW (cc := prog_13_method_74_code) (maxL := 4) (ret := (some (.object "ValueBenchModel$V"))) (by decide) rfl ?_
  intro p e s m args below meth c s₁ B hml hne hv
  obtain ⟨rfl, hsz, hZ, hP, hK, hD0⟩ := hv
  have hx := B.exec
  have hb := B.bytes
  have hr := B.returns
  have hts := atoms_spec (ws := wyM_flatten) B.pre
  have htx := fun w h => hts w (List.mem_cons_of_mem _ h)
  have hown : s.vm.findClass "ValueBenchModel" = some m.cls := findClass_of_methodNamed B.named
  have hlocks := B.notSynchronized
  subst hsz
  have hD := hD0.self (sz := s.heap.size)
  generalize hAe : va_A (xMw cT aM ad rd gd vad st []) s.heap.size = A at hD hZ ⊢
  have hA : ∀ q : Nat, s.heap.size ≤ q → A q := fun q h => by rw [← hAe]; exact Or.inr h
  have hS : va_S A s.heap s.heap [] := va_S.rf
  have hl := lv_entry ([.ref aM, xv vad c0, xv vad c1]) (n := 4) (by simp [lg_sl, xvcat, xrscat, xcI, xcL, xcR, xcN])
  rw [show lv_args 0 [.ref aM, xv vad c0, xv vad c1] = [(0, .ref aM), (1, xv vad c0), (2, xv vad c1)] from by simp [lv_args, xvcat, xrscat, xcI, xcL, xcR, xcN]] at hl
  rw [lg_entry_eq]
  generalize (lg_sl ([.ref aM, xv vad c0, xv vad c1]) ++ List.replicate (4 - (lg_sl ([.ref aM, xv vad c0, xv vad c1])).length) Slot.unset).toArray = ls at hl ⊢
  have hl : lv_has ls 4 [(0, .ref aM), (1, xv vad c0), (2, xv vad c1)] := hl
  have hE : ∀ p, p < xct st → vad p = vad p := fun _ _ => rfl
  have hN : xct st ≤ xct st := Nat.le_refl _
  unfold fM_flatten at hf
  refine lv_aload_n hx hb dM_flatten_0 rfl (lv_at hl 0 rfl) ?_
  refine xm_aload_n hx hb (xvor _ _) dM_flatten_1 rfl (lv_at hl 1 rfl) ?_
  obtain ⟨o1, hq2, hf⟩ := xbind hf
  by_cases hk3 : o1.1 = 0
  · rw [if_pos hk3] at hf
    obtain ⟨hg4, hf⟩ := xifn hf
    obtain ⟨hg5, hf⟩ := xifn hf
    obtain ⟨hm6, hf⟩ := xmoE hf
    have hFc := xm_free hD hS hA
    refine va_callq (va_runV (C := "ValueBenchModel") (As := [xv vad c0]) (rest := []) ⟨hx, hb, hml, hown, htx⟩ (gM_array l hl9 D cT aK aV s.heap.size n aM ad rd gd vad st c0 o1 hq2 hk3) ⟨callB_of 1 htx (xw_goodC kw_7_42) rfl rfl rfl (htx _ kw_1_5) (htx _ kw_7_39) ⟨by decide, by decide, by decide +kernel⟩ ⟨Nat.le_of_ble_eq_true rfl, Nat.le_of_ble_eq_true rfl⟩, (htx _ kw_7_41), (htx _ kp_M_array)⟩ ⟨xPre_blind, va_recv hK hP (ci := 5) rfl (q0 := 0) rfl, (fun U hU hW => ⟨rfl, xPre_of hZ hS hFc hP hD hK U hU hW⟩)⟩ rfl rfl hl.1 rfl (xm_room (Nat.le_of_ble_eq_true rfl)) dM_flatten_2 ⟨hm6.1, hm6.2⟩) hS (fun q _ h => hFc q h) hFc (fun r7 u9 t H1 locs ht hvm hr9 hB hz1 hk1 hS => ?_)
    obtain ⟨hP1, hK1, hD1⟩ := hB
    rw [ht] at hP1
    obtain ⟨ad8, gd9, vad10⟩ := u9
    obtain ⟨hr9, hv11, hn12⟩ := hr9
    have hP : va_P D xcl (xMw cT aM ad8 rd gd9 vad10 o1.2.2.2.2 []) H1 := hP1
    have hD : va_D A (xMw cT aM ad8 rd gd9 vad10 o1.2.2.2.2 []) := hD1.weaken (fun k q _ h => hFc q.1 h)
    generalize H1 = H at hP hS ⊢
    have hE9 : ∀ p, p < xct st → vad10 p = vad p := fun p h => (hv11 p (Nat.lt_of_lt_of_le h hN)).trans (hE p h)
    have hE := hE9
    have hN : xct st ≤ xct o1.2.2.2.2 := Nat.le_trans hN hn12
    have ev13 : xv vad c0 = xv vad10 c0 := xvE hv11 hg4
    have ev14 : xv vad c1 = xv vad10 c1 := xvE hv11 hg5
    have hl : lv_has ls 4 [(0, .ref aM), (1, xv vad10 c0), (2, xv vad10 c1)] := by first | exact hl | ((try (rw [← ev13])); (try (rw [← ev14])); exact hl)
    rw [hr9]
    refine W.eq (g2 := F0 m 5 ls [xv vad10 o1.2.2.2.1]) (by first | rfl | ((try (rw [ev13])); (try (rw [ev14])); rfl)) ?_
    obtain ⟨hg15, hf⟩ := xifn hf
    refine xm_vget (v := .int ((xpi o1.2.2.2.2 0) (o1.2.2.2.1 - 1))) hx hb htx hown hK hP 0 (by decide) hg15 rfl ((hZ.1 (93, "kind", "I") (List.mem_of_getElem? (i := 0) rfl)).use rfl) rfl dM_flatten_5 ?_
    refine lv_iconst (v := 5) hx hb dM_flatten_8 (by decide) ?_
    refine lv_icmp_ne (tgt := 20) hx hb dM_flatten_9 (by decide) (fun hc => ?_) (fun hc => ?_)
    · rw [if_neg hc] at hf
      refine lv_aload_n hx hb dM_flatten_20 rfl (lv_at hl 0 rfl) ?_
      refine lv_iconst (v := 1) hx hb dM_flatten_21 (by decide) ?_
      obtain ⟨o16, hq17, hf⟩ := xbind hf
      have hl := lv_sub (l' := [(0, .ref aM)]) hl [0] rfl
      by_cases hk18 : o16.1 = 1
      · rw [if_pos hk18] at hf
        obtain ⟨hm19, hf⟩ := xmoE hf
        have hFc := xm_free hD hS hA
        refine xx_thr (vx_runV (C := "ValueBenchModel") (As := [.int 1]) (rest := []) ⟨hx, hb, hml, hown, htx⟩ (gM_refuse_1 l hl9 D cT aK aV H.size n aM ad8 rd gd9 vad10 o1.2.2.2.2 (1 : Int32) o16 hq17 hk18) ⟨callB_of 1 htx (xw_goodC kw_6_93) rfl rfl rfl (htx _ kw_1_5) (htx _ kw_6_90) ⟨by decide, by decide, by decide +kernel⟩ ⟨Nat.le_of_ble_eq_true rfl, Nat.le_of_ble_eq_true rfl⟩, (htx _ kw_6_92), (htx _ kp_M_refuse)⟩ ⟨xPre_blind, va_recv hK hP (ci := 5) rfl (q0 := 0) rfl, (fun U hU hW => ⟨rfl, xPre_of hZ hS hFc hP hD hK U hU hW⟩)⟩ rfl rfl hl.1 rfl (xm_room (Nat.le_of_ble_eq_true rfl)) dM_flatten_22 ⟨hm19.1, hm19.2⟩) hS hFc (fun q _ h => hFc q h) (fun E ce q9 u9 t H1 locs ht hvm hr9 hB hz1 hk1 hS hce hcv hcl => ?_)
        obtain ⟨rfl, hP1, hK1, hD1⟩ := hB
        rw [ht] at hP1
        obtain ⟨ad21, gd22, vad23⟩ := u9
        obtain ⟨hv24, hn25⟩ := hr9
        have hP : va_P D xcl (xMw cT aM ad21 rd gd22 vad23 o16.2.2.2.2 []) H1 := hP1
        have hD : va_D A (xMw cT aM ad21 rd gd22 vad23 o16.2.2.2.2 []) := hD1.weaken (fun k q _ h => hFc q.1 h)
        generalize H1 = H at hP hS hce ⊢
        have hE9 : ∀ p, p < xct st → vad23 p = vad p := fun p h => (hv24 p (Nat.lt_of_lt_of_le h hN)).trans (hE p h)
        have hE := hE9
        have hN : xct st ≤ xct o16.2.2.2.2 := Nat.le_trans hN hn25
        obtain rfl := Option.some.inj hf
        exact vx_out (E := "java/lang/ArithmeticException") (fun x h => (hne x h).elim) hlocks hce hcv hcl (fun t ht ha => ⟨(ad21, gd22, vad23), ⟨hE, hN⟩, ⟨rfl, by rw [ht]; exact hP, va_K.moved ha hK, hD⟩, hS.F ht⟩) hS.2.2 (Nat.le_refl _) (Nat.le_refl _)
      rw [if_neg hk18] at hf
      exact nomatch hf
    · rw [if_pos hc] at hf
      refine xm_aload_n hx hb (xvor _ _) dM_flatten_12 rfl (lv_at hl 2 rfl) ?_
      obtain ⟨hg16, hf⟩ := xifn hf
      refine xm_vget (v := .int ((xpi o1.2.2.2.2 0) (c1 - 1))) hx hb htx hown hK hP 0 (by decide) hg16 rfl ((hZ.1 (93, "kind", "I") (List.mem_of_getElem? (i := 0) rfl)).use rfl) rfl dM_flatten_13 ?_
      refine lv_iconst (v := 3) hx hb dM_flatten_16 (by decide) ?_
      refine lv_icmp_eq (tgt := 26) hx hb dM_flatten_17 (by decide) (fun hc => ?_) (fun hc => ?_)
      · rw [if_pos hc] at hf
        refine xm_aload_n hx hb (xvor _ _) dM_flatten_26 rfl (lv_at hl 2 rfl) ?_
        refine xm_vget (v := .long ((xpl o1.2.2.2.2) (c1 - 1))) hx hb htx hown hK hP 1 (by decide) hg16 rfl ((hZ.1 (96, "n", "J") (List.mem_of_getElem? (i := 1) rfl)).use rfl) rfl dM_flatten_27 ?_
        refine lv_lconst (v := 0) hx hb dM_flatten_30 (by decide) ?_
        refine W.lcmp hx hb dM_flatten_31 ?_
        refine lv_if_ge (tgt := 41) hx hb dM_flatten_32 (by decide) (fun hc => ?_) (fun hc => ?_)
        · rw [if_pos hc] at hf
          refine lv_aload_n hx hb dM_flatten_41 rfl (lv_at hl 0 rfl) ?_
          refine xm_get (v := .int (xsi o1.2.2.2.2 12)) hx hb htx hown hK hP 12 (by decide) rfl (htx _ kw_5_99) rfl dM_flatten_42 ?_
          refine lv_istore_n (lv' := [(3, .int (xsi o1.2.2.2.2 12)), (0, .ref aM), (1, xv vad10 c0), (2, xv vad10 c1)]) hx hb dM_flatten_45 rfl hl (by decide) (by simp only [List.filter, xvcat, xrscat, xcI, xcL, xcR, xcN]; rfl) (fun ls hl => ?_)
          refine lv_aload_n hx hb dM_flatten_46 rfl (lv_at hl 1 rfl) ?_
          refine xm_aload_n hx hb (xvor _ _) dM_flatten_47 rfl (lv_at hl 2 rfl) ?_
          refine xm_aload_n hx hb (xvor _ _) dM_flatten_48 rfl (lv_at hl 3 rfl) ?_
          refine xm_vget (v := .long ((xpl o1.2.2.2.2) (c1 - 1))) hx hb htx hown hK hP 1 (by decide) hg16 rfl ((hZ.1 (96, "n", "J") (List.mem_of_getElem? (i := 1) rfl)).use rfl) rfl dM_flatten_49 ?_
          obtain ⟨o17, hq18, hf⟩ := xbind hf
          have hl := lv_sub (l' := [(3, .int (xsi o1.2.2.2.2 12)), (0, .ref aM)]) hl [0, 1] rfl
          obtain ⟨hm19, hf⟩ := xmoE hf
          have hFc := xm_free hD hS hA
          refine va_callv (va_runV (C := "ValueBenchModel") (As := [xv vad10 c0, .long ((xpl o1.2.2.2.2) (c1 - 1))]) (rest := []) ⟨hx, hb, hml, hown, htx⟩ (gM_flat l hl9 D cT aK aV d H.size n aM ad8 rd gd9 vad10 o1.2.2.2.2 c0 ((xpl o1.2.2.2.2) (c1 - 1)) o17 hq18) ⟨callB_of 2 htx (xw_goodC kw_7_111) rfl rfl rfl (htx _ kw_1_5) (htx _ kw_7_108) ⟨by decide, by decide, by decide +kernel⟩ ⟨(by show (16 * d) + 1 ≤ 16 * d + 8; omega), (by show 8 + (6 + 11) + (400 * d) ≤ 400 * d + 147; omega)⟩, (htx _ kw_7_110), (htx _ kp_M_flat)⟩ ⟨xPre_blind, va_recv hK hP (ci := 5) rfl (q0 := 0) rfl, (fun U hU hW => ⟨rfl, xPre_of hZ hS hFc hP hD hK U hU hW⟩)⟩ rfl rfl hl.1 rfl (xm_room (Nat.le_of_ble_eq_true rfl)) dM_flatten_52 ⟨hm19.1, hm19.2⟩) hS (fun q _ h => hFc q h) hFc (fun u9 t H1 locs ht hvm hr9 hB hz1 hk1 hS => ?_)
          obtain ⟨hP1, hK1, hD1⟩ := hB
          rw [ht] at hP1
          obtain ⟨ad21, gd22, vad23⟩ := u9
          obtain ⟨hv24, hn25⟩ := hr9
          have hP : va_P D xcl (xMw cT aM ad21 rd gd22 vad23 o17.2.2 []) H1 := hP1
          have hD : va_D A (xMw cT aM ad21 rd gd22 vad23 o17.2.2 []) := hD1.weaken (fun k q _ h => hFc q.1 h)
          generalize H1 = H at hP hS ⊢
          have hE9 : ∀ p, p < xct st → vad23 p = vad p := fun p h => (hv24 p (Nat.lt_of_lt_of_le h hN)).trans (hE p h)
          have hE := hE9
          have hN : xct st ≤ xct o17.2.2 := Nat.le_trans hN hn25
          refine W.eq (g2 := F0 m 55 ls []) (by first | rfl | (skip; rfl)) ?_
          refine lv_aload_n hx hb dM_flatten_55 rfl (lv_at hl 1 rfl) ?_
          refine lv_iconst (v := 5) hx hb dM_flatten_56 (by decide) ?_
          refine lv_iload_n hx hb dM_flatten_57 rfl (lv_at hl 0 rfl) ?_
          obtain ⟨o26, hq27, hf⟩ := xbind hf
          by_cases hk28 : o26.1 = 0
          · rw [if_pos hk28] at hf
            obtain ⟨hm29, hf⟩ := xmoE hf
            have hFc := xm_free hD hS hA
            refine va_callq (va_runV (C := "ValueBenchModel") (As := [.int 5, .int (xsi o1.2.2.2.2 12)]) (rest := []) ⟨hx, hb, hml, hown, htx⟩ (gM_whole l hl9 D cT aK aV H.size n aM ad21 rd gd22 vad23 o17.2.2 (5 : Int32) (xsi o1.2.2.2.2 12) o26 hq27 hk28) ⟨callB_of 2 htx (xw_goodC kw_6_106) rfl rfl rfl (htx _ kw_1_5) (htx _ kw_6_103) ⟨by decide, by decide, by decide +kernel⟩ ⟨Nat.le_of_ble_eq_true rfl, Nat.le_of_ble_eq_true rfl⟩, (htx _ kw_6_105), (htx _ kp_M_whole)⟩ ⟨xPre_blind, va_recv hK hP (ci := 5) rfl (q0 := 0) rfl, (fun U hU hW => ⟨rfl, xPre_of hZ hS hFc hP hD hK U hU hW⟩)⟩ rfl rfl hl.1 rfl (xm_room (Nat.le_of_ble_eq_true rfl)) dM_flatten_58 ⟨hm29.1, hm29.2⟩) hS (fun q _ h => hFc q h) hFc (fun r30 u9 t H1 locs ht hvm hr9 hB hz1 hk1 hS => ?_)
            obtain ⟨hP1, hK1, hD1⟩ := hB
            rw [ht] at hP1
            obtain ⟨ad31, gd32, vad33⟩ := u9
            obtain ⟨hr9, hv34, hn35⟩ := hr9
            have hP : va_P D xcl (xMw cT aM ad31 rd gd32 vad33 o26.2.2.2.2 []) H1 := hP1
            have hD : va_D A (xMw cT aM ad31 rd gd32 vad33 o26.2.2.2.2 []) := hD1.weaken (fun k q _ h => hFc q.1 h)
            generalize H1 = H at hP hS ⊢
            have hE9 : ∀ p, p < xct st → vad33 p = vad p := fun p h => (hv34 p (Nat.lt_of_lt_of_le h hN)).trans (hE p h)
            have hE := hE9
            have hN : xct st ≤ xct o26.2.2.2.2 := Nat.le_trans hN hn35
            rw [hr9]
            refine W.eq (g2 := F0 m 61 ls [xv vad33 o26.2.2.2.1]) (by first | rfl | (skip; rfl)) ?_
            obtain rfl := Option.some.inj hf
            exact absurd (show (0 : Nat) = 1 from hkd) (by decide)
          rw [if_neg hk28] at hf
          by_cases hk36 : o26.1 = 1
          · rw [if_pos hk36] at hf
            obtain ⟨hm37, hf⟩ := xmoE hf
            obtain rfl := Option.some.inj hf
            exact absurd (show (2 : Nat) = 1 from hkd) (by decide)
          rw [if_neg hk36] at hf
          exact nomatch hf
        · rw [if_neg hc] at hf
          refine lv_aload_n hx hb dM_flatten_35 rfl (lv_at hl 0 rfl) ?_
          refine lv_iconst (v := 2) hx hb dM_flatten_36 (by decide) ?_
          obtain ⟨o17, hq18, hf⟩ := xbind hf
          have hl := lv_sub (l' := [(0, .ref aM)]) hl [0] rfl
          by_cases hk19 : o17.1 = 1
          · rw [if_pos hk19] at hf
            obtain ⟨hm20, hf⟩ := xmoE hf
            have hFc := xm_free hD hS hA
            refine xx_thr (vx_runV (C := "ValueBenchModel") (As := [.int 2]) (rest := []) ⟨hx, hb, hml, hown, htx⟩ (gM_refuse_1 l hl9 D cT aK aV H.size n aM ad8 rd gd9 vad10 o1.2.2.2.2 (2 : Int32) o17 hq18 hk19) ⟨callB_of 1 htx (xw_goodC kw_6_93) rfl rfl rfl (htx _ kw_1_5) (htx _ kw_6_90) ⟨by decide, by decide, by decide +kernel⟩ ⟨Nat.le_of_ble_eq_true rfl, Nat.le_of_ble_eq_true rfl⟩, (htx _ kw_6_92), (htx _ kp_M_refuse)⟩ ⟨xPre_blind, va_recv hK hP (ci := 5) rfl (q0 := 0) rfl, (fun U hU hW => ⟨rfl, xPre_of hZ hS hFc hP hD hK U hU hW⟩)⟩ rfl rfl hl.1 rfl (xm_room (Nat.le_of_ble_eq_true rfl)) dM_flatten_37 ⟨hm20.1, hm20.2⟩) hS hFc (fun q _ h => hFc q h) (fun E ce q9 u9 t H1 locs ht hvm hr9 hB hz1 hk1 hS hce hcv hcl => ?_)
            obtain ⟨rfl, hP1, hK1, hD1⟩ := hB
            rw [ht] at hP1
            obtain ⟨ad22, gd23, vad24⟩ := u9
            obtain ⟨hv25, hn26⟩ := hr9
            have hP : va_P D xcl (xMw cT aM ad22 rd gd23 vad24 o17.2.2.2.2 []) H1 := hP1
            have hD : va_D A (xMw cT aM ad22 rd gd23 vad24 o17.2.2.2.2 []) := hD1.weaken (fun k q _ h => hFc q.1 h)
            generalize H1 = H at hP hS hce ⊢
            have hE9 : ∀ p, p < xct st → vad24 p = vad p := fun p h => (hv25 p (Nat.lt_of_lt_of_le h hN)).trans (hE p h)
            have hE := hE9
            have hN : xct st ≤ xct o17.2.2.2.2 := Nat.le_trans hN hn26
            obtain rfl := Option.some.inj hf
            exact vx_out (E := "java/lang/ArithmeticException") (fun x h => (hne x h).elim) hlocks hce hcv hcl (fun t ht ha => ⟨(ad22, gd23, vad24), ⟨hE, hN⟩, ⟨rfl, by rw [ht]; exact hP, va_K.moved ha hK, hD⟩, hS.F ht⟩) hS.2.2 (Nat.le_refl _) (Nat.le_refl _)
          rw [if_neg hk19] at hf
          exact nomatch hf
      · rw [if_neg hc] at hf
        refine lv_aload_n hx hb dM_flatten_20 rfl (lv_at hl 0 rfl) ?_
        refine lv_iconst (v := 1) hx hb dM_flatten_21 (by decide) ?_
        obtain ⟨o17, hq18, hf⟩ := xbind hf
        have hl := lv_sub (l' := [(0, .ref aM)]) hl [0] rfl
        by_cases hk19 : o17.1 = 1
        · rw [if_pos hk19] at hf
          obtain ⟨hm20, hf⟩ := xmoE hf
          have hFc := xm_free hD hS hA
          refine xx_thr (vx_runV (C := "ValueBenchModel") (As := [.int 1]) (rest := []) ⟨hx, hb, hml, hown, htx⟩ (gM_refuse_1 l hl9 D cT aK aV H.size n aM ad8 rd gd9 vad10 o1.2.2.2.2 (1 : Int32) o17 hq18 hk19) ⟨callB_of 1 htx (xw_goodC kw_6_93) rfl rfl rfl (htx _ kw_1_5) (htx _ kw_6_90) ⟨by decide, by decide, by decide +kernel⟩ ⟨Nat.le_of_ble_eq_true rfl, Nat.le_of_ble_eq_true rfl⟩, (htx _ kw_6_92), (htx _ kp_M_refuse)⟩ ⟨xPre_blind, va_recv hK hP (ci := 5) rfl (q0 := 0) rfl, (fun U hU hW => ⟨rfl, xPre_of hZ hS hFc hP hD hK U hU hW⟩)⟩ rfl rfl hl.1 rfl (xm_room (Nat.le_of_ble_eq_true rfl)) dM_flatten_22 ⟨hm20.1, hm20.2⟩) hS hFc (fun q _ h => hFc q h) (fun E ce q9 u9 t H1 locs ht hvm hr9 hB hz1 hk1 hS hce hcv hcl => ?_)
          obtain ⟨rfl, hP1, hK1, hD1⟩ := hB
          rw [ht] at hP1
          obtain ⟨ad22, gd23, vad24⟩ := u9
          obtain ⟨hv25, hn26⟩ := hr9
          have hP : va_P D xcl (xMw cT aM ad22 rd gd23 vad24 o17.2.2.2.2 []) H1 := hP1
          have hD : va_D A (xMw cT aM ad22 rd gd23 vad24 o17.2.2.2.2 []) := hD1.weaken (fun k q _ h => hFc q.1 h)
          generalize H1 = H at hP hS hce ⊢
          have hE9 : ∀ p, p < xct st → vad24 p = vad p := fun p h => (hv25 p (Nat.lt_of_lt_of_le h hN)).trans (hE p h)
          have hE := hE9
          have hN : xct st ≤ xct o17.2.2.2.2 := Nat.le_trans hN hn26
          obtain rfl := Option.some.inj hf
          exact vx_out (E := "java/lang/ArithmeticException") (fun x h => (hne x h).elim) hlocks hce hcv hcl (fun t ht ha => ⟨(ad22, gd23, vad24), ⟨hE, hN⟩, ⟨rfl, by rw [ht]; exact hP, va_K.moved ha hK, hD⟩, hS.F ht⟩) hS.2.2 (Nat.le_refl _) (Nat.le_refl _)
        rw [if_neg hk19] at hf
        exact nomatch hf
  rw [if_neg hk3] at hf
  by_cases hk16 : o1.1 = 1
  · rw [if_pos hk16] at hf
    obtain ⟨hg17, hf⟩ := xifn hf
    obtain ⟨hg18, hf⟩ := xifn hf
    obtain ⟨hm19, hf⟩ := xmoE hf
    have hFc := xm_free hD hS hA
    refine xx_thr (vx_runV (C := "ValueBenchModel") (As := [xv vad c0]) (rest := []) ⟨hx, hb, hml, hown, htx⟩ (gM_array_1 l hl9 D cT aK aV s.heap.size n aM ad rd gd vad st c0 o1 hq2 hk16) ⟨callB_of 1 htx (xw_goodC kw_7_42) rfl rfl rfl (htx _ kw_1_5) (htx _ kw_7_39) ⟨by decide, by decide, by decide +kernel⟩ ⟨Nat.le_of_ble_eq_true rfl, Nat.le_of_ble_eq_true rfl⟩, (htx _ kw_7_41), (htx _ kp_M_array)⟩ ⟨xPre_blind, va_recv hK hP (ci := 5) rfl (q0 := 0) rfl, (fun U hU hW => ⟨rfl, xPre_of hZ hS hFc hP hD hK U hU hW⟩)⟩ rfl rfl hl.1 rfl (xm_room (Nat.le_of_ble_eq_true rfl)) dM_flatten_2 ⟨hm19.1, hm19.2⟩) hS hFc (fun q _ h => hFc q h) (fun E ce q9 u9 t H1 locs ht hvm hr9 hB hz1 hk1 hS hce hcv hcl => ?_)
    obtain ⟨rfl, hP1, hK1, hD1⟩ := hB
    rw [ht] at hP1
    obtain ⟨ad21, gd22, vad23⟩ := u9
    obtain ⟨hv24, hn25⟩ := hr9
    have hP : va_P D xcl (xMw cT aM ad21 rd gd22 vad23 o1.2.2.2.2 []) H1 := hP1
    have hD : va_D A (xMw cT aM ad21 rd gd22 vad23 o1.2.2.2.2 []) := hD1.weaken (fun k q _ h => hFc q.1 h)
    generalize H1 = H at hP hS hce ⊢
    have hE9 : ∀ p, p < xct st → vad23 p = vad p := fun p h => (hv24 p (Nat.lt_of_lt_of_le h hN)).trans (hE p h)
    have hE := hE9
    have hN : xct st ≤ xct o1.2.2.2.2 := Nat.le_trans hN hn25
    have ev26 : xv vad c0 = xv vad23 c0 := xvE hv24 hg17
    have ev27 : xv vad c1 = xv vad23 c1 := xvE hv24 hg18
    have hl : lv_has ls 4 [(0, .ref aM), (1, xv vad23 c0), (2, xv vad23 c1)] := by first | exact hl | ((try (rw [← ev26])); (try (rw [← ev27])); exact hl)
    obtain rfl := Option.some.inj hf
    exact vx_out (E := "java/lang/ArithmeticException") (fun x h => (hne x h).elim) hlocks hce hcv hcl (fun t ht ha => ⟨(ad21, gd22, vad23), ⟨hE, hN⟩, ⟨rfl, by rw [ht]; exact hP, va_K.moved ha hK, hD⟩, hS.F ht⟩) hS.2.2 (Nat.le_refl _) (Nat.le_refl _)
  rw [if_neg hk16] at hf
  exact nomatch hf
set_option maxHeartbeats 400000000 in
set_option maxRecDepth 100000 in
theorem gM_flatten_2 (l : Launch) (hl9 : l.stackTraces = false) (D : va_G) (cT : Nat → ClassId) (aK aV : Nat → Nat) (sz d n : Nat) (aM : Nat) (ad rd gd vad : Nat → Nat) (st : xS) (c0 : Nat) (c1 : Nat) (out : Nat × Nat × Nat × Nat × xS) (hf : fM_flatten d n st c0 c1 = some out) (hkd : out.1 = 2) : xMetY l yM_flatten wyM_flatten (16 * d + 8) out.2.1 out.2.2.1 (400 * d + 147) D cT aK aV sz [.ref aM, xv vad c0, xv vad c1] (xMw cT aM ad rd gd vad st []) "java/lang/IndexOutOfBoundsException" (fun u => xE vad st out.2.2.2.2 u) (fun A u t => xB D xcl cT A (xMw cT aM u.1 rd u.2.1 u.2.2 out.2.2.2.2 []) t) := by
  refine vx_ofW (cc := prog_13_method_74_code) (maxL := 4) (ret := (some (.object "ValueBenchModel$V"))) (by decide) rfl ?_
  intro p e s m args below meth c s₁ B hml hne hv
  obtain ⟨rfl, hsz, hZ, hP, hK, hD0⟩ := hv
  have hx := B.exec
  have hb := B.bytes
  have hr := B.returns
  have hts := atoms_spec (ws := wyM_flatten) B.pre
  have htx := fun w h => hts w (List.mem_cons_of_mem _ h)
  have hown : s.vm.findClass "ValueBenchModel" = some m.cls := findClass_of_methodNamed B.named
  have hlocks := B.notSynchronized
  subst hsz
  have hD := hD0.self (sz := s.heap.size)
  generalize hAe : va_A (xMw cT aM ad rd gd vad st []) s.heap.size = A at hD hZ ⊢
  have hA : ∀ q : Nat, s.heap.size ≤ q → A q := fun q h => by rw [← hAe]; exact Or.inr h
  have hS : va_S A s.heap s.heap [] := va_S.rf
  have hl := lv_entry ([.ref aM, xv vad c0, xv vad c1]) (n := 4) (by simp [lg_sl, xvcat, xrscat, xcI, xcL, xcR, xcN])
  rw [show lv_args 0 [.ref aM, xv vad c0, xv vad c1] = [(0, .ref aM), (1, xv vad c0), (2, xv vad c1)] from by simp [lv_args, xvcat, xrscat, xcI, xcL, xcR, xcN]] at hl
  rw [lg_entry_eq]
  generalize (lg_sl ([.ref aM, xv vad c0, xv vad c1]) ++ List.replicate (4 - (lg_sl ([.ref aM, xv vad c0, xv vad c1])).length) Slot.unset).toArray = ls at hl ⊢
  have hl : lv_has ls 4 [(0, .ref aM), (1, xv vad c0), (2, xv vad c1)] := hl
  have hE : ∀ p, p < xct st → vad p = vad p := fun _ _ => rfl
  have hN : xct st ≤ xct st := Nat.le_refl _
  unfold fM_flatten at hf
  refine lv_aload_n hx hb dM_flatten_0 rfl (lv_at hl 0 rfl) ?_
  refine xm_aload_n hx hb (xvor _ _) dM_flatten_1 rfl (lv_at hl 1 rfl) ?_
  obtain ⟨o1, hq2, hf⟩ := xbind hf
  by_cases hk3 : o1.1 = 0
  · rw [if_pos hk3] at hf
    obtain ⟨hg4, hf⟩ := xifn hf
    obtain ⟨hg5, hf⟩ := xifn hf
    obtain ⟨hm6, hf⟩ := xmoE hf
    have hFc := xm_free hD hS hA
    refine va_callq (va_runV (C := "ValueBenchModel") (As := [xv vad c0]) (rest := []) ⟨hx, hb, hml, hown, htx⟩ (gM_array l hl9 D cT aK aV s.heap.size n aM ad rd gd vad st c0 o1 hq2 hk3) ⟨callB_of 1 htx (xw_goodC kw_7_42) rfl rfl rfl (htx _ kw_1_5) (htx _ kw_7_39) ⟨by decide, by decide, by decide +kernel⟩ ⟨Nat.le_of_ble_eq_true rfl, Nat.le_of_ble_eq_true rfl⟩, (htx _ kw_7_41), (htx _ kp_M_array)⟩ ⟨xPre_blind, va_recv hK hP (ci := 5) rfl (q0 := 0) rfl, (fun U hU hW => ⟨rfl, xPre_of hZ hS hFc hP hD hK U hU hW⟩)⟩ rfl rfl hl.1 rfl (xm_room (Nat.le_of_ble_eq_true rfl)) dM_flatten_2 ⟨hm6.1, hm6.2⟩) hS (fun q _ h => hFc q h) hFc (fun r7 u9 t H1 locs ht hvm hr9 hB hz1 hk1 hS => ?_)
    obtain ⟨hP1, hK1, hD1⟩ := hB
    rw [ht] at hP1
    obtain ⟨ad8, gd9, vad10⟩ := u9
    obtain ⟨hr9, hv11, hn12⟩ := hr9
    have hP : va_P D xcl (xMw cT aM ad8 rd gd9 vad10 o1.2.2.2.2 []) H1 := hP1
    have hD : va_D A (xMw cT aM ad8 rd gd9 vad10 o1.2.2.2.2 []) := hD1.weaken (fun k q _ h => hFc q.1 h)
    generalize H1 = H at hP hS ⊢
    have hE9 : ∀ p, p < xct st → vad10 p = vad p := fun p h => (hv11 p (Nat.lt_of_lt_of_le h hN)).trans (hE p h)
    have hE := hE9
    have hN : xct st ≤ xct o1.2.2.2.2 := Nat.le_trans hN hn12
    have ev13 : xv vad c0 = xv vad10 c0 := xvE hv11 hg4
    have ev14 : xv vad c1 = xv vad10 c1 := xvE hv11 hg5
    have hl : lv_has ls 4 [(0, .ref aM), (1, xv vad10 c0), (2, xv vad10 c1)] := by first | exact hl | ((try (rw [← ev13])); (try (rw [← ev14])); exact hl)
    rw [hr9]
    refine W.eq (g2 := F0 m 5 ls [xv vad10 o1.2.2.2.1]) (by first | rfl | ((try (rw [ev13])); (try (rw [ev14])); rfl)) ?_
    obtain ⟨hg15, hf⟩ := xifn hf
    refine xm_vget (v := .int ((xpi o1.2.2.2.2 0) (o1.2.2.2.1 - 1))) hx hb htx hown hK hP 0 (by decide) hg15 rfl ((hZ.1 (93, "kind", "I") (List.mem_of_getElem? (i := 0) rfl)).use rfl) rfl dM_flatten_5 ?_
    refine lv_iconst (v := 5) hx hb dM_flatten_8 (by decide) ?_
    refine lv_icmp_ne (tgt := 20) hx hb dM_flatten_9 (by decide) (fun hc => ?_) (fun hc => ?_)
    · rw [if_neg hc] at hf
      refine lv_aload_n hx hb dM_flatten_20 rfl (lv_at hl 0 rfl) ?_
      refine lv_iconst (v := 1) hx hb dM_flatten_21 (by decide) ?_
      obtain ⟨o16, hq17, hf⟩ := xbind hf
      have hl := lv_sub (l' := [(0, .ref aM)]) hl [0] rfl
      by_cases hk18 : o16.1 = 1
      · rw [if_pos hk18] at hf
        obtain ⟨hm19, hf⟩ := xmoE hf
        obtain rfl := Option.some.inj hf
        exact absurd (show (1 : Nat) = 2 from hkd) (by decide)
      rw [if_neg hk18] at hf
      exact nomatch hf
    · rw [if_pos hc] at hf
      refine xm_aload_n hx hb (xvor _ _) dM_flatten_12 rfl (lv_at hl 2 rfl) ?_
      obtain ⟨hg16, hf⟩ := xifn hf
      refine xm_vget (v := .int ((xpi o1.2.2.2.2 0) (c1 - 1))) hx hb htx hown hK hP 0 (by decide) hg16 rfl ((hZ.1 (93, "kind", "I") (List.mem_of_getElem? (i := 0) rfl)).use rfl) rfl dM_flatten_13 ?_
      refine lv_iconst (v := 3) hx hb dM_flatten_16 (by decide) ?_
      refine lv_icmp_eq (tgt := 26) hx hb dM_flatten_17 (by decide) (fun hc => ?_) (fun hc => ?_)
      · rw [if_pos hc] at hf
        refine xm_aload_n hx hb (xvor _ _) dM_flatten_26 rfl (lv_at hl 2 rfl) ?_
        refine xm_vget (v := .long ((xpl o1.2.2.2.2) (c1 - 1))) hx hb htx hown hK hP 1 (by decide) hg16 rfl ((hZ.1 (96, "n", "J") (List.mem_of_getElem? (i := 1) rfl)).use rfl) rfl dM_flatten_27 ?_
        refine lv_lconst (v := 0) hx hb dM_flatten_30 (by decide) ?_
        refine W.lcmp hx hb dM_flatten_31 ?_
        refine lv_if_ge (tgt := 41) hx hb dM_flatten_32 (by decide) (fun hc => ?_) (fun hc => ?_)
        · rw [if_pos hc] at hf
          refine lv_aload_n hx hb dM_flatten_41 rfl (lv_at hl 0 rfl) ?_
          refine xm_get (v := .int (xsi o1.2.2.2.2 12)) hx hb htx hown hK hP 12 (by decide) rfl (htx _ kw_5_99) rfl dM_flatten_42 ?_
          refine lv_istore_n (lv' := [(3, .int (xsi o1.2.2.2.2 12)), (0, .ref aM), (1, xv vad10 c0), (2, xv vad10 c1)]) hx hb dM_flatten_45 rfl hl (by decide) (by simp only [List.filter, xvcat, xrscat, xcI, xcL, xcR, xcN]; rfl) (fun ls hl => ?_)
          refine lv_aload_n hx hb dM_flatten_46 rfl (lv_at hl 1 rfl) ?_
          refine xm_aload_n hx hb (xvor _ _) dM_flatten_47 rfl (lv_at hl 2 rfl) ?_
          refine xm_aload_n hx hb (xvor _ _) dM_flatten_48 rfl (lv_at hl 3 rfl) ?_
          refine xm_vget (v := .long ((xpl o1.2.2.2.2) (c1 - 1))) hx hb htx hown hK hP 1 (by decide) hg16 rfl ((hZ.1 (96, "n", "J") (List.mem_of_getElem? (i := 1) rfl)).use rfl) rfl dM_flatten_49 ?_
          obtain ⟨o17, hq18, hf⟩ := xbind hf
          have hl := lv_sub (l' := [(3, .int (xsi o1.2.2.2.2 12)), (0, .ref aM)]) hl [0, 1] rfl
          obtain ⟨hm19, hf⟩ := xmoE hf
          have hFc := xm_free hD hS hA
          refine va_callv (va_runV (C := "ValueBenchModel") (As := [xv vad10 c0, .long ((xpl o1.2.2.2.2) (c1 - 1))]) (rest := []) ⟨hx, hb, hml, hown, htx⟩ (gM_flat l hl9 D cT aK aV d H.size n aM ad8 rd gd9 vad10 o1.2.2.2.2 c0 ((xpl o1.2.2.2.2) (c1 - 1)) o17 hq18) ⟨callB_of 2 htx (xw_goodC kw_7_111) rfl rfl rfl (htx _ kw_1_5) (htx _ kw_7_108) ⟨by decide, by decide, by decide +kernel⟩ ⟨(by show (16 * d) + 1 ≤ 16 * d + 8; omega), (by show 8 + (6 + 11) + (400 * d) ≤ 400 * d + 147; omega)⟩, (htx _ kw_7_110), (htx _ kp_M_flat)⟩ ⟨xPre_blind, va_recv hK hP (ci := 5) rfl (q0 := 0) rfl, (fun U hU hW => ⟨rfl, xPre_of hZ hS hFc hP hD hK U hU hW⟩)⟩ rfl rfl hl.1 rfl (xm_room (Nat.le_of_ble_eq_true rfl)) dM_flatten_52 ⟨hm19.1, hm19.2⟩) hS (fun q _ h => hFc q h) hFc (fun u9 t H1 locs ht hvm hr9 hB hz1 hk1 hS => ?_)
          obtain ⟨hP1, hK1, hD1⟩ := hB
          rw [ht] at hP1
          obtain ⟨ad21, gd22, vad23⟩ := u9
          obtain ⟨hv24, hn25⟩ := hr9
          have hP : va_P D xcl (xMw cT aM ad21 rd gd22 vad23 o17.2.2 []) H1 := hP1
          have hD : va_D A (xMw cT aM ad21 rd gd22 vad23 o17.2.2 []) := hD1.weaken (fun k q _ h => hFc q.1 h)
          generalize H1 = H at hP hS ⊢
          have hE9 : ∀ p, p < xct st → vad23 p = vad p := fun p h => (hv24 p (Nat.lt_of_lt_of_le h hN)).trans (hE p h)
          have hE := hE9
          have hN : xct st ≤ xct o17.2.2 := Nat.le_trans hN hn25
          refine W.eq (g2 := F0 m 55 ls []) (by first | rfl | (skip; rfl)) ?_
          refine lv_aload_n hx hb dM_flatten_55 rfl (lv_at hl 1 rfl) ?_
          refine lv_iconst (v := 5) hx hb dM_flatten_56 (by decide) ?_
          refine lv_iload_n hx hb dM_flatten_57 rfl (lv_at hl 0 rfl) ?_
          obtain ⟨o26, hq27, hf⟩ := xbind hf
          by_cases hk28 : o26.1 = 0
          · rw [if_pos hk28] at hf
            obtain ⟨hm29, hf⟩ := xmoE hf
            have hFc := xm_free hD hS hA
            refine va_callq (va_runV (C := "ValueBenchModel") (As := [.int 5, .int (xsi o1.2.2.2.2 12)]) (rest := []) ⟨hx, hb, hml, hown, htx⟩ (gM_whole l hl9 D cT aK aV H.size n aM ad21 rd gd22 vad23 o17.2.2 (5 : Int32) (xsi o1.2.2.2.2 12) o26 hq27 hk28) ⟨callB_of 2 htx (xw_goodC kw_6_106) rfl rfl rfl (htx _ kw_1_5) (htx _ kw_6_103) ⟨by decide, by decide, by decide +kernel⟩ ⟨Nat.le_of_ble_eq_true rfl, Nat.le_of_ble_eq_true rfl⟩, (htx _ kw_6_105), (htx _ kp_M_whole)⟩ ⟨xPre_blind, va_recv hK hP (ci := 5) rfl (q0 := 0) rfl, (fun U hU hW => ⟨rfl, xPre_of hZ hS hFc hP hD hK U hU hW⟩)⟩ rfl rfl hl.1 rfl (xm_room (Nat.le_of_ble_eq_true rfl)) dM_flatten_58 ⟨hm29.1, hm29.2⟩) hS (fun q _ h => hFc q h) hFc (fun r30 u9 t H1 locs ht hvm hr9 hB hz1 hk1 hS => ?_)
            obtain ⟨hP1, hK1, hD1⟩ := hB
            rw [ht] at hP1
            obtain ⟨ad31, gd32, vad33⟩ := u9
            obtain ⟨hr9, hv34, hn35⟩ := hr9
            have hP : va_P D xcl (xMw cT aM ad31 rd gd32 vad33 o26.2.2.2.2 []) H1 := hP1
            have hD : va_D A (xMw cT aM ad31 rd gd32 vad33 o26.2.2.2.2 []) := hD1.weaken (fun k q _ h => hFc q.1 h)
            generalize H1 = H at hP hS ⊢
            have hE9 : ∀ p, p < xct st → vad33 p = vad p := fun p h => (hv34 p (Nat.lt_of_lt_of_le h hN)).trans (hE p h)
            have hE := hE9
            have hN : xct st ≤ xct o26.2.2.2.2 := Nat.le_trans hN hn35
            rw [hr9]
            refine W.eq (g2 := F0 m 61 ls [xv vad33 o26.2.2.2.1]) (by first | rfl | (skip; rfl)) ?_
            obtain rfl := Option.some.inj hf
            exact absurd (show (0 : Nat) = 2 from hkd) (by decide)
          rw [if_neg hk28] at hf
          by_cases hk36 : o26.1 = 1
          · rw [if_pos hk36] at hf
            obtain ⟨hm37, hf⟩ := xmoE hf
            have hFc := xm_free hD hS hA
            refine xx_thr (vx_runV (C := "ValueBenchModel") (As := [.int 5, .int (xsi o1.2.2.2.2 12)]) (rest := []) ⟨hx, hb, hml, hown, htx⟩ (gM_whole_1 l hl9 D cT aK aV H.size n aM ad21 rd gd22 vad23 o17.2.2 (5 : Int32) (xsi o1.2.2.2.2 12) o26 hq27 hk36) ⟨callB_of 2 htx (xw_goodC kw_6_106) rfl rfl rfl (htx _ kw_1_5) (htx _ kw_6_103) ⟨by decide, by decide, by decide +kernel⟩ ⟨Nat.le_of_ble_eq_true rfl, Nat.le_of_ble_eq_true rfl⟩, (htx _ kw_6_105), (htx _ kp_M_whole)⟩ ⟨xPre_blind, va_recv hK hP (ci := 5) rfl (q0 := 0) rfl, (fun U hU hW => ⟨rfl, xPre_of hZ hS hFc hP hD hK U hU hW⟩)⟩ rfl rfl hl.1 rfl (xm_room (Nat.le_of_ble_eq_true rfl)) dM_flatten_58 ⟨hm37.1, hm37.2⟩) hS hFc (fun q _ h => hFc q h) (fun E ce q9 u9 t H1 locs ht hvm hr9 hB hz1 hk1 hS hce hcv hcl => ?_)
            obtain ⟨rfl, hP1, hK1, hD1⟩ := hB
            rw [ht] at hP1
            obtain ⟨ad39, gd40, vad41⟩ := u9
            obtain ⟨hv42, hn43⟩ := hr9
            have hP : va_P D xcl (xMw cT aM ad39 rd gd40 vad41 o26.2.2.2.2 []) H1 := hP1
            have hD : va_D A (xMw cT aM ad39 rd gd40 vad41 o26.2.2.2.2 []) := hD1.weaken (fun k q _ h => hFc q.1 h)
            generalize H1 = H at hP hS hce ⊢
            have hE9 : ∀ p, p < xct st → vad41 p = vad p := fun p h => (hv42 p (Nat.lt_of_lt_of_le h hN)).trans (hE p h)
            have hE := hE9
            have hN : xct st ≤ xct o26.2.2.2.2 := Nat.le_trans hN hn43
            obtain rfl := Option.some.inj hf
            exact vx_out (E := "java/lang/IndexOutOfBoundsException") (fun x h => (hne x h).elim) hlocks hce hcv hcl (fun t ht ha => ⟨(ad39, gd40, vad41), ⟨hE, hN⟩, ⟨rfl, by rw [ht]; exact hP, va_K.moved ha hK, hD⟩, hS.F ht⟩) hS.2.2 (Nat.le_refl _) (Nat.le_refl _)
          rw [if_neg hk36] at hf
          exact nomatch hf
        · rw [if_neg hc] at hf
          refine lv_aload_n hx hb dM_flatten_35 rfl (lv_at hl 0 rfl) ?_
          refine lv_iconst (v := 2) hx hb dM_flatten_36 (by decide) ?_
          obtain ⟨o17, hq18, hf⟩ := xbind hf
          have hl := lv_sub (l' := [(0, .ref aM)]) hl [0] rfl
          by_cases hk19 : o17.1 = 1
          · rw [if_pos hk19] at hf
            obtain ⟨hm20, hf⟩ := xmoE hf
            obtain rfl := Option.some.inj hf
            exact absurd (show (1 : Nat) = 2 from hkd) (by decide)
          rw [if_neg hk19] at hf
          exact nomatch hf
      · rw [if_neg hc] at hf
        refine lv_aload_n hx hb dM_flatten_20 rfl (lv_at hl 0 rfl) ?_
        refine lv_iconst (v := 1) hx hb dM_flatten_21 (by decide) ?_
        obtain ⟨o17, hq18, hf⟩ := xbind hf
        have hl := lv_sub (l' := [(0, .ref aM)]) hl [0] rfl
        by_cases hk19 : o17.1 = 1
        · rw [if_pos hk19] at hf
          obtain ⟨hm20, hf⟩ := xmoE hf
          obtain rfl := Option.some.inj hf
          exact absurd (show (1 : Nat) = 2 from hkd) (by decide)
        rw [if_neg hk19] at hf
        exact nomatch hf
  rw [if_neg hk3] at hf
  by_cases hk16 : o1.1 = 1
  · rw [if_pos hk16] at hf
    obtain ⟨hg17, hf⟩ := xifn hf
    obtain ⟨hg18, hf⟩ := xifn hf
    obtain ⟨hm19, hf⟩ := xmoE hf
    obtain rfl := Option.some.inj hf
    exact absurd (show (1 : Nat) = 2 from hkd) (by decide)
  rw [if_neg hk16] at hf
  exact nomatch hf
set_option maxHeartbeats 400000000 in
set_option maxRecDepth 100000 in
theorem gM_two1 (l : Launch) (hl9 : l.stackTraces = false) (D : va_G) (cT : Nat → ClassId) (aK aV : Nat → Nat) (sz d n : Nat) (aM : Nat) (ad rd gd vad : Nat → Nat) (st : xS) (x0 : Int32) (c1 : Nat) (c2 : Nat) (out : Nat × Nat × Nat × Nat × xS) (hf : fM_two1 d n st x0 c1 c2 = some out) (hkd : out.1 = 0) : xMet l yM_two1 wyM_two1 (16 * d + 10) out.2.1 out.2.2.1 (400 * d + 199) D cT aK aV sz [.ref aM, .int x0, xv vad c1, xv vad c2] (xMw cT aM ad rd gd vad st []) (fun A => va_Qq (fun (r : Option Nat) (u : xU) => r = xca u.2.2 out.2.2.2.1 ∧ xE vad st out.2.2.2.2 u) (fun u t => xB D xcl cT A (xMw cT aM u.1 rd u.2.1 u.2.2 out.2.2.2.2 []) t) A) := by
  refine Met.ofW (cc := prog_13_method_76_code) (maxL := 4) (ret := (some (.object "ValueBenchModel$V"))) (by decide) rfl ?_
  intro p e s m args below meth c s₁ B hml hv
  obtain ⟨rfl, hsz, hZ, hP, hK, hD0⟩ := hv
  have hx := B.exec
  have hb := B.bytes
  have hr := B.returns
  have hts := atoms_spec (ws := wyM_two1) B.pre
  have htx := fun w h => hts w (List.mem_cons_of_mem _ h)
  have hown : s.vm.findClass "ValueBenchModel" = some m.cls := findClass_of_methodNamed B.named
  have hlocks := B.notSynchronized
  subst hsz
  have hD := hD0.self (sz := s.heap.size)
  generalize hAe : va_A (xMw cT aM ad rd gd vad st []) s.heap.size = A at hD hZ ⊢
  have hA : ∀ q : Nat, s.heap.size ≤ q → A q := fun q h => by rw [← hAe]; exact Or.inr h
  have hS : va_S A s.heap s.heap [] := va_S.rf
  have hl := lv_entry ([.ref aM, .int x0, xv vad c1, xv vad c2]) (n := 4) (by simp [lg_sl, xvcat, xrscat, xcI, xcL, xcR, xcN])
  rw [show lv_args 0 [.ref aM, .int x0, xv vad c1, xv vad c2] = [(0, .ref aM), (1, .int x0), (2, xv vad c1), (3, xv vad c2)] from by simp [lv_args, xvcat, xrscat, xcI, xcL, xcR, xcN]] at hl
  rw [lg_entry_eq]
  generalize (lg_sl ([.ref aM, .int x0, xv vad c1, xv vad c2]) ++ List.replicate (4 - (lg_sl ([.ref aM, .int x0, xv vad c1, xv vad c2])).length) Slot.unset).toArray = ls at hl ⊢
  have hl : lv_has ls 4 [(0, .ref aM), (1, .int x0), (2, xv vad c1), (3, xv vad c2)] := hl
  have hE : ∀ p, p < xct st → vad p = vad p := fun _ _ => rfl
  have hN : xct st ≤ xct st := Nat.le_refl _
  unfold fM_two1 at hf
  refine lv_iload_n hx hb dM_two1_0 rfl (lv_at hl 1 rfl) ?_
  by_cases hc1 : x0 = 0
  · rw [if_pos hc1] at hf
    refine lv_tableIn (off := 51) (tgt := 52) hx hb dM_two1_1 (by rw [hc1]; decide) (by rw [hc1]; decide) (by rw [hc1]; decide) (by decide) ?_
    refine lv_aload_n hx hb dM_two1_52 rfl (lv_at hl 0 rfl) ?_
    refine xm_aload_n hx hb (xvor _ _) dM_two1_53 rfl (lv_at hl 2 rfl) ?_
    refine xm_aload_n hx hb (xvor _ _) dM_two1_54 rfl (lv_at hl 3 rfl) ?_
    obtain ⟨o2, hq3, hf⟩ := xbind hf
    have hl := lv_sub (l' := [(0, .ref aM), (1, .int x0)]) hl [0, 1] rfl
    by_cases hk4 : o2.1 = 0
    · rw [if_pos hk4] at hf
      obtain ⟨hm5, hf⟩ := xmoE hf
      have hFc := xm_free hD hS hA
      refine va_callq (va_runV (C := "ValueBenchModel") (As := [xv vad c1, xv vad c2]) (rest := []) ⟨hx, hb, hml, hown, htx⟩ (gM_has l hl9 D cT aK aV s.heap.size n aM ad rd gd vad st c1 c2 o2 hq3 hk4) ⟨callB_of 2 htx (xw_goodC kw_7_83) rfl rfl rfl (htx _ kw_1_5) (htx _ kw_7_80) ⟨by decide, by decide, by decide +kernel⟩ ⟨Nat.le_of_ble_eq_true rfl, Nat.le_of_ble_eq_true rfl⟩, (htx _ kw_7_82), (htx _ kp_M_has)⟩ ⟨xPre_blind, va_recv hK hP (ci := 5) rfl (q0 := 0) rfl, (fun U hU hW => ⟨rfl, xPre_of hZ hS hFc hP hD hK U hU hW⟩)⟩ rfl rfl hl.1 rfl (xm_room (Nat.le_of_ble_eq_true rfl)) dM_two1_55 ⟨hm5.1, hm5.2⟩) hS (fun q _ h => hFc q h) hFc (fun r6 u9 t H1 locs ht hvm hr9 hB hz1 hk1 hS => ?_)
      obtain ⟨hP1, hK1, hD1⟩ := hB
      rw [ht] at hP1
      obtain ⟨ad7, gd8, vad9⟩ := u9
      obtain ⟨hr9, hv10, hn11⟩ := hr9
      have hP : va_P D xcl (xMw cT aM ad7 rd gd8 vad9 o2.2.2.2.2 []) H1 := hP1
      have hD : va_D A (xMw cT aM ad7 rd gd8 vad9 o2.2.2.2.2 []) := hD1.weaken (fun k q _ h => hFc q.1 h)
      generalize H1 = H at hP hS ⊢
      have hE9 : ∀ p, p < xct st → vad9 p = vad p := fun p h => (hv10 p (Nat.lt_of_lt_of_le h hN)).trans (hE p h)
      have hE := hE9
      have hN : xct st ≤ xct o2.2.2.2.2 := Nat.le_trans hN hn11
      rw [hr9]
      refine W.eq (g2 := F0 m 58 ls [xv vad9 o2.2.2.2.1]) (by first | rfl | (skip; rfl)) ?_
      obtain rfl := Option.some.inj hf
      exact W.aret (v := xv vad9 o2.2.2.2.1) hx hb hr (Or.inl ⟨_, rfl⟩) (xvor _ _) (fun t ht hW => ⟨⟨xca vad9 o2.2.2.2.1, (ad7, gd8, vad9), rfl, ⟨rfl, hE, hN⟩, by rw [ht]; exact hP, va_K.moved hW.alike hK, hD⟩, hS.F ht⟩) hS.2.2 dM_two1_58
    rw [if_neg hk4] at hf
    by_cases hk12 : o2.1 = 1
    · rw [if_pos hk12] at hf
      obtain ⟨hm13, hf⟩ := xmoE hf
      obtain rfl := Option.some.inj hf
      exact absurd (show (1 : Nat) = 0 from hkd) (by decide)
    rw [if_neg hk12] at hf
    exact nomatch hf
  rw [if_neg hc1] at hf
  by_cases hc20 : x0 = 1
  · rw [if_pos hc20] at hf
    refine lv_tableIn (off := 58) (tgt := 59) hx hb dM_two1_1 (by rw [hc20]; decide) (by rw [hc20]; decide) (by rw [hc20]; decide) (by decide) ?_
    refine lv_aload_n hx hb dM_two1_59 rfl (lv_at hl 0 rfl) ?_
    refine xm_aload_n hx hb (xvor _ _) dM_two1_60 rfl (lv_at hl 2 rfl) ?_
    refine xm_aload_n hx hb (xvor _ _) dM_two1_61 rfl (lv_at hl 3 rfl) ?_
    obtain ⟨o21, hq22, hf⟩ := xbind hf
    have hFc := xm_free hD hS hA
    refine va_calli (va_runV (C := "ValueBenchModel") (As := [xv vad c1, xv vad c2]) (rest := []) ⟨hx, hb, hml, hown, htx⟩ (gM_alike l hl9 D cT aK aV s.heap.size n aM ad rd gd vad st c1 c2 o21 hq22) ⟨callB_of 2 htx (xw_goodC kw_7_87) rfl rfl rfl (htx _ kw_1_5) (htx _ kw_7_84) ⟨by decide, by decide, by decide +kernel⟩ ⟨Nat.le_of_ble_eq_true rfl, Nat.le_of_ble_eq_true rfl⟩, (htx _ kw_7_86), (htx _ kp_M_alike)⟩ ⟨xPre_blind, va_recv hK hP (ci := 5) rfl (q0 := 0) rfl, (fun U hU hW => ⟨rfl, xPre_of hZ hS hFc hP hD hK U hU hW⟩)⟩ rfl rfl hl.1 rfl (xm_room (Nat.le_of_ble_eq_true rfl)) dM_two1_62 ⟨Nat.zero_le _, Nat.zero_le _⟩) hS (fun q _ h => hFc q h) hFc (fun r23 u9 t H1 locs ht hvm hr9 hB hz1 hk1 hS => ?_)
    obtain ⟨hP1, hK1, hD1⟩ := hB
    rw [ht] at hP1
    have hP : va_P D xcl (xMw cT aM ad rd gd vad st []) H1 := hP1
    have hD : va_D A (xMw cT aM ad rd gd vad st []) := hD1.weaken (fun k q _ h => hFc q.1 h)
    generalize H1 = H at hP hS ⊢
    rw [hr9]
    refine W.eq (g2 := F0 m 65 ls [.int o21]) (by first | rfl | (skip; rfl)) ?_
    refine lv_if_eq (tgt := 81) hx hb dM_two1_65 (by decide) (fun hc => ?_) (fun hc => ?_)
    · rw [if_pos hc] at hf
      refine lv_aload_n hx hb dM_two1_81 rfl (lv_at hl 0 rfl) ?_
      refine lv_iconst (v := 1) hx hb dM_two1_82 (by decide) ?_
      obtain ⟨o24, hq25, hf⟩ := xbind hf
      have hl := lv_sub (l' := [(0, .ref aM), (1, .int x0)]) hl [0, 1] rfl
      by_cases hk26 : o24.1 = 1
      · rw [if_pos hk26] at hf
        obtain ⟨hm27, hf⟩ := xmoE hf
        obtain rfl := Option.some.inj hf
        exact absurd (show (1 : Nat) = 0 from hkd) (by decide)
      rw [if_neg hk26] at hf
      exact nomatch hf
    · rw [if_neg hc] at hf
      refine lv_aload_n hx hb dM_two1_68 rfl (lv_at hl 0 rfl) ?_
      refine lv_aload_n hx hb dM_two1_69 rfl (lv_at hl 0 rfl) ?_
      refine xm_aload_n hx hb (xvor _ _) dM_two1_70 rfl (lv_at hl 2 rfl) ?_
      refine xm_aload_n hx hb (xvor _ _) dM_two1_71 rfl (lv_at hl 3 rfl) ?_
      obtain ⟨o24, hq25, hf⟩ := xbind hf
      have hl := lv_sub (l' := [(0, .ref aM), (1, .int x0)]) hl [0, 1] rfl
      have hFc := xm_free hD hS hA
      refine va_calli (va_runV (C := "ValueBenchModel") (As := [xv vad c1, xv vad c2]) (rest := [.ref aM]) ⟨hx, hb, hml, hown, htx⟩ (gM_contains l hl9 D cT aK aV d H.size n aM ad rd gd vad st c1 c2 o24 hq25) ⟨callB_of 2 htx (xw_goodC kw_7_91) rfl rfl rfl (htx _ kw_1_5) (htx _ kw_7_88) ⟨by decide, by decide, by decide +kernel⟩ ⟨(by show (16 * d) + 1 ≤ 16 * d + 10; omega), (by show 8 + (6 + 11) + (400 * d) ≤ 400 * d + 199; omega)⟩, (htx _ kw_7_90), (htx _ kp_M_contains)⟩ ⟨xPre_blind, va_recv hK hP (ci := 5) rfl (q0 := 0) rfl, (fun U hU hW => ⟨rfl, xPre_of hZ hS hFc hP hD hK U hU hW⟩)⟩ rfl rfl hl.1 rfl (xm_room (Nat.le_of_ble_eq_true rfl)) dM_two1_72 ⟨Nat.zero_le _, Nat.zero_le _⟩) hS (fun q _ h => hFc q h) hFc (fun r26 u9 t H1 locs ht hvm hr9 hB hz1 hk1 hS => ?_)
      obtain ⟨hP1, hK1, hD1⟩ := hB
      rw [ht] at hP1
      have hP : va_P D xcl (xMw cT aM ad rd gd vad st []) H1 := hP1
      have hD : va_D A (xMw cT aM ad rd gd vad st []) := hD1.weaken (fun k q _ h => hFc q.1 h)
      generalize H1 = H at hP hS ⊢
      rw [hr9]
      refine W.eq (g2 := F0 m 75 ls [.int o24, .ref aM]) (by first | rfl | (skip; rfl)) ?_
      obtain ⟨o27, hq28, hf⟩ := xbind hf
      obtain ⟨hm29, hf⟩ := xmoE hf
      have hFc := xm_free hD hS hA
      refine va_callq (va_runV (C := "ValueBenchModel") (As := [.int o24]) (rest := []) ⟨hx, hb, hml, hown, htx⟩ (gM_truth l hl9 D cT aK aV H.size n aM ad rd gd vad st o24 o27 hq28) ⟨callB_of 1 htx (xw_goodC kw_7_5) rfl rfl rfl (htx _ kw_1_5) (htx _ kw_7_2) ⟨by decide, by decide, by decide +kernel⟩ ⟨Nat.le_of_ble_eq_true rfl, Nat.le_of_ble_eq_true rfl⟩, (htx _ kw_7_4), (htx _ kp_M_truth)⟩ ⟨xPre_blind, va_recv hK hP (ci := 5) rfl (q0 := 0) rfl, (fun U hU hW => ⟨rfl, xPre_of hZ hS hFc hP hD hK U hU hW⟩)⟩ rfl rfl hl.1 rfl (xm_room (Nat.le_of_ble_eq_true rfl)) dM_two1_75 ⟨hm29.1, hm29.2⟩) hS (fun q _ h => hFc q h) hFc (fun r30 u9 t H1 locs ht hvm hr9 hB hz1 hk1 hS => ?_)
      obtain ⟨hP1, hK1, hD1⟩ := hB
      rw [ht] at hP1
      obtain ⟨ad31, gd32, vad33⟩ := u9
      obtain ⟨hr9, hv34, hn35⟩ := hr9
      have hP : va_P D xcl (xMw cT aM ad31 rd gd32 vad33 o27.2.2.2 []) H1 := hP1
      have hD : va_D A (xMw cT aM ad31 rd gd32 vad33 o27.2.2.2 []) := hD1.weaken (fun k q _ h => hFc q.1 h)
      generalize H1 = H at hP hS ⊢
      have hE9 : ∀ p, p < xct st → vad33 p = vad p := fun p h => (hv34 p (Nat.lt_of_lt_of_le h hN)).trans (hE p h)
      have hE := hE9
      have hN : xct st ≤ xct o27.2.2.2 := Nat.le_trans hN hn35
      rw [hr9]
      refine W.eq (g2 := F0 m 78 ls [xv vad33 o27.2.2.1]) (by first | rfl | (skip; rfl)) ?_
      refine lv_goto (tgt := 86) hx hb dM_two1_78 (by decide) ?_
      obtain rfl := Option.some.inj hf
      exact W.aret (v := xv vad33 o27.2.2.1) hx hb hr (Or.inl ⟨_, rfl⟩) (xvor _ _) (fun t ht hW => ⟨⟨xca vad33 o27.2.2.1, (ad31, gd32, vad33), rfl, ⟨rfl, hE, hN⟩, by rw [ht]; exact hP, va_K.moved hW.alike hK, hD⟩, hS.F ht⟩) hS.2.2 dM_two1_86
  rw [if_neg hc20] at hf
  by_cases hc24 : x0 = 2
  · rw [if_pos hc24] at hf
    refine lv_tableIn (off := 86) (tgt := 87) hx hb dM_two1_1 (by rw [hc24]; decide) (by rw [hc24]; decide) (by rw [hc24]; decide) (by decide) ?_
    refine lv_aload_n hx hb dM_two1_87 rfl (lv_at hl 0 rfl) ?_
    refine xm_aload_n hx hb (xvor _ _) dM_two1_88 rfl (lv_at hl 2 rfl) ?_
    refine xm_aload_n hx hb (xvor _ _) dM_two1_89 rfl (lv_at hl 3 rfl) ?_
    obtain ⟨o25, hq26, hf⟩ := xbind hf
    have hl := lv_sub (l' := [(0, .ref aM), (1, .int x0)]) hl [0, 1] rfl
    by_cases hk27 : o25.1 = 0
    · rw [if_pos hk27] at hf
      obtain ⟨hm28, hf⟩ := xmoE hf
      have hFc := xm_free hD hS hA
      refine va_callq (va_runV (C := "ValueBenchModel") (As := [xv vad c1, xv vad c2]) (rest := []) ⟨hx, hb, hml, hown, htx⟩ (gM_joined l hl9 D cT aK aV s.heap.size d n aM ad rd gd vad st c1 c2 o25 hq26 hk27) ⟨callB_of 2 htx (xw_goodC kw_7_99) rfl rfl rfl (htx _ kw_1_5) (htx _ kw_7_96) ⟨by decide, by decide, by decide +kernel⟩ ⟨(by show (16 * d + 8) + 1 ≤ 16 * d + 10; omega), (by show 8 + (8 + 11) + (400 * d + 142) ≤ 400 * d + 199; omega)⟩, (htx _ kw_7_98), (htx _ kp_M_joined)⟩ ⟨xPre_blind, va_recv hK hP (ci := 5) rfl (q0 := 0) rfl, (fun U hU hW => ⟨rfl, xPre_of hZ hS hFc hP hD hK U hU hW⟩)⟩ rfl rfl hl.1 rfl (xm_room (Nat.le_of_ble_eq_true rfl)) dM_two1_90 ⟨hm28.1, hm28.2⟩) hS (fun q _ h => hFc q h) hFc (fun r29 u9 t H1 locs ht hvm hr9 hB hz1 hk1 hS => ?_)
      obtain ⟨hP1, hK1, hD1⟩ := hB
      rw [ht] at hP1
      obtain ⟨ad30, gd31, vad32⟩ := u9
      obtain ⟨hr9, hv33, hn34⟩ := hr9
      have hP : va_P D xcl (xMw cT aM ad30 rd gd31 vad32 o25.2.2.2.2 []) H1 := hP1
      have hD : va_D A (xMw cT aM ad30 rd gd31 vad32 o25.2.2.2.2 []) := hD1.weaken (fun k q _ h => hFc q.1 h)
      generalize H1 = H at hP hS ⊢
      have hE9 : ∀ p, p < xct st → vad32 p = vad p := fun p h => (hv33 p (Nat.lt_of_lt_of_le h hN)).trans (hE p h)
      have hE := hE9
      have hN : xct st ≤ xct o25.2.2.2.2 := Nat.le_trans hN hn34
      rw [hr9]
      refine W.eq (g2 := F0 m 93 ls [xv vad32 o25.2.2.2.1]) (by first | rfl | (skip; rfl)) ?_
      obtain rfl := Option.some.inj hf
      exact W.aret (v := xv vad32 o25.2.2.2.1) hx hb hr (Or.inl ⟨_, rfl⟩) (xvor _ _) (fun t ht hW => ⟨⟨xca vad32 o25.2.2.2.1, (ad30, gd31, vad32), rfl, ⟨rfl, hE, hN⟩, by rw [ht]; exact hP, va_K.moved hW.alike hK, hD⟩, hS.F ht⟩) hS.2.2 dM_two1_93
    rw [if_neg hk27] at hf
    by_cases hk35 : o25.1 = 1
    · rw [if_pos hk35] at hf
      obtain ⟨hm36, hf⟩ := xmoE hf
      obtain rfl := Option.some.inj hf
      exact absurd (show (1 : Nat) = 0 from hkd) (by decide)
    rw [if_neg hk35] at hf
    by_cases hk43 : o25.1 = 2
    · rw [if_pos hk43] at hf
      obtain ⟨hm44, hf⟩ := xmoE hf
      obtain rfl := Option.some.inj hf
      exact absurd (show (2 : Nat) = 0 from hkd) (by decide)
    rw [if_neg hk43] at hf
    exact nomatch hf
  rw [if_neg hc24] at hf
  by_cases hc51 : x0 = 3
  · rw [if_pos hc51] at hf
    refine lv_tableIn (off := 93) (tgt := 94) hx hb dM_two1_1 (by rw [hc51]; decide) (by rw [hc51]; decide) (by rw [hc51]; decide) (by decide) ?_
    refine xm_aload_n hx hb (xvor _ _) dM_two1_94 rfl (lv_at hl 2 rfl) ?_
    obtain ⟨hg52, hf⟩ := xifn hf
    refine xm_vget (v := .int ((xpi st 0) (c1 - 1))) hx hb htx hown hK hP 0 (by decide) hg52 rfl ((hZ.1 (93, "kind", "I") (List.mem_of_getElem? (i := 0) rfl)).use rfl) rfl dM_two1_95 ?_
    refine lv_iconst (v := 4) hx hb dM_two1_98 (by decide) ?_
    refine lv_icmp_ne (tgt := 136) hx hb dM_two1_99 (by decide) (fun hc => ?_) (fun hc => ?_)
    · rw [if_neg hc] at hf
      refine xm_aload_n hx hb (xvor _ _) dM_two1_136 rfl (lv_at hl 2 rfl) ?_
      obtain rfl := Option.some.inj hf
      exact W.aret (v := xv vad c1) hx hb hr (Or.inl ⟨_, rfl⟩) (xvor _ _) (fun t ht hW => ⟨⟨xca vad c1, (ad, gd, vad), rfl, ⟨rfl, hE, hN⟩, by rw [ht]; exact hP, va_K.moved hW.alike hK, hD⟩, hS.F ht⟩) hS.2.2 dM_two1_137
    · rw [if_pos hc] at hf
      refine xm_aload_n hx hb (xvor _ _) dM_two1_102 rfl (lv_at hl 3 rfl) ?_
      obtain ⟨hg53, hf⟩ := xifn hf
      refine xm_vget (v := .int ((xpi st 0) (c2 - 1))) hx hb htx hown hK hP 0 (by decide) hg53 rfl ((hZ.1 (93, "kind", "I") (List.mem_of_getElem? (i := 0) rfl)).use rfl) rfl dM_two1_103 ?_
      refine lv_iconst (v := 4) hx hb dM_two1_106 (by decide) ?_
      refine lv_icmp_ne (tgt := 136) hx hb dM_two1_107 (by decide) (fun hc => ?_) (fun hc => ?_)
      · rw [if_neg hc] at hf
        refine xm_aload_n hx hb (xvor _ _) dM_two1_136 rfl (lv_at hl 2 rfl) ?_
        obtain rfl := Option.some.inj hf
        exact W.aret (v := xv vad c1) hx hb hr (Or.inl ⟨_, rfl⟩) (xvor _ _) (fun t ht hW => ⟨⟨xca vad c1, (ad, gd, vad), rfl, ⟨rfl, hE, hN⟩, by rw [ht]; exact hP, va_K.moved hW.alike hK, hD⟩, hS.F ht⟩) hS.2.2 dM_two1_137
      · rw [if_pos hc] at hf
        refine lv_aload_n hx hb dM_two1_110 rfl (lv_at hl 0 rfl) ?_
        refine xm_aload_n hx hb (xvor _ _) dM_two1_111 rfl (lv_at hl 2 rfl) ?_
        refine xm_aload_n hx hb (xvor _ _) dM_two1_112 rfl (lv_at hl 3 rfl) ?_
        refine lv_iconst (v := 0) hx hb dM_two1_113 (by decide) ?_
        obtain ⟨o54, hq55, hf⟩ := xbind hf
        have hFc := xm_free hD hS hA
        refine va_calli (va_runV (C := "ValueBenchModel") (As := [xv vad c1, xv vad c2, .int 0]) (rest := []) ⟨hx, hb, hml, hown, htx⟩ (gM_begins l hl9 D cT aK aV s.heap.size n aM ad rd gd vad st c1 c2 (0 : Int32) o54 hq55) ⟨callB_of 3 htx (xw_goodC kw_7_95) rfl rfl rfl (htx _ kw_1_5) (htx _ kw_7_92) ⟨by decide, by decide, by decide +kernel⟩ ⟨Nat.le_of_ble_eq_true rfl, Nat.le_of_ble_eq_true rfl⟩, (htx _ kw_7_94), (htx _ kp_M_begins)⟩ ⟨xPre_blind, va_recv hK hP (ci := 5) rfl (q0 := 0) rfl, (fun U hU hW => ⟨rfl, xPre_of hZ hS hFc hP hD hK U hU hW⟩)⟩ rfl rfl hl.1 rfl (xm_room (Nat.le_of_ble_eq_true rfl)) dM_two1_114 ⟨Nat.zero_le _, Nat.zero_le _⟩) hS (fun q _ h => hFc q h) hFc (fun r56 u9 t H1 locs ht hvm hr9 hB hz1 hk1 hS => ?_)
        obtain ⟨hP1, hK1, hD1⟩ := hB
        rw [ht] at hP1
        have hP : va_P D xcl (xMw cT aM ad rd gd vad st []) H1 := hP1
        have hD : va_D A (xMw cT aM ad rd gd vad st []) := hD1.weaken (fun k q _ h => hFc q.1 h)
        generalize H1 = H at hP hS ⊢
        rw [hr9]
        refine W.eq (g2 := F0 m 117 ls [.int o54]) (by first | rfl | (skip; rfl)) ?_
        refine lv_if_eq (tgt := 136) hx hb dM_two1_117 (by decide) (fun hc => ?_) (fun hc => ?_)
        · rw [if_pos hc] at hf
          refine xm_aload_n hx hb (xvor _ _) dM_two1_136 rfl (lv_at hl 2 rfl) ?_
          obtain rfl := Option.some.inj hf
          exact W.aret (v := xv vad c1) hx hb hr (Or.inl ⟨_, rfl⟩) (xvor _ _) (fun t ht hW => ⟨⟨xca vad c1, (ad, gd, vad), rfl, ⟨rfl, hE, hN⟩, by rw [ht]; exact hP, va_K.moved hW.alike hK, hD⟩, hS.F ht⟩) hS.2.2 dM_two1_137
        · rw [if_neg hc] at hf
          refine lv_aload_n hx hb dM_two1_120 rfl (lv_at hl 0 rfl) ?_
          refine xm_aload_n hx hb (xvor _ _) dM_two1_121 rfl (lv_at hl 2 rfl) ?_
          refine xm_aload_n hx hb (xvor _ _) dM_two1_122 rfl (lv_at hl 3 rfl) ?_
          refine xm_vget (v := .int ((xpi st 3) (c2 - 1))) hx hb htx hown hK hP 3 (by decide) hg53 rfl ((hZ.1 (103, "count", "I") (List.mem_of_getElem? (i := 3) rfl)).use rfl) rfl dM_two1_123 ?_
          refine xm_aload_n hx hb (xvor _ _) dM_two1_126 rfl (lv_at hl 2 rfl) ?_
          refine xm_vget (v := .int ((xpi st 3) (c1 - 1))) hx hb htx hown hK hP 3 (by decide) hg52 rfl ((hZ.1 (103, "count", "I") (List.mem_of_getElem? (i := 3) rfl)).use rfl) rfl dM_two1_127 ?_
          obtain ⟨o57, hq58, hf⟩ := xbind hf
          have hl := lv_sub (l' := [(0, .ref aM), (1, .int x0)]) hl [0, 1] rfl
          obtain ⟨hm59, hf⟩ := xmoE hf
          have hFc := xm_free hD hS hA
          refine va_callq (va_runV (C := "ValueBenchModel") (As := [xv vad c1, .int ((xpi st 3) (c2 - 1)), .int ((xpi st 3) (c1 - 1))]) (rest := []) ⟨hx, hb, hml, hown, htx⟩ (gM_piece l hl9 D cT aK aV H.size n aM ad rd gd vad st c1 ((xpi st 3) (c2 - 1)) ((xpi st 3) (c1 - 1)) o57 hq58) ⟨callB_of 3 htx (xw_goodC kw_6_233) rfl rfl rfl (htx _ kw_1_5) (htx _ kw_6_230) ⟨by decide, by decide, by decide +kernel⟩ ⟨Nat.le_of_ble_eq_true rfl, Nat.le_of_ble_eq_true rfl⟩, (htx _ kw_6_232), (htx _ kp_M_piece)⟩ ⟨xPre_blind, va_recv hK hP (ci := 5) rfl (q0 := 0) rfl, (fun U hU hW => ⟨rfl, xPre_of hZ hS hFc hP hD hK U hU hW⟩)⟩ rfl rfl hl.1 rfl (xm_room (Nat.le_of_ble_eq_true rfl)) dM_two1_130 ⟨hm59.1, hm59.2⟩) hS (fun q _ h => hFc q h) hFc (fun r60 u9 t H1 locs ht hvm hr9 hB hz1 hk1 hS => ?_)
          obtain ⟨hP1, hK1, hD1⟩ := hB
          rw [ht] at hP1
          obtain ⟨ad61, gd62, vad63⟩ := u9
          obtain ⟨hr9, hv64, hn65⟩ := hr9
          have hP : va_P D xcl (xMw cT aM ad61 rd gd62 vad63 o57.2.2.2 []) H1 := hP1
          have hD : va_D A (xMw cT aM ad61 rd gd62 vad63 o57.2.2.2 []) := hD1.weaken (fun k q _ h => hFc q.1 h)
          generalize H1 = H at hP hS ⊢
          have hE9 : ∀ p, p < xct st → vad63 p = vad p := fun p h => (hv64 p (Nat.lt_of_lt_of_le h hN)).trans (hE p h)
          have hE := hE9
          have hN : xct st ≤ xct o57.2.2.2 := Nat.le_trans hN hn65
          rw [hr9]
          refine W.eq (g2 := F0 m 133 ls [xv vad63 o57.2.2.1]) (by first | rfl | (skip; rfl)) ?_
          refine lv_goto (tgt := 137) hx hb dM_two1_133 (by decide) ?_
          obtain rfl := Option.some.inj hf
          exact W.aret (v := xv vad63 o57.2.2.1) hx hb hr (Or.inl ⟨_, rfl⟩) (xvor _ _) (fun t ht hW => ⟨⟨xca vad63 o57.2.2.1, (ad61, gd62, vad63), rfl, ⟨rfl, hE, hN⟩, by rw [ht]; exact hP, va_K.moved hW.alike hK, hD⟩, hS.F ht⟩) hS.2.2 dM_two1_137
  rw [if_neg hc51] at hf
  by_cases hc53 : x0 = 4
  · rw [if_pos hc53] at hf
    refine lv_tableIn (off := 137) (tgt := 138) hx hb dM_two1_1 (by rw [hc53]; decide) (by rw [hc53]; decide) (by rw [hc53]; decide) (by decide) ?_
    refine xm_aload_n hx hb (xvor _ _) dM_two1_138 rfl (lv_at hl 2 rfl) ?_
    obtain ⟨hg54, hf⟩ := xifn hf
    refine xm_vget (v := .int ((xpi st 0) (c1 - 1))) hx hb htx hown hK hP 0 (by decide) hg54 rfl ((hZ.1 (93, "kind", "I") (List.mem_of_getElem? (i := 0) rfl)).use rfl) rfl dM_two1_139 ?_
    refine lv_iconst (v := 4) hx hb dM_two1_142 (by decide) ?_
    refine lv_icmp_ne (tgt := 190) hx hb dM_two1_143 (by decide) (fun hc => ?_) (fun hc => ?_)
    · rw [if_neg hc] at hf
      refine xm_aload_n hx hb (xvor _ _) dM_two1_190 rfl (lv_at hl 2 rfl) ?_
      obtain rfl := Option.some.inj hf
      exact W.aret (v := xv vad c1) hx hb hr (Or.inl ⟨_, rfl⟩) (xvor _ _) (fun t ht hW => ⟨⟨xca vad c1, (ad, gd, vad), rfl, ⟨rfl, hE, hN⟩, by rw [ht]; exact hP, va_K.moved hW.alike hK, hD⟩, hS.F ht⟩) hS.2.2 dM_two1_191
    · rw [if_pos hc] at hf
      refine xm_aload_n hx hb (xvor _ _) dM_two1_146 rfl (lv_at hl 3 rfl) ?_
      obtain ⟨hg55, hf⟩ := xifn hf
      refine xm_vget (v := .int ((xpi st 0) (c2 - 1))) hx hb htx hown hK hP 0 (by decide) hg55 rfl ((hZ.1 (93, "kind", "I") (List.mem_of_getElem? (i := 0) rfl)).use rfl) rfl dM_two1_147 ?_
      refine lv_iconst (v := 4) hx hb dM_two1_150 (by decide) ?_
      refine lv_icmp_ne (tgt := 190) hx hb dM_two1_151 (by decide) (fun hc => ?_) (fun hc => ?_)
      · rw [if_neg hc] at hf
        refine xm_aload_n hx hb (xvor _ _) dM_two1_190 rfl (lv_at hl 2 rfl) ?_
        obtain rfl := Option.some.inj hf
        exact W.aret (v := xv vad c1) hx hb hr (Or.inl ⟨_, rfl⟩) (xvor _ _) (fun t ht hW => ⟨⟨xca vad c1, (ad, gd, vad), rfl, ⟨rfl, hE, hN⟩, by rw [ht]; exact hP, va_K.moved hW.alike hK, hD⟩, hS.F ht⟩) hS.2.2 dM_two1_191
      · rw [if_pos hc] at hf
        refine lv_aload_n hx hb dM_two1_154 rfl (lv_at hl 0 rfl) ?_
        refine xm_aload_n hx hb (xvor _ _) dM_two1_155 rfl (lv_at hl 2 rfl) ?_
        refine xm_aload_n hx hb (xvor _ _) dM_two1_156 rfl (lv_at hl 3 rfl) ?_
        refine xm_aload_n hx hb (xvor _ _) dM_two1_157 rfl (lv_at hl 2 rfl) ?_
        refine xm_vget (v := .int ((xpi st 3) (c1 - 1))) hx hb htx hown hK hP 3 (by decide) hg54 rfl ((hZ.1 (103, "count", "I") (List.mem_of_getElem? (i := 3) rfl)).use rfl) rfl dM_two1_158 ?_
        refine xm_aload_n hx hb (xvor _ _) dM_two1_161 rfl (lv_at hl 3 rfl) ?_
        refine xm_vget (v := .int ((xpi st 3) (c2 - 1))) hx hb htx hown hK hP 3 (by decide) hg55 rfl ((hZ.1 (103, "count", "I") (List.mem_of_getElem? (i := 3) rfl)).use rfl) rfl dM_two1_162 ?_
        refine lv_isub hx hb dM_two1_165 ?_
        obtain ⟨o56, hq57, hf⟩ := xbind hf
        have hFc := xm_free hD hS hA
        refine va_calli (va_runV (C := "ValueBenchModel") (As := [xv vad c1, xv vad c2, .int (((xpi st 3) (c1 - 1)) - ((xpi st 3) (c2 - 1)))]) (rest := []) ⟨hx, hb, hml, hown, htx⟩ (gM_begins l hl9 D cT aK aV s.heap.size n aM ad rd gd vad st c1 c2 (((xpi st 3) (c1 - 1)) - ((xpi st 3) (c2 - 1))) o56 hq57) ⟨callB_of 3 htx (xw_goodC kw_7_95) rfl rfl rfl (htx _ kw_1_5) (htx _ kw_7_92) ⟨by decide, by decide, by decide +kernel⟩ ⟨Nat.le_of_ble_eq_true rfl, Nat.le_of_ble_eq_true rfl⟩, (htx _ kw_7_94), (htx _ kp_M_begins)⟩ ⟨xPre_blind, va_recv hK hP (ci := 5) rfl (q0 := 0) rfl, (fun U hU hW => ⟨rfl, xPre_of hZ hS hFc hP hD hK U hU hW⟩)⟩ rfl rfl hl.1 rfl (xm_room (Nat.le_of_ble_eq_true rfl)) dM_two1_166 ⟨Nat.zero_le _, Nat.zero_le _⟩) hS (fun q _ h => hFc q h) hFc (fun r58 u9 t H1 locs ht hvm hr9 hB hz1 hk1 hS => ?_)
        obtain ⟨hP1, hK1, hD1⟩ := hB
        rw [ht] at hP1
        have hP : va_P D xcl (xMw cT aM ad rd gd vad st []) H1 := hP1
        have hD : va_D A (xMw cT aM ad rd gd vad st []) := hD1.weaken (fun k q _ h => hFc q.1 h)
        generalize H1 = H at hP hS ⊢
        rw [hr9]
        refine W.eq (g2 := F0 m 169 ls [.int o56]) (by first | rfl | (skip; rfl)) ?_
        refine lv_if_eq (tgt := 190) hx hb dM_two1_169 (by decide) (fun hc => ?_) (fun hc => ?_)
        · rw [if_pos hc] at hf
          refine xm_aload_n hx hb (xvor _ _) dM_two1_190 rfl (lv_at hl 2 rfl) ?_
          obtain rfl := Option.some.inj hf
          exact W.aret (v := xv vad c1) hx hb hr (Or.inl ⟨_, rfl⟩) (xvor _ _) (fun t ht hW => ⟨⟨xca vad c1, (ad, gd, vad), rfl, ⟨rfl, hE, hN⟩, by rw [ht]; exact hP, va_K.moved hW.alike hK, hD⟩, hS.F ht⟩) hS.2.2 dM_two1_191
        · rw [if_neg hc] at hf
          refine lv_aload_n hx hb dM_two1_172 rfl (lv_at hl 0 rfl) ?_
          refine xm_aload_n hx hb (xvor _ _) dM_two1_173 rfl (lv_at hl 2 rfl) ?_
          refine lv_iconst (v := 0) hx hb dM_two1_174 (by decide) ?_
          refine xm_aload_n hx hb (xvor _ _) dM_two1_175 rfl (lv_at hl 2 rfl) ?_
          refine xm_vget (v := .int ((xpi st 3) (c1 - 1))) hx hb htx hown hK hP 3 (by decide) hg54 rfl ((hZ.1 (103, "count", "I") (List.mem_of_getElem? (i := 3) rfl)).use rfl) rfl dM_two1_176 ?_
          refine xm_aload_n hx hb (xvor _ _) dM_two1_179 rfl (lv_at hl 3 rfl) ?_
          refine xm_vget (v := .int ((xpi st 3) (c2 - 1))) hx hb htx hown hK hP 3 (by decide) hg55 rfl ((hZ.1 (103, "count", "I") (List.mem_of_getElem? (i := 3) rfl)).use rfl) rfl dM_two1_180 ?_
          refine lv_isub hx hb dM_two1_183 ?_
          obtain ⟨o59, hq60, hf⟩ := xbind hf
          have hl := lv_sub (l' := [(0, .ref aM), (1, .int x0)]) hl [0, 1] rfl
          obtain ⟨hm61, hf⟩ := xmoE hf
          have hFc := xm_free hD hS hA
          refine va_callq (va_runV (C := "ValueBenchModel") (As := [xv vad c1, .int 0, .int (((xpi st 3) (c1 - 1)) - ((xpi st 3) (c2 - 1)))]) (rest := []) ⟨hx, hb, hml, hown, htx⟩ (gM_piece l hl9 D cT aK aV H.size n aM ad rd gd vad st c1 (0 : Int32) (((xpi st 3) (c1 - 1)) - ((xpi st 3) (c2 - 1))) o59 hq60) ⟨callB_of 3 htx (xw_goodC kw_6_233) rfl rfl rfl (htx _ kw_1_5) (htx _ kw_6_230) ⟨by decide, by decide, by decide +kernel⟩ ⟨Nat.le_of_ble_eq_true rfl, Nat.le_of_ble_eq_true rfl⟩, (htx _ kw_6_232), (htx _ kp_M_piece)⟩ ⟨xPre_blind, va_recv hK hP (ci := 5) rfl (q0 := 0) rfl, (fun U hU hW => ⟨rfl, xPre_of hZ hS hFc hP hD hK U hU hW⟩)⟩ rfl rfl hl.1 rfl (xm_room (Nat.le_of_ble_eq_true rfl)) dM_two1_184 ⟨hm61.1, hm61.2⟩) hS (fun q _ h => hFc q h) hFc (fun r62 u9 t H1 locs ht hvm hr9 hB hz1 hk1 hS => ?_)
          obtain ⟨hP1, hK1, hD1⟩ := hB
          rw [ht] at hP1
          obtain ⟨ad63, gd64, vad65⟩ := u9
          obtain ⟨hr9, hv66, hn67⟩ := hr9
          have hP : va_P D xcl (xMw cT aM ad63 rd gd64 vad65 o59.2.2.2 []) H1 := hP1
          have hD : va_D A (xMw cT aM ad63 rd gd64 vad65 o59.2.2.2 []) := hD1.weaken (fun k q _ h => hFc q.1 h)
          generalize H1 = H at hP hS ⊢
          have hE9 : ∀ p, p < xct st → vad65 p = vad p := fun p h => (hv66 p (Nat.lt_of_lt_of_le h hN)).trans (hE p h)
          have hE := hE9
          have hN : xct st ≤ xct o59.2.2.2 := Nat.le_trans hN hn67
          rw [hr9]
          refine W.eq (g2 := F0 m 187 ls [xv vad65 o59.2.2.1]) (by first | rfl | (skip; rfl)) ?_
          refine lv_goto (tgt := 191) hx hb dM_two1_187 (by decide) ?_
          obtain rfl := Option.some.inj hf
          exact W.aret (v := xv vad65 o59.2.2.1) hx hb hr (Or.inl ⟨_, rfl⟩) (xvor _ _) (fun t ht hW => ⟨⟨xca vad65 o59.2.2.1, (ad63, gd64, vad65), rfl, ⟨rfl, hE, hN⟩, by rw [ht]; exact hP, va_K.moved hW.alike hK, hD⟩, hS.F ht⟩) hS.2.2 dM_two1_191
  rw [if_neg hc53] at hf
  by_cases hc55 : x0 = 5
  · rw [if_pos hc55] at hf
    refine lv_tableIn (off := 191) (tgt := 192) hx hb dM_two1_1 (by rw [hc55]; decide) (by rw [hc55]; decide) (by rw [hc55]; decide) (by decide) ?_
    refine lv_aload_n hx hb dM_two1_192 rfl (lv_at hl 0 rfl) ?_
    refine lv_aload_n hx hb dM_two1_193 rfl (lv_at hl 0 rfl) ?_
    refine lv_aload_n hx hb dM_two1_194 rfl (lv_at hl 0 rfl) ?_
    refine xm_aload_n hx hb (xvor _ _) dM_two1_195 rfl (lv_at hl 2 rfl) ?_
    obtain ⟨o56, hq57, hf⟩ := xbind hf
    have hl := lv_sub (l' := [(0, .ref aM), (1, .int x0), (3, xv vad c2)]) hl [0, 1, 3] rfl
    by_cases hk58 : o56.1 = 0
    · rw [if_pos hk58] at hf
      obtain ⟨hg59, hf⟩ := xifn hf
      obtain ⟨hm60, hf⟩ := xmoE hf
      have hFc := xm_free hD hS hA
      refine va_callq (va_runV (C := "ValueBenchModel") (As := [xv vad c1]) (rest := [.ref aM, .ref aM]) ⟨hx, hb, hml, hown, htx⟩ (gM_text l hl9 D cT aK aV s.heap.size n aM ad rd gd vad st c1 o56 hq57 hk58) ⟨callB_of 1 htx (xw_goodC kw_7_54) rfl rfl rfl (htx _ kw_1_5) (htx _ kw_7_51) ⟨by decide, by decide, by decide +kernel⟩ ⟨Nat.le_of_ble_eq_true rfl, Nat.le_of_ble_eq_true rfl⟩, (htx _ kw_7_53), (htx _ kp_M_text)⟩ ⟨xPre_blind, va_recv hK hP (ci := 5) rfl (q0 := 0) rfl, (fun U hU hW => ⟨rfl, xPre_of hZ hS hFc hP hD hK U hU hW⟩)⟩ rfl rfl hl.1 rfl (xm_room (Nat.le_of_ble_eq_true rfl)) dM_two1_196 ⟨hm60.1, hm60.2⟩) hS (fun q _ h => hFc q h) hFc (fun r61 u9 t H1 locs ht hvm hr9 hB hz1 hk1 hS => ?_)
      obtain ⟨hP1, hK1, hD1⟩ := hB
      rw [ht] at hP1
      obtain ⟨ad62, gd63, vad64⟩ := u9
      obtain ⟨hr9, hv65, hn66⟩ := hr9
      have hP : va_P D xcl (xMw cT aM ad62 rd gd63 vad64 o56.2.2.2.2 []) H1 := hP1
      have hD : va_D A (xMw cT aM ad62 rd gd63 vad64 o56.2.2.2.2 []) := hD1.weaken (fun k q _ h => hFc q.1 h)
      generalize H1 = H at hP hS ⊢
      have hE9 : ∀ p, p < xct st → vad64 p = vad p := fun p h => (hv65 p (Nat.lt_of_lt_of_le h hN)).trans (hE p h)
      have hE := hE9
      have hN : xct st ≤ xct o56.2.2.2.2 := Nat.le_trans hN hn66
      have ev67 : xv vad c2 = xv vad64 c2 := xvE hv65 hg59
      have hl : lv_has ls 4 [(0, .ref aM), (1, .int x0), (3, xv vad64 c2)] := by first | exact hl | ((try (rw [← ev67])); exact hl)
      rw [hr9]
      refine W.eq (g2 := F0 m 199 ls [xv vad64 o56.2.2.2.1, .ref aM, .ref aM]) (by first | rfl | ((try (rw [ev67])); rfl)) ?_
      refine lv_aload_n hx hb dM_two1_199 rfl (lv_at hl 0 rfl) ?_
      refine xm_aload_n hx hb (xvor _ _) dM_two1_200 rfl (lv_at hl 2 rfl) ?_
      obtain ⟨o68, hq69, hf⟩ := xbind hf
      have hl := lv_sub (l' := [(0, .ref aM), (1, .int x0)]) hl [0, 1] rfl
      by_cases hk70 : o68.1 = 0
      · rw [if_pos hk70] at hf
        obtain ⟨hg71, hf⟩ := xifn hf
        obtain ⟨hm72, hf⟩ := xmoE hf
        have hFc := xm_free hD hS hA
        refine va_callq (va_runV (C := "ValueBenchModel") (As := [xv vad64 c2]) (rest := [xv vad64 o56.2.2.2.1, .ref aM, .ref aM]) ⟨hx, hb, hml, hown, htx⟩ (gM_text l hl9 D cT aK aV H.size n aM ad62 rd gd63 vad64 o56.2.2.2.2 c2 o68 hq69 hk70) ⟨callB_of 1 htx (xw_goodC kw_7_54) rfl rfl rfl (htx _ kw_1_5) (htx _ kw_7_51) ⟨by decide, by decide, by decide +kernel⟩ ⟨Nat.le_of_ble_eq_true rfl, Nat.le_of_ble_eq_true rfl⟩, (htx _ kw_7_53), (htx _ kp_M_text)⟩ ⟨xPre_blind, va_recv hK hP (ci := 5) rfl (q0 := 0) rfl, (fun U hU hW => ⟨rfl, xPre_of hZ hS hFc hP hD hK U hU hW⟩)⟩ rfl rfl hl.1 rfl (xm_room (by simp [xvcat, xrscat, xcI, xcL, xcR, xcN])) dM_two1_201 ⟨hm72.1, hm72.2⟩) hS (fun q _ h => hFc q h) hFc (fun r73 u9 t H1 locs ht hvm hr9 hB hz1 hk1 hS => ?_)
        obtain ⟨hP1, hK1, hD1⟩ := hB
        rw [ht] at hP1
        obtain ⟨ad74, gd75, vad76⟩ := u9
        obtain ⟨hr9, hv77, hn78⟩ := hr9
        have hP : va_P D xcl (xMw cT aM ad74 rd gd75 vad76 o68.2.2.2.2 []) H1 := hP1
        have hD : va_D A (xMw cT aM ad74 rd gd75 vad76 o68.2.2.2.2 []) := hD1.weaken (fun k q _ h => hFc q.1 h)
        generalize H1 = H at hP hS ⊢
        have hE9 : ∀ p, p < xct st → vad76 p = vad p := fun p h => (hv77 p (Nat.lt_of_lt_of_le h hN)).trans (hE p h)
        have hE := hE9
        have hN : xct st ≤ xct o68.2.2.2.2 := Nat.le_trans hN hn78
        have ev79 : xv vad64 o56.2.2.2.1 = xv vad76 o56.2.2.2.1 := xvE hv77 hg71
        rw [hr9]
        refine W.eq (g2 := F0 m 204 ls [xv vad76 o68.2.2.2.1, xv vad76 o56.2.2.2.1, .ref aM, .ref aM]) (by first | rfl | ((try (rw [ev79])); rfl)) ?_
        refine lv_iconst (v := 0) hx hb dM_two1_204 (by decide) ?_
        obtain ⟨o80, hq81, hf⟩ := xbind hf
        have hFc := xm_free hD hS hA
        refine va_calli (va_runV (C := "ValueBenchModel") (As := [xv vad76 o56.2.2.2.1, xv vad76 o68.2.2.2.1, .int 0]) (rest := [.ref aM]) ⟨hx, hb, hml, hown, htx⟩ (gM_begins l hl9 D cT aK aV H.size n aM ad74 rd gd75 vad76 o68.2.2.2.2 o56.2.2.2.1 o68.2.2.2.1 (0 : Int32) o80 hq81) ⟨callB_of 3 htx (xw_goodC kw_7_95) rfl rfl rfl (htx _ kw_1_5) (htx _ kw_7_92) ⟨by decide, by decide, by decide +kernel⟩ ⟨Nat.le_of_ble_eq_true rfl, Nat.le_of_ble_eq_true rfl⟩, (htx _ kw_7_94), (htx _ kp_M_begins)⟩ ⟨xPre_blind, va_recv hK hP (ci := 5) rfl (q0 := 0) rfl, (fun U hU hW => ⟨rfl, xPre_of hZ hS hFc hP hD hK U hU hW⟩)⟩ rfl rfl hl.1 rfl (xm_room (Nat.le_of_ble_eq_true rfl)) dM_two1_205 ⟨hm72.1, hm72.2⟩) hS (fun q _ h => hFc q h) hFc (fun r82 u9 t H1 locs ht hvm hr9 hB hz1 hk1 hS => ?_)
        obtain ⟨hP1, hK1, hD1⟩ := hB
        rw [ht] at hP1
        have hP : va_P D xcl (xMw cT aM ad74 rd gd75 vad76 o68.2.2.2.2 []) H1 := hP1
        have hD : va_D A (xMw cT aM ad74 rd gd75 vad76 o68.2.2.2.2 []) := hD1.weaken (fun k q _ h => hFc q.1 h)
        generalize H1 = H at hP hS ⊢
        rw [hr9]
        refine W.eq (g2 := F0 m 208 ls [.int o80, .ref aM]) (by first | rfl | (skip; rfl)) ?_
        obtain ⟨o83, hq84, hf⟩ := xbind hf
        obtain ⟨hm85, hf⟩ := xmoE hf
        have hFc := xm_free hD hS hA
        refine va_callq (va_runV (C := "ValueBenchModel") (As := [.int o80]) (rest := []) ⟨hx, hb, hml, hown, htx⟩ (gM_truth l hl9 D cT aK aV H.size n aM ad74 rd gd75 vad76 o68.2.2.2.2 o80 o83 hq84) ⟨callB_of 1 htx (xw_goodC kw_7_5) rfl rfl rfl (htx _ kw_1_5) (htx _ kw_7_2) ⟨by decide, by decide, by decide +kernel⟩ ⟨Nat.le_of_ble_eq_true rfl, Nat.le_of_ble_eq_true rfl⟩, (htx _ kw_7_4), (htx _ kp_M_truth)⟩ ⟨xPre_blind, va_recv hK hP (ci := 5) rfl (q0 := 0) rfl, (fun U hU hW => ⟨rfl, xPre_of hZ hS hFc hP hD hK U hU hW⟩)⟩ rfl rfl hl.1 rfl (xm_room (Nat.le_of_ble_eq_true rfl)) dM_two1_208 ⟨hm85.1, hm85.2⟩) hS (fun q _ h => hFc q h) hFc (fun r86 u9 t H1 locs ht hvm hr9 hB hz1 hk1 hS => ?_)
        obtain ⟨hP1, hK1, hD1⟩ := hB
        rw [ht] at hP1
        obtain ⟨ad87, gd88, vad89⟩ := u9
        obtain ⟨hr9, hv90, hn91⟩ := hr9
        have hP : va_P D xcl (xMw cT aM ad87 rd gd88 vad89 o83.2.2.2 []) H1 := hP1
        have hD : va_D A (xMw cT aM ad87 rd gd88 vad89 o83.2.2.2 []) := hD1.weaken (fun k q _ h => hFc q.1 h)
        generalize H1 = H at hP hS ⊢
        have hE9 : ∀ p, p < xct st → vad89 p = vad p := fun p h => (hv90 p (Nat.lt_of_lt_of_le h hN)).trans (hE p h)
        have hE := hE9
        have hN : xct st ≤ xct o83.2.2.2 := Nat.le_trans hN hn91
        rw [hr9]
        refine W.eq (g2 := F0 m 211 ls [xv vad89 o83.2.2.1]) (by first | rfl | (skip; rfl)) ?_
        obtain rfl := Option.some.inj hf
        exact W.aret (v := xv vad89 o83.2.2.1) hx hb hr (Or.inl ⟨_, rfl⟩) (xvor _ _) (fun t ht hW => ⟨⟨xca vad89 o83.2.2.1, (ad87, gd88, vad89), rfl, ⟨rfl, hE, hN⟩, by rw [ht]; exact hP, va_K.moved hW.alike hK, hD⟩, hS.F ht⟩) hS.2.2 dM_two1_211
      rw [if_neg hk70] at hf
      by_cases hk92 : o68.1 = 1
      · rw [if_pos hk92] at hf
        obtain ⟨hm93, hf⟩ := xmoE hf
        obtain rfl := Option.some.inj hf
        exact absurd (show (1 : Nat) = 0 from hkd) (by decide)
      rw [if_neg hk92] at hf
      exact nomatch hf
    rw [if_neg hk58] at hf
    by_cases hk100 : o56.1 = 1
    · rw [if_pos hk100] at hf
      obtain ⟨hg101, hf⟩ := xifn hf
      obtain ⟨hm102, hf⟩ := xmoE hf
      obtain rfl := Option.some.inj hf
      exact absurd (show (1 : Nat) = 0 from hkd) (by decide)
    rw [if_neg hk100] at hf
    exact nomatch hf
  rw [if_neg hc55] at hf
  by_cases hc110 : x0 = 6
  · rw [if_pos hc110] at hf
    refine lv_tableIn (off := 211) (tgt := 212) hx hb dM_two1_1 (by rw [hc110]; decide) (by rw [hc110]; decide) (by rw [hc110]; decide) (by decide) ?_
    refine lv_aload_n hx hb dM_two1_212 rfl (lv_at hl 0 rfl) ?_
    refine lv_aload_n hx hb dM_two1_213 rfl (lv_at hl 0 rfl) ?_
    refine lv_aload_n hx hb dM_two1_214 rfl (lv_at hl 0 rfl) ?_
    refine xm_aload_n hx hb (xvor _ _) dM_two1_215 rfl (lv_at hl 2 rfl) ?_
    obtain ⟨o111, hq112, hf⟩ := xbind hf
    by_cases hk113 : o111.1 = 0
    · rw [if_pos hk113] at hf
      obtain ⟨hg114, hf⟩ := xifn hf
      obtain ⟨hg115, hf⟩ := xifn hf
      obtain ⟨hm116, hf⟩ := xmoE hf
      have hFc := xm_free hD hS hA
      refine va_callq (va_runV (C := "ValueBenchModel") (As := [xv vad c1]) (rest := [.ref aM, .ref aM]) ⟨hx, hb, hml, hown, htx⟩ (gM_text l hl9 D cT aK aV s.heap.size n aM ad rd gd vad st c1 o111 hq112 hk113) ⟨callB_of 1 htx (xw_goodC kw_7_54) rfl rfl rfl (htx _ kw_1_5) (htx _ kw_7_51) ⟨by decide, by decide, by decide +kernel⟩ ⟨Nat.le_of_ble_eq_true rfl, Nat.le_of_ble_eq_true rfl⟩, (htx _ kw_7_53), (htx _ kp_M_text)⟩ ⟨xPre_blind, va_recv hK hP (ci := 5) rfl (q0 := 0) rfl, (fun U hU hW => ⟨rfl, xPre_of hZ hS hFc hP hD hK U hU hW⟩)⟩ rfl rfl hl.1 rfl (xm_room (Nat.le_of_ble_eq_true rfl)) dM_two1_216 ⟨hm116.1, hm116.2⟩) hS (fun q _ h => hFc q h) hFc (fun r117 u9 t H1 locs ht hvm hr9 hB hz1 hk1 hS => ?_)
      obtain ⟨hP1, hK1, hD1⟩ := hB
      rw [ht] at hP1
      obtain ⟨ad118, gd119, vad120⟩ := u9
      obtain ⟨hr9, hv121, hn122⟩ := hr9
      have hP : va_P D xcl (xMw cT aM ad118 rd gd119 vad120 o111.2.2.2.2 []) H1 := hP1
      have hD : va_D A (xMw cT aM ad118 rd gd119 vad120 o111.2.2.2.2 []) := hD1.weaken (fun k q _ h => hFc q.1 h)
      generalize H1 = H at hP hS ⊢
      have hE9 : ∀ p, p < xct st → vad120 p = vad p := fun p h => (hv121 p (Nat.lt_of_lt_of_le h hN)).trans (hE p h)
      have hE := hE9
      have hN : xct st ≤ xct o111.2.2.2.2 := Nat.le_trans hN hn122
      have ev123 : xv vad c1 = xv vad120 c1 := xvE hv121 hg114
      have ev124 : xv vad c2 = xv vad120 c2 := xvE hv121 hg115
      have hl : lv_has ls 4 [(0, .ref aM), (1, .int x0), (2, xv vad120 c1), (3, xv vad120 c2)] := by first | exact hl | ((try (rw [← ev123])); (try (rw [← ev124])); exact hl)
      rw [hr9]
      refine W.eq (g2 := F0 m 219 ls [xv vad120 o111.2.2.2.1, .ref aM, .ref aM]) (by first | rfl | ((try (rw [ev123])); (try (rw [ev124])); rfl)) ?_
      refine lv_aload_n hx hb dM_two1_219 rfl (lv_at hl 0 rfl) ?_
      refine xm_aload_n hx hb (xvor _ _) dM_two1_220 rfl (lv_at hl 3 rfl) ?_
      obtain ⟨o125, hq126, hf⟩ := xbind hf
      by_cases hk127 : o125.1 = 0
      · rw [if_pos hk127] at hf
        obtain ⟨hg128, hf⟩ := xifn hf
        obtain ⟨hg129, hf⟩ := xifn hf
        obtain ⟨hg130, hf⟩ := xifn hf
        obtain ⟨hm131, hf⟩ := xmoE hf
        have hFc := xm_free hD hS hA
        refine va_callq (va_runV (C := "ValueBenchModel") (As := [xv vad120 c2]) (rest := [xv vad120 o111.2.2.2.1, .ref aM, .ref aM]) ⟨hx, hb, hml, hown, htx⟩ (gM_text l hl9 D cT aK aV H.size n aM ad118 rd gd119 vad120 o111.2.2.2.2 c2 o125 hq126 hk127) ⟨callB_of 1 htx (xw_goodC kw_7_54) rfl rfl rfl (htx _ kw_1_5) (htx _ kw_7_51) ⟨by decide, by decide, by decide +kernel⟩ ⟨Nat.le_of_ble_eq_true rfl, Nat.le_of_ble_eq_true rfl⟩, (htx _ kw_7_53), (htx _ kp_M_text)⟩ ⟨xPre_blind, va_recv hK hP (ci := 5) rfl (q0 := 0) rfl, (fun U hU hW => ⟨rfl, xPre_of hZ hS hFc hP hD hK U hU hW⟩)⟩ rfl rfl hl.1 rfl (xm_room (by simp [xvcat, xrscat, xcI, xcL, xcR, xcN])) dM_two1_221 ⟨hm131.1, hm131.2⟩) hS (fun q _ h => hFc q h) hFc (fun r132 u9 t H1 locs ht hvm hr9 hB hz1 hk1 hS => ?_)
        obtain ⟨hP1, hK1, hD1⟩ := hB
        rw [ht] at hP1
        obtain ⟨ad133, gd134, vad135⟩ := u9
        obtain ⟨hr9, hv136, hn137⟩ := hr9
        have hP : va_P D xcl (xMw cT aM ad133 rd gd134 vad135 o125.2.2.2.2 []) H1 := hP1
        have hD : va_D A (xMw cT aM ad133 rd gd134 vad135 o125.2.2.2.2 []) := hD1.weaken (fun k q _ h => hFc q.1 h)
        generalize H1 = H at hP hS ⊢
        have hE9 : ∀ p, p < xct st → vad135 p = vad p := fun p h => (hv136 p (Nat.lt_of_lt_of_le h hN)).trans (hE p h)
        have hE := hE9
        have hN : xct st ≤ xct o125.2.2.2.2 := Nat.le_trans hN hn137
        have ev138 : xv vad120 c1 = xv vad135 c1 := xvE hv136 hg128
        have ev139 : xv vad120 c2 = xv vad135 c2 := xvE hv136 hg129
        have ev140 : xv vad120 o111.2.2.2.1 = xv vad135 o111.2.2.2.1 := xvE hv136 hg130
        have hl : lv_has ls 4 [(0, .ref aM), (1, .int x0), (2, xv vad135 c1), (3, xv vad135 c2)] := by first | exact hl | ((try (rw [← ev138])); (try (rw [← ev139])); (try (rw [← ev140])); exact hl)
        rw [hr9]
        refine W.eq (g2 := F0 m 224 ls [xv vad135 o125.2.2.2.1, xv vad135 o111.2.2.2.1, .ref aM, .ref aM]) (by first | rfl | ((try (rw [ev138])); (try (rw [ev139])); (try (rw [ev140])); rfl)) ?_
        refine xm_aload_n hx hb (xvor _ _) dM_two1_224 rfl (lv_at hl 2 rfl) ?_
        obtain ⟨hg141, hf⟩ := xifn hf
        refine xm_vget (v := .int ((xpi o125.2.2.2.2 3) (c1 - 1))) hx hb htx hown hK hP 3 (by decide) hg141 rfl ((hZ.1 (103, "count", "I") (List.mem_of_getElem? (i := 3) rfl)).use rfl) rfl dM_two1_225 ?_
        refine xm_aload_n hx hb (xvor _ _) dM_two1_228 rfl (lv_at hl 3 rfl) ?_
        obtain ⟨hg142, hf⟩ := xifn hf
        refine xm_vget (v := .int ((xpi o125.2.2.2.2 3) (c2 - 1))) hx hb htx hown hK hP 3 (by decide) hg142 rfl ((hZ.1 (103, "count", "I") (List.mem_of_getElem? (i := 3) rfl)).use rfl) rfl dM_two1_229 ?_
        refine lv_isub hx hb dM_two1_232 ?_
        obtain ⟨o143, hq144, hf⟩ := xbind hf
        have hl := lv_sub (l' := [(0, .ref aM), (1, .int x0)]) hl [0, 1] rfl
        have hFc := xm_free hD hS hA
        refine va_calli (va_runV (C := "ValueBenchModel") (As := [xv vad135 o111.2.2.2.1, xv vad135 o125.2.2.2.1, .int (((xpi o125.2.2.2.2 3) (c1 - 1)) - ((xpi o125.2.2.2.2 3) (c2 - 1)))]) (rest := [.ref aM]) ⟨hx, hb, hml, hown, htx⟩ (gM_begins l hl9 D cT aK aV H.size n aM ad133 rd gd134 vad135 o125.2.2.2.2 o111.2.2.2.1 o125.2.2.2.1 (((xpi o125.2.2.2.2 3) (c1 - 1)) - ((xpi o125.2.2.2.2 3) (c2 - 1))) o143 hq144) ⟨callB_of 3 htx (xw_goodC kw_7_95) rfl rfl rfl (htx _ kw_1_5) (htx _ kw_7_92) ⟨by decide, by decide, by decide +kernel⟩ ⟨Nat.le_of_ble_eq_true rfl, Nat.le_of_ble_eq_true rfl⟩, (htx _ kw_7_94), (htx _ kp_M_begins)⟩ ⟨xPre_blind, va_recv hK hP (ci := 5) rfl (q0 := 0) rfl, (fun U hU hW => ⟨rfl, xPre_of hZ hS hFc hP hD hK U hU hW⟩)⟩ rfl rfl hl.1 rfl (xm_room (Nat.le_of_ble_eq_true rfl)) dM_two1_233 ⟨hm131.1, hm131.2⟩) hS (fun q _ h => hFc q h) hFc (fun r145 u9 t H1 locs ht hvm hr9 hB hz1 hk1 hS => ?_)
        obtain ⟨hP1, hK1, hD1⟩ := hB
        rw [ht] at hP1
        have hP : va_P D xcl (xMw cT aM ad133 rd gd134 vad135 o125.2.2.2.2 []) H1 := hP1
        have hD : va_D A (xMw cT aM ad133 rd gd134 vad135 o125.2.2.2.2 []) := hD1.weaken (fun k q _ h => hFc q.1 h)
        generalize H1 = H at hP hS ⊢
        rw [hr9]
        refine W.eq (g2 := F0 m 236 ls [.int o143, .ref aM]) (by first | rfl | (skip; rfl)) ?_
        obtain ⟨o146, hq147, hf⟩ := xbind hf
        obtain ⟨hm148, hf⟩ := xmoE hf
        have hFc := xm_free hD hS hA
        refine va_callq (va_runV (C := "ValueBenchModel") (As := [.int o143]) (rest := []) ⟨hx, hb, hml, hown, htx⟩ (gM_truth l hl9 D cT aK aV H.size n aM ad133 rd gd134 vad135 o125.2.2.2.2 o143 o146 hq147) ⟨callB_of 1 htx (xw_goodC kw_7_5) rfl rfl rfl (htx _ kw_1_5) (htx _ kw_7_2) ⟨by decide, by decide, by decide +kernel⟩ ⟨Nat.le_of_ble_eq_true rfl, Nat.le_of_ble_eq_true rfl⟩, (htx _ kw_7_4), (htx _ kp_M_truth)⟩ ⟨xPre_blind, va_recv hK hP (ci := 5) rfl (q0 := 0) rfl, (fun U hU hW => ⟨rfl, xPre_of hZ hS hFc hP hD hK U hU hW⟩)⟩ rfl rfl hl.1 rfl (xm_room (Nat.le_of_ble_eq_true rfl)) dM_two1_236 ⟨hm148.1, hm148.2⟩) hS (fun q _ h => hFc q h) hFc (fun r149 u9 t H1 locs ht hvm hr9 hB hz1 hk1 hS => ?_)
        obtain ⟨hP1, hK1, hD1⟩ := hB
        rw [ht] at hP1
        obtain ⟨ad150, gd151, vad152⟩ := u9
        obtain ⟨hr9, hv153, hn154⟩ := hr9
        have hP : va_P D xcl (xMw cT aM ad150 rd gd151 vad152 o146.2.2.2 []) H1 := hP1
        have hD : va_D A (xMw cT aM ad150 rd gd151 vad152 o146.2.2.2 []) := hD1.weaken (fun k q _ h => hFc q.1 h)
        generalize H1 = H at hP hS ⊢
        have hE9 : ∀ p, p < xct st → vad152 p = vad p := fun p h => (hv153 p (Nat.lt_of_lt_of_le h hN)).trans (hE p h)
        have hE := hE9
        have hN : xct st ≤ xct o146.2.2.2 := Nat.le_trans hN hn154
        rw [hr9]
        refine W.eq (g2 := F0 m 239 ls [xv vad152 o146.2.2.1]) (by first | rfl | (skip; rfl)) ?_
        obtain rfl := Option.some.inj hf
        exact W.aret (v := xv vad152 o146.2.2.1) hx hb hr (Or.inl ⟨_, rfl⟩) (xvor _ _) (fun t ht hW => ⟨⟨xca vad152 o146.2.2.1, (ad150, gd151, vad152), rfl, ⟨rfl, hE, hN⟩, by rw [ht]; exact hP, va_K.moved hW.alike hK, hD⟩, hS.F ht⟩) hS.2.2 dM_two1_239
      rw [if_neg hk127] at hf
      by_cases hk155 : o125.1 = 1
      · rw [if_pos hk155] at hf
        obtain ⟨hg156, hf⟩ := xifn hf
        obtain ⟨hg157, hf⟩ := xifn hf
        obtain ⟨hm158, hf⟩ := xmoE hf
        obtain rfl := Option.some.inj hf
        exact absurd (show (1 : Nat) = 0 from hkd) (by decide)
      rw [if_neg hk155] at hf
      exact nomatch hf
    rw [if_neg hk113] at hf
    by_cases hk167 : o111.1 = 1
    · rw [if_pos hk167] at hf
      obtain ⟨hg168, hf⟩ := xifn hf
      obtain ⟨hg169, hf⟩ := xifn hf
      obtain ⟨hm170, hf⟩ := xmoE hf
      obtain rfl := Option.some.inj hf
      exact absurd (show (1 : Nat) = 0 from hkd) (by decide)
    rw [if_neg hk167] at hf
    exact nomatch hf
  rw [if_neg hc110] at hf
  by_cases hc179 : x0 = 7
  · rw [if_pos hc179] at hf
    refine lv_tableIn (off := 239) (tgt := 240) hx hb dM_two1_1 (by rw [hc179]; decide) (by rw [hc179]; decide) (by rw [hc179]; decide) (by decide) ?_
    refine lv_aload_n hx hb dM_two1_240 rfl (lv_at hl 0 rfl) ?_
    refine xm_aload_n hx hb (xvor _ _) dM_two1_241 rfl (lv_at hl 2 rfl) ?_
    refine xm_aload_n hx hb (xvor _ _) dM_two1_242 rfl (lv_at hl 3 rfl) ?_
    obtain ⟨o180, hq181, hf⟩ := xbind hf
    have hl := lv_sub (l' := [(0, .ref aM), (1, .int x0)]) hl [0, 1] rfl
    by_cases hk182 : o180.1 = 0
    · rw [if_pos hk182] at hf
      obtain ⟨hm183, hf⟩ := xmoE hf
      have hFc := xm_free hD hS hA
      refine va_callq (va_runV (C := "ValueBenchModel") (As := [xv vad c1, xv vad c2]) (rest := []) ⟨hx, hb, hml, hown, htx⟩ (gM_indices l hl9 D cT aK aV s.heap.size d n aM ad rd gd vad st c1 c2 o180 hq181 hk182) ⟨callB_of 2 htx (xw_goodC kw_7_103) rfl rfl rfl (htx _ kw_1_5) (htx _ kw_7_100) ⟨by decide, by decide, by decide +kernel⟩ ⟨(by show (16 * d + 8) + 1 ≤ 16 * d + 10; omega), (by show 8 + (9 + 11) + (400 * d + 147) ≤ 400 * d + 199; omega)⟩, (htx _ kw_7_102), (htx _ kp_M_indices)⟩ ⟨xPre_blind, va_recv hK hP (ci := 5) rfl (q0 := 0) rfl, (fun U hU hW => ⟨rfl, xPre_of hZ hS hFc hP hD hK U hU hW⟩)⟩ rfl rfl hl.1 rfl (xm_room (Nat.le_of_ble_eq_true rfl)) dM_two1_243 ⟨hm183.1, hm183.2⟩) hS (fun q _ h => hFc q h) hFc (fun r184 u9 t H1 locs ht hvm hr9 hB hz1 hk1 hS => ?_)
      obtain ⟨hP1, hK1, hD1⟩ := hB
      rw [ht] at hP1
      obtain ⟨ad185, gd186, vad187⟩ := u9
      obtain ⟨hr9, hv188, hn189⟩ := hr9
      have hP : va_P D xcl (xMw cT aM ad185 rd gd186 vad187 o180.2.2.2.2 []) H1 := hP1
      have hD : va_D A (xMw cT aM ad185 rd gd186 vad187 o180.2.2.2.2 []) := hD1.weaken (fun k q _ h => hFc q.1 h)
      generalize H1 = H at hP hS ⊢
      have hE9 : ∀ p, p < xct st → vad187 p = vad p := fun p h => (hv188 p (Nat.lt_of_lt_of_le h hN)).trans (hE p h)
      have hE := hE9
      have hN : xct st ≤ xct o180.2.2.2.2 := Nat.le_trans hN hn189
      rw [hr9]
      refine W.eq (g2 := F0 m 246 ls [xv vad187 o180.2.2.2.1]) (by first | rfl | (skip; rfl)) ?_
      obtain rfl := Option.some.inj hf
      exact W.aret (v := xv vad187 o180.2.2.2.1) hx hb hr (Or.inl ⟨_, rfl⟩) (xvor _ _) (fun t ht hW => ⟨⟨xca vad187 o180.2.2.2.1, (ad185, gd186, vad187), rfl, ⟨rfl, hE, hN⟩, by rw [ht]; exact hP, va_K.moved hW.alike hK, hD⟩, hS.F ht⟩) hS.2.2 dM_two1_246
    rw [if_neg hk182] at hf
    by_cases hk190 : o180.1 = 1
    · rw [if_pos hk190] at hf
      obtain ⟨hm191, hf⟩ := xmoE hf
      obtain rfl := Option.some.inj hf
      exact absurd (show (1 : Nat) = 0 from hkd) (by decide)
    rw [if_neg hk190] at hf
    by_cases hk198 : o180.1 = 2
    · rw [if_pos hk198] at hf
      obtain ⟨hm199, hf⟩ := xmoE hf
      obtain rfl := Option.some.inj hf
      exact absurd (show (2 : Nat) = 0 from hkd) (by decide)
    rw [if_neg hk198] at hf
    exact nomatch hf
  rw [if_neg hc179] at hf
  by_cases hc206 : x0 = 8
  · rw [if_pos hc206] at hf
    refine lv_tableIn (off := 246) (tgt := 247) hx hb dM_two1_1 (by rw [hc206]; decide) (by rw [hc206]; decide) (by rw [hc206]; decide) (by decide) ?_
    refine lv_aload_n hx hb dM_two1_247 rfl (lv_at hl 0 rfl) ?_
    refine xm_aload_n hx hb (xvor _ _) dM_two1_248 rfl (lv_at hl 2 rfl) ?_
    refine xm_aload_n hx hb (xvor _ _) dM_two1_249 rfl (lv_at hl 3 rfl) ?_
    obtain ⟨o207, hq208, hf⟩ := xbind hf
    have hl := lv_sub (l' := [(0, .ref aM), (1, .int x0)]) hl [0, 1] rfl
    by_cases hk209 : o207.1 = 0
    · rw [if_pos hk209] at hf
      obtain ⟨hm210, hf⟩ := xmoE hf
      have hFc := xm_free hD hS hA
      refine va_callq (va_runV (C := "ValueBenchModel") (As := [xv vad c1, xv vad c2]) (rest := []) ⟨hx, hb, hml, hown, htx⟩ (gM_flatten l hl9 D cT aK aV s.heap.size d n aM ad rd gd vad st c1 c2 o207 hq208 hk209) ⟨callB_of 2 htx (xw_goodC kw_7_107) rfl rfl rfl (htx _ kw_1_5) (htx _ kw_7_104) ⟨by decide, by decide, by decide +kernel⟩ ⟨(by show (16 * d + 8) + 1 ≤ 16 * d + 10; omega), (by show 8 + (4 + 11) + (400 * d + 147) ≤ 400 * d + 199; omega)⟩, (htx _ kw_7_106), (htx _ kp_M_flatten)⟩ ⟨xPre_blind, va_recv hK hP (ci := 5) rfl (q0 := 0) rfl, (fun U hU hW => ⟨rfl, xPre_of hZ hS hFc hP hD hK U hU hW⟩)⟩ rfl rfl hl.1 rfl (xm_room (Nat.le_of_ble_eq_true rfl)) dM_two1_250 ⟨hm210.1, hm210.2⟩) hS (fun q _ h => hFc q h) hFc (fun r211 u9 t H1 locs ht hvm hr9 hB hz1 hk1 hS => ?_)
      obtain ⟨hP1, hK1, hD1⟩ := hB
      rw [ht] at hP1
      obtain ⟨ad212, gd213, vad214⟩ := u9
      obtain ⟨hr9, hv215, hn216⟩ := hr9
      have hP : va_P D xcl (xMw cT aM ad212 rd gd213 vad214 o207.2.2.2.2 []) H1 := hP1
      have hD : va_D A (xMw cT aM ad212 rd gd213 vad214 o207.2.2.2.2 []) := hD1.weaken (fun k q _ h => hFc q.1 h)
      generalize H1 = H at hP hS ⊢
      have hE9 : ∀ p, p < xct st → vad214 p = vad p := fun p h => (hv215 p (Nat.lt_of_lt_of_le h hN)).trans (hE p h)
      have hE := hE9
      have hN : xct st ≤ xct o207.2.2.2.2 := Nat.le_trans hN hn216
      rw [hr9]
      refine W.eq (g2 := F0 m 253 ls [xv vad214 o207.2.2.2.1]) (by first | rfl | (skip; rfl)) ?_
      obtain rfl := Option.some.inj hf
      exact W.aret (v := xv vad214 o207.2.2.2.1) hx hb hr (Or.inl ⟨_, rfl⟩) (xvor _ _) (fun t ht hW => ⟨⟨xca vad214 o207.2.2.2.1, (ad212, gd213, vad214), rfl, ⟨rfl, hE, hN⟩, by rw [ht]; exact hP, va_K.moved hW.alike hK, hD⟩, hS.F ht⟩) hS.2.2 dM_two1_253
    rw [if_neg hk209] at hf
    by_cases hk217 : o207.1 = 1
    · rw [if_pos hk217] at hf
      obtain ⟨hm218, hf⟩ := xmoE hf
      obtain rfl := Option.some.inj hf
      exact absurd (show (1 : Nat) = 0 from hkd) (by decide)
    rw [if_neg hk217] at hf
    by_cases hk225 : o207.1 = 2
    · rw [if_pos hk225] at hf
      obtain ⟨hm226, hf⟩ := xmoE hf
      obtain rfl := Option.some.inj hf
      exact absurd (show (2 : Nat) = 0 from hkd) (by decide)
    rw [if_neg hk225] at hf
    exact nomatch hf
  rw [if_neg hc206] at hf
  refine lv_tableOut (tgt := 254) hx hb dM_two1_1 (by have e0 : x0.toInt ≠ 0 := xsw hc1 (by decide); have e1 : x0.toInt ≠ 1 := xsw hc20 (by decide); have e2 : x0.toInt ≠ 2 := xsw hc24 (by decide); have e3 : x0.toInt ≠ 3 := xsw hc51 (by decide); have e4 : x0.toInt ≠ 4 := xsw hc53 (by decide); have e5 : x0.toInt ≠ 5 := xsw hc55 (by decide); have e6 : x0.toInt ≠ 6 := xsw hc110 (by decide); have e7 : x0.toInt ≠ 7 := xsw hc179 (by decide); have e8 : x0.toInt ≠ 8 := xsw hc206 (by decide); omega) (by decide) ?_
  refine lv_aload_n hx hb dM_two1_254 rfl (lv_at hl 0 rfl) ?_
  refine xm_aload_n hx hb (xvor _ _) dM_two1_255 rfl (lv_at hl 2 rfl) ?_
  refine xm_aload_n hx hb (xvor _ _) dM_two1_256 rfl (lv_at hl 3 rfl) ?_
  obtain ⟨o233, hq234, hf⟩ := xbind hf
  have hl := lv_sub (l' := [(0, .ref aM), (1, .int x0)]) hl [0, 1] rfl
  by_cases hk235 : o233.1 = 0
  · rw [if_pos hk235] at hf
    obtain ⟨hm236, hf⟩ := xmoE hf
    have hFc := xm_free hD hS hA
    refine va_callq (va_runV (C := "ValueBenchModel") (As := [xv vad c1, xv vad c2]) (rest := []) ⟨hx, hb, hml, hown, htx⟩ (gM_at l hl9 D cT aK aV s.heap.size d n aM ad rd gd vad st c1 c2 o233 hq234 hk235) ⟨callB_of 2 htx (xw_goodC kw_7_115) rfl rfl rfl (htx _ kw_1_5) (htx _ kw_7_112) ⟨by decide, by decide, by decide +kernel⟩ ⟨(by show (16 * d + 9) + 1 ≤ 16 * d + 10; omega), (by show 8 + (5 + 11) + (400 * d + 175) ≤ 400 * d + 199; omega)⟩, (htx _ kw_7_114), (htx _ kp_M_at)⟩ ⟨xPre_blind, va_recv hK hP (ci := 5) rfl (q0 := 0) rfl, (fun U hU hW => ⟨rfl, xPre_of hZ hS hFc hP hD hK U hU hW⟩)⟩ rfl rfl hl.1 rfl (xm_room (Nat.le_of_ble_eq_true rfl)) dM_two1_257 ⟨hm236.1, hm236.2⟩) hS (fun q _ h => hFc q h) hFc (fun r237 u9 t H1 locs ht hvm hr9 hB hz1 hk1 hS => ?_)
    obtain ⟨hP1, hK1, hD1⟩ := hB
    rw [ht] at hP1
    obtain ⟨ad238, gd239, vad240⟩ := u9
    obtain ⟨hr9, hv241, hn242⟩ := hr9
    have hP : va_P D xcl (xMw cT aM ad238 rd gd239 vad240 o233.2.2.2.2 []) H1 := hP1
    have hD : va_D A (xMw cT aM ad238 rd gd239 vad240 o233.2.2.2.2 []) := hD1.weaken (fun k q _ h => hFc q.1 h)
    generalize H1 = H at hP hS ⊢
    have hE9 : ∀ p, p < xct st → vad240 p = vad p := fun p h => (hv241 p (Nat.lt_of_lt_of_le h hN)).trans (hE p h)
    have hE := hE9
    have hN : xct st ≤ xct o233.2.2.2.2 := Nat.le_trans hN hn242
    rw [hr9]
    refine W.eq (g2 := F0 m 260 ls [xv vad240 o233.2.2.2.1]) (by first | rfl | (skip; rfl)) ?_
    obtain rfl := Option.some.inj hf
    exact W.aret (v := xv vad240 o233.2.2.2.1) hx hb hr (Or.inl ⟨_, rfl⟩) (xvor _ _) (fun t ht hW => ⟨⟨xca vad240 o233.2.2.2.1, (ad238, gd239, vad240), rfl, ⟨rfl, hE, hN⟩, by rw [ht]; exact hP, va_K.moved hW.alike hK, hD⟩, hS.F ht⟩) hS.2.2 dM_two1_260
  rw [if_neg hk235] at hf
  by_cases hk243 : o233.1 = 1
  · rw [if_pos hk243] at hf
    obtain ⟨hm244, hf⟩ := xmoE hf
    obtain rfl := Option.some.inj hf
    exact absurd (show (1 : Nat) = 0 from hkd) (by decide)
  rw [if_neg hk243] at hf
  by_cases hk251 : o233.1 = 2
  · rw [if_pos hk251] at hf
    obtain ⟨hm252, hf⟩ := xmoE hf
    obtain rfl := Option.some.inj hf
    exact absurd (show (2 : Nat) = 0 from hkd) (by decide)
  rw [if_neg hk251] at hf
  exact nomatch hf
set_option maxHeartbeats 400000000 in
set_option maxRecDepth 100000 in
theorem gM_two1_1 (l : Launch) (hl9 : l.stackTraces = false) (D : va_G) (cT : Nat → ClassId) (aK aV : Nat → Nat) (sz d n : Nat) (aM : Nat) (ad rd gd vad : Nat → Nat) (st : xS) (x0 : Int32) (c1 : Nat) (c2 : Nat) (out : Nat × Nat × Nat × Nat × xS) (hf : fM_two1 d n st x0 c1 c2 = some out) (hkd : out.1 = 1) : xMetY l yM_two1 wyM_two1 (16 * d + 10) out.2.1 out.2.2.1 (400 * d + 199) D cT aK aV sz [.ref aM, .int x0, xv vad c1, xv vad c2] (xMw cT aM ad rd gd vad st []) "java/lang/ArithmeticException" (fun u => xE vad st out.2.2.2.2 u) (fun A u t => xB D xcl cT A (xMw cT aM u.1 rd u.2.1 u.2.2 out.2.2.2.2 []) t) := by
  refine vx_ofW (cc := prog_13_method_76_code) (maxL := 4) (ret := (some (.object "ValueBenchModel$V"))) (by decide) rfl ?_
  intro p e s m args below meth c s₁ B hml hne hv
  obtain ⟨rfl, hsz, hZ, hP, hK, hD0⟩ := hv
  have hx := B.exec
  have hb := B.bytes
  have hr := B.returns
  have hts := atoms_spec (ws := wyM_two1) B.pre
  have htx := fun w h => hts w (List.mem_cons_of_mem _ h)
  have hown : s.vm.findClass "ValueBenchModel" = some m.cls := findClass_of_methodNamed B.named
  have hlocks := B.notSynchronized
  subst hsz
  have hD := hD0.self (sz := s.heap.size)
  generalize hAe : va_A (xMw cT aM ad rd gd vad st []) s.heap.size = A at hD hZ ⊢
  have hA : ∀ q : Nat, s.heap.size ≤ q → A q := fun q h => by rw [← hAe]; exact Or.inr h
  have hS : va_S A s.heap s.heap [] := va_S.rf
  have hl := lv_entry ([.ref aM, .int x0, xv vad c1, xv vad c2]) (n := 4) (by simp [lg_sl, xvcat, xrscat, xcI, xcL, xcR, xcN])
  rw [show lv_args 0 [.ref aM, .int x0, xv vad c1, xv vad c2] = [(0, .ref aM), (1, .int x0), (2, xv vad c1), (3, xv vad c2)] from by simp [lv_args, xvcat, xrscat, xcI, xcL, xcR, xcN]] at hl
  rw [lg_entry_eq]
  generalize (lg_sl ([.ref aM, .int x0, xv vad c1, xv vad c2]) ++ List.replicate (4 - (lg_sl ([.ref aM, .int x0, xv vad c1, xv vad c2])).length) Slot.unset).toArray = ls at hl ⊢
  have hl : lv_has ls 4 [(0, .ref aM), (1, .int x0), (2, xv vad c1), (3, xv vad c2)] := hl
  have hE : ∀ p, p < xct st → vad p = vad p := fun _ _ => rfl
  have hN : xct st ≤ xct st := Nat.le_refl _
  unfold fM_two1 at hf
  refine lv_iload_n hx hb dM_two1_0 rfl (lv_at hl 1 rfl) ?_
  by_cases hc1 : x0 = 0
  · rw [if_pos hc1] at hf
    refine lv_tableIn (off := 51) (tgt := 52) hx hb dM_two1_1 (by rw [hc1]; decide) (by rw [hc1]; decide) (by rw [hc1]; decide) (by decide) ?_
    refine lv_aload_n hx hb dM_two1_52 rfl (lv_at hl 0 rfl) ?_
    refine xm_aload_n hx hb (xvor _ _) dM_two1_53 rfl (lv_at hl 2 rfl) ?_
    refine xm_aload_n hx hb (xvor _ _) dM_two1_54 rfl (lv_at hl 3 rfl) ?_
    obtain ⟨o2, hq3, hf⟩ := xbind hf
    have hl := lv_sub (l' := [(0, .ref aM), (1, .int x0)]) hl [0, 1] rfl
    by_cases hk4 : o2.1 = 0
    · rw [if_pos hk4] at hf
      obtain ⟨hm5, hf⟩ := xmoE hf
      have hFc := xm_free hD hS hA
      refine va_callq (va_runV (C := "ValueBenchModel") (As := [xv vad c1, xv vad c2]) (rest := []) ⟨hx, hb, hml, hown, htx⟩ (gM_has l hl9 D cT aK aV s.heap.size n aM ad rd gd vad st c1 c2 o2 hq3 hk4) ⟨callB_of 2 htx (xw_goodC kw_7_83) rfl rfl rfl (htx _ kw_1_5) (htx _ kw_7_80) ⟨by decide, by decide, by decide +kernel⟩ ⟨Nat.le_of_ble_eq_true rfl, Nat.le_of_ble_eq_true rfl⟩, (htx _ kw_7_82), (htx _ kp_M_has)⟩ ⟨xPre_blind, va_recv hK hP (ci := 5) rfl (q0 := 0) rfl, (fun U hU hW => ⟨rfl, xPre_of hZ hS hFc hP hD hK U hU hW⟩)⟩ rfl rfl hl.1 rfl (xm_room (Nat.le_of_ble_eq_true rfl)) dM_two1_55 ⟨hm5.1, hm5.2⟩) hS (fun q _ h => hFc q h) hFc (fun r6 u9 t H1 locs ht hvm hr9 hB hz1 hk1 hS => ?_)
      obtain ⟨hP1, hK1, hD1⟩ := hB
      rw [ht] at hP1
      obtain ⟨ad7, gd8, vad9⟩ := u9
      obtain ⟨hr9, hv10, hn11⟩ := hr9
      have hP : va_P D xcl (xMw cT aM ad7 rd gd8 vad9 o2.2.2.2.2 []) H1 := hP1
      have hD : va_D A (xMw cT aM ad7 rd gd8 vad9 o2.2.2.2.2 []) := hD1.weaken (fun k q _ h => hFc q.1 h)
      generalize H1 = H at hP hS ⊢
      have hE9 : ∀ p, p < xct st → vad9 p = vad p := fun p h => (hv10 p (Nat.lt_of_lt_of_le h hN)).trans (hE p h)
      have hE := hE9
      have hN : xct st ≤ xct o2.2.2.2.2 := Nat.le_trans hN hn11
      rw [hr9]
      refine W.eq (g2 := F0 m 58 ls [xv vad9 o2.2.2.2.1]) (by first | rfl | (skip; rfl)) ?_
      obtain rfl := Option.some.inj hf
      exact absurd (show (0 : Nat) = 1 from hkd) (by decide)
    rw [if_neg hk4] at hf
    by_cases hk12 : o2.1 = 1
    · rw [if_pos hk12] at hf
      obtain ⟨hm13, hf⟩ := xmoE hf
      have hFc := xm_free hD hS hA
      refine xx_thr (vx_runV (C := "ValueBenchModel") (As := [xv vad c1, xv vad c2]) (rest := []) ⟨hx, hb, hml, hown, htx⟩ (gM_has_1 l hl9 D cT aK aV s.heap.size n aM ad rd gd vad st c1 c2 o2 hq3 hk12) ⟨callB_of 2 htx (xw_goodC kw_7_83) rfl rfl rfl (htx _ kw_1_5) (htx _ kw_7_80) ⟨by decide, by decide, by decide +kernel⟩ ⟨Nat.le_of_ble_eq_true rfl, Nat.le_of_ble_eq_true rfl⟩, (htx _ kw_7_82), (htx _ kp_M_has)⟩ ⟨xPre_blind, va_recv hK hP (ci := 5) rfl (q0 := 0) rfl, (fun U hU hW => ⟨rfl, xPre_of hZ hS hFc hP hD hK U hU hW⟩)⟩ rfl rfl hl.1 rfl (xm_room (Nat.le_of_ble_eq_true rfl)) dM_two1_55 ⟨hm13.1, hm13.2⟩) hS hFc (fun q _ h => hFc q h) (fun E ce q9 u9 t H1 locs ht hvm hr9 hB hz1 hk1 hS hce hcv hcl => ?_)
      obtain ⟨rfl, hP1, hK1, hD1⟩ := hB
      rw [ht] at hP1
      obtain ⟨ad15, gd16, vad17⟩ := u9
      obtain ⟨hv18, hn19⟩ := hr9
      have hP : va_P D xcl (xMw cT aM ad15 rd gd16 vad17 o2.2.2.2.2 []) H1 := hP1
      have hD : va_D A (xMw cT aM ad15 rd gd16 vad17 o2.2.2.2.2 []) := hD1.weaken (fun k q _ h => hFc q.1 h)
      generalize H1 = H at hP hS hce ⊢
      have hE9 : ∀ p, p < xct st → vad17 p = vad p := fun p h => (hv18 p (Nat.lt_of_lt_of_le h hN)).trans (hE p h)
      have hE := hE9
      have hN : xct st ≤ xct o2.2.2.2.2 := Nat.le_trans hN hn19
      obtain rfl := Option.some.inj hf
      exact vx_out (E := "java/lang/ArithmeticException") (fun x h => (hne x h).elim) hlocks hce hcv hcl (fun t ht ha => ⟨(ad15, gd16, vad17), ⟨hE, hN⟩, ⟨rfl, by rw [ht]; exact hP, va_K.moved ha hK, hD⟩, hS.F ht⟩) hS.2.2 (Nat.le_refl _) (Nat.le_refl _)
    rw [if_neg hk12] at hf
    exact nomatch hf
  rw [if_neg hc1] at hf
  by_cases hc20 : x0 = 1
  · rw [if_pos hc20] at hf
    refine lv_tableIn (off := 58) (tgt := 59) hx hb dM_two1_1 (by rw [hc20]; decide) (by rw [hc20]; decide) (by rw [hc20]; decide) (by decide) ?_
    refine lv_aload_n hx hb dM_two1_59 rfl (lv_at hl 0 rfl) ?_
    refine xm_aload_n hx hb (xvor _ _) dM_two1_60 rfl (lv_at hl 2 rfl) ?_
    refine xm_aload_n hx hb (xvor _ _) dM_two1_61 rfl (lv_at hl 3 rfl) ?_
    obtain ⟨o21, hq22, hf⟩ := xbind hf
    have hFc := xm_free hD hS hA
    refine va_calli (va_runV (C := "ValueBenchModel") (As := [xv vad c1, xv vad c2]) (rest := []) ⟨hx, hb, hml, hown, htx⟩ (gM_alike l hl9 D cT aK aV s.heap.size n aM ad rd gd vad st c1 c2 o21 hq22) ⟨callB_of 2 htx (xw_goodC kw_7_87) rfl rfl rfl (htx _ kw_1_5) (htx _ kw_7_84) ⟨by decide, by decide, by decide +kernel⟩ ⟨Nat.le_of_ble_eq_true rfl, Nat.le_of_ble_eq_true rfl⟩, (htx _ kw_7_86), (htx _ kp_M_alike)⟩ ⟨xPre_blind, va_recv hK hP (ci := 5) rfl (q0 := 0) rfl, (fun U hU hW => ⟨rfl, xPre_of hZ hS hFc hP hD hK U hU hW⟩)⟩ rfl rfl hl.1 rfl (xm_room (Nat.le_of_ble_eq_true rfl)) dM_two1_62 ⟨Nat.zero_le _, Nat.zero_le _⟩) hS (fun q _ h => hFc q h) hFc (fun r23 u9 t H1 locs ht hvm hr9 hB hz1 hk1 hS => ?_)
    obtain ⟨hP1, hK1, hD1⟩ := hB
    rw [ht] at hP1
    have hP : va_P D xcl (xMw cT aM ad rd gd vad st []) H1 := hP1
    have hD : va_D A (xMw cT aM ad rd gd vad st []) := hD1.weaken (fun k q _ h => hFc q.1 h)
    generalize H1 = H at hP hS ⊢
    rw [hr9]
    refine W.eq (g2 := F0 m 65 ls [.int o21]) (by first | rfl | (skip; rfl)) ?_
    refine lv_if_eq (tgt := 81) hx hb dM_two1_65 (by decide) (fun hc => ?_) (fun hc => ?_)
    · rw [if_pos hc] at hf
      refine lv_aload_n hx hb dM_two1_81 rfl (lv_at hl 0 rfl) ?_
      refine lv_iconst (v := 1) hx hb dM_two1_82 (by decide) ?_
      obtain ⟨o24, hq25, hf⟩ := xbind hf
      have hl := lv_sub (l' := [(0, .ref aM), (1, .int x0)]) hl [0, 1] rfl
      by_cases hk26 : o24.1 = 1
      · rw [if_pos hk26] at hf
        obtain ⟨hm27, hf⟩ := xmoE hf
        have hFc := xm_free hD hS hA
        refine xx_thr (vx_runV (C := "ValueBenchModel") (As := [.int 1]) (rest := []) ⟨hx, hb, hml, hown, htx⟩ (gM_refuse_1 l hl9 D cT aK aV H.size n aM ad rd gd vad st (1 : Int32) o24 hq25 hk26) ⟨callB_of 1 htx (xw_goodC kw_6_93) rfl rfl rfl (htx _ kw_1_5) (htx _ kw_6_90) ⟨by decide, by decide, by decide +kernel⟩ ⟨Nat.le_of_ble_eq_true rfl, Nat.le_of_ble_eq_true rfl⟩, (htx _ kw_6_92), (htx _ kp_M_refuse)⟩ ⟨xPre_blind, va_recv hK hP (ci := 5) rfl (q0 := 0) rfl, (fun U hU hW => ⟨rfl, xPre_of hZ hS hFc hP hD hK U hU hW⟩)⟩ rfl rfl hl.1 rfl (xm_room (Nat.le_of_ble_eq_true rfl)) dM_two1_83 ⟨hm27.1, hm27.2⟩) hS hFc (fun q _ h => hFc q h) (fun E ce q9 u9 t H1 locs ht hvm hr9 hB hz1 hk1 hS hce hcv hcl => ?_)
        obtain ⟨rfl, hP1, hK1, hD1⟩ := hB
        rw [ht] at hP1
        obtain ⟨ad29, gd30, vad31⟩ := u9
        obtain ⟨hv32, hn33⟩ := hr9
        have hP : va_P D xcl (xMw cT aM ad29 rd gd30 vad31 o24.2.2.2.2 []) H1 := hP1
        have hD : va_D A (xMw cT aM ad29 rd gd30 vad31 o24.2.2.2.2 []) := hD1.weaken (fun k q _ h => hFc q.1 h)
        generalize H1 = H at hP hS hce ⊢
        have hE9 : ∀ p, p < xct st → vad31 p = vad p := fun p h => (hv32 p (Nat.lt_of_lt_of_le h hN)).trans (hE p h)
        have hE := hE9
        have hN : xct st ≤ xct o24.2.2.2.2 := Nat.le_trans hN hn33
        obtain rfl := Option.some.inj hf
        exact vx_out (E := "java/lang/ArithmeticException") (fun x h => (hne x h).elim) hlocks hce hcv hcl (fun t ht ha => ⟨(ad29, gd30, vad31), ⟨hE, hN⟩, ⟨rfl, by rw [ht]; exact hP, va_K.moved ha hK, hD⟩, hS.F ht⟩) hS.2.2 (Nat.le_refl _) (Nat.le_refl _)
      rw [if_neg hk26] at hf
      exact nomatch hf
    · rw [if_neg hc] at hf
      refine lv_aload_n hx hb dM_two1_68 rfl (lv_at hl 0 rfl) ?_
      refine lv_aload_n hx hb dM_two1_69 rfl (lv_at hl 0 rfl) ?_
      refine xm_aload_n hx hb (xvor _ _) dM_two1_70 rfl (lv_at hl 2 rfl) ?_
      refine xm_aload_n hx hb (xvor _ _) dM_two1_71 rfl (lv_at hl 3 rfl) ?_
      obtain ⟨o24, hq25, hf⟩ := xbind hf
      have hl := lv_sub (l' := [(0, .ref aM), (1, .int x0)]) hl [0, 1] rfl
      have hFc := xm_free hD hS hA
      refine va_calli (va_runV (C := "ValueBenchModel") (As := [xv vad c1, xv vad c2]) (rest := [.ref aM]) ⟨hx, hb, hml, hown, htx⟩ (gM_contains l hl9 D cT aK aV d H.size n aM ad rd gd vad st c1 c2 o24 hq25) ⟨callB_of 2 htx (xw_goodC kw_7_91) rfl rfl rfl (htx _ kw_1_5) (htx _ kw_7_88) ⟨by decide, by decide, by decide +kernel⟩ ⟨(by show (16 * d) + 1 ≤ 16 * d + 10; omega), (by show 8 + (6 + 11) + (400 * d) ≤ 400 * d + 199; omega)⟩, (htx _ kw_7_90), (htx _ kp_M_contains)⟩ ⟨xPre_blind, va_recv hK hP (ci := 5) rfl (q0 := 0) rfl, (fun U hU hW => ⟨rfl, xPre_of hZ hS hFc hP hD hK U hU hW⟩)⟩ rfl rfl hl.1 rfl (xm_room (Nat.le_of_ble_eq_true rfl)) dM_two1_72 ⟨Nat.zero_le _, Nat.zero_le _⟩) hS (fun q _ h => hFc q h) hFc (fun r26 u9 t H1 locs ht hvm hr9 hB hz1 hk1 hS => ?_)
      obtain ⟨hP1, hK1, hD1⟩ := hB
      rw [ht] at hP1
      have hP : va_P D xcl (xMw cT aM ad rd gd vad st []) H1 := hP1
      have hD : va_D A (xMw cT aM ad rd gd vad st []) := hD1.weaken (fun k q _ h => hFc q.1 h)
      generalize H1 = H at hP hS ⊢
      rw [hr9]
      refine W.eq (g2 := F0 m 75 ls [.int o24, .ref aM]) (by first | rfl | (skip; rfl)) ?_
      obtain ⟨o27, hq28, hf⟩ := xbind hf
      obtain ⟨hm29, hf⟩ := xmoE hf
      have hFc := xm_free hD hS hA
      refine va_callq (va_runV (C := "ValueBenchModel") (As := [.int o24]) (rest := []) ⟨hx, hb, hml, hown, htx⟩ (gM_truth l hl9 D cT aK aV H.size n aM ad rd gd vad st o24 o27 hq28) ⟨callB_of 1 htx (xw_goodC kw_7_5) rfl rfl rfl (htx _ kw_1_5) (htx _ kw_7_2) ⟨by decide, by decide, by decide +kernel⟩ ⟨Nat.le_of_ble_eq_true rfl, Nat.le_of_ble_eq_true rfl⟩, (htx _ kw_7_4), (htx _ kp_M_truth)⟩ ⟨xPre_blind, va_recv hK hP (ci := 5) rfl (q0 := 0) rfl, (fun U hU hW => ⟨rfl, xPre_of hZ hS hFc hP hD hK U hU hW⟩)⟩ rfl rfl hl.1 rfl (xm_room (Nat.le_of_ble_eq_true rfl)) dM_two1_75 ⟨hm29.1, hm29.2⟩) hS (fun q _ h => hFc q h) hFc (fun r30 u9 t H1 locs ht hvm hr9 hB hz1 hk1 hS => ?_)
      obtain ⟨hP1, hK1, hD1⟩ := hB
      rw [ht] at hP1
      obtain ⟨ad31, gd32, vad33⟩ := u9
      obtain ⟨hr9, hv34, hn35⟩ := hr9
      have hP : va_P D xcl (xMw cT aM ad31 rd gd32 vad33 o27.2.2.2 []) H1 := hP1
      have hD : va_D A (xMw cT aM ad31 rd gd32 vad33 o27.2.2.2 []) := hD1.weaken (fun k q _ h => hFc q.1 h)
      generalize H1 = H at hP hS ⊢
      have hE9 : ∀ p, p < xct st → vad33 p = vad p := fun p h => (hv34 p (Nat.lt_of_lt_of_le h hN)).trans (hE p h)
      have hE := hE9
      have hN : xct st ≤ xct o27.2.2.2 := Nat.le_trans hN hn35
      rw [hr9]
      refine W.eq (g2 := F0 m 78 ls [xv vad33 o27.2.2.1]) (by first | rfl | (skip; rfl)) ?_
      refine lv_goto (tgt := 86) hx hb dM_two1_78 (by decide) ?_
      obtain rfl := Option.some.inj hf
      exact absurd (show (0 : Nat) = 1 from hkd) (by decide)
  rw [if_neg hc20] at hf
  by_cases hc24 : x0 = 2
  · rw [if_pos hc24] at hf
    refine lv_tableIn (off := 86) (tgt := 87) hx hb dM_two1_1 (by rw [hc24]; decide) (by rw [hc24]; decide) (by rw [hc24]; decide) (by decide) ?_
    refine lv_aload_n hx hb dM_two1_87 rfl (lv_at hl 0 rfl) ?_
    refine xm_aload_n hx hb (xvor _ _) dM_two1_88 rfl (lv_at hl 2 rfl) ?_
    refine xm_aload_n hx hb (xvor _ _) dM_two1_89 rfl (lv_at hl 3 rfl) ?_
    obtain ⟨o25, hq26, hf⟩ := xbind hf
    have hl := lv_sub (l' := [(0, .ref aM), (1, .int x0)]) hl [0, 1] rfl
    by_cases hk27 : o25.1 = 0
    · rw [if_pos hk27] at hf
      obtain ⟨hm28, hf⟩ := xmoE hf
      have hFc := xm_free hD hS hA
      refine va_callq (va_runV (C := "ValueBenchModel") (As := [xv vad c1, xv vad c2]) (rest := []) ⟨hx, hb, hml, hown, htx⟩ (gM_joined l hl9 D cT aK aV s.heap.size d n aM ad rd gd vad st c1 c2 o25 hq26 hk27) ⟨callB_of 2 htx (xw_goodC kw_7_99) rfl rfl rfl (htx _ kw_1_5) (htx _ kw_7_96) ⟨by decide, by decide, by decide +kernel⟩ ⟨(by show (16 * d + 8) + 1 ≤ 16 * d + 10; omega), (by show 8 + (8 + 11) + (400 * d + 142) ≤ 400 * d + 199; omega)⟩, (htx _ kw_7_98), (htx _ kp_M_joined)⟩ ⟨xPre_blind, va_recv hK hP (ci := 5) rfl (q0 := 0) rfl, (fun U hU hW => ⟨rfl, xPre_of hZ hS hFc hP hD hK U hU hW⟩)⟩ rfl rfl hl.1 rfl (xm_room (Nat.le_of_ble_eq_true rfl)) dM_two1_90 ⟨hm28.1, hm28.2⟩) hS (fun q _ h => hFc q h) hFc (fun r29 u9 t H1 locs ht hvm hr9 hB hz1 hk1 hS => ?_)
      obtain ⟨hP1, hK1, hD1⟩ := hB
      rw [ht] at hP1
      obtain ⟨ad30, gd31, vad32⟩ := u9
      obtain ⟨hr9, hv33, hn34⟩ := hr9
      have hP : va_P D xcl (xMw cT aM ad30 rd gd31 vad32 o25.2.2.2.2 []) H1 := hP1
      have hD : va_D A (xMw cT aM ad30 rd gd31 vad32 o25.2.2.2.2 []) := hD1.weaken (fun k q _ h => hFc q.1 h)
      generalize H1 = H at hP hS ⊢
      have hE9 : ∀ p, p < xct st → vad32 p = vad p := fun p h => (hv33 p (Nat.lt_of_lt_of_le h hN)).trans (hE p h)
      have hE := hE9
      have hN : xct st ≤ xct o25.2.2.2.2 := Nat.le_trans hN hn34
      rw [hr9]
      refine W.eq (g2 := F0 m 93 ls [xv vad32 o25.2.2.2.1]) (by first | rfl | (skip; rfl)) ?_
      obtain rfl := Option.some.inj hf
      exact absurd (show (0 : Nat) = 1 from hkd) (by decide)
    rw [if_neg hk27] at hf
    by_cases hk35 : o25.1 = 1
    · rw [if_pos hk35] at hf
      obtain ⟨hm36, hf⟩ := xmoE hf
      have hFc := xm_free hD hS hA
      refine xx_thr (vx_runV (C := "ValueBenchModel") (As := [xv vad c1, xv vad c2]) (rest := []) ⟨hx, hb, hml, hown, htx⟩ (gM_joined_1 l hl9 D cT aK aV s.heap.size d n aM ad rd gd vad st c1 c2 o25 hq26 hk35) ⟨callB_of 2 htx (xw_goodC kw_7_99) rfl rfl rfl (htx _ kw_1_5) (htx _ kw_7_96) ⟨by decide, by decide, by decide +kernel⟩ ⟨(by show (16 * d + 8) + 1 ≤ 16 * d + 10; omega), (by show 8 + (8 + 11) + (400 * d + 142) ≤ 400 * d + 199; omega)⟩, (htx _ kw_7_98), (htx _ kp_M_joined)⟩ ⟨xPre_blind, va_recv hK hP (ci := 5) rfl (q0 := 0) rfl, (fun U hU hW => ⟨rfl, xPre_of hZ hS hFc hP hD hK U hU hW⟩)⟩ rfl rfl hl.1 rfl (xm_room (Nat.le_of_ble_eq_true rfl)) dM_two1_90 ⟨hm36.1, hm36.2⟩) hS hFc (fun q _ h => hFc q h) (fun E ce q9 u9 t H1 locs ht hvm hr9 hB hz1 hk1 hS hce hcv hcl => ?_)
      obtain ⟨rfl, hP1, hK1, hD1⟩ := hB
      rw [ht] at hP1
      obtain ⟨ad38, gd39, vad40⟩ := u9
      obtain ⟨hv41, hn42⟩ := hr9
      have hP : va_P D xcl (xMw cT aM ad38 rd gd39 vad40 o25.2.2.2.2 []) H1 := hP1
      have hD : va_D A (xMw cT aM ad38 rd gd39 vad40 o25.2.2.2.2 []) := hD1.weaken (fun k q _ h => hFc q.1 h)
      generalize H1 = H at hP hS hce ⊢
      have hE9 : ∀ p, p < xct st → vad40 p = vad p := fun p h => (hv41 p (Nat.lt_of_lt_of_le h hN)).trans (hE p h)
      have hE := hE9
      have hN : xct st ≤ xct o25.2.2.2.2 := Nat.le_trans hN hn42
      obtain rfl := Option.some.inj hf
      exact vx_out (E := "java/lang/ArithmeticException") (fun x h => (hne x h).elim) hlocks hce hcv hcl (fun t ht ha => ⟨(ad38, gd39, vad40), ⟨hE, hN⟩, ⟨rfl, by rw [ht]; exact hP, va_K.moved ha hK, hD⟩, hS.F ht⟩) hS.2.2 (Nat.le_refl _) (Nat.le_refl _)
    rw [if_neg hk35] at hf
    by_cases hk43 : o25.1 = 2
    · rw [if_pos hk43] at hf
      obtain ⟨hm44, hf⟩ := xmoE hf
      obtain rfl := Option.some.inj hf
      exact absurd (show (2 : Nat) = 1 from hkd) (by decide)
    rw [if_neg hk43] at hf
    exact nomatch hf
  rw [if_neg hc24] at hf
  by_cases hc51 : x0 = 3
  · rw [if_pos hc51] at hf
    refine lv_tableIn (off := 93) (tgt := 94) hx hb dM_two1_1 (by rw [hc51]; decide) (by rw [hc51]; decide) (by rw [hc51]; decide) (by decide) ?_
    refine xm_aload_n hx hb (xvor _ _) dM_two1_94 rfl (lv_at hl 2 rfl) ?_
    obtain ⟨hg52, hf⟩ := xifn hf
    refine xm_vget (v := .int ((xpi st 0) (c1 - 1))) hx hb htx hown hK hP 0 (by decide) hg52 rfl ((hZ.1 (93, "kind", "I") (List.mem_of_getElem? (i := 0) rfl)).use rfl) rfl dM_two1_95 ?_
    refine lv_iconst (v := 4) hx hb dM_two1_98 (by decide) ?_
    refine lv_icmp_ne (tgt := 136) hx hb dM_two1_99 (by decide) (fun hc => ?_) (fun hc => ?_)
    · rw [if_neg hc] at hf
      refine xm_aload_n hx hb (xvor _ _) dM_two1_136 rfl (lv_at hl 2 rfl) ?_
      obtain rfl := Option.some.inj hf
      exact absurd (show (0 : Nat) = 1 from hkd) (by decide)
    · rw [if_pos hc] at hf
      refine xm_aload_n hx hb (xvor _ _) dM_two1_102 rfl (lv_at hl 3 rfl) ?_
      obtain ⟨hg53, hf⟩ := xifn hf
      refine xm_vget (v := .int ((xpi st 0) (c2 - 1))) hx hb htx hown hK hP 0 (by decide) hg53 rfl ((hZ.1 (93, "kind", "I") (List.mem_of_getElem? (i := 0) rfl)).use rfl) rfl dM_two1_103 ?_
      refine lv_iconst (v := 4) hx hb dM_two1_106 (by decide) ?_
      refine lv_icmp_ne (tgt := 136) hx hb dM_two1_107 (by decide) (fun hc => ?_) (fun hc => ?_)
      · rw [if_neg hc] at hf
        refine xm_aload_n hx hb (xvor _ _) dM_two1_136 rfl (lv_at hl 2 rfl) ?_
        obtain rfl := Option.some.inj hf
        exact absurd (show (0 : Nat) = 1 from hkd) (by decide)
      · rw [if_pos hc] at hf
        refine lv_aload_n hx hb dM_two1_110 rfl (lv_at hl 0 rfl) ?_
        refine xm_aload_n hx hb (xvor _ _) dM_two1_111 rfl (lv_at hl 2 rfl) ?_
        refine xm_aload_n hx hb (xvor _ _) dM_two1_112 rfl (lv_at hl 3 rfl) ?_
        refine lv_iconst (v := 0) hx hb dM_two1_113 (by decide) ?_
        obtain ⟨o54, hq55, hf⟩ := xbind hf
        have hFc := xm_free hD hS hA
        refine va_calli (va_runV (C := "ValueBenchModel") (As := [xv vad c1, xv vad c2, .int 0]) (rest := []) ⟨hx, hb, hml, hown, htx⟩ (gM_begins l hl9 D cT aK aV s.heap.size n aM ad rd gd vad st c1 c2 (0 : Int32) o54 hq55) ⟨callB_of 3 htx (xw_goodC kw_7_95) rfl rfl rfl (htx _ kw_1_5) (htx _ kw_7_92) ⟨by decide, by decide, by decide +kernel⟩ ⟨Nat.le_of_ble_eq_true rfl, Nat.le_of_ble_eq_true rfl⟩, (htx _ kw_7_94), (htx _ kp_M_begins)⟩ ⟨xPre_blind, va_recv hK hP (ci := 5) rfl (q0 := 0) rfl, (fun U hU hW => ⟨rfl, xPre_of hZ hS hFc hP hD hK U hU hW⟩)⟩ rfl rfl hl.1 rfl (xm_room (Nat.le_of_ble_eq_true rfl)) dM_two1_114 ⟨Nat.zero_le _, Nat.zero_le _⟩) hS (fun q _ h => hFc q h) hFc (fun r56 u9 t H1 locs ht hvm hr9 hB hz1 hk1 hS => ?_)
        obtain ⟨hP1, hK1, hD1⟩ := hB
        rw [ht] at hP1
        have hP : va_P D xcl (xMw cT aM ad rd gd vad st []) H1 := hP1
        have hD : va_D A (xMw cT aM ad rd gd vad st []) := hD1.weaken (fun k q _ h => hFc q.1 h)
        generalize H1 = H at hP hS ⊢
        rw [hr9]
        refine W.eq (g2 := F0 m 117 ls [.int o54]) (by first | rfl | (skip; rfl)) ?_
        refine lv_if_eq (tgt := 136) hx hb dM_two1_117 (by decide) (fun hc => ?_) (fun hc => ?_)
        · rw [if_pos hc] at hf
          refine xm_aload_n hx hb (xvor _ _) dM_two1_136 rfl (lv_at hl 2 rfl) ?_
          obtain rfl := Option.some.inj hf
          exact absurd (show (0 : Nat) = 1 from hkd) (by decide)
        · rw [if_neg hc] at hf
          refine lv_aload_n hx hb dM_two1_120 rfl (lv_at hl 0 rfl) ?_
          refine xm_aload_n hx hb (xvor _ _) dM_two1_121 rfl (lv_at hl 2 rfl) ?_
          refine xm_aload_n hx hb (xvor _ _) dM_two1_122 rfl (lv_at hl 3 rfl) ?_
          refine xm_vget (v := .int ((xpi st 3) (c2 - 1))) hx hb htx hown hK hP 3 (by decide) hg53 rfl ((hZ.1 (103, "count", "I") (List.mem_of_getElem? (i := 3) rfl)).use rfl) rfl dM_two1_123 ?_
          refine xm_aload_n hx hb (xvor _ _) dM_two1_126 rfl (lv_at hl 2 rfl) ?_
          refine xm_vget (v := .int ((xpi st 3) (c1 - 1))) hx hb htx hown hK hP 3 (by decide) hg52 rfl ((hZ.1 (103, "count", "I") (List.mem_of_getElem? (i := 3) rfl)).use rfl) rfl dM_two1_127 ?_
          obtain ⟨o57, hq58, hf⟩ := xbind hf
          have hl := lv_sub (l' := [(0, .ref aM), (1, .int x0)]) hl [0, 1] rfl
          obtain ⟨hm59, hf⟩ := xmoE hf
          have hFc := xm_free hD hS hA
          refine va_callq (va_runV (C := "ValueBenchModel") (As := [xv vad c1, .int ((xpi st 3) (c2 - 1)), .int ((xpi st 3) (c1 - 1))]) (rest := []) ⟨hx, hb, hml, hown, htx⟩ (gM_piece l hl9 D cT aK aV H.size n aM ad rd gd vad st c1 ((xpi st 3) (c2 - 1)) ((xpi st 3) (c1 - 1)) o57 hq58) ⟨callB_of 3 htx (xw_goodC kw_6_233) rfl rfl rfl (htx _ kw_1_5) (htx _ kw_6_230) ⟨by decide, by decide, by decide +kernel⟩ ⟨Nat.le_of_ble_eq_true rfl, Nat.le_of_ble_eq_true rfl⟩, (htx _ kw_6_232), (htx _ kp_M_piece)⟩ ⟨xPre_blind, va_recv hK hP (ci := 5) rfl (q0 := 0) rfl, (fun U hU hW => ⟨rfl, xPre_of hZ hS hFc hP hD hK U hU hW⟩)⟩ rfl rfl hl.1 rfl (xm_room (Nat.le_of_ble_eq_true rfl)) dM_two1_130 ⟨hm59.1, hm59.2⟩) hS (fun q _ h => hFc q h) hFc (fun r60 u9 t H1 locs ht hvm hr9 hB hz1 hk1 hS => ?_)
          obtain ⟨hP1, hK1, hD1⟩ := hB
          rw [ht] at hP1
          obtain ⟨ad61, gd62, vad63⟩ := u9
          obtain ⟨hr9, hv64, hn65⟩ := hr9
          have hP : va_P D xcl (xMw cT aM ad61 rd gd62 vad63 o57.2.2.2 []) H1 := hP1
          have hD : va_D A (xMw cT aM ad61 rd gd62 vad63 o57.2.2.2 []) := hD1.weaken (fun k q _ h => hFc q.1 h)
          generalize H1 = H at hP hS ⊢
          have hE9 : ∀ p, p < xct st → vad63 p = vad p := fun p h => (hv64 p (Nat.lt_of_lt_of_le h hN)).trans (hE p h)
          have hE := hE9
          have hN : xct st ≤ xct o57.2.2.2 := Nat.le_trans hN hn65
          rw [hr9]
          refine W.eq (g2 := F0 m 133 ls [xv vad63 o57.2.2.1]) (by first | rfl | (skip; rfl)) ?_
          refine lv_goto (tgt := 137) hx hb dM_two1_133 (by decide) ?_
          obtain rfl := Option.some.inj hf
          exact absurd (show (0 : Nat) = 1 from hkd) (by decide)
  rw [if_neg hc51] at hf
  by_cases hc53 : x0 = 4
  · rw [if_pos hc53] at hf
    refine lv_tableIn (off := 137) (tgt := 138) hx hb dM_two1_1 (by rw [hc53]; decide) (by rw [hc53]; decide) (by rw [hc53]; decide) (by decide) ?_
    refine xm_aload_n hx hb (xvor _ _) dM_two1_138 rfl (lv_at hl 2 rfl) ?_
    obtain ⟨hg54, hf⟩ := xifn hf
    refine xm_vget (v := .int ((xpi st 0) (c1 - 1))) hx hb htx hown hK hP 0 (by decide) hg54 rfl ((hZ.1 (93, "kind", "I") (List.mem_of_getElem? (i := 0) rfl)).use rfl) rfl dM_two1_139 ?_
    refine lv_iconst (v := 4) hx hb dM_two1_142 (by decide) ?_
    refine lv_icmp_ne (tgt := 190) hx hb dM_two1_143 (by decide) (fun hc => ?_) (fun hc => ?_)
    · rw [if_neg hc] at hf
      refine xm_aload_n hx hb (xvor _ _) dM_two1_190 rfl (lv_at hl 2 rfl) ?_
      obtain rfl := Option.some.inj hf
      exact absurd (show (0 : Nat) = 1 from hkd) (by decide)
    · rw [if_pos hc] at hf
      refine xm_aload_n hx hb (xvor _ _) dM_two1_146 rfl (lv_at hl 3 rfl) ?_
      obtain ⟨hg55, hf⟩ := xifn hf
      refine xm_vget (v := .int ((xpi st 0) (c2 - 1))) hx hb htx hown hK hP 0 (by decide) hg55 rfl ((hZ.1 (93, "kind", "I") (List.mem_of_getElem? (i := 0) rfl)).use rfl) rfl dM_two1_147 ?_
      refine lv_iconst (v := 4) hx hb dM_two1_150 (by decide) ?_
      refine lv_icmp_ne (tgt := 190) hx hb dM_two1_151 (by decide) (fun hc => ?_) (fun hc => ?_)
      · rw [if_neg hc] at hf
        refine xm_aload_n hx hb (xvor _ _) dM_two1_190 rfl (lv_at hl 2 rfl) ?_
        obtain rfl := Option.some.inj hf
        exact absurd (show (0 : Nat) = 1 from hkd) (by decide)
      · rw [if_pos hc] at hf
        refine lv_aload_n hx hb dM_two1_154 rfl (lv_at hl 0 rfl) ?_
        refine xm_aload_n hx hb (xvor _ _) dM_two1_155 rfl (lv_at hl 2 rfl) ?_
        refine xm_aload_n hx hb (xvor _ _) dM_two1_156 rfl (lv_at hl 3 rfl) ?_
        refine xm_aload_n hx hb (xvor _ _) dM_two1_157 rfl (lv_at hl 2 rfl) ?_
        refine xm_vget (v := .int ((xpi st 3) (c1 - 1))) hx hb htx hown hK hP 3 (by decide) hg54 rfl ((hZ.1 (103, "count", "I") (List.mem_of_getElem? (i := 3) rfl)).use rfl) rfl dM_two1_158 ?_
        refine xm_aload_n hx hb (xvor _ _) dM_two1_161 rfl (lv_at hl 3 rfl) ?_
        refine xm_vget (v := .int ((xpi st 3) (c2 - 1))) hx hb htx hown hK hP 3 (by decide) hg55 rfl ((hZ.1 (103, "count", "I") (List.mem_of_getElem? (i := 3) rfl)).use rfl) rfl dM_two1_162 ?_
        refine lv_isub hx hb dM_two1_165 ?_
        obtain ⟨o56, hq57, hf⟩ := xbind hf
        have hFc := xm_free hD hS hA
        refine va_calli (va_runV (C := "ValueBenchModel") (As := [xv vad c1, xv vad c2, .int (((xpi st 3) (c1 - 1)) - ((xpi st 3) (c2 - 1)))]) (rest := []) ⟨hx, hb, hml, hown, htx⟩ (gM_begins l hl9 D cT aK aV s.heap.size n aM ad rd gd vad st c1 c2 (((xpi st 3) (c1 - 1)) - ((xpi st 3) (c2 - 1))) o56 hq57) ⟨callB_of 3 htx (xw_goodC kw_7_95) rfl rfl rfl (htx _ kw_1_5) (htx _ kw_7_92) ⟨by decide, by decide, by decide +kernel⟩ ⟨Nat.le_of_ble_eq_true rfl, Nat.le_of_ble_eq_true rfl⟩, (htx _ kw_7_94), (htx _ kp_M_begins)⟩ ⟨xPre_blind, va_recv hK hP (ci := 5) rfl (q0 := 0) rfl, (fun U hU hW => ⟨rfl, xPre_of hZ hS hFc hP hD hK U hU hW⟩)⟩ rfl rfl hl.1 rfl (xm_room (Nat.le_of_ble_eq_true rfl)) dM_two1_166 ⟨Nat.zero_le _, Nat.zero_le _⟩) hS (fun q _ h => hFc q h) hFc (fun r58 u9 t H1 locs ht hvm hr9 hB hz1 hk1 hS => ?_)
        obtain ⟨hP1, hK1, hD1⟩ := hB
        rw [ht] at hP1
        have hP : va_P D xcl (xMw cT aM ad rd gd vad st []) H1 := hP1
        have hD : va_D A (xMw cT aM ad rd gd vad st []) := hD1.weaken (fun k q _ h => hFc q.1 h)
        generalize H1 = H at hP hS ⊢
        rw [hr9]
        refine W.eq (g2 := F0 m 169 ls [.int o56]) (by first | rfl | (skip; rfl)) ?_
        refine lv_if_eq (tgt := 190) hx hb dM_two1_169 (by decide) (fun hc => ?_) (fun hc => ?_)
        · rw [if_pos hc] at hf
          refine xm_aload_n hx hb (xvor _ _) dM_two1_190 rfl (lv_at hl 2 rfl) ?_
          obtain rfl := Option.some.inj hf
          exact absurd (show (0 : Nat) = 1 from hkd) (by decide)
        · rw [if_neg hc] at hf
          refine lv_aload_n hx hb dM_two1_172 rfl (lv_at hl 0 rfl) ?_
          refine xm_aload_n hx hb (xvor _ _) dM_two1_173 rfl (lv_at hl 2 rfl) ?_
          refine lv_iconst (v := 0) hx hb dM_two1_174 (by decide) ?_
          refine xm_aload_n hx hb (xvor _ _) dM_two1_175 rfl (lv_at hl 2 rfl) ?_
          refine xm_vget (v := .int ((xpi st 3) (c1 - 1))) hx hb htx hown hK hP 3 (by decide) hg54 rfl ((hZ.1 (103, "count", "I") (List.mem_of_getElem? (i := 3) rfl)).use rfl) rfl dM_two1_176 ?_
          refine xm_aload_n hx hb (xvor _ _) dM_two1_179 rfl (lv_at hl 3 rfl) ?_
          refine xm_vget (v := .int ((xpi st 3) (c2 - 1))) hx hb htx hown hK hP 3 (by decide) hg55 rfl ((hZ.1 (103, "count", "I") (List.mem_of_getElem? (i := 3) rfl)).use rfl) rfl dM_two1_180 ?_
          refine lv_isub hx hb dM_two1_183 ?_
          obtain ⟨o59, hq60, hf⟩ := xbind hf
          have hl := lv_sub (l' := [(0, .ref aM), (1, .int x0)]) hl [0, 1] rfl
          obtain ⟨hm61, hf⟩ := xmoE hf
          have hFc := xm_free hD hS hA
          refine va_callq (va_runV (C := "ValueBenchModel") (As := [xv vad c1, .int 0, .int (((xpi st 3) (c1 - 1)) - ((xpi st 3) (c2 - 1)))]) (rest := []) ⟨hx, hb, hml, hown, htx⟩ (gM_piece l hl9 D cT aK aV H.size n aM ad rd gd vad st c1 (0 : Int32) (((xpi st 3) (c1 - 1)) - ((xpi st 3) (c2 - 1))) o59 hq60) ⟨callB_of 3 htx (xw_goodC kw_6_233) rfl rfl rfl (htx _ kw_1_5) (htx _ kw_6_230) ⟨by decide, by decide, by decide +kernel⟩ ⟨Nat.le_of_ble_eq_true rfl, Nat.le_of_ble_eq_true rfl⟩, (htx _ kw_6_232), (htx _ kp_M_piece)⟩ ⟨xPre_blind, va_recv hK hP (ci := 5) rfl (q0 := 0) rfl, (fun U hU hW => ⟨rfl, xPre_of hZ hS hFc hP hD hK U hU hW⟩)⟩ rfl rfl hl.1 rfl (xm_room (Nat.le_of_ble_eq_true rfl)) dM_two1_184 ⟨hm61.1, hm61.2⟩) hS (fun q _ h => hFc q h) hFc (fun r62 u9 t H1 locs ht hvm hr9 hB hz1 hk1 hS => ?_)
          obtain ⟨hP1, hK1, hD1⟩ := hB
          rw [ht] at hP1
          obtain ⟨ad63, gd64, vad65⟩ := u9
          obtain ⟨hr9, hv66, hn67⟩ := hr9
          have hP : va_P D xcl (xMw cT aM ad63 rd gd64 vad65 o59.2.2.2 []) H1 := hP1
          have hD : va_D A (xMw cT aM ad63 rd gd64 vad65 o59.2.2.2 []) := hD1.weaken (fun k q _ h => hFc q.1 h)
          generalize H1 = H at hP hS ⊢
          have hE9 : ∀ p, p < xct st → vad65 p = vad p := fun p h => (hv66 p (Nat.lt_of_lt_of_le h hN)).trans (hE p h)
          have hE := hE9
          have hN : xct st ≤ xct o59.2.2.2 := Nat.le_trans hN hn67
          rw [hr9]
          refine W.eq (g2 := F0 m 187 ls [xv vad65 o59.2.2.1]) (by first | rfl | (skip; rfl)) ?_
          refine lv_goto (tgt := 191) hx hb dM_two1_187 (by decide) ?_
          obtain rfl := Option.some.inj hf
          exact absurd (show (0 : Nat) = 1 from hkd) (by decide)
  rw [if_neg hc53] at hf
  by_cases hc55 : x0 = 5
  · rw [if_pos hc55] at hf
    refine lv_tableIn (off := 191) (tgt := 192) hx hb dM_two1_1 (by rw [hc55]; decide) (by rw [hc55]; decide) (by rw [hc55]; decide) (by decide) ?_
    refine lv_aload_n hx hb dM_two1_192 rfl (lv_at hl 0 rfl) ?_
    refine lv_aload_n hx hb dM_two1_193 rfl (lv_at hl 0 rfl) ?_
    refine lv_aload_n hx hb dM_two1_194 rfl (lv_at hl 0 rfl) ?_
    refine xm_aload_n hx hb (xvor _ _) dM_two1_195 rfl (lv_at hl 2 rfl) ?_
    obtain ⟨o56, hq57, hf⟩ := xbind hf
    have hl := lv_sub (l' := [(0, .ref aM), (1, .int x0), (3, xv vad c2)]) hl [0, 1, 3] rfl
    by_cases hk58 : o56.1 = 0
    · rw [if_pos hk58] at hf
      obtain ⟨hg59, hf⟩ := xifn hf
      obtain ⟨hm60, hf⟩ := xmoE hf
      have hFc := xm_free hD hS hA
      refine va_callq (va_runV (C := "ValueBenchModel") (As := [xv vad c1]) (rest := [.ref aM, .ref aM]) ⟨hx, hb, hml, hown, htx⟩ (gM_text l hl9 D cT aK aV s.heap.size n aM ad rd gd vad st c1 o56 hq57 hk58) ⟨callB_of 1 htx (xw_goodC kw_7_54) rfl rfl rfl (htx _ kw_1_5) (htx _ kw_7_51) ⟨by decide, by decide, by decide +kernel⟩ ⟨Nat.le_of_ble_eq_true rfl, Nat.le_of_ble_eq_true rfl⟩, (htx _ kw_7_53), (htx _ kp_M_text)⟩ ⟨xPre_blind, va_recv hK hP (ci := 5) rfl (q0 := 0) rfl, (fun U hU hW => ⟨rfl, xPre_of hZ hS hFc hP hD hK U hU hW⟩)⟩ rfl rfl hl.1 rfl (xm_room (Nat.le_of_ble_eq_true rfl)) dM_two1_196 ⟨hm60.1, hm60.2⟩) hS (fun q _ h => hFc q h) hFc (fun r61 u9 t H1 locs ht hvm hr9 hB hz1 hk1 hS => ?_)
      obtain ⟨hP1, hK1, hD1⟩ := hB
      rw [ht] at hP1
      obtain ⟨ad62, gd63, vad64⟩ := u9
      obtain ⟨hr9, hv65, hn66⟩ := hr9
      have hP : va_P D xcl (xMw cT aM ad62 rd gd63 vad64 o56.2.2.2.2 []) H1 := hP1
      have hD : va_D A (xMw cT aM ad62 rd gd63 vad64 o56.2.2.2.2 []) := hD1.weaken (fun k q _ h => hFc q.1 h)
      generalize H1 = H at hP hS ⊢
      have hE9 : ∀ p, p < xct st → vad64 p = vad p := fun p h => (hv65 p (Nat.lt_of_lt_of_le h hN)).trans (hE p h)
      have hE := hE9
      have hN : xct st ≤ xct o56.2.2.2.2 := Nat.le_trans hN hn66
      have ev67 : xv vad c2 = xv vad64 c2 := xvE hv65 hg59
      have hl : lv_has ls 4 [(0, .ref aM), (1, .int x0), (3, xv vad64 c2)] := by first | exact hl | ((try (rw [← ev67])); exact hl)
      rw [hr9]
      refine W.eq (g2 := F0 m 199 ls [xv vad64 o56.2.2.2.1, .ref aM, .ref aM]) (by first | rfl | ((try (rw [ev67])); rfl)) ?_
      refine lv_aload_n hx hb dM_two1_199 rfl (lv_at hl 0 rfl) ?_
      refine xm_aload_n hx hb (xvor _ _) dM_two1_200 rfl (lv_at hl 2 rfl) ?_
      obtain ⟨o68, hq69, hf⟩ := xbind hf
      have hl := lv_sub (l' := [(0, .ref aM), (1, .int x0)]) hl [0, 1] rfl
      by_cases hk70 : o68.1 = 0
      · rw [if_pos hk70] at hf
        obtain ⟨hg71, hf⟩ := xifn hf
        obtain ⟨hm72, hf⟩ := xmoE hf
        have hFc := xm_free hD hS hA
        refine va_callq (va_runV (C := "ValueBenchModel") (As := [xv vad64 c2]) (rest := [xv vad64 o56.2.2.2.1, .ref aM, .ref aM]) ⟨hx, hb, hml, hown, htx⟩ (gM_text l hl9 D cT aK aV H.size n aM ad62 rd gd63 vad64 o56.2.2.2.2 c2 o68 hq69 hk70) ⟨callB_of 1 htx (xw_goodC kw_7_54) rfl rfl rfl (htx _ kw_1_5) (htx _ kw_7_51) ⟨by decide, by decide, by decide +kernel⟩ ⟨Nat.le_of_ble_eq_true rfl, Nat.le_of_ble_eq_true rfl⟩, (htx _ kw_7_53), (htx _ kp_M_text)⟩ ⟨xPre_blind, va_recv hK hP (ci := 5) rfl (q0 := 0) rfl, (fun U hU hW => ⟨rfl, xPre_of hZ hS hFc hP hD hK U hU hW⟩)⟩ rfl rfl hl.1 rfl (xm_room (by simp [xvcat, xrscat, xcI, xcL, xcR, xcN])) dM_two1_201 ⟨hm72.1, hm72.2⟩) hS (fun q _ h => hFc q h) hFc (fun r73 u9 t H1 locs ht hvm hr9 hB hz1 hk1 hS => ?_)
        obtain ⟨hP1, hK1, hD1⟩ := hB
        rw [ht] at hP1
        obtain ⟨ad74, gd75, vad76⟩ := u9
        obtain ⟨hr9, hv77, hn78⟩ := hr9
        have hP : va_P D xcl (xMw cT aM ad74 rd gd75 vad76 o68.2.2.2.2 []) H1 := hP1
        have hD : va_D A (xMw cT aM ad74 rd gd75 vad76 o68.2.2.2.2 []) := hD1.weaken (fun k q _ h => hFc q.1 h)
        generalize H1 = H at hP hS ⊢
        have hE9 : ∀ p, p < xct st → vad76 p = vad p := fun p h => (hv77 p (Nat.lt_of_lt_of_le h hN)).trans (hE p h)
        have hE := hE9
        have hN : xct st ≤ xct o68.2.2.2.2 := Nat.le_trans hN hn78
        have ev79 : xv vad64 o56.2.2.2.1 = xv vad76 o56.2.2.2.1 := xvE hv77 hg71
        rw [hr9]
        refine W.eq (g2 := F0 m 204 ls [xv vad76 o68.2.2.2.1, xv vad76 o56.2.2.2.1, .ref aM, .ref aM]) (by first | rfl | ((try (rw [ev79])); rfl)) ?_
        refine lv_iconst (v := 0) hx hb dM_two1_204 (by decide) ?_
        obtain ⟨o80, hq81, hf⟩ := xbind hf
        have hFc := xm_free hD hS hA
        refine va_calli (va_runV (C := "ValueBenchModel") (As := [xv vad76 o56.2.2.2.1, xv vad76 o68.2.2.2.1, .int 0]) (rest := [.ref aM]) ⟨hx, hb, hml, hown, htx⟩ (gM_begins l hl9 D cT aK aV H.size n aM ad74 rd gd75 vad76 o68.2.2.2.2 o56.2.2.2.1 o68.2.2.2.1 (0 : Int32) o80 hq81) ⟨callB_of 3 htx (xw_goodC kw_7_95) rfl rfl rfl (htx _ kw_1_5) (htx _ kw_7_92) ⟨by decide, by decide, by decide +kernel⟩ ⟨Nat.le_of_ble_eq_true rfl, Nat.le_of_ble_eq_true rfl⟩, (htx _ kw_7_94), (htx _ kp_M_begins)⟩ ⟨xPre_blind, va_recv hK hP (ci := 5) rfl (q0 := 0) rfl, (fun U hU hW => ⟨rfl, xPre_of hZ hS hFc hP hD hK U hU hW⟩)⟩ rfl rfl hl.1 rfl (xm_room (Nat.le_of_ble_eq_true rfl)) dM_two1_205 ⟨hm72.1, hm72.2⟩) hS (fun q _ h => hFc q h) hFc (fun r82 u9 t H1 locs ht hvm hr9 hB hz1 hk1 hS => ?_)
        obtain ⟨hP1, hK1, hD1⟩ := hB
        rw [ht] at hP1
        have hP : va_P D xcl (xMw cT aM ad74 rd gd75 vad76 o68.2.2.2.2 []) H1 := hP1
        have hD : va_D A (xMw cT aM ad74 rd gd75 vad76 o68.2.2.2.2 []) := hD1.weaken (fun k q _ h => hFc q.1 h)
        generalize H1 = H at hP hS ⊢
        rw [hr9]
        refine W.eq (g2 := F0 m 208 ls [.int o80, .ref aM]) (by first | rfl | (skip; rfl)) ?_
        obtain ⟨o83, hq84, hf⟩ := xbind hf
        obtain ⟨hm85, hf⟩ := xmoE hf
        have hFc := xm_free hD hS hA
        refine va_callq (va_runV (C := "ValueBenchModel") (As := [.int o80]) (rest := []) ⟨hx, hb, hml, hown, htx⟩ (gM_truth l hl9 D cT aK aV H.size n aM ad74 rd gd75 vad76 o68.2.2.2.2 o80 o83 hq84) ⟨callB_of 1 htx (xw_goodC kw_7_5) rfl rfl rfl (htx _ kw_1_5) (htx _ kw_7_2) ⟨by decide, by decide, by decide +kernel⟩ ⟨Nat.le_of_ble_eq_true rfl, Nat.le_of_ble_eq_true rfl⟩, (htx _ kw_7_4), (htx _ kp_M_truth)⟩ ⟨xPre_blind, va_recv hK hP (ci := 5) rfl (q0 := 0) rfl, (fun U hU hW => ⟨rfl, xPre_of hZ hS hFc hP hD hK U hU hW⟩)⟩ rfl rfl hl.1 rfl (xm_room (Nat.le_of_ble_eq_true rfl)) dM_two1_208 ⟨hm85.1, hm85.2⟩) hS (fun q _ h => hFc q h) hFc (fun r86 u9 t H1 locs ht hvm hr9 hB hz1 hk1 hS => ?_)
        obtain ⟨hP1, hK1, hD1⟩ := hB
        rw [ht] at hP1
        obtain ⟨ad87, gd88, vad89⟩ := u9
        obtain ⟨hr9, hv90, hn91⟩ := hr9
        have hP : va_P D xcl (xMw cT aM ad87 rd gd88 vad89 o83.2.2.2 []) H1 := hP1
        have hD : va_D A (xMw cT aM ad87 rd gd88 vad89 o83.2.2.2 []) := hD1.weaken (fun k q _ h => hFc q.1 h)
        generalize H1 = H at hP hS ⊢
        have hE9 : ∀ p, p < xct st → vad89 p = vad p := fun p h => (hv90 p (Nat.lt_of_lt_of_le h hN)).trans (hE p h)
        have hE := hE9
        have hN : xct st ≤ xct o83.2.2.2 := Nat.le_trans hN hn91
        rw [hr9]
        refine W.eq (g2 := F0 m 211 ls [xv vad89 o83.2.2.1]) (by first | rfl | (skip; rfl)) ?_
        obtain rfl := Option.some.inj hf
        exact absurd (show (0 : Nat) = 1 from hkd) (by decide)
      rw [if_neg hk70] at hf
      by_cases hk92 : o68.1 = 1
      · rw [if_pos hk92] at hf
        obtain ⟨hm93, hf⟩ := xmoE hf
        have hFc := xm_free hD hS hA
        refine xx_thr (vx_runV (C := "ValueBenchModel") (As := [xv vad64 c2]) (rest := [xv vad64 o56.2.2.2.1, .ref aM, .ref aM]) ⟨hx, hb, hml, hown, htx⟩ (gM_text_1 l hl9 D cT aK aV H.size n aM ad62 rd gd63 vad64 o56.2.2.2.2 c2 o68 hq69 hk92) ⟨callB_of 1 htx (xw_goodC kw_7_54) rfl rfl rfl (htx _ kw_1_5) (htx _ kw_7_51) ⟨by decide, by decide, by decide +kernel⟩ ⟨Nat.le_of_ble_eq_true rfl, Nat.le_of_ble_eq_true rfl⟩, (htx _ kw_7_53), (htx _ kp_M_text)⟩ ⟨xPre_blind, va_recv hK hP (ci := 5) rfl (q0 := 0) rfl, (fun U hU hW => ⟨rfl, xPre_of hZ hS hFc hP hD hK U hU hW⟩)⟩ rfl rfl hl.1 rfl (xm_room (by simp [xvcat, xrscat, xcI, xcL, xcR, xcN])) dM_two1_201 ⟨hm93.1, hm93.2⟩) hS hFc (fun q _ h => hFc q h) (fun E ce q9 u9 t H1 locs ht hvm hr9 hB hz1 hk1 hS hce hcv hcl => ?_)
        obtain ⟨rfl, hP1, hK1, hD1⟩ := hB
        rw [ht] at hP1
        obtain ⟨ad95, gd96, vad97⟩ := u9
        obtain ⟨hv98, hn99⟩ := hr9
        have hP : va_P D xcl (xMw cT aM ad95 rd gd96 vad97 o68.2.2.2.2 []) H1 := hP1
        have hD : va_D A (xMw cT aM ad95 rd gd96 vad97 o68.2.2.2.2 []) := hD1.weaken (fun k q _ h => hFc q.1 h)
        generalize H1 = H at hP hS hce ⊢
        have hE9 : ∀ p, p < xct st → vad97 p = vad p := fun p h => (hv98 p (Nat.lt_of_lt_of_le h hN)).trans (hE p h)
        have hE := hE9
        have hN : xct st ≤ xct o68.2.2.2.2 := Nat.le_trans hN hn99
        obtain rfl := Option.some.inj hf
        exact vx_out (E := "java/lang/ArithmeticException") (fun x h => (hne x h).elim) hlocks hce hcv hcl (fun t ht ha => ⟨(ad95, gd96, vad97), ⟨hE, hN⟩, ⟨rfl, by rw [ht]; exact hP, va_K.moved ha hK, hD⟩, hS.F ht⟩) hS.2.2 (Nat.le_refl _) (Nat.le_refl _)
      rw [if_neg hk92] at hf
      exact nomatch hf
    rw [if_neg hk58] at hf
    by_cases hk100 : o56.1 = 1
    · rw [if_pos hk100] at hf
      obtain ⟨hg101, hf⟩ := xifn hf
      obtain ⟨hm102, hf⟩ := xmoE hf
      have hFc := xm_free hD hS hA
      refine xx_thr (vx_runV (C := "ValueBenchModel") (As := [xv vad c1]) (rest := [.ref aM, .ref aM]) ⟨hx, hb, hml, hown, htx⟩ (gM_text_1 l hl9 D cT aK aV s.heap.size n aM ad rd gd vad st c1 o56 hq57 hk100) ⟨callB_of 1 htx (xw_goodC kw_7_54) rfl rfl rfl (htx _ kw_1_5) (htx _ kw_7_51) ⟨by decide, by decide, by decide +kernel⟩ ⟨Nat.le_of_ble_eq_true rfl, Nat.le_of_ble_eq_true rfl⟩, (htx _ kw_7_53), (htx _ kp_M_text)⟩ ⟨xPre_blind, va_recv hK hP (ci := 5) rfl (q0 := 0) rfl, (fun U hU hW => ⟨rfl, xPre_of hZ hS hFc hP hD hK U hU hW⟩)⟩ rfl rfl hl.1 rfl (xm_room (Nat.le_of_ble_eq_true rfl)) dM_two1_196 ⟨hm102.1, hm102.2⟩) hS hFc (fun q _ h => hFc q h) (fun E ce q9 u9 t H1 locs ht hvm hr9 hB hz1 hk1 hS hce hcv hcl => ?_)
      obtain ⟨rfl, hP1, hK1, hD1⟩ := hB
      rw [ht] at hP1
      obtain ⟨ad104, gd105, vad106⟩ := u9
      obtain ⟨hv107, hn108⟩ := hr9
      have hP : va_P D xcl (xMw cT aM ad104 rd gd105 vad106 o56.2.2.2.2 []) H1 := hP1
      have hD : va_D A (xMw cT aM ad104 rd gd105 vad106 o56.2.2.2.2 []) := hD1.weaken (fun k q _ h => hFc q.1 h)
      generalize H1 = H at hP hS hce ⊢
      have hE9 : ∀ p, p < xct st → vad106 p = vad p := fun p h => (hv107 p (Nat.lt_of_lt_of_le h hN)).trans (hE p h)
      have hE := hE9
      have hN : xct st ≤ xct o56.2.2.2.2 := Nat.le_trans hN hn108
      have ev109 : xv vad c2 = xv vad106 c2 := xvE hv107 hg101
      have hl : lv_has ls 4 [(0, .ref aM), (1, .int x0), (3, xv vad106 c2)] := by first | exact hl | ((try (rw [← ev109])); exact hl)
      obtain rfl := Option.some.inj hf
      exact vx_out (E := "java/lang/ArithmeticException") (fun x h => (hne x h).elim) hlocks hce hcv hcl (fun t ht ha => ⟨(ad104, gd105, vad106), ⟨hE, hN⟩, ⟨rfl, by rw [ht]; exact hP, va_K.moved ha hK, hD⟩, hS.F ht⟩) hS.2.2 (Nat.le_refl _) (Nat.le_refl _)
    rw [if_neg hk100] at hf
    exact nomatch hf
  rw [if_neg hc55] at hf
  by_cases hc110 : x0 = 6
  · rw [if_pos hc110] at hf
    refine lv_tableIn (off := 211) (tgt := 212) hx hb dM_two1_1 (by rw [hc110]; decide) (by rw [hc110]; decide) (by rw [hc110]; decide) (by decide) ?_
    refine lv_aload_n hx hb dM_two1_212 rfl (lv_at hl 0 rfl) ?_
    refine lv_aload_n hx hb dM_two1_213 rfl (lv_at hl 0 rfl) ?_
    refine lv_aload_n hx hb dM_two1_214 rfl (lv_at hl 0 rfl) ?_
    refine xm_aload_n hx hb (xvor _ _) dM_two1_215 rfl (lv_at hl 2 rfl) ?_
    obtain ⟨o111, hq112, hf⟩ := xbind hf
    by_cases hk113 : o111.1 = 0
    · rw [if_pos hk113] at hf
      obtain ⟨hg114, hf⟩ := xifn hf
      obtain ⟨hg115, hf⟩ := xifn hf
      obtain ⟨hm116, hf⟩ := xmoE hf
      have hFc := xm_free hD hS hA
      refine va_callq (va_runV (C := "ValueBenchModel") (As := [xv vad c1]) (rest := [.ref aM, .ref aM]) ⟨hx, hb, hml, hown, htx⟩ (gM_text l hl9 D cT aK aV s.heap.size n aM ad rd gd vad st c1 o111 hq112 hk113) ⟨callB_of 1 htx (xw_goodC kw_7_54) rfl rfl rfl (htx _ kw_1_5) (htx _ kw_7_51) ⟨by decide, by decide, by decide +kernel⟩ ⟨Nat.le_of_ble_eq_true rfl, Nat.le_of_ble_eq_true rfl⟩, (htx _ kw_7_53), (htx _ kp_M_text)⟩ ⟨xPre_blind, va_recv hK hP (ci := 5) rfl (q0 := 0) rfl, (fun U hU hW => ⟨rfl, xPre_of hZ hS hFc hP hD hK U hU hW⟩)⟩ rfl rfl hl.1 rfl (xm_room (Nat.le_of_ble_eq_true rfl)) dM_two1_216 ⟨hm116.1, hm116.2⟩) hS (fun q _ h => hFc q h) hFc (fun r117 u9 t H1 locs ht hvm hr9 hB hz1 hk1 hS => ?_)
      obtain ⟨hP1, hK1, hD1⟩ := hB
      rw [ht] at hP1
      obtain ⟨ad118, gd119, vad120⟩ := u9
      obtain ⟨hr9, hv121, hn122⟩ := hr9
      have hP : va_P D xcl (xMw cT aM ad118 rd gd119 vad120 o111.2.2.2.2 []) H1 := hP1
      have hD : va_D A (xMw cT aM ad118 rd gd119 vad120 o111.2.2.2.2 []) := hD1.weaken (fun k q _ h => hFc q.1 h)
      generalize H1 = H at hP hS ⊢
      have hE9 : ∀ p, p < xct st → vad120 p = vad p := fun p h => (hv121 p (Nat.lt_of_lt_of_le h hN)).trans (hE p h)
      have hE := hE9
      have hN : xct st ≤ xct o111.2.2.2.2 := Nat.le_trans hN hn122
      have ev123 : xv vad c1 = xv vad120 c1 := xvE hv121 hg114
      have ev124 : xv vad c2 = xv vad120 c2 := xvE hv121 hg115
      have hl : lv_has ls 4 [(0, .ref aM), (1, .int x0), (2, xv vad120 c1), (3, xv vad120 c2)] := by first | exact hl | ((try (rw [← ev123])); (try (rw [← ev124])); exact hl)
      rw [hr9]
      refine W.eq (g2 := F0 m 219 ls [xv vad120 o111.2.2.2.1, .ref aM, .ref aM]) (by first | rfl | ((try (rw [ev123])); (try (rw [ev124])); rfl)) ?_
      refine lv_aload_n hx hb dM_two1_219 rfl (lv_at hl 0 rfl) ?_
      refine xm_aload_n hx hb (xvor _ _) dM_two1_220 rfl (lv_at hl 3 rfl) ?_
      obtain ⟨o125, hq126, hf⟩ := xbind hf
      by_cases hk127 : o125.1 = 0
      · rw [if_pos hk127] at hf
        obtain ⟨hg128, hf⟩ := xifn hf
        obtain ⟨hg129, hf⟩ := xifn hf
        obtain ⟨hg130, hf⟩ := xifn hf
        obtain ⟨hm131, hf⟩ := xmoE hf
        have hFc := xm_free hD hS hA
        refine va_callq (va_runV (C := "ValueBenchModel") (As := [xv vad120 c2]) (rest := [xv vad120 o111.2.2.2.1, .ref aM, .ref aM]) ⟨hx, hb, hml, hown, htx⟩ (gM_text l hl9 D cT aK aV H.size n aM ad118 rd gd119 vad120 o111.2.2.2.2 c2 o125 hq126 hk127) ⟨callB_of 1 htx (xw_goodC kw_7_54) rfl rfl rfl (htx _ kw_1_5) (htx _ kw_7_51) ⟨by decide, by decide, by decide +kernel⟩ ⟨Nat.le_of_ble_eq_true rfl, Nat.le_of_ble_eq_true rfl⟩, (htx _ kw_7_53), (htx _ kp_M_text)⟩ ⟨xPre_blind, va_recv hK hP (ci := 5) rfl (q0 := 0) rfl, (fun U hU hW => ⟨rfl, xPre_of hZ hS hFc hP hD hK U hU hW⟩)⟩ rfl rfl hl.1 rfl (xm_room (by simp [xvcat, xrscat, xcI, xcL, xcR, xcN])) dM_two1_221 ⟨hm131.1, hm131.2⟩) hS (fun q _ h => hFc q h) hFc (fun r132 u9 t H1 locs ht hvm hr9 hB hz1 hk1 hS => ?_)
        obtain ⟨hP1, hK1, hD1⟩ := hB
        rw [ht] at hP1
        obtain ⟨ad133, gd134, vad135⟩ := u9
        obtain ⟨hr9, hv136, hn137⟩ := hr9
        have hP : va_P D xcl (xMw cT aM ad133 rd gd134 vad135 o125.2.2.2.2 []) H1 := hP1
        have hD : va_D A (xMw cT aM ad133 rd gd134 vad135 o125.2.2.2.2 []) := hD1.weaken (fun k q _ h => hFc q.1 h)
        generalize H1 = H at hP hS ⊢
        have hE9 : ∀ p, p < xct st → vad135 p = vad p := fun p h => (hv136 p (Nat.lt_of_lt_of_le h hN)).trans (hE p h)
        have hE := hE9
        have hN : xct st ≤ xct o125.2.2.2.2 := Nat.le_trans hN hn137
        have ev138 : xv vad120 c1 = xv vad135 c1 := xvE hv136 hg128
        have ev139 : xv vad120 c2 = xv vad135 c2 := xvE hv136 hg129
        have ev140 : xv vad120 o111.2.2.2.1 = xv vad135 o111.2.2.2.1 := xvE hv136 hg130
        have hl : lv_has ls 4 [(0, .ref aM), (1, .int x0), (2, xv vad135 c1), (3, xv vad135 c2)] := by first | exact hl | ((try (rw [← ev138])); (try (rw [← ev139])); (try (rw [← ev140])); exact hl)
        rw [hr9]
        refine W.eq (g2 := F0 m 224 ls [xv vad135 o125.2.2.2.1, xv vad135 o111.2.2.2.1, .ref aM, .ref aM]) (by first | rfl | ((try (rw [ev138])); (try (rw [ev139])); (try (rw [ev140])); rfl)) ?_
        refine xm_aload_n hx hb (xvor _ _) dM_two1_224 rfl (lv_at hl 2 rfl) ?_
        obtain ⟨hg141, hf⟩ := xifn hf
        refine xm_vget (v := .int ((xpi o125.2.2.2.2 3) (c1 - 1))) hx hb htx hown hK hP 3 (by decide) hg141 rfl ((hZ.1 (103, "count", "I") (List.mem_of_getElem? (i := 3) rfl)).use rfl) rfl dM_two1_225 ?_
        refine xm_aload_n hx hb (xvor _ _) dM_two1_228 rfl (lv_at hl 3 rfl) ?_
        obtain ⟨hg142, hf⟩ := xifn hf
        refine xm_vget (v := .int ((xpi o125.2.2.2.2 3) (c2 - 1))) hx hb htx hown hK hP 3 (by decide) hg142 rfl ((hZ.1 (103, "count", "I") (List.mem_of_getElem? (i := 3) rfl)).use rfl) rfl dM_two1_229 ?_
        refine lv_isub hx hb dM_two1_232 ?_
        obtain ⟨o143, hq144, hf⟩ := xbind hf
        have hl := lv_sub (l' := [(0, .ref aM), (1, .int x0)]) hl [0, 1] rfl
        have hFc := xm_free hD hS hA
        refine va_calli (va_runV (C := "ValueBenchModel") (As := [xv vad135 o111.2.2.2.1, xv vad135 o125.2.2.2.1, .int (((xpi o125.2.2.2.2 3) (c1 - 1)) - ((xpi o125.2.2.2.2 3) (c2 - 1)))]) (rest := [.ref aM]) ⟨hx, hb, hml, hown, htx⟩ (gM_begins l hl9 D cT aK aV H.size n aM ad133 rd gd134 vad135 o125.2.2.2.2 o111.2.2.2.1 o125.2.2.2.1 (((xpi o125.2.2.2.2 3) (c1 - 1)) - ((xpi o125.2.2.2.2 3) (c2 - 1))) o143 hq144) ⟨callB_of 3 htx (xw_goodC kw_7_95) rfl rfl rfl (htx _ kw_1_5) (htx _ kw_7_92) ⟨by decide, by decide, by decide +kernel⟩ ⟨Nat.le_of_ble_eq_true rfl, Nat.le_of_ble_eq_true rfl⟩, (htx _ kw_7_94), (htx _ kp_M_begins)⟩ ⟨xPre_blind, va_recv hK hP (ci := 5) rfl (q0 := 0) rfl, (fun U hU hW => ⟨rfl, xPre_of hZ hS hFc hP hD hK U hU hW⟩)⟩ rfl rfl hl.1 rfl (xm_room (Nat.le_of_ble_eq_true rfl)) dM_two1_233 ⟨hm131.1, hm131.2⟩) hS (fun q _ h => hFc q h) hFc (fun r145 u9 t H1 locs ht hvm hr9 hB hz1 hk1 hS => ?_)
        obtain ⟨hP1, hK1, hD1⟩ := hB
        rw [ht] at hP1
        have hP : va_P D xcl (xMw cT aM ad133 rd gd134 vad135 o125.2.2.2.2 []) H1 := hP1
        have hD : va_D A (xMw cT aM ad133 rd gd134 vad135 o125.2.2.2.2 []) := hD1.weaken (fun k q _ h => hFc q.1 h)
        generalize H1 = H at hP hS ⊢
        rw [hr9]
        refine W.eq (g2 := F0 m 236 ls [.int o143, .ref aM]) (by first | rfl | (skip; rfl)) ?_
        obtain ⟨o146, hq147, hf⟩ := xbind hf
        obtain ⟨hm148, hf⟩ := xmoE hf
        have hFc := xm_free hD hS hA
        refine va_callq (va_runV (C := "ValueBenchModel") (As := [.int o143]) (rest := []) ⟨hx, hb, hml, hown, htx⟩ (gM_truth l hl9 D cT aK aV H.size n aM ad133 rd gd134 vad135 o125.2.2.2.2 o143 o146 hq147) ⟨callB_of 1 htx (xw_goodC kw_7_5) rfl rfl rfl (htx _ kw_1_5) (htx _ kw_7_2) ⟨by decide, by decide, by decide +kernel⟩ ⟨Nat.le_of_ble_eq_true rfl, Nat.le_of_ble_eq_true rfl⟩, (htx _ kw_7_4), (htx _ kp_M_truth)⟩ ⟨xPre_blind, va_recv hK hP (ci := 5) rfl (q0 := 0) rfl, (fun U hU hW => ⟨rfl, xPre_of hZ hS hFc hP hD hK U hU hW⟩)⟩ rfl rfl hl.1 rfl (xm_room (Nat.le_of_ble_eq_true rfl)) dM_two1_236 ⟨hm148.1, hm148.2⟩) hS (fun q _ h => hFc q h) hFc (fun r149 u9 t H1 locs ht hvm hr9 hB hz1 hk1 hS => ?_)
        obtain ⟨hP1, hK1, hD1⟩ := hB
        rw [ht] at hP1
        obtain ⟨ad150, gd151, vad152⟩ := u9
        obtain ⟨hr9, hv153, hn154⟩ := hr9
        have hP : va_P D xcl (xMw cT aM ad150 rd gd151 vad152 o146.2.2.2 []) H1 := hP1
        have hD : va_D A (xMw cT aM ad150 rd gd151 vad152 o146.2.2.2 []) := hD1.weaken (fun k q _ h => hFc q.1 h)
        generalize H1 = H at hP hS ⊢
        have hE9 : ∀ p, p < xct st → vad152 p = vad p := fun p h => (hv153 p (Nat.lt_of_lt_of_le h hN)).trans (hE p h)
        have hE := hE9
        have hN : xct st ≤ xct o146.2.2.2 := Nat.le_trans hN hn154
        rw [hr9]
        refine W.eq (g2 := F0 m 239 ls [xv vad152 o146.2.2.1]) (by first | rfl | (skip; rfl)) ?_
        obtain rfl := Option.some.inj hf
        exact absurd (show (0 : Nat) = 1 from hkd) (by decide)
      rw [if_neg hk127] at hf
      by_cases hk155 : o125.1 = 1
      · rw [if_pos hk155] at hf
        obtain ⟨hg156, hf⟩ := xifn hf
        obtain ⟨hg157, hf⟩ := xifn hf
        obtain ⟨hm158, hf⟩ := xmoE hf
        have hFc := xm_free hD hS hA
        refine xx_thr (vx_runV (C := "ValueBenchModel") (As := [xv vad120 c2]) (rest := [xv vad120 o111.2.2.2.1, .ref aM, .ref aM]) ⟨hx, hb, hml, hown, htx⟩ (gM_text_1 l hl9 D cT aK aV H.size n aM ad118 rd gd119 vad120 o111.2.2.2.2 c2 o125 hq126 hk155) ⟨callB_of 1 htx (xw_goodC kw_7_54) rfl rfl rfl (htx _ kw_1_5) (htx _ kw_7_51) ⟨by decide, by decide, by decide +kernel⟩ ⟨Nat.le_of_ble_eq_true rfl, Nat.le_of_ble_eq_true rfl⟩, (htx _ kw_7_53), (htx _ kp_M_text)⟩ ⟨xPre_blind, va_recv hK hP (ci := 5) rfl (q0 := 0) rfl, (fun U hU hW => ⟨rfl, xPre_of hZ hS hFc hP hD hK U hU hW⟩)⟩ rfl rfl hl.1 rfl (xm_room (by simp [xvcat, xrscat, xcI, xcL, xcR, xcN])) dM_two1_221 ⟨hm158.1, hm158.2⟩) hS hFc (fun q _ h => hFc q h) (fun E ce q9 u9 t H1 locs ht hvm hr9 hB hz1 hk1 hS hce hcv hcl => ?_)
        obtain ⟨rfl, hP1, hK1, hD1⟩ := hB
        rw [ht] at hP1
        obtain ⟨ad160, gd161, vad162⟩ := u9
        obtain ⟨hv163, hn164⟩ := hr9
        have hP : va_P D xcl (xMw cT aM ad160 rd gd161 vad162 o125.2.2.2.2 []) H1 := hP1
        have hD : va_D A (xMw cT aM ad160 rd gd161 vad162 o125.2.2.2.2 []) := hD1.weaken (fun k q _ h => hFc q.1 h)
        generalize H1 = H at hP hS hce ⊢
        have hE9 : ∀ p, p < xct st → vad162 p = vad p := fun p h => (hv163 p (Nat.lt_of_lt_of_le h hN)).trans (hE p h)
        have hE := hE9
        have hN : xct st ≤ xct o125.2.2.2.2 := Nat.le_trans hN hn164
        have ev165 : xv vad120 c1 = xv vad162 c1 := xvE hv163 hg156
        have ev166 : xv vad120 c2 = xv vad162 c2 := xvE hv163 hg157
        have hl : lv_has ls 4 [(0, .ref aM), (1, .int x0), (2, xv vad162 c1), (3, xv vad162 c2)] := by first | exact hl | ((try (rw [← ev165])); (try (rw [← ev166])); exact hl)
        obtain rfl := Option.some.inj hf
        exact vx_out (E := "java/lang/ArithmeticException") (fun x h => (hne x h).elim) hlocks hce hcv hcl (fun t ht ha => ⟨(ad160, gd161, vad162), ⟨hE, hN⟩, ⟨rfl, by rw [ht]; exact hP, va_K.moved ha hK, hD⟩, hS.F ht⟩) hS.2.2 (Nat.le_refl _) (Nat.le_refl _)
      rw [if_neg hk155] at hf
      exact nomatch hf
    rw [if_neg hk113] at hf
    by_cases hk167 : o111.1 = 1
    · rw [if_pos hk167] at hf
      obtain ⟨hg168, hf⟩ := xifn hf
      obtain ⟨hg169, hf⟩ := xifn hf
      obtain ⟨hm170, hf⟩ := xmoE hf
      have hFc := xm_free hD hS hA
      refine xx_thr (vx_runV (C := "ValueBenchModel") (As := [xv vad c1]) (rest := [.ref aM, .ref aM]) ⟨hx, hb, hml, hown, htx⟩ (gM_text_1 l hl9 D cT aK aV s.heap.size n aM ad rd gd vad st c1 o111 hq112 hk167) ⟨callB_of 1 htx (xw_goodC kw_7_54) rfl rfl rfl (htx _ kw_1_5) (htx _ kw_7_51) ⟨by decide, by decide, by decide +kernel⟩ ⟨Nat.le_of_ble_eq_true rfl, Nat.le_of_ble_eq_true rfl⟩, (htx _ kw_7_53), (htx _ kp_M_text)⟩ ⟨xPre_blind, va_recv hK hP (ci := 5) rfl (q0 := 0) rfl, (fun U hU hW => ⟨rfl, xPre_of hZ hS hFc hP hD hK U hU hW⟩)⟩ rfl rfl hl.1 rfl (xm_room (Nat.le_of_ble_eq_true rfl)) dM_two1_216 ⟨hm170.1, hm170.2⟩) hS hFc (fun q _ h => hFc q h) (fun E ce q9 u9 t H1 locs ht hvm hr9 hB hz1 hk1 hS hce hcv hcl => ?_)
      obtain ⟨rfl, hP1, hK1, hD1⟩ := hB
      rw [ht] at hP1
      obtain ⟨ad172, gd173, vad174⟩ := u9
      obtain ⟨hv175, hn176⟩ := hr9
      have hP : va_P D xcl (xMw cT aM ad172 rd gd173 vad174 o111.2.2.2.2 []) H1 := hP1
      have hD : va_D A (xMw cT aM ad172 rd gd173 vad174 o111.2.2.2.2 []) := hD1.weaken (fun k q _ h => hFc q.1 h)
      generalize H1 = H at hP hS hce ⊢
      have hE9 : ∀ p, p < xct st → vad174 p = vad p := fun p h => (hv175 p (Nat.lt_of_lt_of_le h hN)).trans (hE p h)
      have hE := hE9
      have hN : xct st ≤ xct o111.2.2.2.2 := Nat.le_trans hN hn176
      have ev177 : xv vad c1 = xv vad174 c1 := xvE hv175 hg168
      have ev178 : xv vad c2 = xv vad174 c2 := xvE hv175 hg169
      have hl : lv_has ls 4 [(0, .ref aM), (1, .int x0), (2, xv vad174 c1), (3, xv vad174 c2)] := by first | exact hl | ((try (rw [← ev177])); (try (rw [← ev178])); exact hl)
      obtain rfl := Option.some.inj hf
      exact vx_out (E := "java/lang/ArithmeticException") (fun x h => (hne x h).elim) hlocks hce hcv hcl (fun t ht ha => ⟨(ad172, gd173, vad174), ⟨hE, hN⟩, ⟨rfl, by rw [ht]; exact hP, va_K.moved ha hK, hD⟩, hS.F ht⟩) hS.2.2 (Nat.le_refl _) (Nat.le_refl _)
    rw [if_neg hk167] at hf
    exact nomatch hf
  rw [if_neg hc110] at hf
  by_cases hc179 : x0 = 7
  · rw [if_pos hc179] at hf
    refine lv_tableIn (off := 239) (tgt := 240) hx hb dM_two1_1 (by rw [hc179]; decide) (by rw [hc179]; decide) (by rw [hc179]; decide) (by decide) ?_
    refine lv_aload_n hx hb dM_two1_240 rfl (lv_at hl 0 rfl) ?_
    refine xm_aload_n hx hb (xvor _ _) dM_two1_241 rfl (lv_at hl 2 rfl) ?_
    refine xm_aload_n hx hb (xvor _ _) dM_two1_242 rfl (lv_at hl 3 rfl) ?_
    obtain ⟨o180, hq181, hf⟩ := xbind hf
    have hl := lv_sub (l' := [(0, .ref aM), (1, .int x0)]) hl [0, 1] rfl
    by_cases hk182 : o180.1 = 0
    · rw [if_pos hk182] at hf
      obtain ⟨hm183, hf⟩ := xmoE hf
      have hFc := xm_free hD hS hA
      refine va_callq (va_runV (C := "ValueBenchModel") (As := [xv vad c1, xv vad c2]) (rest := []) ⟨hx, hb, hml, hown, htx⟩ (gM_indices l hl9 D cT aK aV s.heap.size d n aM ad rd gd vad st c1 c2 o180 hq181 hk182) ⟨callB_of 2 htx (xw_goodC kw_7_103) rfl rfl rfl (htx _ kw_1_5) (htx _ kw_7_100) ⟨by decide, by decide, by decide +kernel⟩ ⟨(by show (16 * d + 8) + 1 ≤ 16 * d + 10; omega), (by show 8 + (9 + 11) + (400 * d + 147) ≤ 400 * d + 199; omega)⟩, (htx _ kw_7_102), (htx _ kp_M_indices)⟩ ⟨xPre_blind, va_recv hK hP (ci := 5) rfl (q0 := 0) rfl, (fun U hU hW => ⟨rfl, xPre_of hZ hS hFc hP hD hK U hU hW⟩)⟩ rfl rfl hl.1 rfl (xm_room (Nat.le_of_ble_eq_true rfl)) dM_two1_243 ⟨hm183.1, hm183.2⟩) hS (fun q _ h => hFc q h) hFc (fun r184 u9 t H1 locs ht hvm hr9 hB hz1 hk1 hS => ?_)
      obtain ⟨hP1, hK1, hD1⟩ := hB
      rw [ht] at hP1
      obtain ⟨ad185, gd186, vad187⟩ := u9
      obtain ⟨hr9, hv188, hn189⟩ := hr9
      have hP : va_P D xcl (xMw cT aM ad185 rd gd186 vad187 o180.2.2.2.2 []) H1 := hP1
      have hD : va_D A (xMw cT aM ad185 rd gd186 vad187 o180.2.2.2.2 []) := hD1.weaken (fun k q _ h => hFc q.1 h)
      generalize H1 = H at hP hS ⊢
      have hE9 : ∀ p, p < xct st → vad187 p = vad p := fun p h => (hv188 p (Nat.lt_of_lt_of_le h hN)).trans (hE p h)
      have hE := hE9
      have hN : xct st ≤ xct o180.2.2.2.2 := Nat.le_trans hN hn189
      rw [hr9]
      refine W.eq (g2 := F0 m 246 ls [xv vad187 o180.2.2.2.1]) (by first | rfl | (skip; rfl)) ?_
      obtain rfl := Option.some.inj hf
      exact absurd (show (0 : Nat) = 1 from hkd) (by decide)
    rw [if_neg hk182] at hf
    by_cases hk190 : o180.1 = 1
    · rw [if_pos hk190] at hf
      obtain ⟨hm191, hf⟩ := xmoE hf
      have hFc := xm_free hD hS hA
      refine xx_thr (vx_runV (C := "ValueBenchModel") (As := [xv vad c1, xv vad c2]) (rest := []) ⟨hx, hb, hml, hown, htx⟩ (gM_indices_1 l hl9 D cT aK aV s.heap.size d n aM ad rd gd vad st c1 c2 o180 hq181 hk190) ⟨callB_of 2 htx (xw_goodC kw_7_103) rfl rfl rfl (htx _ kw_1_5) (htx _ kw_7_100) ⟨by decide, by decide, by decide +kernel⟩ ⟨(by show (16 * d + 8) + 1 ≤ 16 * d + 10; omega), (by show 8 + (9 + 11) + (400 * d + 147) ≤ 400 * d + 199; omega)⟩, (htx _ kw_7_102), (htx _ kp_M_indices)⟩ ⟨xPre_blind, va_recv hK hP (ci := 5) rfl (q0 := 0) rfl, (fun U hU hW => ⟨rfl, xPre_of hZ hS hFc hP hD hK U hU hW⟩)⟩ rfl rfl hl.1 rfl (xm_room (Nat.le_of_ble_eq_true rfl)) dM_two1_243 ⟨hm191.1, hm191.2⟩) hS hFc (fun q _ h => hFc q h) (fun E ce q9 u9 t H1 locs ht hvm hr9 hB hz1 hk1 hS hce hcv hcl => ?_)
      obtain ⟨rfl, hP1, hK1, hD1⟩ := hB
      rw [ht] at hP1
      obtain ⟨ad193, gd194, vad195⟩ := u9
      obtain ⟨hv196, hn197⟩ := hr9
      have hP : va_P D xcl (xMw cT aM ad193 rd gd194 vad195 o180.2.2.2.2 []) H1 := hP1
      have hD : va_D A (xMw cT aM ad193 rd gd194 vad195 o180.2.2.2.2 []) := hD1.weaken (fun k q _ h => hFc q.1 h)
      generalize H1 = H at hP hS hce ⊢
      have hE9 : ∀ p, p < xct st → vad195 p = vad p := fun p h => (hv196 p (Nat.lt_of_lt_of_le h hN)).trans (hE p h)
      have hE := hE9
      have hN : xct st ≤ xct o180.2.2.2.2 := Nat.le_trans hN hn197
      obtain rfl := Option.some.inj hf
      exact vx_out (E := "java/lang/ArithmeticException") (fun x h => (hne x h).elim) hlocks hce hcv hcl (fun t ht ha => ⟨(ad193, gd194, vad195), ⟨hE, hN⟩, ⟨rfl, by rw [ht]; exact hP, va_K.moved ha hK, hD⟩, hS.F ht⟩) hS.2.2 (Nat.le_refl _) (Nat.le_refl _)
    rw [if_neg hk190] at hf
    by_cases hk198 : o180.1 = 2
    · rw [if_pos hk198] at hf
      obtain ⟨hm199, hf⟩ := xmoE hf
      obtain rfl := Option.some.inj hf
      exact absurd (show (2 : Nat) = 1 from hkd) (by decide)
    rw [if_neg hk198] at hf
    exact nomatch hf
  rw [if_neg hc179] at hf
  by_cases hc206 : x0 = 8
  · rw [if_pos hc206] at hf
    refine lv_tableIn (off := 246) (tgt := 247) hx hb dM_two1_1 (by rw [hc206]; decide) (by rw [hc206]; decide) (by rw [hc206]; decide) (by decide) ?_
    refine lv_aload_n hx hb dM_two1_247 rfl (lv_at hl 0 rfl) ?_
    refine xm_aload_n hx hb (xvor _ _) dM_two1_248 rfl (lv_at hl 2 rfl) ?_
    refine xm_aload_n hx hb (xvor _ _) dM_two1_249 rfl (lv_at hl 3 rfl) ?_
    obtain ⟨o207, hq208, hf⟩ := xbind hf
    have hl := lv_sub (l' := [(0, .ref aM), (1, .int x0)]) hl [0, 1] rfl
    by_cases hk209 : o207.1 = 0
    · rw [if_pos hk209] at hf
      obtain ⟨hm210, hf⟩ := xmoE hf
      have hFc := xm_free hD hS hA
      refine va_callq (va_runV (C := "ValueBenchModel") (As := [xv vad c1, xv vad c2]) (rest := []) ⟨hx, hb, hml, hown, htx⟩ (gM_flatten l hl9 D cT aK aV s.heap.size d n aM ad rd gd vad st c1 c2 o207 hq208 hk209) ⟨callB_of 2 htx (xw_goodC kw_7_107) rfl rfl rfl (htx _ kw_1_5) (htx _ kw_7_104) ⟨by decide, by decide, by decide +kernel⟩ ⟨(by show (16 * d + 8) + 1 ≤ 16 * d + 10; omega), (by show 8 + (4 + 11) + (400 * d + 147) ≤ 400 * d + 199; omega)⟩, (htx _ kw_7_106), (htx _ kp_M_flatten)⟩ ⟨xPre_blind, va_recv hK hP (ci := 5) rfl (q0 := 0) rfl, (fun U hU hW => ⟨rfl, xPre_of hZ hS hFc hP hD hK U hU hW⟩)⟩ rfl rfl hl.1 rfl (xm_room (Nat.le_of_ble_eq_true rfl)) dM_two1_250 ⟨hm210.1, hm210.2⟩) hS (fun q _ h => hFc q h) hFc (fun r211 u9 t H1 locs ht hvm hr9 hB hz1 hk1 hS => ?_)
      obtain ⟨hP1, hK1, hD1⟩ := hB
      rw [ht] at hP1
      obtain ⟨ad212, gd213, vad214⟩ := u9
      obtain ⟨hr9, hv215, hn216⟩ := hr9
      have hP : va_P D xcl (xMw cT aM ad212 rd gd213 vad214 o207.2.2.2.2 []) H1 := hP1
      have hD : va_D A (xMw cT aM ad212 rd gd213 vad214 o207.2.2.2.2 []) := hD1.weaken (fun k q _ h => hFc q.1 h)
      generalize H1 = H at hP hS ⊢
      have hE9 : ∀ p, p < xct st → vad214 p = vad p := fun p h => (hv215 p (Nat.lt_of_lt_of_le h hN)).trans (hE p h)
      have hE := hE9
      have hN : xct st ≤ xct o207.2.2.2.2 := Nat.le_trans hN hn216
      rw [hr9]
      refine W.eq (g2 := F0 m 253 ls [xv vad214 o207.2.2.2.1]) (by first | rfl | (skip; rfl)) ?_
      obtain rfl := Option.some.inj hf
      exact absurd (show (0 : Nat) = 1 from hkd) (by decide)
    rw [if_neg hk209] at hf
    by_cases hk217 : o207.1 = 1
    · rw [if_pos hk217] at hf
      obtain ⟨hm218, hf⟩ := xmoE hf
      have hFc := xm_free hD hS hA
      refine xx_thr (vx_runV (C := "ValueBenchModel") (As := [xv vad c1, xv vad c2]) (rest := []) ⟨hx, hb, hml, hown, htx⟩ (gM_flatten_1 l hl9 D cT aK aV s.heap.size d n aM ad rd gd vad st c1 c2 o207 hq208 hk217) ⟨callB_of 2 htx (xw_goodC kw_7_107) rfl rfl rfl (htx _ kw_1_5) (htx _ kw_7_104) ⟨by decide, by decide, by decide +kernel⟩ ⟨(by show (16 * d + 8) + 1 ≤ 16 * d + 10; omega), (by show 8 + (4 + 11) + (400 * d + 147) ≤ 400 * d + 199; omega)⟩, (htx _ kw_7_106), (htx _ kp_M_flatten)⟩ ⟨xPre_blind, va_recv hK hP (ci := 5) rfl (q0 := 0) rfl, (fun U hU hW => ⟨rfl, xPre_of hZ hS hFc hP hD hK U hU hW⟩)⟩ rfl rfl hl.1 rfl (xm_room (Nat.le_of_ble_eq_true rfl)) dM_two1_250 ⟨hm218.1, hm218.2⟩) hS hFc (fun q _ h => hFc q h) (fun E ce q9 u9 t H1 locs ht hvm hr9 hB hz1 hk1 hS hce hcv hcl => ?_)
      obtain ⟨rfl, hP1, hK1, hD1⟩ := hB
      rw [ht] at hP1
      obtain ⟨ad220, gd221, vad222⟩ := u9
      obtain ⟨hv223, hn224⟩ := hr9
      have hP : va_P D xcl (xMw cT aM ad220 rd gd221 vad222 o207.2.2.2.2 []) H1 := hP1
      have hD : va_D A (xMw cT aM ad220 rd gd221 vad222 o207.2.2.2.2 []) := hD1.weaken (fun k q _ h => hFc q.1 h)
      generalize H1 = H at hP hS hce ⊢
      have hE9 : ∀ p, p < xct st → vad222 p = vad p := fun p h => (hv223 p (Nat.lt_of_lt_of_le h hN)).trans (hE p h)
      have hE := hE9
      have hN : xct st ≤ xct o207.2.2.2.2 := Nat.le_trans hN hn224
      obtain rfl := Option.some.inj hf
      exact vx_out (E := "java/lang/ArithmeticException") (fun x h => (hne x h).elim) hlocks hce hcv hcl (fun t ht ha => ⟨(ad220, gd221, vad222), ⟨hE, hN⟩, ⟨rfl, by rw [ht]; exact hP, va_K.moved ha hK, hD⟩, hS.F ht⟩) hS.2.2 (Nat.le_refl _) (Nat.le_refl _)
    rw [if_neg hk217] at hf
    by_cases hk225 : o207.1 = 2
    · rw [if_pos hk225] at hf
      obtain ⟨hm226, hf⟩ := xmoE hf
      obtain rfl := Option.some.inj hf
      exact absurd (show (2 : Nat) = 1 from hkd) (by decide)
    rw [if_neg hk225] at hf
    exact nomatch hf
  rw [if_neg hc206] at hf
  refine lv_tableOut (tgt := 254) hx hb dM_two1_1 (by have e0 : x0.toInt ≠ 0 := xsw hc1 (by decide); have e1 : x0.toInt ≠ 1 := xsw hc20 (by decide); have e2 : x0.toInt ≠ 2 := xsw hc24 (by decide); have e3 : x0.toInt ≠ 3 := xsw hc51 (by decide); have e4 : x0.toInt ≠ 4 := xsw hc53 (by decide); have e5 : x0.toInt ≠ 5 := xsw hc55 (by decide); have e6 : x0.toInt ≠ 6 := xsw hc110 (by decide); have e7 : x0.toInt ≠ 7 := xsw hc179 (by decide); have e8 : x0.toInt ≠ 8 := xsw hc206 (by decide); omega) (by decide) ?_
  refine lv_aload_n hx hb dM_two1_254 rfl (lv_at hl 0 rfl) ?_
  refine xm_aload_n hx hb (xvor _ _) dM_two1_255 rfl (lv_at hl 2 rfl) ?_
  refine xm_aload_n hx hb (xvor _ _) dM_two1_256 rfl (lv_at hl 3 rfl) ?_
  obtain ⟨o233, hq234, hf⟩ := xbind hf
  have hl := lv_sub (l' := [(0, .ref aM), (1, .int x0)]) hl [0, 1] rfl
  by_cases hk235 : o233.1 = 0
  · rw [if_pos hk235] at hf
    obtain ⟨hm236, hf⟩ := xmoE hf
    have hFc := xm_free hD hS hA
    refine va_callq (va_runV (C := "ValueBenchModel") (As := [xv vad c1, xv vad c2]) (rest := []) ⟨hx, hb, hml, hown, htx⟩ (gM_at l hl9 D cT aK aV s.heap.size d n aM ad rd gd vad st c1 c2 o233 hq234 hk235) ⟨callB_of 2 htx (xw_goodC kw_7_115) rfl rfl rfl (htx _ kw_1_5) (htx _ kw_7_112) ⟨by decide, by decide, by decide +kernel⟩ ⟨(by show (16 * d + 9) + 1 ≤ 16 * d + 10; omega), (by show 8 + (5 + 11) + (400 * d + 175) ≤ 400 * d + 199; omega)⟩, (htx _ kw_7_114), (htx _ kp_M_at)⟩ ⟨xPre_blind, va_recv hK hP (ci := 5) rfl (q0 := 0) rfl, (fun U hU hW => ⟨rfl, xPre_of hZ hS hFc hP hD hK U hU hW⟩)⟩ rfl rfl hl.1 rfl (xm_room (Nat.le_of_ble_eq_true rfl)) dM_two1_257 ⟨hm236.1, hm236.2⟩) hS (fun q _ h => hFc q h) hFc (fun r237 u9 t H1 locs ht hvm hr9 hB hz1 hk1 hS => ?_)
    obtain ⟨hP1, hK1, hD1⟩ := hB
    rw [ht] at hP1
    obtain ⟨ad238, gd239, vad240⟩ := u9
    obtain ⟨hr9, hv241, hn242⟩ := hr9
    have hP : va_P D xcl (xMw cT aM ad238 rd gd239 vad240 o233.2.2.2.2 []) H1 := hP1
    have hD : va_D A (xMw cT aM ad238 rd gd239 vad240 o233.2.2.2.2 []) := hD1.weaken (fun k q _ h => hFc q.1 h)
    generalize H1 = H at hP hS ⊢
    have hE9 : ∀ p, p < xct st → vad240 p = vad p := fun p h => (hv241 p (Nat.lt_of_lt_of_le h hN)).trans (hE p h)
    have hE := hE9
    have hN : xct st ≤ xct o233.2.2.2.2 := Nat.le_trans hN hn242
    rw [hr9]
    refine W.eq (g2 := F0 m 260 ls [xv vad240 o233.2.2.2.1]) (by first | rfl | (skip; rfl)) ?_
    obtain rfl := Option.some.inj hf
    exact absurd (show (0 : Nat) = 1 from hkd) (by decide)
  rw [if_neg hk235] at hf
  by_cases hk243 : o233.1 = 1
  · rw [if_pos hk243] at hf
    obtain ⟨hm244, hf⟩ := xmoE hf
    have hFc := xm_free hD hS hA
    refine xx_thr (vx_runV (C := "ValueBenchModel") (As := [xv vad c1, xv vad c2]) (rest := []) ⟨hx, hb, hml, hown, htx⟩ (gM_at_1 l hl9 D cT aK aV s.heap.size d n aM ad rd gd vad st c1 c2 o233 hq234 hk243) ⟨callB_of 2 htx (xw_goodC kw_7_115) rfl rfl rfl (htx _ kw_1_5) (htx _ kw_7_112) ⟨by decide, by decide, by decide +kernel⟩ ⟨(by show (16 * d + 9) + 1 ≤ 16 * d + 10; omega), (by show 8 + (5 + 11) + (400 * d + 175) ≤ 400 * d + 199; omega)⟩, (htx _ kw_7_114), (htx _ kp_M_at)⟩ ⟨xPre_blind, va_recv hK hP (ci := 5) rfl (q0 := 0) rfl, (fun U hU hW => ⟨rfl, xPre_of hZ hS hFc hP hD hK U hU hW⟩)⟩ rfl rfl hl.1 rfl (xm_room (Nat.le_of_ble_eq_true rfl)) dM_two1_257 ⟨hm244.1, hm244.2⟩) hS hFc (fun q _ h => hFc q h) (fun E ce q9 u9 t H1 locs ht hvm hr9 hB hz1 hk1 hS hce hcv hcl => ?_)
    obtain ⟨rfl, hP1, hK1, hD1⟩ := hB
    rw [ht] at hP1
    obtain ⟨ad246, gd247, vad248⟩ := u9
    obtain ⟨hv249, hn250⟩ := hr9
    have hP : va_P D xcl (xMw cT aM ad246 rd gd247 vad248 o233.2.2.2.2 []) H1 := hP1
    have hD : va_D A (xMw cT aM ad246 rd gd247 vad248 o233.2.2.2.2 []) := hD1.weaken (fun k q _ h => hFc q.1 h)
    generalize H1 = H at hP hS hce ⊢
    have hE9 : ∀ p, p < xct st → vad248 p = vad p := fun p h => (hv249 p (Nat.lt_of_lt_of_le h hN)).trans (hE p h)
    have hE := hE9
    have hN : xct st ≤ xct o233.2.2.2.2 := Nat.le_trans hN hn250
    obtain rfl := Option.some.inj hf
    exact vx_out (E := "java/lang/ArithmeticException") (fun x h => (hne x h).elim) hlocks hce hcv hcl (fun t ht ha => ⟨(ad246, gd247, vad248), ⟨hE, hN⟩, ⟨rfl, by rw [ht]; exact hP, va_K.moved ha hK, hD⟩, hS.F ht⟩) hS.2.2 (Nat.le_refl _) (Nat.le_refl _)
  rw [if_neg hk243] at hf
  by_cases hk251 : o233.1 = 2
  · rw [if_pos hk251] at hf
    obtain ⟨hm252, hf⟩ := xmoE hf
    obtain rfl := Option.some.inj hf
    exact absurd (show (2 : Nat) = 1 from hkd) (by decide)
  rw [if_neg hk251] at hf
  exact nomatch hf
set_option maxHeartbeats 400000000 in
set_option maxRecDepth 100000 in
theorem gM_two1_2 (l : Launch) (hl9 : l.stackTraces = false) (D : va_G) (cT : Nat → ClassId) (aK aV : Nat → Nat) (sz d n : Nat) (aM : Nat) (ad rd gd vad : Nat → Nat) (st : xS) (x0 : Int32) (c1 : Nat) (c2 : Nat) (out : Nat × Nat × Nat × Nat × xS) (hf : fM_two1 d n st x0 c1 c2 = some out) (hkd : out.1 = 2) : xMetY l yM_two1 wyM_two1 (16 * d + 10) out.2.1 out.2.2.1 (400 * d + 199) D cT aK aV sz [.ref aM, .int x0, xv vad c1, xv vad c2] (xMw cT aM ad rd gd vad st []) "java/lang/IndexOutOfBoundsException" (fun u => xE vad st out.2.2.2.2 u) (fun A u t => xB D xcl cT A (xMw cT aM u.1 rd u.2.1 u.2.2 out.2.2.2.2 []) t) := by
  refine vx_ofW (cc := prog_13_method_76_code) (maxL := 4) (ret := (some (.object "ValueBenchModel$V"))) (by decide) rfl ?_
  intro p e s m args below meth c s₁ B hml hne hv
  obtain ⟨rfl, hsz, hZ, hP, hK, hD0⟩ := hv
  have hx := B.exec
  have hb := B.bytes
  have hr := B.returns
  have hts := atoms_spec (ws := wyM_two1) B.pre
  have htx := fun w h => hts w (List.mem_cons_of_mem _ h)
  have hown : s.vm.findClass "ValueBenchModel" = some m.cls := findClass_of_methodNamed B.named
  have hlocks := B.notSynchronized
  subst hsz
  have hD := hD0.self (sz := s.heap.size)
  generalize hAe : va_A (xMw cT aM ad rd gd vad st []) s.heap.size = A at hD hZ ⊢
  have hA : ∀ q : Nat, s.heap.size ≤ q → A q := fun q h => by rw [← hAe]; exact Or.inr h
  have hS : va_S A s.heap s.heap [] := va_S.rf
  have hl := lv_entry ([.ref aM, .int x0, xv vad c1, xv vad c2]) (n := 4) (by simp [lg_sl, xvcat, xrscat, xcI, xcL, xcR, xcN])
  rw [show lv_args 0 [.ref aM, .int x0, xv vad c1, xv vad c2] = [(0, .ref aM), (1, .int x0), (2, xv vad c1), (3, xv vad c2)] from by simp [lv_args, xvcat, xrscat, xcI, xcL, xcR, xcN]] at hl
  rw [lg_entry_eq]
  generalize (lg_sl ([.ref aM, .int x0, xv vad c1, xv vad c2]) ++ List.replicate (4 - (lg_sl ([.ref aM, .int x0, xv vad c1, xv vad c2])).length) Slot.unset).toArray = ls at hl ⊢
  have hl : lv_has ls 4 [(0, .ref aM), (1, .int x0), (2, xv vad c1), (3, xv vad c2)] := hl
  have hE : ∀ p, p < xct st → vad p = vad p := fun _ _ => rfl
  have hN : xct st ≤ xct st := Nat.le_refl _
  unfold fM_two1 at hf
  refine lv_iload_n hx hb dM_two1_0 rfl (lv_at hl 1 rfl) ?_
  by_cases hc1 : x0 = 0
  · rw [if_pos hc1] at hf
    refine lv_tableIn (off := 51) (tgt := 52) hx hb dM_two1_1 (by rw [hc1]; decide) (by rw [hc1]; decide) (by rw [hc1]; decide) (by decide) ?_
    refine lv_aload_n hx hb dM_two1_52 rfl (lv_at hl 0 rfl) ?_
    refine xm_aload_n hx hb (xvor _ _) dM_two1_53 rfl (lv_at hl 2 rfl) ?_
    refine xm_aload_n hx hb (xvor _ _) dM_two1_54 rfl (lv_at hl 3 rfl) ?_
    obtain ⟨o2, hq3, hf⟩ := xbind hf
    have hl := lv_sub (l' := [(0, .ref aM), (1, .int x0)]) hl [0, 1] rfl
    by_cases hk4 : o2.1 = 0
    · rw [if_pos hk4] at hf
      obtain ⟨hm5, hf⟩ := xmoE hf
      have hFc := xm_free hD hS hA
      refine va_callq (va_runV (C := "ValueBenchModel") (As := [xv vad c1, xv vad c2]) (rest := []) ⟨hx, hb, hml, hown, htx⟩ (gM_has l hl9 D cT aK aV s.heap.size n aM ad rd gd vad st c1 c2 o2 hq3 hk4) ⟨callB_of 2 htx (xw_goodC kw_7_83) rfl rfl rfl (htx _ kw_1_5) (htx _ kw_7_80) ⟨by decide, by decide, by decide +kernel⟩ ⟨Nat.le_of_ble_eq_true rfl, Nat.le_of_ble_eq_true rfl⟩, (htx _ kw_7_82), (htx _ kp_M_has)⟩ ⟨xPre_blind, va_recv hK hP (ci := 5) rfl (q0 := 0) rfl, (fun U hU hW => ⟨rfl, xPre_of hZ hS hFc hP hD hK U hU hW⟩)⟩ rfl rfl hl.1 rfl (xm_room (Nat.le_of_ble_eq_true rfl)) dM_two1_55 ⟨hm5.1, hm5.2⟩) hS (fun q _ h => hFc q h) hFc (fun r6 u9 t H1 locs ht hvm hr9 hB hz1 hk1 hS => ?_)
      obtain ⟨hP1, hK1, hD1⟩ := hB
      rw [ht] at hP1
      obtain ⟨ad7, gd8, vad9⟩ := u9
      obtain ⟨hr9, hv10, hn11⟩ := hr9
      have hP : va_P D xcl (xMw cT aM ad7 rd gd8 vad9 o2.2.2.2.2 []) H1 := hP1
      have hD : va_D A (xMw cT aM ad7 rd gd8 vad9 o2.2.2.2.2 []) := hD1.weaken (fun k q _ h => hFc q.1 h)
      generalize H1 = H at hP hS ⊢
      have hE9 : ∀ p, p < xct st → vad9 p = vad p := fun p h => (hv10 p (Nat.lt_of_lt_of_le h hN)).trans (hE p h)
      have hE := hE9
      have hN : xct st ≤ xct o2.2.2.2.2 := Nat.le_trans hN hn11
      rw [hr9]
      refine W.eq (g2 := F0 m 58 ls [xv vad9 o2.2.2.2.1]) (by first | rfl | (skip; rfl)) ?_
      obtain rfl := Option.some.inj hf
      exact absurd (show (0 : Nat) = 2 from hkd) (by decide)
    rw [if_neg hk4] at hf
    by_cases hk12 : o2.1 = 1
    · rw [if_pos hk12] at hf
      obtain ⟨hm13, hf⟩ := xmoE hf
      obtain rfl := Option.some.inj hf
      exact absurd (show (1 : Nat) = 2 from hkd) (by decide)
    rw [if_neg hk12] at hf
    exact nomatch hf
  rw [if_neg hc1] at hf
  by_cases hc20 : x0 = 1
  · rw [if_pos hc20] at hf
    refine lv_tableIn (off := 58) (tgt := 59) hx hb dM_two1_1 (by rw [hc20]; decide) (by rw [hc20]; decide) (by rw [hc20]; decide) (by decide) ?_
    refine lv_aload_n hx hb dM_two1_59 rfl (lv_at hl 0 rfl) ?_
    refine xm_aload_n hx hb (xvor _ _) dM_two1_60 rfl (lv_at hl 2 rfl) ?_
    refine xm_aload_n hx hb (xvor _ _) dM_two1_61 rfl (lv_at hl 3 rfl) ?_
    obtain ⟨o21, hq22, hf⟩ := xbind hf
    have hFc := xm_free hD hS hA
    refine va_calli (va_runV (C := "ValueBenchModel") (As := [xv vad c1, xv vad c2]) (rest := []) ⟨hx, hb, hml, hown, htx⟩ (gM_alike l hl9 D cT aK aV s.heap.size n aM ad rd gd vad st c1 c2 o21 hq22) ⟨callB_of 2 htx (xw_goodC kw_7_87) rfl rfl rfl (htx _ kw_1_5) (htx _ kw_7_84) ⟨by decide, by decide, by decide +kernel⟩ ⟨Nat.le_of_ble_eq_true rfl, Nat.le_of_ble_eq_true rfl⟩, (htx _ kw_7_86), (htx _ kp_M_alike)⟩ ⟨xPre_blind, va_recv hK hP (ci := 5) rfl (q0 := 0) rfl, (fun U hU hW => ⟨rfl, xPre_of hZ hS hFc hP hD hK U hU hW⟩)⟩ rfl rfl hl.1 rfl (xm_room (Nat.le_of_ble_eq_true rfl)) dM_two1_62 ⟨Nat.zero_le _, Nat.zero_le _⟩) hS (fun q _ h => hFc q h) hFc (fun r23 u9 t H1 locs ht hvm hr9 hB hz1 hk1 hS => ?_)
    obtain ⟨hP1, hK1, hD1⟩ := hB
    rw [ht] at hP1
    have hP : va_P D xcl (xMw cT aM ad rd gd vad st []) H1 := hP1
    have hD : va_D A (xMw cT aM ad rd gd vad st []) := hD1.weaken (fun k q _ h => hFc q.1 h)
    generalize H1 = H at hP hS ⊢
    rw [hr9]
    refine W.eq (g2 := F0 m 65 ls [.int o21]) (by first | rfl | (skip; rfl)) ?_
    refine lv_if_eq (tgt := 81) hx hb dM_two1_65 (by decide) (fun hc => ?_) (fun hc => ?_)
    · rw [if_pos hc] at hf
      refine lv_aload_n hx hb dM_two1_81 rfl (lv_at hl 0 rfl) ?_
      refine lv_iconst (v := 1) hx hb dM_two1_82 (by decide) ?_
      obtain ⟨o24, hq25, hf⟩ := xbind hf
      have hl := lv_sub (l' := [(0, .ref aM), (1, .int x0)]) hl [0, 1] rfl
      by_cases hk26 : o24.1 = 1
      · rw [if_pos hk26] at hf
        obtain ⟨hm27, hf⟩ := xmoE hf
        obtain rfl := Option.some.inj hf
        exact absurd (show (1 : Nat) = 2 from hkd) (by decide)
      rw [if_neg hk26] at hf
      exact nomatch hf
    · rw [if_neg hc] at hf
      refine lv_aload_n hx hb dM_two1_68 rfl (lv_at hl 0 rfl) ?_
      refine lv_aload_n hx hb dM_two1_69 rfl (lv_at hl 0 rfl) ?_
      refine xm_aload_n hx hb (xvor _ _) dM_two1_70 rfl (lv_at hl 2 rfl) ?_
      refine xm_aload_n hx hb (xvor _ _) dM_two1_71 rfl (lv_at hl 3 rfl) ?_
      obtain ⟨o24, hq25, hf⟩ := xbind hf
      have hl := lv_sub (l' := [(0, .ref aM), (1, .int x0)]) hl [0, 1] rfl
      have hFc := xm_free hD hS hA
      refine va_calli (va_runV (C := "ValueBenchModel") (As := [xv vad c1, xv vad c2]) (rest := [.ref aM]) ⟨hx, hb, hml, hown, htx⟩ (gM_contains l hl9 D cT aK aV d H.size n aM ad rd gd vad st c1 c2 o24 hq25) ⟨callB_of 2 htx (xw_goodC kw_7_91) rfl rfl rfl (htx _ kw_1_5) (htx _ kw_7_88) ⟨by decide, by decide, by decide +kernel⟩ ⟨(by show (16 * d) + 1 ≤ 16 * d + 10; omega), (by show 8 + (6 + 11) + (400 * d) ≤ 400 * d + 199; omega)⟩, (htx _ kw_7_90), (htx _ kp_M_contains)⟩ ⟨xPre_blind, va_recv hK hP (ci := 5) rfl (q0 := 0) rfl, (fun U hU hW => ⟨rfl, xPre_of hZ hS hFc hP hD hK U hU hW⟩)⟩ rfl rfl hl.1 rfl (xm_room (Nat.le_of_ble_eq_true rfl)) dM_two1_72 ⟨Nat.zero_le _, Nat.zero_le _⟩) hS (fun q _ h => hFc q h) hFc (fun r26 u9 t H1 locs ht hvm hr9 hB hz1 hk1 hS => ?_)
      obtain ⟨hP1, hK1, hD1⟩ := hB
      rw [ht] at hP1
      have hP : va_P D xcl (xMw cT aM ad rd gd vad st []) H1 := hP1
      have hD : va_D A (xMw cT aM ad rd gd vad st []) := hD1.weaken (fun k q _ h => hFc q.1 h)
      generalize H1 = H at hP hS ⊢
      rw [hr9]
      refine W.eq (g2 := F0 m 75 ls [.int o24, .ref aM]) (by first | rfl | (skip; rfl)) ?_
      obtain ⟨o27, hq28, hf⟩ := xbind hf
      obtain ⟨hm29, hf⟩ := xmoE hf
      have hFc := xm_free hD hS hA
      refine va_callq (va_runV (C := "ValueBenchModel") (As := [.int o24]) (rest := []) ⟨hx, hb, hml, hown, htx⟩ (gM_truth l hl9 D cT aK aV H.size n aM ad rd gd vad st o24 o27 hq28) ⟨callB_of 1 htx (xw_goodC kw_7_5) rfl rfl rfl (htx _ kw_1_5) (htx _ kw_7_2) ⟨by decide, by decide, by decide +kernel⟩ ⟨Nat.le_of_ble_eq_true rfl, Nat.le_of_ble_eq_true rfl⟩, (htx _ kw_7_4), (htx _ kp_M_truth)⟩ ⟨xPre_blind, va_recv hK hP (ci := 5) rfl (q0 := 0) rfl, (fun U hU hW => ⟨rfl, xPre_of hZ hS hFc hP hD hK U hU hW⟩)⟩ rfl rfl hl.1 rfl (xm_room (Nat.le_of_ble_eq_true rfl)) dM_two1_75 ⟨hm29.1, hm29.2⟩) hS (fun q _ h => hFc q h) hFc (fun r30 u9 t H1 locs ht hvm hr9 hB hz1 hk1 hS => ?_)
      obtain ⟨hP1, hK1, hD1⟩ := hB
      rw [ht] at hP1
      obtain ⟨ad31, gd32, vad33⟩ := u9
      obtain ⟨hr9, hv34, hn35⟩ := hr9
      have hP : va_P D xcl (xMw cT aM ad31 rd gd32 vad33 o27.2.2.2 []) H1 := hP1
      have hD : va_D A (xMw cT aM ad31 rd gd32 vad33 o27.2.2.2 []) := hD1.weaken (fun k q _ h => hFc q.1 h)
      generalize H1 = H at hP hS ⊢
      have hE9 : ∀ p, p < xct st → vad33 p = vad p := fun p h => (hv34 p (Nat.lt_of_lt_of_le h hN)).trans (hE p h)
      have hE := hE9
      have hN : xct st ≤ xct o27.2.2.2 := Nat.le_trans hN hn35
      rw [hr9]
      refine W.eq (g2 := F0 m 78 ls [xv vad33 o27.2.2.1]) (by first | rfl | (skip; rfl)) ?_
      refine lv_goto (tgt := 86) hx hb dM_two1_78 (by decide) ?_
      obtain rfl := Option.some.inj hf
      exact absurd (show (0 : Nat) = 2 from hkd) (by decide)
  rw [if_neg hc20] at hf
  by_cases hc24 : x0 = 2
  · rw [if_pos hc24] at hf
    refine lv_tableIn (off := 86) (tgt := 87) hx hb dM_two1_1 (by rw [hc24]; decide) (by rw [hc24]; decide) (by rw [hc24]; decide) (by decide) ?_
    refine lv_aload_n hx hb dM_two1_87 rfl (lv_at hl 0 rfl) ?_
    refine xm_aload_n hx hb (xvor _ _) dM_two1_88 rfl (lv_at hl 2 rfl) ?_
    refine xm_aload_n hx hb (xvor _ _) dM_two1_89 rfl (lv_at hl 3 rfl) ?_
    obtain ⟨o25, hq26, hf⟩ := xbind hf
    have hl := lv_sub (l' := [(0, .ref aM), (1, .int x0)]) hl [0, 1] rfl
    by_cases hk27 : o25.1 = 0
    · rw [if_pos hk27] at hf
      obtain ⟨hm28, hf⟩ := xmoE hf
      have hFc := xm_free hD hS hA
      refine va_callq (va_runV (C := "ValueBenchModel") (As := [xv vad c1, xv vad c2]) (rest := []) ⟨hx, hb, hml, hown, htx⟩ (gM_joined l hl9 D cT aK aV s.heap.size d n aM ad rd gd vad st c1 c2 o25 hq26 hk27) ⟨callB_of 2 htx (xw_goodC kw_7_99) rfl rfl rfl (htx _ kw_1_5) (htx _ kw_7_96) ⟨by decide, by decide, by decide +kernel⟩ ⟨(by show (16 * d + 8) + 1 ≤ 16 * d + 10; omega), (by show 8 + (8 + 11) + (400 * d + 142) ≤ 400 * d + 199; omega)⟩, (htx _ kw_7_98), (htx _ kp_M_joined)⟩ ⟨xPre_blind, va_recv hK hP (ci := 5) rfl (q0 := 0) rfl, (fun U hU hW => ⟨rfl, xPre_of hZ hS hFc hP hD hK U hU hW⟩)⟩ rfl rfl hl.1 rfl (xm_room (Nat.le_of_ble_eq_true rfl)) dM_two1_90 ⟨hm28.1, hm28.2⟩) hS (fun q _ h => hFc q h) hFc (fun r29 u9 t H1 locs ht hvm hr9 hB hz1 hk1 hS => ?_)
      obtain ⟨hP1, hK1, hD1⟩ := hB
      rw [ht] at hP1
      obtain ⟨ad30, gd31, vad32⟩ := u9
      obtain ⟨hr9, hv33, hn34⟩ := hr9
      have hP : va_P D xcl (xMw cT aM ad30 rd gd31 vad32 o25.2.2.2.2 []) H1 := hP1
      have hD : va_D A (xMw cT aM ad30 rd gd31 vad32 o25.2.2.2.2 []) := hD1.weaken (fun k q _ h => hFc q.1 h)
      generalize H1 = H at hP hS ⊢
      have hE9 : ∀ p, p < xct st → vad32 p = vad p := fun p h => (hv33 p (Nat.lt_of_lt_of_le h hN)).trans (hE p h)
      have hE := hE9
      have hN : xct st ≤ xct o25.2.2.2.2 := Nat.le_trans hN hn34
      rw [hr9]
      refine W.eq (g2 := F0 m 93 ls [xv vad32 o25.2.2.2.1]) (by first | rfl | (skip; rfl)) ?_
      obtain rfl := Option.some.inj hf
      exact absurd (show (0 : Nat) = 2 from hkd) (by decide)
    rw [if_neg hk27] at hf
    by_cases hk35 : o25.1 = 1
    · rw [if_pos hk35] at hf
      obtain ⟨hm36, hf⟩ := xmoE hf
      obtain rfl := Option.some.inj hf
      exact absurd (show (1 : Nat) = 2 from hkd) (by decide)
    rw [if_neg hk35] at hf
    by_cases hk43 : o25.1 = 2
    · rw [if_pos hk43] at hf
      obtain ⟨hm44, hf⟩ := xmoE hf
      have hFc := xm_free hD hS hA
      refine xx_thr (vx_runV (C := "ValueBenchModel") (As := [xv vad c1, xv vad c2]) (rest := []) ⟨hx, hb, hml, hown, htx⟩ (gM_joined_2 l hl9 D cT aK aV s.heap.size d n aM ad rd gd vad st c1 c2 o25 hq26 hk43) ⟨callB_of 2 htx (xw_goodC kw_7_99) rfl rfl rfl (htx _ kw_1_5) (htx _ kw_7_96) ⟨by decide, by decide, by decide +kernel⟩ ⟨(by show (16 * d + 8) + 1 ≤ 16 * d + 10; omega), (by show 8 + (8 + 11) + (400 * d + 142) ≤ 400 * d + 199; omega)⟩, (htx _ kw_7_98), (htx _ kp_M_joined)⟩ ⟨xPre_blind, va_recv hK hP (ci := 5) rfl (q0 := 0) rfl, (fun U hU hW => ⟨rfl, xPre_of hZ hS hFc hP hD hK U hU hW⟩)⟩ rfl rfl hl.1 rfl (xm_room (Nat.le_of_ble_eq_true rfl)) dM_two1_90 ⟨hm44.1, hm44.2⟩) hS hFc (fun q _ h => hFc q h) (fun E ce q9 u9 t H1 locs ht hvm hr9 hB hz1 hk1 hS hce hcv hcl => ?_)
      obtain ⟨rfl, hP1, hK1, hD1⟩ := hB
      rw [ht] at hP1
      obtain ⟨ad46, gd47, vad48⟩ := u9
      obtain ⟨hv49, hn50⟩ := hr9
      have hP : va_P D xcl (xMw cT aM ad46 rd gd47 vad48 o25.2.2.2.2 []) H1 := hP1
      have hD : va_D A (xMw cT aM ad46 rd gd47 vad48 o25.2.2.2.2 []) := hD1.weaken (fun k q _ h => hFc q.1 h)
      generalize H1 = H at hP hS hce ⊢
      have hE9 : ∀ p, p < xct st → vad48 p = vad p := fun p h => (hv49 p (Nat.lt_of_lt_of_le h hN)).trans (hE p h)
      have hE := hE9
      have hN : xct st ≤ xct o25.2.2.2.2 := Nat.le_trans hN hn50
      obtain rfl := Option.some.inj hf
      exact vx_out (E := "java/lang/IndexOutOfBoundsException") (fun x h => (hne x h).elim) hlocks hce hcv hcl (fun t ht ha => ⟨(ad46, gd47, vad48), ⟨hE, hN⟩, ⟨rfl, by rw [ht]; exact hP, va_K.moved ha hK, hD⟩, hS.F ht⟩) hS.2.2 (Nat.le_refl _) (Nat.le_refl _)
    rw [if_neg hk43] at hf
    exact nomatch hf
  rw [if_neg hc24] at hf
  by_cases hc51 : x0 = 3
  · rw [if_pos hc51] at hf
    refine lv_tableIn (off := 93) (tgt := 94) hx hb dM_two1_1 (by rw [hc51]; decide) (by rw [hc51]; decide) (by rw [hc51]; decide) (by decide) ?_
    refine xm_aload_n hx hb (xvor _ _) dM_two1_94 rfl (lv_at hl 2 rfl) ?_
    obtain ⟨hg52, hf⟩ := xifn hf
    refine xm_vget (v := .int ((xpi st 0) (c1 - 1))) hx hb htx hown hK hP 0 (by decide) hg52 rfl ((hZ.1 (93, "kind", "I") (List.mem_of_getElem? (i := 0) rfl)).use rfl) rfl dM_two1_95 ?_
    refine lv_iconst (v := 4) hx hb dM_two1_98 (by decide) ?_
    refine lv_icmp_ne (tgt := 136) hx hb dM_two1_99 (by decide) (fun hc => ?_) (fun hc => ?_)
    · rw [if_neg hc] at hf
      refine xm_aload_n hx hb (xvor _ _) dM_two1_136 rfl (lv_at hl 2 rfl) ?_
      obtain rfl := Option.some.inj hf
      exact absurd (show (0 : Nat) = 2 from hkd) (by decide)
    · rw [if_pos hc] at hf
      refine xm_aload_n hx hb (xvor _ _) dM_two1_102 rfl (lv_at hl 3 rfl) ?_
      obtain ⟨hg53, hf⟩ := xifn hf
      refine xm_vget (v := .int ((xpi st 0) (c2 - 1))) hx hb htx hown hK hP 0 (by decide) hg53 rfl ((hZ.1 (93, "kind", "I") (List.mem_of_getElem? (i := 0) rfl)).use rfl) rfl dM_two1_103 ?_
      refine lv_iconst (v := 4) hx hb dM_two1_106 (by decide) ?_
      refine lv_icmp_ne (tgt := 136) hx hb dM_two1_107 (by decide) (fun hc => ?_) (fun hc => ?_)
      · rw [if_neg hc] at hf
        refine xm_aload_n hx hb (xvor _ _) dM_two1_136 rfl (lv_at hl 2 rfl) ?_
        obtain rfl := Option.some.inj hf
        exact absurd (show (0 : Nat) = 2 from hkd) (by decide)
      · rw [if_pos hc] at hf
        refine lv_aload_n hx hb dM_two1_110 rfl (lv_at hl 0 rfl) ?_
        refine xm_aload_n hx hb (xvor _ _) dM_two1_111 rfl (lv_at hl 2 rfl) ?_
        refine xm_aload_n hx hb (xvor _ _) dM_two1_112 rfl (lv_at hl 3 rfl) ?_
        refine lv_iconst (v := 0) hx hb dM_two1_113 (by decide) ?_
        obtain ⟨o54, hq55, hf⟩ := xbind hf
        have hFc := xm_free hD hS hA
        refine va_calli (va_runV (C := "ValueBenchModel") (As := [xv vad c1, xv vad c2, .int 0]) (rest := []) ⟨hx, hb, hml, hown, htx⟩ (gM_begins l hl9 D cT aK aV s.heap.size n aM ad rd gd vad st c1 c2 (0 : Int32) o54 hq55) ⟨callB_of 3 htx (xw_goodC kw_7_95) rfl rfl rfl (htx _ kw_1_5) (htx _ kw_7_92) ⟨by decide, by decide, by decide +kernel⟩ ⟨Nat.le_of_ble_eq_true rfl, Nat.le_of_ble_eq_true rfl⟩, (htx _ kw_7_94), (htx _ kp_M_begins)⟩ ⟨xPre_blind, va_recv hK hP (ci := 5) rfl (q0 := 0) rfl, (fun U hU hW => ⟨rfl, xPre_of hZ hS hFc hP hD hK U hU hW⟩)⟩ rfl rfl hl.1 rfl (xm_room (Nat.le_of_ble_eq_true rfl)) dM_two1_114 ⟨Nat.zero_le _, Nat.zero_le _⟩) hS (fun q _ h => hFc q h) hFc (fun r56 u9 t H1 locs ht hvm hr9 hB hz1 hk1 hS => ?_)
        obtain ⟨hP1, hK1, hD1⟩ := hB
        rw [ht] at hP1
        have hP : va_P D xcl (xMw cT aM ad rd gd vad st []) H1 := hP1
        have hD : va_D A (xMw cT aM ad rd gd vad st []) := hD1.weaken (fun k q _ h => hFc q.1 h)
        generalize H1 = H at hP hS ⊢
        rw [hr9]
        refine W.eq (g2 := F0 m 117 ls [.int o54]) (by first | rfl | (skip; rfl)) ?_
        refine lv_if_eq (tgt := 136) hx hb dM_two1_117 (by decide) (fun hc => ?_) (fun hc => ?_)
        · rw [if_pos hc] at hf
          refine xm_aload_n hx hb (xvor _ _) dM_two1_136 rfl (lv_at hl 2 rfl) ?_
          obtain rfl := Option.some.inj hf
          exact absurd (show (0 : Nat) = 2 from hkd) (by decide)
        · rw [if_neg hc] at hf
          refine lv_aload_n hx hb dM_two1_120 rfl (lv_at hl 0 rfl) ?_
          refine xm_aload_n hx hb (xvor _ _) dM_two1_121 rfl (lv_at hl 2 rfl) ?_
          refine xm_aload_n hx hb (xvor _ _) dM_two1_122 rfl (lv_at hl 3 rfl) ?_
          refine xm_vget (v := .int ((xpi st 3) (c2 - 1))) hx hb htx hown hK hP 3 (by decide) hg53 rfl ((hZ.1 (103, "count", "I") (List.mem_of_getElem? (i := 3) rfl)).use rfl) rfl dM_two1_123 ?_
          refine xm_aload_n hx hb (xvor _ _) dM_two1_126 rfl (lv_at hl 2 rfl) ?_
          refine xm_vget (v := .int ((xpi st 3) (c1 - 1))) hx hb htx hown hK hP 3 (by decide) hg52 rfl ((hZ.1 (103, "count", "I") (List.mem_of_getElem? (i := 3) rfl)).use rfl) rfl dM_two1_127 ?_
          obtain ⟨o57, hq58, hf⟩ := xbind hf
          have hl := lv_sub (l' := [(0, .ref aM), (1, .int x0)]) hl [0, 1] rfl
          obtain ⟨hm59, hf⟩ := xmoE hf
          have hFc := xm_free hD hS hA
          refine va_callq (va_runV (C := "ValueBenchModel") (As := [xv vad c1, .int ((xpi st 3) (c2 - 1)), .int ((xpi st 3) (c1 - 1))]) (rest := []) ⟨hx, hb, hml, hown, htx⟩ (gM_piece l hl9 D cT aK aV H.size n aM ad rd gd vad st c1 ((xpi st 3) (c2 - 1)) ((xpi st 3) (c1 - 1)) o57 hq58) ⟨callB_of 3 htx (xw_goodC kw_6_233) rfl rfl rfl (htx _ kw_1_5) (htx _ kw_6_230) ⟨by decide, by decide, by decide +kernel⟩ ⟨Nat.le_of_ble_eq_true rfl, Nat.le_of_ble_eq_true rfl⟩, (htx _ kw_6_232), (htx _ kp_M_piece)⟩ ⟨xPre_blind, va_recv hK hP (ci := 5) rfl (q0 := 0) rfl, (fun U hU hW => ⟨rfl, xPre_of hZ hS hFc hP hD hK U hU hW⟩)⟩ rfl rfl hl.1 rfl (xm_room (Nat.le_of_ble_eq_true rfl)) dM_two1_130 ⟨hm59.1, hm59.2⟩) hS (fun q _ h => hFc q h) hFc (fun r60 u9 t H1 locs ht hvm hr9 hB hz1 hk1 hS => ?_)
          obtain ⟨hP1, hK1, hD1⟩ := hB
          rw [ht] at hP1
          obtain ⟨ad61, gd62, vad63⟩ := u9
          obtain ⟨hr9, hv64, hn65⟩ := hr9
          have hP : va_P D xcl (xMw cT aM ad61 rd gd62 vad63 o57.2.2.2 []) H1 := hP1
          have hD : va_D A (xMw cT aM ad61 rd gd62 vad63 o57.2.2.2 []) := hD1.weaken (fun k q _ h => hFc q.1 h)
          generalize H1 = H at hP hS ⊢
          have hE9 : ∀ p, p < xct st → vad63 p = vad p := fun p h => (hv64 p (Nat.lt_of_lt_of_le h hN)).trans (hE p h)
          have hE := hE9
          have hN : xct st ≤ xct o57.2.2.2 := Nat.le_trans hN hn65
          rw [hr9]
          refine W.eq (g2 := F0 m 133 ls [xv vad63 o57.2.2.1]) (by first | rfl | (skip; rfl)) ?_
          refine lv_goto (tgt := 137) hx hb dM_two1_133 (by decide) ?_
          obtain rfl := Option.some.inj hf
          exact absurd (show (0 : Nat) = 2 from hkd) (by decide)
  rw [if_neg hc51] at hf
  by_cases hc53 : x0 = 4
  · rw [if_pos hc53] at hf
    refine lv_tableIn (off := 137) (tgt := 138) hx hb dM_two1_1 (by rw [hc53]; decide) (by rw [hc53]; decide) (by rw [hc53]; decide) (by decide) ?_
    refine xm_aload_n hx hb (xvor _ _) dM_two1_138 rfl (lv_at hl 2 rfl) ?_
    obtain ⟨hg54, hf⟩ := xifn hf
    refine xm_vget (v := .int ((xpi st 0) (c1 - 1))) hx hb htx hown hK hP 0 (by decide) hg54 rfl ((hZ.1 (93, "kind", "I") (List.mem_of_getElem? (i := 0) rfl)).use rfl) rfl dM_two1_139 ?_
    refine lv_iconst (v := 4) hx hb dM_two1_142 (by decide) ?_
    refine lv_icmp_ne (tgt := 190) hx hb dM_two1_143 (by decide) (fun hc => ?_) (fun hc => ?_)
    · rw [if_neg hc] at hf
      refine xm_aload_n hx hb (xvor _ _) dM_two1_190 rfl (lv_at hl 2 rfl) ?_
      obtain rfl := Option.some.inj hf
      exact absurd (show (0 : Nat) = 2 from hkd) (by decide)
    · rw [if_pos hc] at hf
      refine xm_aload_n hx hb (xvor _ _) dM_two1_146 rfl (lv_at hl 3 rfl) ?_
      obtain ⟨hg55, hf⟩ := xifn hf
      refine xm_vget (v := .int ((xpi st 0) (c2 - 1))) hx hb htx hown hK hP 0 (by decide) hg55 rfl ((hZ.1 (93, "kind", "I") (List.mem_of_getElem? (i := 0) rfl)).use rfl) rfl dM_two1_147 ?_
      refine lv_iconst (v := 4) hx hb dM_two1_150 (by decide) ?_
      refine lv_icmp_ne (tgt := 190) hx hb dM_two1_151 (by decide) (fun hc => ?_) (fun hc => ?_)
      · rw [if_neg hc] at hf
        refine xm_aload_n hx hb (xvor _ _) dM_two1_190 rfl (lv_at hl 2 rfl) ?_
        obtain rfl := Option.some.inj hf
        exact absurd (show (0 : Nat) = 2 from hkd) (by decide)
      · rw [if_pos hc] at hf
        refine lv_aload_n hx hb dM_two1_154 rfl (lv_at hl 0 rfl) ?_
        refine xm_aload_n hx hb (xvor _ _) dM_two1_155 rfl (lv_at hl 2 rfl) ?_
        refine xm_aload_n hx hb (xvor _ _) dM_two1_156 rfl (lv_at hl 3 rfl) ?_
        refine xm_aload_n hx hb (xvor _ _) dM_two1_157 rfl (lv_at hl 2 rfl) ?_
        refine xm_vget (v := .int ((xpi st 3) (c1 - 1))) hx hb htx hown hK hP 3 (by decide) hg54 rfl ((hZ.1 (103, "count", "I") (List.mem_of_getElem? (i := 3) rfl)).use rfl) rfl dM_two1_158 ?_
        refine xm_aload_n hx hb (xvor _ _) dM_two1_161 rfl (lv_at hl 3 rfl) ?_
        refine xm_vget (v := .int ((xpi st 3) (c2 - 1))) hx hb htx hown hK hP 3 (by decide) hg55 rfl ((hZ.1 (103, "count", "I") (List.mem_of_getElem? (i := 3) rfl)).use rfl) rfl dM_two1_162 ?_
        refine lv_isub hx hb dM_two1_165 ?_
        obtain ⟨o56, hq57, hf⟩ := xbind hf
        have hFc := xm_free hD hS hA
        refine va_calli (va_runV (C := "ValueBenchModel") (As := [xv vad c1, xv vad c2, .int (((xpi st 3) (c1 - 1)) - ((xpi st 3) (c2 - 1)))]) (rest := []) ⟨hx, hb, hml, hown, htx⟩ (gM_begins l hl9 D cT aK aV s.heap.size n aM ad rd gd vad st c1 c2 (((xpi st 3) (c1 - 1)) - ((xpi st 3) (c2 - 1))) o56 hq57) ⟨callB_of 3 htx (xw_goodC kw_7_95) rfl rfl rfl (htx _ kw_1_5) (htx _ kw_7_92) ⟨by decide, by decide, by decide +kernel⟩ ⟨Nat.le_of_ble_eq_true rfl, Nat.le_of_ble_eq_true rfl⟩, (htx _ kw_7_94), (htx _ kp_M_begins)⟩ ⟨xPre_blind, va_recv hK hP (ci := 5) rfl (q0 := 0) rfl, (fun U hU hW => ⟨rfl, xPre_of hZ hS hFc hP hD hK U hU hW⟩)⟩ rfl rfl hl.1 rfl (xm_room (Nat.le_of_ble_eq_true rfl)) dM_two1_166 ⟨Nat.zero_le _, Nat.zero_le _⟩) hS (fun q _ h => hFc q h) hFc (fun r58 u9 t H1 locs ht hvm hr9 hB hz1 hk1 hS => ?_)
        obtain ⟨hP1, hK1, hD1⟩ := hB
        rw [ht] at hP1
        have hP : va_P D xcl (xMw cT aM ad rd gd vad st []) H1 := hP1
        have hD : va_D A (xMw cT aM ad rd gd vad st []) := hD1.weaken (fun k q _ h => hFc q.1 h)
        generalize H1 = H at hP hS ⊢
        rw [hr9]
        refine W.eq (g2 := F0 m 169 ls [.int o56]) (by first | rfl | (skip; rfl)) ?_
        refine lv_if_eq (tgt := 190) hx hb dM_two1_169 (by decide) (fun hc => ?_) (fun hc => ?_)
        · rw [if_pos hc] at hf
          refine xm_aload_n hx hb (xvor _ _) dM_two1_190 rfl (lv_at hl 2 rfl) ?_
          obtain rfl := Option.some.inj hf
          exact absurd (show (0 : Nat) = 2 from hkd) (by decide)
        · rw [if_neg hc] at hf
          refine lv_aload_n hx hb dM_two1_172 rfl (lv_at hl 0 rfl) ?_
          refine xm_aload_n hx hb (xvor _ _) dM_two1_173 rfl (lv_at hl 2 rfl) ?_
          refine lv_iconst (v := 0) hx hb dM_two1_174 (by decide) ?_
          refine xm_aload_n hx hb (xvor _ _) dM_two1_175 rfl (lv_at hl 2 rfl) ?_
          refine xm_vget (v := .int ((xpi st 3) (c1 - 1))) hx hb htx hown hK hP 3 (by decide) hg54 rfl ((hZ.1 (103, "count", "I") (List.mem_of_getElem? (i := 3) rfl)).use rfl) rfl dM_two1_176 ?_
          refine xm_aload_n hx hb (xvor _ _) dM_two1_179 rfl (lv_at hl 3 rfl) ?_
          refine xm_vget (v := .int ((xpi st 3) (c2 - 1))) hx hb htx hown hK hP 3 (by decide) hg55 rfl ((hZ.1 (103, "count", "I") (List.mem_of_getElem? (i := 3) rfl)).use rfl) rfl dM_two1_180 ?_
          refine lv_isub hx hb dM_two1_183 ?_
          obtain ⟨o59, hq60, hf⟩ := xbind hf
          have hl := lv_sub (l' := [(0, .ref aM), (1, .int x0)]) hl [0, 1] rfl
          obtain ⟨hm61, hf⟩ := xmoE hf
          have hFc := xm_free hD hS hA
          refine va_callq (va_runV (C := "ValueBenchModel") (As := [xv vad c1, .int 0, .int (((xpi st 3) (c1 - 1)) - ((xpi st 3) (c2 - 1)))]) (rest := []) ⟨hx, hb, hml, hown, htx⟩ (gM_piece l hl9 D cT aK aV H.size n aM ad rd gd vad st c1 (0 : Int32) (((xpi st 3) (c1 - 1)) - ((xpi st 3) (c2 - 1))) o59 hq60) ⟨callB_of 3 htx (xw_goodC kw_6_233) rfl rfl rfl (htx _ kw_1_5) (htx _ kw_6_230) ⟨by decide, by decide, by decide +kernel⟩ ⟨Nat.le_of_ble_eq_true rfl, Nat.le_of_ble_eq_true rfl⟩, (htx _ kw_6_232), (htx _ kp_M_piece)⟩ ⟨xPre_blind, va_recv hK hP (ci := 5) rfl (q0 := 0) rfl, (fun U hU hW => ⟨rfl, xPre_of hZ hS hFc hP hD hK U hU hW⟩)⟩ rfl rfl hl.1 rfl (xm_room (Nat.le_of_ble_eq_true rfl)) dM_two1_184 ⟨hm61.1, hm61.2⟩) hS (fun q _ h => hFc q h) hFc (fun r62 u9 t H1 locs ht hvm hr9 hB hz1 hk1 hS => ?_)
          obtain ⟨hP1, hK1, hD1⟩ := hB
          rw [ht] at hP1
          obtain ⟨ad63, gd64, vad65⟩ := u9
          obtain ⟨hr9, hv66, hn67⟩ := hr9
          have hP : va_P D xcl (xMw cT aM ad63 rd gd64 vad65 o59.2.2.2 []) H1 := hP1
          have hD : va_D A (xMw cT aM ad63 rd gd64 vad65 o59.2.2.2 []) := hD1.weaken (fun k q _ h => hFc q.1 h)
          generalize H1 = H at hP hS ⊢
          have hE9 : ∀ p, p < xct st → vad65 p = vad p := fun p h => (hv66 p (Nat.lt_of_lt_of_le h hN)).trans (hE p h)
          have hE := hE9
          have hN : xct st ≤ xct o59.2.2.2 := Nat.le_trans hN hn67
          rw [hr9]
          refine W.eq (g2 := F0 m 187 ls [xv vad65 o59.2.2.1]) (by first | rfl | (skip; rfl)) ?_
          refine lv_goto (tgt := 191) hx hb dM_two1_187 (by decide) ?_
          obtain rfl := Option.some.inj hf
          exact absurd (show (0 : Nat) = 2 from hkd) (by decide)
  rw [if_neg hc53] at hf
  by_cases hc55 : x0 = 5
  · rw [if_pos hc55] at hf
    refine lv_tableIn (off := 191) (tgt := 192) hx hb dM_two1_1 (by rw [hc55]; decide) (by rw [hc55]; decide) (by rw [hc55]; decide) (by decide) ?_
    refine lv_aload_n hx hb dM_two1_192 rfl (lv_at hl 0 rfl) ?_
    refine lv_aload_n hx hb dM_two1_193 rfl (lv_at hl 0 rfl) ?_
    refine lv_aload_n hx hb dM_two1_194 rfl (lv_at hl 0 rfl) ?_
    refine xm_aload_n hx hb (xvor _ _) dM_two1_195 rfl (lv_at hl 2 rfl) ?_
    obtain ⟨o56, hq57, hf⟩ := xbind hf
    have hl := lv_sub (l' := [(0, .ref aM), (1, .int x0), (3, xv vad c2)]) hl [0, 1, 3] rfl
    by_cases hk58 : o56.1 = 0
    · rw [if_pos hk58] at hf
      obtain ⟨hg59, hf⟩ := xifn hf
      obtain ⟨hm60, hf⟩ := xmoE hf
      have hFc := xm_free hD hS hA
      refine va_callq (va_runV (C := "ValueBenchModel") (As := [xv vad c1]) (rest := [.ref aM, .ref aM]) ⟨hx, hb, hml, hown, htx⟩ (gM_text l hl9 D cT aK aV s.heap.size n aM ad rd gd vad st c1 o56 hq57 hk58) ⟨callB_of 1 htx (xw_goodC kw_7_54) rfl rfl rfl (htx _ kw_1_5) (htx _ kw_7_51) ⟨by decide, by decide, by decide +kernel⟩ ⟨Nat.le_of_ble_eq_true rfl, Nat.le_of_ble_eq_true rfl⟩, (htx _ kw_7_53), (htx _ kp_M_text)⟩ ⟨xPre_blind, va_recv hK hP (ci := 5) rfl (q0 := 0) rfl, (fun U hU hW => ⟨rfl, xPre_of hZ hS hFc hP hD hK U hU hW⟩)⟩ rfl rfl hl.1 rfl (xm_room (Nat.le_of_ble_eq_true rfl)) dM_two1_196 ⟨hm60.1, hm60.2⟩) hS (fun q _ h => hFc q h) hFc (fun r61 u9 t H1 locs ht hvm hr9 hB hz1 hk1 hS => ?_)
      obtain ⟨hP1, hK1, hD1⟩ := hB
      rw [ht] at hP1
      obtain ⟨ad62, gd63, vad64⟩ := u9
      obtain ⟨hr9, hv65, hn66⟩ := hr9
      have hP : va_P D xcl (xMw cT aM ad62 rd gd63 vad64 o56.2.2.2.2 []) H1 := hP1
      have hD : va_D A (xMw cT aM ad62 rd gd63 vad64 o56.2.2.2.2 []) := hD1.weaken (fun k q _ h => hFc q.1 h)
      generalize H1 = H at hP hS ⊢
      have hE9 : ∀ p, p < xct st → vad64 p = vad p := fun p h => (hv65 p (Nat.lt_of_lt_of_le h hN)).trans (hE p h)
      have hE := hE9
      have hN : xct st ≤ xct o56.2.2.2.2 := Nat.le_trans hN hn66
      have ev67 : xv vad c2 = xv vad64 c2 := xvE hv65 hg59
      have hl : lv_has ls 4 [(0, .ref aM), (1, .int x0), (3, xv vad64 c2)] := by first | exact hl | ((try (rw [← ev67])); exact hl)
      rw [hr9]
      refine W.eq (g2 := F0 m 199 ls [xv vad64 o56.2.2.2.1, .ref aM, .ref aM]) (by first | rfl | ((try (rw [ev67])); rfl)) ?_
      refine lv_aload_n hx hb dM_two1_199 rfl (lv_at hl 0 rfl) ?_
      refine xm_aload_n hx hb (xvor _ _) dM_two1_200 rfl (lv_at hl 2 rfl) ?_
      obtain ⟨o68, hq69, hf⟩ := xbind hf
      have hl := lv_sub (l' := [(0, .ref aM), (1, .int x0)]) hl [0, 1] rfl
      by_cases hk70 : o68.1 = 0
      · rw [if_pos hk70] at hf
        obtain ⟨hg71, hf⟩ := xifn hf
        obtain ⟨hm72, hf⟩ := xmoE hf
        have hFc := xm_free hD hS hA
        refine va_callq (va_runV (C := "ValueBenchModel") (As := [xv vad64 c2]) (rest := [xv vad64 o56.2.2.2.1, .ref aM, .ref aM]) ⟨hx, hb, hml, hown, htx⟩ (gM_text l hl9 D cT aK aV H.size n aM ad62 rd gd63 vad64 o56.2.2.2.2 c2 o68 hq69 hk70) ⟨callB_of 1 htx (xw_goodC kw_7_54) rfl rfl rfl (htx _ kw_1_5) (htx _ kw_7_51) ⟨by decide, by decide, by decide +kernel⟩ ⟨Nat.le_of_ble_eq_true rfl, Nat.le_of_ble_eq_true rfl⟩, (htx _ kw_7_53), (htx _ kp_M_text)⟩ ⟨xPre_blind, va_recv hK hP (ci := 5) rfl (q0 := 0) rfl, (fun U hU hW => ⟨rfl, xPre_of hZ hS hFc hP hD hK U hU hW⟩)⟩ rfl rfl hl.1 rfl (xm_room (by simp [xvcat, xrscat, xcI, xcL, xcR, xcN])) dM_two1_201 ⟨hm72.1, hm72.2⟩) hS (fun q _ h => hFc q h) hFc (fun r73 u9 t H1 locs ht hvm hr9 hB hz1 hk1 hS => ?_)
        obtain ⟨hP1, hK1, hD1⟩ := hB
        rw [ht] at hP1
        obtain ⟨ad74, gd75, vad76⟩ := u9
        obtain ⟨hr9, hv77, hn78⟩ := hr9
        have hP : va_P D xcl (xMw cT aM ad74 rd gd75 vad76 o68.2.2.2.2 []) H1 := hP1
        have hD : va_D A (xMw cT aM ad74 rd gd75 vad76 o68.2.2.2.2 []) := hD1.weaken (fun k q _ h => hFc q.1 h)
        generalize H1 = H at hP hS ⊢
        have hE9 : ∀ p, p < xct st → vad76 p = vad p := fun p h => (hv77 p (Nat.lt_of_lt_of_le h hN)).trans (hE p h)
        have hE := hE9
        have hN : xct st ≤ xct o68.2.2.2.2 := Nat.le_trans hN hn78
        have ev79 : xv vad64 o56.2.2.2.1 = xv vad76 o56.2.2.2.1 := xvE hv77 hg71
        rw [hr9]
        refine W.eq (g2 := F0 m 204 ls [xv vad76 o68.2.2.2.1, xv vad76 o56.2.2.2.1, .ref aM, .ref aM]) (by first | rfl | ((try (rw [ev79])); rfl)) ?_
        refine lv_iconst (v := 0) hx hb dM_two1_204 (by decide) ?_
        obtain ⟨o80, hq81, hf⟩ := xbind hf
        have hFc := xm_free hD hS hA
        refine va_calli (va_runV (C := "ValueBenchModel") (As := [xv vad76 o56.2.2.2.1, xv vad76 o68.2.2.2.1, .int 0]) (rest := [.ref aM]) ⟨hx, hb, hml, hown, htx⟩ (gM_begins l hl9 D cT aK aV H.size n aM ad74 rd gd75 vad76 o68.2.2.2.2 o56.2.2.2.1 o68.2.2.2.1 (0 : Int32) o80 hq81) ⟨callB_of 3 htx (xw_goodC kw_7_95) rfl rfl rfl (htx _ kw_1_5) (htx _ kw_7_92) ⟨by decide, by decide, by decide +kernel⟩ ⟨Nat.le_of_ble_eq_true rfl, Nat.le_of_ble_eq_true rfl⟩, (htx _ kw_7_94), (htx _ kp_M_begins)⟩ ⟨xPre_blind, va_recv hK hP (ci := 5) rfl (q0 := 0) rfl, (fun U hU hW => ⟨rfl, xPre_of hZ hS hFc hP hD hK U hU hW⟩)⟩ rfl rfl hl.1 rfl (xm_room (Nat.le_of_ble_eq_true rfl)) dM_two1_205 ⟨hm72.1, hm72.2⟩) hS (fun q _ h => hFc q h) hFc (fun r82 u9 t H1 locs ht hvm hr9 hB hz1 hk1 hS => ?_)
        obtain ⟨hP1, hK1, hD1⟩ := hB
        rw [ht] at hP1
        have hP : va_P D xcl (xMw cT aM ad74 rd gd75 vad76 o68.2.2.2.2 []) H1 := hP1
        have hD : va_D A (xMw cT aM ad74 rd gd75 vad76 o68.2.2.2.2 []) := hD1.weaken (fun k q _ h => hFc q.1 h)
        generalize H1 = H at hP hS ⊢
        rw [hr9]
        refine W.eq (g2 := F0 m 208 ls [.int o80, .ref aM]) (by first | rfl | (skip; rfl)) ?_
        obtain ⟨o83, hq84, hf⟩ := xbind hf
        obtain ⟨hm85, hf⟩ := xmoE hf
        have hFc := xm_free hD hS hA
        refine va_callq (va_runV (C := "ValueBenchModel") (As := [.int o80]) (rest := []) ⟨hx, hb, hml, hown, htx⟩ (gM_truth l hl9 D cT aK aV H.size n aM ad74 rd gd75 vad76 o68.2.2.2.2 o80 o83 hq84) ⟨callB_of 1 htx (xw_goodC kw_7_5) rfl rfl rfl (htx _ kw_1_5) (htx _ kw_7_2) ⟨by decide, by decide, by decide +kernel⟩ ⟨Nat.le_of_ble_eq_true rfl, Nat.le_of_ble_eq_true rfl⟩, (htx _ kw_7_4), (htx _ kp_M_truth)⟩ ⟨xPre_blind, va_recv hK hP (ci := 5) rfl (q0 := 0) rfl, (fun U hU hW => ⟨rfl, xPre_of hZ hS hFc hP hD hK U hU hW⟩)⟩ rfl rfl hl.1 rfl (xm_room (Nat.le_of_ble_eq_true rfl)) dM_two1_208 ⟨hm85.1, hm85.2⟩) hS (fun q _ h => hFc q h) hFc (fun r86 u9 t H1 locs ht hvm hr9 hB hz1 hk1 hS => ?_)
        obtain ⟨hP1, hK1, hD1⟩ := hB
        rw [ht] at hP1
        obtain ⟨ad87, gd88, vad89⟩ := u9
        obtain ⟨hr9, hv90, hn91⟩ := hr9
        have hP : va_P D xcl (xMw cT aM ad87 rd gd88 vad89 o83.2.2.2 []) H1 := hP1
        have hD : va_D A (xMw cT aM ad87 rd gd88 vad89 o83.2.2.2 []) := hD1.weaken (fun k q _ h => hFc q.1 h)
        generalize H1 = H at hP hS ⊢
        have hE9 : ∀ p, p < xct st → vad89 p = vad p := fun p h => (hv90 p (Nat.lt_of_lt_of_le h hN)).trans (hE p h)
        have hE := hE9
        have hN : xct st ≤ xct o83.2.2.2 := Nat.le_trans hN hn91
        rw [hr9]
        refine W.eq (g2 := F0 m 211 ls [xv vad89 o83.2.2.1]) (by first | rfl | (skip; rfl)) ?_
        obtain rfl := Option.some.inj hf
        exact absurd (show (0 : Nat) = 2 from hkd) (by decide)
      rw [if_neg hk70] at hf
      by_cases hk92 : o68.1 = 1
      · rw [if_pos hk92] at hf
        obtain ⟨hm93, hf⟩ := xmoE hf
        obtain rfl := Option.some.inj hf
        exact absurd (show (1 : Nat) = 2 from hkd) (by decide)
      rw [if_neg hk92] at hf
      exact nomatch hf
    rw [if_neg hk58] at hf
    by_cases hk100 : o56.1 = 1
    · rw [if_pos hk100] at hf
      obtain ⟨hg101, hf⟩ := xifn hf
      obtain ⟨hm102, hf⟩ := xmoE hf
      obtain rfl := Option.some.inj hf
      exact absurd (show (1 : Nat) = 2 from hkd) (by decide)
    rw [if_neg hk100] at hf
    exact nomatch hf
  rw [if_neg hc55] at hf
  by_cases hc110 : x0 = 6
  · rw [if_pos hc110] at hf
    refine lv_tableIn (off := 211) (tgt := 212) hx hb dM_two1_1 (by rw [hc110]; decide) (by rw [hc110]; decide) (by rw [hc110]; decide) (by decide) ?_
    refine lv_aload_n hx hb dM_two1_212 rfl (lv_at hl 0 rfl) ?_
    refine lv_aload_n hx hb dM_two1_213 rfl (lv_at hl 0 rfl) ?_
    refine lv_aload_n hx hb dM_two1_214 rfl (lv_at hl 0 rfl) ?_
    refine xm_aload_n hx hb (xvor _ _) dM_two1_215 rfl (lv_at hl 2 rfl) ?_
    obtain ⟨o111, hq112, hf⟩ := xbind hf
    by_cases hk113 : o111.1 = 0
    · rw [if_pos hk113] at hf
      obtain ⟨hg114, hf⟩ := xifn hf
      obtain ⟨hg115, hf⟩ := xifn hf
      obtain ⟨hm116, hf⟩ := xmoE hf
      have hFc := xm_free hD hS hA
      refine va_callq (va_runV (C := "ValueBenchModel") (As := [xv vad c1]) (rest := [.ref aM, .ref aM]) ⟨hx, hb, hml, hown, htx⟩ (gM_text l hl9 D cT aK aV s.heap.size n aM ad rd gd vad st c1 o111 hq112 hk113) ⟨callB_of 1 htx (xw_goodC kw_7_54) rfl rfl rfl (htx _ kw_1_5) (htx _ kw_7_51) ⟨by decide, by decide, by decide +kernel⟩ ⟨Nat.le_of_ble_eq_true rfl, Nat.le_of_ble_eq_true rfl⟩, (htx _ kw_7_53), (htx _ kp_M_text)⟩ ⟨xPre_blind, va_recv hK hP (ci := 5) rfl (q0 := 0) rfl, (fun U hU hW => ⟨rfl, xPre_of hZ hS hFc hP hD hK U hU hW⟩)⟩ rfl rfl hl.1 rfl (xm_room (Nat.le_of_ble_eq_true rfl)) dM_two1_216 ⟨hm116.1, hm116.2⟩) hS (fun q _ h => hFc q h) hFc (fun r117 u9 t H1 locs ht hvm hr9 hB hz1 hk1 hS => ?_)
      obtain ⟨hP1, hK1, hD1⟩ := hB
      rw [ht] at hP1
      obtain ⟨ad118, gd119, vad120⟩ := u9
      obtain ⟨hr9, hv121, hn122⟩ := hr9
      have hP : va_P D xcl (xMw cT aM ad118 rd gd119 vad120 o111.2.2.2.2 []) H1 := hP1
      have hD : va_D A (xMw cT aM ad118 rd gd119 vad120 o111.2.2.2.2 []) := hD1.weaken (fun k q _ h => hFc q.1 h)
      generalize H1 = H at hP hS ⊢
      have hE9 : ∀ p, p < xct st → vad120 p = vad p := fun p h => (hv121 p (Nat.lt_of_lt_of_le h hN)).trans (hE p h)
      have hE := hE9
      have hN : xct st ≤ xct o111.2.2.2.2 := Nat.le_trans hN hn122
      have ev123 : xv vad c1 = xv vad120 c1 := xvE hv121 hg114
      have ev124 : xv vad c2 = xv vad120 c2 := xvE hv121 hg115
      have hl : lv_has ls 4 [(0, .ref aM), (1, .int x0), (2, xv vad120 c1), (3, xv vad120 c2)] := by first | exact hl | ((try (rw [← ev123])); (try (rw [← ev124])); exact hl)
      rw [hr9]
      refine W.eq (g2 := F0 m 219 ls [xv vad120 o111.2.2.2.1, .ref aM, .ref aM]) (by first | rfl | ((try (rw [ev123])); (try (rw [ev124])); rfl)) ?_
      refine lv_aload_n hx hb dM_two1_219 rfl (lv_at hl 0 rfl) ?_
      refine xm_aload_n hx hb (xvor _ _) dM_two1_220 rfl (lv_at hl 3 rfl) ?_
      obtain ⟨o125, hq126, hf⟩ := xbind hf
      by_cases hk127 : o125.1 = 0
      · rw [if_pos hk127] at hf
        obtain ⟨hg128, hf⟩ := xifn hf
        obtain ⟨hg129, hf⟩ := xifn hf
        obtain ⟨hg130, hf⟩ := xifn hf
        obtain ⟨hm131, hf⟩ := xmoE hf
        have hFc := xm_free hD hS hA
        refine va_callq (va_runV (C := "ValueBenchModel") (As := [xv vad120 c2]) (rest := [xv vad120 o111.2.2.2.1, .ref aM, .ref aM]) ⟨hx, hb, hml, hown, htx⟩ (gM_text l hl9 D cT aK aV H.size n aM ad118 rd gd119 vad120 o111.2.2.2.2 c2 o125 hq126 hk127) ⟨callB_of 1 htx (xw_goodC kw_7_54) rfl rfl rfl (htx _ kw_1_5) (htx _ kw_7_51) ⟨by decide, by decide, by decide +kernel⟩ ⟨Nat.le_of_ble_eq_true rfl, Nat.le_of_ble_eq_true rfl⟩, (htx _ kw_7_53), (htx _ kp_M_text)⟩ ⟨xPre_blind, va_recv hK hP (ci := 5) rfl (q0 := 0) rfl, (fun U hU hW => ⟨rfl, xPre_of hZ hS hFc hP hD hK U hU hW⟩)⟩ rfl rfl hl.1 rfl (xm_room (by simp [xvcat, xrscat, xcI, xcL, xcR, xcN])) dM_two1_221 ⟨hm131.1, hm131.2⟩) hS (fun q _ h => hFc q h) hFc (fun r132 u9 t H1 locs ht hvm hr9 hB hz1 hk1 hS => ?_)
        obtain ⟨hP1, hK1, hD1⟩ := hB
        rw [ht] at hP1
        obtain ⟨ad133, gd134, vad135⟩ := u9
        obtain ⟨hr9, hv136, hn137⟩ := hr9
        have hP : va_P D xcl (xMw cT aM ad133 rd gd134 vad135 o125.2.2.2.2 []) H1 := hP1
        have hD : va_D A (xMw cT aM ad133 rd gd134 vad135 o125.2.2.2.2 []) := hD1.weaken (fun k q _ h => hFc q.1 h)
        generalize H1 = H at hP hS ⊢
        have hE9 : ∀ p, p < xct st → vad135 p = vad p := fun p h => (hv136 p (Nat.lt_of_lt_of_le h hN)).trans (hE p h)
        have hE := hE9
        have hN : xct st ≤ xct o125.2.2.2.2 := Nat.le_trans hN hn137
        have ev138 : xv vad120 c1 = xv vad135 c1 := xvE hv136 hg128
        have ev139 : xv vad120 c2 = xv vad135 c2 := xvE hv136 hg129
        have ev140 : xv vad120 o111.2.2.2.1 = xv vad135 o111.2.2.2.1 := xvE hv136 hg130
        have hl : lv_has ls 4 [(0, .ref aM), (1, .int x0), (2, xv vad135 c1), (3, xv vad135 c2)] := by first | exact hl | ((try (rw [← ev138])); (try (rw [← ev139])); (try (rw [← ev140])); exact hl)
        rw [hr9]
        refine W.eq (g2 := F0 m 224 ls [xv vad135 o125.2.2.2.1, xv vad135 o111.2.2.2.1, .ref aM, .ref aM]) (by first | rfl | ((try (rw [ev138])); (try (rw [ev139])); (try (rw [ev140])); rfl)) ?_
        refine xm_aload_n hx hb (xvor _ _) dM_two1_224 rfl (lv_at hl 2 rfl) ?_
        obtain ⟨hg141, hf⟩ := xifn hf
        refine xm_vget (v := .int ((xpi o125.2.2.2.2 3) (c1 - 1))) hx hb htx hown hK hP 3 (by decide) hg141 rfl ((hZ.1 (103, "count", "I") (List.mem_of_getElem? (i := 3) rfl)).use rfl) rfl dM_two1_225 ?_
        refine xm_aload_n hx hb (xvor _ _) dM_two1_228 rfl (lv_at hl 3 rfl) ?_
        obtain ⟨hg142, hf⟩ := xifn hf
        refine xm_vget (v := .int ((xpi o125.2.2.2.2 3) (c2 - 1))) hx hb htx hown hK hP 3 (by decide) hg142 rfl ((hZ.1 (103, "count", "I") (List.mem_of_getElem? (i := 3) rfl)).use rfl) rfl dM_two1_229 ?_
        refine lv_isub hx hb dM_two1_232 ?_
        obtain ⟨o143, hq144, hf⟩ := xbind hf
        have hl := lv_sub (l' := [(0, .ref aM), (1, .int x0)]) hl [0, 1] rfl
        have hFc := xm_free hD hS hA
        refine va_calli (va_runV (C := "ValueBenchModel") (As := [xv vad135 o111.2.2.2.1, xv vad135 o125.2.2.2.1, .int (((xpi o125.2.2.2.2 3) (c1 - 1)) - ((xpi o125.2.2.2.2 3) (c2 - 1)))]) (rest := [.ref aM]) ⟨hx, hb, hml, hown, htx⟩ (gM_begins l hl9 D cT aK aV H.size n aM ad133 rd gd134 vad135 o125.2.2.2.2 o111.2.2.2.1 o125.2.2.2.1 (((xpi o125.2.2.2.2 3) (c1 - 1)) - ((xpi o125.2.2.2.2 3) (c2 - 1))) o143 hq144) ⟨callB_of 3 htx (xw_goodC kw_7_95) rfl rfl rfl (htx _ kw_1_5) (htx _ kw_7_92) ⟨by decide, by decide, by decide +kernel⟩ ⟨Nat.le_of_ble_eq_true rfl, Nat.le_of_ble_eq_true rfl⟩, (htx _ kw_7_94), (htx _ kp_M_begins)⟩ ⟨xPre_blind, va_recv hK hP (ci := 5) rfl (q0 := 0) rfl, (fun U hU hW => ⟨rfl, xPre_of hZ hS hFc hP hD hK U hU hW⟩)⟩ rfl rfl hl.1 rfl (xm_room (Nat.le_of_ble_eq_true rfl)) dM_two1_233 ⟨hm131.1, hm131.2⟩) hS (fun q _ h => hFc q h) hFc (fun r145 u9 t H1 locs ht hvm hr9 hB hz1 hk1 hS => ?_)
        obtain ⟨hP1, hK1, hD1⟩ := hB
        rw [ht] at hP1
        have hP : va_P D xcl (xMw cT aM ad133 rd gd134 vad135 o125.2.2.2.2 []) H1 := hP1
        have hD : va_D A (xMw cT aM ad133 rd gd134 vad135 o125.2.2.2.2 []) := hD1.weaken (fun k q _ h => hFc q.1 h)
        generalize H1 = H at hP hS ⊢
        rw [hr9]
        refine W.eq (g2 := F0 m 236 ls [.int o143, .ref aM]) (by first | rfl | (skip; rfl)) ?_
        obtain ⟨o146, hq147, hf⟩ := xbind hf
        obtain ⟨hm148, hf⟩ := xmoE hf
        have hFc := xm_free hD hS hA
        refine va_callq (va_runV (C := "ValueBenchModel") (As := [.int o143]) (rest := []) ⟨hx, hb, hml, hown, htx⟩ (gM_truth l hl9 D cT aK aV H.size n aM ad133 rd gd134 vad135 o125.2.2.2.2 o143 o146 hq147) ⟨callB_of 1 htx (xw_goodC kw_7_5) rfl rfl rfl (htx _ kw_1_5) (htx _ kw_7_2) ⟨by decide, by decide, by decide +kernel⟩ ⟨Nat.le_of_ble_eq_true rfl, Nat.le_of_ble_eq_true rfl⟩, (htx _ kw_7_4), (htx _ kp_M_truth)⟩ ⟨xPre_blind, va_recv hK hP (ci := 5) rfl (q0 := 0) rfl, (fun U hU hW => ⟨rfl, xPre_of hZ hS hFc hP hD hK U hU hW⟩)⟩ rfl rfl hl.1 rfl (xm_room (Nat.le_of_ble_eq_true rfl)) dM_two1_236 ⟨hm148.1, hm148.2⟩) hS (fun q _ h => hFc q h) hFc (fun r149 u9 t H1 locs ht hvm hr9 hB hz1 hk1 hS => ?_)
        obtain ⟨hP1, hK1, hD1⟩ := hB
        rw [ht] at hP1
        obtain ⟨ad150, gd151, vad152⟩ := u9
        obtain ⟨hr9, hv153, hn154⟩ := hr9
        have hP : va_P D xcl (xMw cT aM ad150 rd gd151 vad152 o146.2.2.2 []) H1 := hP1
        have hD : va_D A (xMw cT aM ad150 rd gd151 vad152 o146.2.2.2 []) := hD1.weaken (fun k q _ h => hFc q.1 h)
        generalize H1 = H at hP hS ⊢
        have hE9 : ∀ p, p < xct st → vad152 p = vad p := fun p h => (hv153 p (Nat.lt_of_lt_of_le h hN)).trans (hE p h)
        have hE := hE9
        have hN : xct st ≤ xct o146.2.2.2 := Nat.le_trans hN hn154
        rw [hr9]
        refine W.eq (g2 := F0 m 239 ls [xv vad152 o146.2.2.1]) (by first | rfl | (skip; rfl)) ?_
        obtain rfl := Option.some.inj hf
        exact absurd (show (0 : Nat) = 2 from hkd) (by decide)
      rw [if_neg hk127] at hf
      by_cases hk155 : o125.1 = 1
      · rw [if_pos hk155] at hf
        obtain ⟨hg156, hf⟩ := xifn hf
        obtain ⟨hg157, hf⟩ := xifn hf
        obtain ⟨hm158, hf⟩ := xmoE hf
        obtain rfl := Option.some.inj hf
        exact absurd (show (1 : Nat) = 2 from hkd) (by decide)
      rw [if_neg hk155] at hf
      exact nomatch hf
    rw [if_neg hk113] at hf
    by_cases hk167 : o111.1 = 1
    · rw [if_pos hk167] at hf
      obtain ⟨hg168, hf⟩ := xifn hf
      obtain ⟨hg169, hf⟩ := xifn hf
      obtain ⟨hm170, hf⟩ := xmoE hf
      obtain rfl := Option.some.inj hf
      exact absurd (show (1 : Nat) = 2 from hkd) (by decide)
    rw [if_neg hk167] at hf
    exact nomatch hf
  rw [if_neg hc110] at hf
  by_cases hc179 : x0 = 7
  · rw [if_pos hc179] at hf
    refine lv_tableIn (off := 239) (tgt := 240) hx hb dM_two1_1 (by rw [hc179]; decide) (by rw [hc179]; decide) (by rw [hc179]; decide) (by decide) ?_
    refine lv_aload_n hx hb dM_two1_240 rfl (lv_at hl 0 rfl) ?_
    refine xm_aload_n hx hb (xvor _ _) dM_two1_241 rfl (lv_at hl 2 rfl) ?_
    refine xm_aload_n hx hb (xvor _ _) dM_two1_242 rfl (lv_at hl 3 rfl) ?_
    obtain ⟨o180, hq181, hf⟩ := xbind hf
    have hl := lv_sub (l' := [(0, .ref aM), (1, .int x0)]) hl [0, 1] rfl
    by_cases hk182 : o180.1 = 0
    · rw [if_pos hk182] at hf
      obtain ⟨hm183, hf⟩ := xmoE hf
      have hFc := xm_free hD hS hA
      refine va_callq (va_runV (C := "ValueBenchModel") (As := [xv vad c1, xv vad c2]) (rest := []) ⟨hx, hb, hml, hown, htx⟩ (gM_indices l hl9 D cT aK aV s.heap.size d n aM ad rd gd vad st c1 c2 o180 hq181 hk182) ⟨callB_of 2 htx (xw_goodC kw_7_103) rfl rfl rfl (htx _ kw_1_5) (htx _ kw_7_100) ⟨by decide, by decide, by decide +kernel⟩ ⟨(by show (16 * d + 8) + 1 ≤ 16 * d + 10; omega), (by show 8 + (9 + 11) + (400 * d + 147) ≤ 400 * d + 199; omega)⟩, (htx _ kw_7_102), (htx _ kp_M_indices)⟩ ⟨xPre_blind, va_recv hK hP (ci := 5) rfl (q0 := 0) rfl, (fun U hU hW => ⟨rfl, xPre_of hZ hS hFc hP hD hK U hU hW⟩)⟩ rfl rfl hl.1 rfl (xm_room (Nat.le_of_ble_eq_true rfl)) dM_two1_243 ⟨hm183.1, hm183.2⟩) hS (fun q _ h => hFc q h) hFc (fun r184 u9 t H1 locs ht hvm hr9 hB hz1 hk1 hS => ?_)
      obtain ⟨hP1, hK1, hD1⟩ := hB
      rw [ht] at hP1
      obtain ⟨ad185, gd186, vad187⟩ := u9
      obtain ⟨hr9, hv188, hn189⟩ := hr9
      have hP : va_P D xcl (xMw cT aM ad185 rd gd186 vad187 o180.2.2.2.2 []) H1 := hP1
      have hD : va_D A (xMw cT aM ad185 rd gd186 vad187 o180.2.2.2.2 []) := hD1.weaken (fun k q _ h => hFc q.1 h)
      generalize H1 = H at hP hS ⊢
      have hE9 : ∀ p, p < xct st → vad187 p = vad p := fun p h => (hv188 p (Nat.lt_of_lt_of_le h hN)).trans (hE p h)
      have hE := hE9
      have hN : xct st ≤ xct o180.2.2.2.2 := Nat.le_trans hN hn189
      rw [hr9]
      refine W.eq (g2 := F0 m 246 ls [xv vad187 o180.2.2.2.1]) (by first | rfl | (skip; rfl)) ?_
      obtain rfl := Option.some.inj hf
      exact absurd (show (0 : Nat) = 2 from hkd) (by decide)
    rw [if_neg hk182] at hf
    by_cases hk190 : o180.1 = 1
    · rw [if_pos hk190] at hf
      obtain ⟨hm191, hf⟩ := xmoE hf
      obtain rfl := Option.some.inj hf
      exact absurd (show (1 : Nat) = 2 from hkd) (by decide)
    rw [if_neg hk190] at hf
    by_cases hk198 : o180.1 = 2
    · rw [if_pos hk198] at hf
      obtain ⟨hm199, hf⟩ := xmoE hf
      have hFc := xm_free hD hS hA
      refine xx_thr (vx_runV (C := "ValueBenchModel") (As := [xv vad c1, xv vad c2]) (rest := []) ⟨hx, hb, hml, hown, htx⟩ (gM_indices_2 l hl9 D cT aK aV s.heap.size d n aM ad rd gd vad st c1 c2 o180 hq181 hk198) ⟨callB_of 2 htx (xw_goodC kw_7_103) rfl rfl rfl (htx _ kw_1_5) (htx _ kw_7_100) ⟨by decide, by decide, by decide +kernel⟩ ⟨(by show (16 * d + 8) + 1 ≤ 16 * d + 10; omega), (by show 8 + (9 + 11) + (400 * d + 147) ≤ 400 * d + 199; omega)⟩, (htx _ kw_7_102), (htx _ kp_M_indices)⟩ ⟨xPre_blind, va_recv hK hP (ci := 5) rfl (q0 := 0) rfl, (fun U hU hW => ⟨rfl, xPre_of hZ hS hFc hP hD hK U hU hW⟩)⟩ rfl rfl hl.1 rfl (xm_room (Nat.le_of_ble_eq_true rfl)) dM_two1_243 ⟨hm199.1, hm199.2⟩) hS hFc (fun q _ h => hFc q h) (fun E ce q9 u9 t H1 locs ht hvm hr9 hB hz1 hk1 hS hce hcv hcl => ?_)
      obtain ⟨rfl, hP1, hK1, hD1⟩ := hB
      rw [ht] at hP1
      obtain ⟨ad201, gd202, vad203⟩ := u9
      obtain ⟨hv204, hn205⟩ := hr9
      have hP : va_P D xcl (xMw cT aM ad201 rd gd202 vad203 o180.2.2.2.2 []) H1 := hP1
      have hD : va_D A (xMw cT aM ad201 rd gd202 vad203 o180.2.2.2.2 []) := hD1.weaken (fun k q _ h => hFc q.1 h)
      generalize H1 = H at hP hS hce ⊢
      have hE9 : ∀ p, p < xct st → vad203 p = vad p := fun p h => (hv204 p (Nat.lt_of_lt_of_le h hN)).trans (hE p h)
      have hE := hE9
      have hN : xct st ≤ xct o180.2.2.2.2 := Nat.le_trans hN hn205
      obtain rfl := Option.some.inj hf
      exact vx_out (E := "java/lang/IndexOutOfBoundsException") (fun x h => (hne x h).elim) hlocks hce hcv hcl (fun t ht ha => ⟨(ad201, gd202, vad203), ⟨hE, hN⟩, ⟨rfl, by rw [ht]; exact hP, va_K.moved ha hK, hD⟩, hS.F ht⟩) hS.2.2 (Nat.le_refl _) (Nat.le_refl _)
    rw [if_neg hk198] at hf
    exact nomatch hf
  rw [if_neg hc179] at hf
  by_cases hc206 : x0 = 8
  · rw [if_pos hc206] at hf
    refine lv_tableIn (off := 246) (tgt := 247) hx hb dM_two1_1 (by rw [hc206]; decide) (by rw [hc206]; decide) (by rw [hc206]; decide) (by decide) ?_
    refine lv_aload_n hx hb dM_two1_247 rfl (lv_at hl 0 rfl) ?_
    refine xm_aload_n hx hb (xvor _ _) dM_two1_248 rfl (lv_at hl 2 rfl) ?_
    refine xm_aload_n hx hb (xvor _ _) dM_two1_249 rfl (lv_at hl 3 rfl) ?_
    obtain ⟨o207, hq208, hf⟩ := xbind hf
    have hl := lv_sub (l' := [(0, .ref aM), (1, .int x0)]) hl [0, 1] rfl
    by_cases hk209 : o207.1 = 0
    · rw [if_pos hk209] at hf
      obtain ⟨hm210, hf⟩ := xmoE hf
      have hFc := xm_free hD hS hA
      refine va_callq (va_runV (C := "ValueBenchModel") (As := [xv vad c1, xv vad c2]) (rest := []) ⟨hx, hb, hml, hown, htx⟩ (gM_flatten l hl9 D cT aK aV s.heap.size d n aM ad rd gd vad st c1 c2 o207 hq208 hk209) ⟨callB_of 2 htx (xw_goodC kw_7_107) rfl rfl rfl (htx _ kw_1_5) (htx _ kw_7_104) ⟨by decide, by decide, by decide +kernel⟩ ⟨(by show (16 * d + 8) + 1 ≤ 16 * d + 10; omega), (by show 8 + (4 + 11) + (400 * d + 147) ≤ 400 * d + 199; omega)⟩, (htx _ kw_7_106), (htx _ kp_M_flatten)⟩ ⟨xPre_blind, va_recv hK hP (ci := 5) rfl (q0 := 0) rfl, (fun U hU hW => ⟨rfl, xPre_of hZ hS hFc hP hD hK U hU hW⟩)⟩ rfl rfl hl.1 rfl (xm_room (Nat.le_of_ble_eq_true rfl)) dM_two1_250 ⟨hm210.1, hm210.2⟩) hS (fun q _ h => hFc q h) hFc (fun r211 u9 t H1 locs ht hvm hr9 hB hz1 hk1 hS => ?_)
      obtain ⟨hP1, hK1, hD1⟩ := hB
      rw [ht] at hP1
      obtain ⟨ad212, gd213, vad214⟩ := u9
      obtain ⟨hr9, hv215, hn216⟩ := hr9
      have hP : va_P D xcl (xMw cT aM ad212 rd gd213 vad214 o207.2.2.2.2 []) H1 := hP1
      have hD : va_D A (xMw cT aM ad212 rd gd213 vad214 o207.2.2.2.2 []) := hD1.weaken (fun k q _ h => hFc q.1 h)
      generalize H1 = H at hP hS ⊢
      have hE9 : ∀ p, p < xct st → vad214 p = vad p := fun p h => (hv215 p (Nat.lt_of_lt_of_le h hN)).trans (hE p h)
      have hE := hE9
      have hN : xct st ≤ xct o207.2.2.2.2 := Nat.le_trans hN hn216
      rw [hr9]
      refine W.eq (g2 := F0 m 253 ls [xv vad214 o207.2.2.2.1]) (by first | rfl | (skip; rfl)) ?_
      obtain rfl := Option.some.inj hf
      exact absurd (show (0 : Nat) = 2 from hkd) (by decide)
    rw [if_neg hk209] at hf
    by_cases hk217 : o207.1 = 1
    · rw [if_pos hk217] at hf
      obtain ⟨hm218, hf⟩ := xmoE hf
      obtain rfl := Option.some.inj hf
      exact absurd (show (1 : Nat) = 2 from hkd) (by decide)
    rw [if_neg hk217] at hf
    by_cases hk225 : o207.1 = 2
    · rw [if_pos hk225] at hf
      obtain ⟨hm226, hf⟩ := xmoE hf
      have hFc := xm_free hD hS hA
      refine xx_thr (vx_runV (C := "ValueBenchModel") (As := [xv vad c1, xv vad c2]) (rest := []) ⟨hx, hb, hml, hown, htx⟩ (gM_flatten_2 l hl9 D cT aK aV s.heap.size d n aM ad rd gd vad st c1 c2 o207 hq208 hk225) ⟨callB_of 2 htx (xw_goodC kw_7_107) rfl rfl rfl (htx _ kw_1_5) (htx _ kw_7_104) ⟨by decide, by decide, by decide +kernel⟩ ⟨(by show (16 * d + 8) + 1 ≤ 16 * d + 10; omega), (by show 8 + (4 + 11) + (400 * d + 147) ≤ 400 * d + 199; omega)⟩, (htx _ kw_7_106), (htx _ kp_M_flatten)⟩ ⟨xPre_blind, va_recv hK hP (ci := 5) rfl (q0 := 0) rfl, (fun U hU hW => ⟨rfl, xPre_of hZ hS hFc hP hD hK U hU hW⟩)⟩ rfl rfl hl.1 rfl (xm_room (Nat.le_of_ble_eq_true rfl)) dM_two1_250 ⟨hm226.1, hm226.2⟩) hS hFc (fun q _ h => hFc q h) (fun E ce q9 u9 t H1 locs ht hvm hr9 hB hz1 hk1 hS hce hcv hcl => ?_)
      obtain ⟨rfl, hP1, hK1, hD1⟩ := hB
      rw [ht] at hP1
      obtain ⟨ad228, gd229, vad230⟩ := u9
      obtain ⟨hv231, hn232⟩ := hr9
      have hP : va_P D xcl (xMw cT aM ad228 rd gd229 vad230 o207.2.2.2.2 []) H1 := hP1
      have hD : va_D A (xMw cT aM ad228 rd gd229 vad230 o207.2.2.2.2 []) := hD1.weaken (fun k q _ h => hFc q.1 h)
      generalize H1 = H at hP hS hce ⊢
      have hE9 : ∀ p, p < xct st → vad230 p = vad p := fun p h => (hv231 p (Nat.lt_of_lt_of_le h hN)).trans (hE p h)
      have hE := hE9
      have hN : xct st ≤ xct o207.2.2.2.2 := Nat.le_trans hN hn232
      obtain rfl := Option.some.inj hf
      exact vx_out (E := "java/lang/IndexOutOfBoundsException") (fun x h => (hne x h).elim) hlocks hce hcv hcl (fun t ht ha => ⟨(ad228, gd229, vad230), ⟨hE, hN⟩, ⟨rfl, by rw [ht]; exact hP, va_K.moved ha hK, hD⟩, hS.F ht⟩) hS.2.2 (Nat.le_refl _) (Nat.le_refl _)
    rw [if_neg hk225] at hf
    exact nomatch hf
  rw [if_neg hc206] at hf
  refine lv_tableOut (tgt := 254) hx hb dM_two1_1 (by have e0 : x0.toInt ≠ 0 := xsw hc1 (by decide); have e1 : x0.toInt ≠ 1 := xsw hc20 (by decide); have e2 : x0.toInt ≠ 2 := xsw hc24 (by decide); have e3 : x0.toInt ≠ 3 := xsw hc51 (by decide); have e4 : x0.toInt ≠ 4 := xsw hc53 (by decide); have e5 : x0.toInt ≠ 5 := xsw hc55 (by decide); have e6 : x0.toInt ≠ 6 := xsw hc110 (by decide); have e7 : x0.toInt ≠ 7 := xsw hc179 (by decide); have e8 : x0.toInt ≠ 8 := xsw hc206 (by decide); omega) (by decide) ?_
  refine lv_aload_n hx hb dM_two1_254 rfl (lv_at hl 0 rfl) ?_
  refine xm_aload_n hx hb (xvor _ _) dM_two1_255 rfl (lv_at hl 2 rfl) ?_
  refine xm_aload_n hx hb (xvor _ _) dM_two1_256 rfl (lv_at hl 3 rfl) ?_
  obtain ⟨o233, hq234, hf⟩ := xbind hf
  have hl := lv_sub (l' := [(0, .ref aM), (1, .int x0)]) hl [0, 1] rfl
  by_cases hk235 : o233.1 = 0
  · rw [if_pos hk235] at hf
    obtain ⟨hm236, hf⟩ := xmoE hf
    have hFc := xm_free hD hS hA
    refine va_callq (va_runV (C := "ValueBenchModel") (As := [xv vad c1, xv vad c2]) (rest := []) ⟨hx, hb, hml, hown, htx⟩ (gM_at l hl9 D cT aK aV s.heap.size d n aM ad rd gd vad st c1 c2 o233 hq234 hk235) ⟨callB_of 2 htx (xw_goodC kw_7_115) rfl rfl rfl (htx _ kw_1_5) (htx _ kw_7_112) ⟨by decide, by decide, by decide +kernel⟩ ⟨(by show (16 * d + 9) + 1 ≤ 16 * d + 10; omega), (by show 8 + (5 + 11) + (400 * d + 175) ≤ 400 * d + 199; omega)⟩, (htx _ kw_7_114), (htx _ kp_M_at)⟩ ⟨xPre_blind, va_recv hK hP (ci := 5) rfl (q0 := 0) rfl, (fun U hU hW => ⟨rfl, xPre_of hZ hS hFc hP hD hK U hU hW⟩)⟩ rfl rfl hl.1 rfl (xm_room (Nat.le_of_ble_eq_true rfl)) dM_two1_257 ⟨hm236.1, hm236.2⟩) hS (fun q _ h => hFc q h) hFc (fun r237 u9 t H1 locs ht hvm hr9 hB hz1 hk1 hS => ?_)
    obtain ⟨hP1, hK1, hD1⟩ := hB
    rw [ht] at hP1
    obtain ⟨ad238, gd239, vad240⟩ := u9
    obtain ⟨hr9, hv241, hn242⟩ := hr9
    have hP : va_P D xcl (xMw cT aM ad238 rd gd239 vad240 o233.2.2.2.2 []) H1 := hP1
    have hD : va_D A (xMw cT aM ad238 rd gd239 vad240 o233.2.2.2.2 []) := hD1.weaken (fun k q _ h => hFc q.1 h)
    generalize H1 = H at hP hS ⊢
    have hE9 : ∀ p, p < xct st → vad240 p = vad p := fun p h => (hv241 p (Nat.lt_of_lt_of_le h hN)).trans (hE p h)
    have hE := hE9
    have hN : xct st ≤ xct o233.2.2.2.2 := Nat.le_trans hN hn242
    rw [hr9]
    refine W.eq (g2 := F0 m 260 ls [xv vad240 o233.2.2.2.1]) (by first | rfl | (skip; rfl)) ?_
    obtain rfl := Option.some.inj hf
    exact absurd (show (0 : Nat) = 2 from hkd) (by decide)
  rw [if_neg hk235] at hf
  by_cases hk243 : o233.1 = 1
  · rw [if_pos hk243] at hf
    obtain ⟨hm244, hf⟩ := xmoE hf
    obtain rfl := Option.some.inj hf
    exact absurd (show (1 : Nat) = 2 from hkd) (by decide)
  rw [if_neg hk243] at hf
  by_cases hk251 : o233.1 = 2
  · rw [if_pos hk251] at hf
    obtain ⟨hm252, hf⟩ := xmoE hf
    have hFc := xm_free hD hS hA
    refine xx_thr (vx_runV (C := "ValueBenchModel") (As := [xv vad c1, xv vad c2]) (rest := []) ⟨hx, hb, hml, hown, htx⟩ (gM_at_2 l hl9 D cT aK aV s.heap.size d n aM ad rd gd vad st c1 c2 o233 hq234 hk251) ⟨callB_of 2 htx (xw_goodC kw_7_115) rfl rfl rfl (htx _ kw_1_5) (htx _ kw_7_112) ⟨by decide, by decide, by decide +kernel⟩ ⟨(by show (16 * d + 9) + 1 ≤ 16 * d + 10; omega), (by show 8 + (5 + 11) + (400 * d + 175) ≤ 400 * d + 199; omega)⟩, (htx _ kw_7_114), (htx _ kp_M_at)⟩ ⟨xPre_blind, va_recv hK hP (ci := 5) rfl (q0 := 0) rfl, (fun U hU hW => ⟨rfl, xPre_of hZ hS hFc hP hD hK U hU hW⟩)⟩ rfl rfl hl.1 rfl (xm_room (Nat.le_of_ble_eq_true rfl)) dM_two1_257 ⟨hm252.1, hm252.2⟩) hS hFc (fun q _ h => hFc q h) (fun E ce q9 u9 t H1 locs ht hvm hr9 hB hz1 hk1 hS hce hcv hcl => ?_)
    obtain ⟨rfl, hP1, hK1, hD1⟩ := hB
    rw [ht] at hP1
    obtain ⟨ad254, gd255, vad256⟩ := u9
    obtain ⟨hv257, hn258⟩ := hr9
    have hP : va_P D xcl (xMw cT aM ad254 rd gd255 vad256 o233.2.2.2.2 []) H1 := hP1
    have hD : va_D A (xMw cT aM ad254 rd gd255 vad256 o233.2.2.2.2 []) := hD1.weaken (fun k q _ h => hFc q.1 h)
    generalize H1 = H at hP hS hce ⊢
    have hE9 : ∀ p, p < xct st → vad256 p = vad p := fun p h => (hv257 p (Nat.lt_of_lt_of_le h hN)).trans (hE p h)
    have hE := hE9
    have hN : xct st ≤ xct o233.2.2.2.2 := Nat.le_trans hN hn258
    obtain rfl := Option.some.inj hf
    exact vx_out (E := "java/lang/IndexOutOfBoundsException") (fun x h => (hne x h).elim) hlocks hce hcv hcl (fun t ht ha => ⟨(ad254, gd255, vad256), ⟨hE, hN⟩, ⟨rfl, by rw [ht]; exact hP, va_K.moved ha hK, hD⟩, hS.F ht⟩) hS.2.2 (Nat.le_refl _) (Nat.le_refl _)
  rw [if_neg hk251] at hf
  exact nomatch hf
