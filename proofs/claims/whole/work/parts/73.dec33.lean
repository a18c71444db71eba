set_option maxHeartbeats 400000000 in
set_option maxRecDepth 100000 in
theorem gM_added_1 (l : Launch) (hl9 : l.stackTraces = false) (D : va_G) (cT : Nat → ClassId) (aK aV : Nat → Nat) (sz n : Nat) (aM : Nat) (ad rd gd vad : Nat → Nat) (st : xS) (c0 : Nat) (c1 : Nat) (out : Nat × Nat × Nat × Nat × xS) (hf : fM_added n st c0 c1 = some out) (hkd : out.1 = 1) : xMetY l yM_added wyM_added 8 out.2.1 out.2.2.1 147 D cT aK aV sz [.ref aM, xv vad c0, xv vad c1] (xMw cT aM ad rd gd vad st []) "java/lang/ArithmeticException" (fun u => xE vad st out.2.2.2.2 u) (fun A u t => xB D xcl cT A (xMw cT aM u.1 rd u.2.1 u.2.2 out.2.2.2.2 []) t) := by
  refine vx_ofW (cc := prog_13_method_49_code) (maxL := 6) (ret := (some (.object "ValueBenchModel$V"))) (by decide) rfl ?_
  intro p e s m args below meth c s₁ B hml hne hv
  obtain ⟨rfl, hsz, hZ, hP, hK, hD0⟩ := hv
  have hx := B.exec
  have hb := B.bytes
  have hr := B.returns
  have hts := atoms_spec (ws := wyM_added) B.pre
  have htx := fun w h => hts w (List.mem_cons_of_mem _ h)
  have hown : s.vm.findClass "ValueBenchModel" = some m.cls := findClass_of_methodNamed B.named
  have hlocks := B.notSynchronized
  subst hsz
  have hD := hD0.self (sz := s.heap.size)
  generalize hAe : va_A (xMw cT aM ad rd gd vad st []) s.heap.size = A at hD hZ ⊢
  have hA : ∀ q : Nat, s.heap.size ≤ q → A q := fun q h => by rw [← hAe]; exact Or.inr h
  have hS : va_S A s.heap s.heap [] := va_S.rf
  have hl := lv_entry ([.ref aM, xv vad c0, xv vad c1]) (n := 6) (by simp [lg_sl, xvcat, xrscat, xcI, xcL, xcR, xcN])
  rw [show lv_args 0 [.ref aM, xv vad c0, xv vad c1] = [(0, .ref aM), (1, xv vad c0), (2, xv vad c1)] from by simp [lv_args, xvcat, xrscat, xcI, xcL, xcR, xcN]] at hl
  rw [lg_entry_eq]
  generalize (lg_sl ([.ref aM, xv vad c0, xv vad c1]) ++ List.replicate (6 - (lg_sl ([.ref aM, xv vad c0, xv vad c1])).length) Slot.unset).toArray = ls at hl ⊢
  have hl : lv_has ls 6 [(0, .ref aM), (1, xv vad c0), (2, xv vad c1)] := hl
  have hE : ∀ p, p < xct st → vad p = vad p := fun _ _ => rfl
  have hN : xct st ≤ xct st := Nat.le_refl _
  unfold fM_added at hf
  refine xloopM (σ := Nat × Int32 × Int32 × Nat × Nat × xS × Nat × Nat) (fun n x H locs ls => (∃ (adL gdL vadL : Nat → Nat), x.1 = 1 ∧ fM_added_b n x.1 x.2.1 x.2.2.1 x.2.2.2.1 x.2.2.2.2.1 x.2.2.2.2.2.1 x.2.2.2.2.2.2.1 x.2.2.2.2.2.2.2 = some out ∧ va_P D xcl (xMw cT aM adL rd gdL vadL x.2.2.2.2.2.1 []) H ∧ va_D A (xMw cT aM adL rd gdL vadL x.2.2.2.2.2.1 []) ∧ va_S A s.heap H locs ∧ lv_has ls 6 [(4, .int x.2.1), (3, .int x.2.2.1), (0, .ref aM), (1, xv vadL x.2.2.2.1), (2, xv vadL x.2.2.2.2.1)] ∧ (∀ p, p < xct st → vadL p = vad p) ∧ xct st ≤ xct x.2.2.2.2.2.1) ∨ (∃ (adL gdL vadL : Nat → Nat), x.1 = 2 ∧ fM_added_b n x.1 x.2.1 x.2.2.1 x.2.2.2.1 x.2.2.2.2.1 x.2.2.2.2.2.1 x.2.2.2.2.2.2.1 x.2.2.2.2.2.2.2 = some out ∧ va_P D xcl (xMw cT aM adL rd gdL vadL x.2.2.2.2.2.1 []) H ∧ va_D A (xMw cT aM adL rd gdL vadL x.2.2.2.2.2.1 []) ∧ va_S A s.heap H locs ∧ lv_has ls 6 [(4, .int x.2.1), (3, .int x.2.2.1), (0, .ref aM), (1, xv vadL x.2.2.2.1), (2, xv vadL x.2.2.2.2.1)] ∧ (∀ p, p < xct st → vadL p = vad p) ∧ xct st ≤ xct x.2.2.2.2.2.1)) (fun x => if x.1 = 1 then 102 else 193) (fun x => x.2.2.2.2.2.2.1) (fun x => x.2.2.2.2.2.2.2) (fun x H locs ls h => by rcases h with h | h; (obtain ⟨_, _, _, h⟩ := h; exact absurd h.2.1 (by rw [fM_added_b]; exact fun h => nomatch h)); (obtain ⟨_, _, _, h⟩ := h; exact absurd h.2.1 (by rw [fM_added_b]; exact fun h => nomatch h))) (fun n ih x H locs ls hv => ?_) (fun key => ?_)
  · obtain ⟨lb, y4, y3, y1, y2, ws9, wc, wn⟩ := x
    rcases hv with ⟨adL, gdL, vadL, hj, hf, hP, hD, hS, hl, hE, hN⟩ | ⟨adL, gdL, vadL, hj, hf, hP, hD, hS, hl, hE, hN⟩
    · subst hj
      have hf : fM_added_b (n + 1) 1 y4 y3 y1 y2 ws9 wc wn = some out := hf
      rw [fM_added_b, if_pos rfl] at hf
      obtain ⟨hP, hD⟩ : xPD D xcl A (xMw cT aM adL rd gdL vadL ws9 []) H := ⟨hP, hD⟩
      have hl : lv_has ls 6 [(4, .int y4), (3, .int y3), (0, .ref aM), (1, xv vadL y1), (2, xv vadL y2)] := hl
      refine W.eq (g2 := F0 m 102 ls []) rfl ?_
      show W p l e _ s m _ below meth c H locs wc wn _ _
      obtain ⟨hm0, hf⟩ := xmoE hf
      refine lv_iload hx hb dM_added_102 (lv_at hl 0 rfl) ?_
      refine xm_aload_n hx hb (xvor _ _) dM_added_104 rfl (lv_at hl 3 rfl) ?_
      obtain ⟨hg1, hf⟩ := xifn hf
      refine xm_vget (v := .int ((xpi ws9 3) (y1 - 1))) hx hb htx hown hK hP 3 (by decide) hg1 rfl ((hZ.1 (103, "count", "I") (List.mem_of_getElem? (i := 3) rfl)).use rfl) rfl dM_added_105 ?_
      refine lv_icmp_ge (tgt := 190) hx hb dM_added_108 (by decide) (fun hc => ?_) (fun hc => ?_)
      · rw [if_pos hc] at hf
        refine lv_iconst (v := 0) hx hb dM_added_190 (by decide) ?_
        refine lv_istore (lv' := [(4, .int 0), (3, .int y3), (0, .ref aM), (1, xv vadL y1), (2, xv vadL y2)]) hx hb dM_added_191 hl (by decide) rfl (fun ls hl => ?_)
        exact ih (2, (0 : Int32), y3, y1, y2, ws9, wc, wn) _ _ ls (Or.inr (⟨adL, gdL, vadL, rfl, hf, hP, hD, hS, lv_sub hl [0, 1, 2, 3, 4] rfl, hE, hN⟩))
      · rw [if_neg hc] at hf
        refine xm_aload_n hx hb (xvor _ _) dM_added_111 rfl (lv_at hl 3 rfl) ?_
        refine xm_vget (v := .int ((xpi ws9 0) (y1 - 1))) hx hb htx hown hK hP 0 (by decide) hg1 rfl ((hZ.1 (93, "kind", "I") (List.mem_of_getElem? (i := 0) rfl)).use rfl) rfl dM_added_112 ?_
        refine lv_bipush (v := 6) hx hb dM_added_115 (by decide) ?_
        refine lv_icmp_ne (tgt := 135) hx hb dM_added_117 (by decide) (fun hc => ?_) (fun hc => ?_)
        · rw [if_neg hc] at hf
          refine lv_iconst (v := (-1)) hx hb dM_added_135 (by decide) ?_
          refine lv_istore (lv' := [(5, .int (-1)), (4, .int y4), (3, .int y3), (0, .ref aM), (1, xv vadL y1), (2, xv vadL y2)]) hx hb dM_added_136 hl (by decide) rfl (fun ls hl => ?_)
          refine lv_aload_n hx hb dM_added_138 rfl (lv_at hl 3 rfl) ?_
          refine xm_aload_n hx hb (xvor _ _) dM_added_139 rfl (lv_at hl 4 rfl) ?_
          refine xm_vget (v := .int ((xpi ws9 0) (y1 - 1))) hx hb htx hown hK hP 0 (by decide) hg1 rfl ((hZ.1 (93, "kind", "I") (List.mem_of_getElem? (i := 0) rfl)).use rfl) rfl dM_added_140 ?_
          refine lv_bipush (v := 6) hx hb dM_added_143 (by decide) ?_
          refine lv_icmp_ne (tgt := 158) hx hb dM_added_145 (by decide) (fun hc => ?_) (fun hc => ?_)
          · rw [if_neg hc] at hf
            refine lv_null hx hb dM_added_158 ?_
            refine lv_iload hx hb dM_added_159 (lv_at hl 0 rfl) ?_
            refine lv_if_ge (tgt := 174) hx hb dM_added_161 (by decide) (fun h => ((by revert h; decide : False)).elim) (fun _ => ?_)
            refine lv_aload_n hx hb dM_added_164 rfl (lv_at hl 3 rfl) ?_
            refine xm_aload_n hx hb (xvor _ _) dM_added_165 rfl (lv_at hl 4 rfl) ?_
            refine lv_iload hx hb dM_added_166 (lv_at hl 1 rfl) ?_
            obtain ⟨o2, hq3, hf⟩ := xbind hf
            have hFc := xm_free hD hS hA
            refine va_callq (va_runV (C := "ValueBenchModel") (As := [xv vadL y1, .int y4]) (rest := [.null, .ref aM]) ⟨hx, hb, hml, hown, htx⟩ (gM_kid l hl9 D cT aK aV H.size n aM adL rd gdL vadL ws9 y1 y4 o2 hq3) ⟨callB_of 2 htx (xw_goodC kw_6_158) rfl rfl rfl (htx _ kw_1_5) (htx _ kw_6_155) ⟨by decide, by decide, by decide +kernel⟩ ⟨Nat.le_of_ble_eq_true rfl, Nat.le_of_ble_eq_true rfl⟩, (htx _ kw_6_157), (htx _ kp_M_kid)⟩ ⟨xPre_blind, va_recv hK hP (ci := 5) rfl (q0 := 0) rfl, (fun U hU hW => ⟨rfl, xPre_of hZ hS hFc hP hD hK U hU hW⟩)⟩ rfl rfl hl.1 rfl (xm_room (Nat.le_of_ble_eq_true rfl)) dM_added_168 ⟨hm0.1, hm0.2⟩) hS (fun q _ h => hFc q h) hFc (fun r4 u9 t H1 locs ht hvm hr9 hB hz1 hk1 hS => ?_)
            obtain ⟨hP1, hK1, hD1⟩ := hB
            rw [ht] at hP1
            have hP : va_P D xcl (xMw cT aM adL rd gdL vadL ws9 []) H1 := hP1
            have hD : va_D A (xMw cT aM adL rd gdL vadL ws9 []) := hD1.weaken (fun k q _ h => hFc q.1 h)
            generalize H1 = H at hP hS ⊢
            rw [hr9]
            refine W.eq (g2 := F0 m 171 ls [xv vadL o2, .null, .ref aM]) (by first | rfl | (skip; rfl)) ?_
            refine lv_goto (tgt := 181) hx hb dM_added_171 (by decide) ?_
            obtain ⟨o5, hq6, hf⟩ := xbind hf
            obtain ⟨hg7, hf⟩ := xifn hf
            obtain ⟨hm8, hf⟩ := xmoE hf
            have hFc := xm_free hD hS hA
            refine va_callv (va_runV (C := "ValueBenchModel") (As := [.null, xv vadL o2]) (rest := []) ⟨hx, hb, hml, hown, htx⟩ (gM_wait l hl9 D cT aK aV H.size n aM adL rd gdL vadL ws9 0 o2 o5 hq6) ⟨callB_of 2 htx (xw_goodC kw_6_112) rfl rfl rfl (htx _ kw_1_5) (htx _ kw_6_109) ⟨by decide, by decide, by decide +kernel⟩ ⟨Nat.le_of_ble_eq_true rfl, Nat.le_of_ble_eq_true rfl⟩, (htx _ kw_6_111), (htx _ kp_M_wait)⟩ ⟨xPre_blind, va_recv hK hP (ci := 5) rfl (q0 := 0) rfl, (fun U hU hW => ⟨rfl, xPre_of hZ hS hFc hP hD hK U hU hW⟩)⟩ rfl rfl hl.1 rfl (xm_room (Nat.le_of_ble_eq_true rfl)) dM_added_181 ⟨hm8.1, hm8.2⟩) hS (fun q _ h => hFc q h) hFc (fun u9 t H1 locs ht hvm hr9 hB hz1 hk1 hS => ?_)
            obtain ⟨hP1, hK1, hD1⟩ := hB
            rw [ht] at hP1
            obtain ⟨ad10, gd11, vad12⟩ := u9
            obtain ⟨hv13, hn14⟩ := hr9
            have hP : va_P D xcl (xMw cT aM ad10 rd gd11 vad12 o5.2.2 []) H1 := hP1
            have hD : va_D A (xMw cT aM ad10 rd gd11 vad12 o5.2.2 []) := hD1.weaken (fun k q _ h => hFc q.1 h)
            generalize H1 = H at hP hS ⊢
            have hE9 : ∀ p, p < xct st → vad12 p = vad p := fun p h => (hv13 p (Nat.lt_of_lt_of_le h hN)).trans (hE p h)
            have hE := hE9
            have hN : xct st ≤ xct o5.2.2 := Nat.le_trans hN hn14
            have ev15 : xv vadL y1 = xv vad12 y1 := xvE hv13 (fun h => hg1 (Or.inr h))
            have ev16 : xv vadL y2 = xv vad12 y2 := xvE hv13 hg7
            have hl : lv_has ls 6 [(5, .int (-1)), (4, .int y4), (3, .int y3), (0, .ref aM), (1, xv vad12 y1), (2, xv vad12 y2)] := by first | exact hl | ((try (rw [← ev15])); (try (rw [← ev16])); exact hl)
            refine W.eq (g2 := F0 m 184 ls []) (by first | rfl | ((try (rw [ev15])); (try (rw [ev16])); rfl)) ?_
            refine lv_iinc (v := (y4 + 1)) (lv' := [(4, .int (y4 + 1)), (5, .int (-1)), (3, .int y3), (0, .ref aM), (1, xv vad12 y1), (2, xv vad12 y2)]) hx hb dM_added_184 hl (k := 1) rfl rfl (by decide) rfl (fun ls hl => ?_)
            refine lv_goto (tgt := 102) hx hb dM_added_187 (by decide) ?_
            exact ih (1, (y4 + 1), y3, y1, y2, o5.2.2, (wc + o5.1), (wn + o5.2.1)) _ _ ls (Or.inl ⟨ad10, gd11, vad12, rfl, hf, hP, hD, hS, lv_sub hl [0, 2, 3, 4, 5] rfl, hE, hN⟩)
          · rw [if_pos hc] at hf
            refine lv_aload_n hx hb dM_added_148 rfl (lv_at hl 3 rfl) ?_
            refine xm_aload_n hx hb (xvor _ _) dM_added_149 rfl (lv_at hl 4 rfl) ?_
            refine lv_iload hx hb dM_added_150 (lv_at hl 1 rfl) ?_
            obtain ⟨o2, hq3, hf⟩ := xbind hf
            have hFc := xm_free hD hS hA
            refine va_callq (va_runV (C := "ValueBenchModel") (As := [xv vadL y1, .int y4]) (rest := [.ref aM]) ⟨hx, hb, hml, hown, htx⟩ (gM_name l hl9 D cT aK aV H.size n aM adL rd gdL vadL ws9 y1 y4 o2 hq3) ⟨callB_of 2 htx (xw_goodC kw_6_154) rfl rfl rfl (htx _ kw_1_5) (htx _ kw_6_151) ⟨by decide, by decide, by decide +kernel⟩ ⟨Nat.le_of_ble_eq_true rfl, Nat.le_of_ble_eq_true rfl⟩, (htx _ kw_6_153), (htx _ kp_M_name)⟩ ⟨xPre_blind, va_recv hK hP (ci := 5) rfl (q0 := 0) rfl, (fun U hU hW => ⟨rfl, xPre_of hZ hS hFc hP hD hK U hU hW⟩)⟩ rfl rfl hl.1 rfl (xm_room (Nat.le_of_ble_eq_true rfl)) dM_added_152 ⟨hm0.1, hm0.2⟩) hS (fun q _ h => hFc q h) hFc (fun r4 u9 t H1 locs ht hvm hr9 hB hz1 hk1 hS => ?_)
            obtain ⟨hP1, hK1, hD1⟩ := hB
            rw [ht] at hP1
            have hP : va_P D xcl (xMw cT aM adL rd gdL vadL ws9 []) H1 := hP1
            have hD : va_D A (xMw cT aM adL rd gdL vadL ws9 []) := hD1.weaken (fun k q _ h => hFc q.1 h)
            generalize H1 = H at hP hS ⊢
            rw [hr9]
            refine W.eq (g2 := F0 m 155 ls [xv vadL o2, .ref aM]) (by first | rfl | (skip; rfl)) ?_
            refine lv_goto (tgt := 159) hx hb dM_added_155 (by decide) ?_
            refine lv_iload hx hb dM_added_159 (lv_at hl 0 rfl) ?_
            refine lv_if_ge (tgt := 174) hx hb dM_added_161 (by decide) (fun h => ((by revert h; decide : False)).elim) (fun _ => ?_)
            refine lv_aload_n hx hb dM_added_164 rfl (lv_at hl 3 rfl) ?_
            refine xm_aload_n hx hb (xvor _ _) dM_added_165 rfl (lv_at hl 4 rfl) ?_
            refine lv_iload hx hb dM_added_166 (lv_at hl 1 rfl) ?_
            obtain ⟨o5, hq6, hf⟩ := xbind hf
            have hFc := xm_free hD hS hA
            refine va_callq (va_runV (C := "ValueBenchModel") (As := [xv vadL y1, .int y4]) (rest := [xv vadL o2, .ref aM]) ⟨hx, hb, hml, hown, htx⟩ (gM_kid l hl9 D cT aK aV H.size n aM adL rd gdL vadL ws9 y1 y4 o5 hq6) ⟨callB_of 2 htx (xw_goodC kw_6_158) rfl rfl rfl (htx _ kw_1_5) (htx _ kw_6_155) ⟨by decide, by decide, by decide +kernel⟩ ⟨Nat.le_of_ble_eq_true rfl, Nat.le_of_ble_eq_true rfl⟩, (htx _ kw_6_157), (htx _ kp_M_kid)⟩ ⟨xPre_blind, va_recv hK hP (ci := 5) rfl (q0 := 0) rfl, (fun U hU hW => ⟨rfl, xPre_of hZ hS hFc hP hD hK U hU hW⟩)⟩ rfl rfl hl.1 rfl (xm_room (by simp [xvcat, xrscat, xcI, xcL, xcR, xcN])) dM_added_168 ⟨hm0.1, hm0.2⟩) hS (fun q _ h => hFc q h) hFc (fun r7 u9 t H1 locs ht hvm hr9 hB hz1 hk1 hS => ?_)
            obtain ⟨hP1, hK1, hD1⟩ := hB
            rw [ht] at hP1
            have hP : va_P D xcl (xMw cT aM adL rd gdL vadL ws9 []) H1 := hP1
            have hD : va_D A (xMw cT aM adL rd gdL vadL ws9 []) := hD1.weaken (fun k q _ h => hFc q.1 h)
            generalize H1 = H at hP hS ⊢
            rw [hr9]
            refine W.eq (g2 := F0 m 171 ls [xv vadL o5, xv vadL o2, .ref aM]) (by first | rfl | (skip; rfl)) ?_
            refine lv_goto (tgt := 181) hx hb dM_added_171 (by decide) ?_
            obtain ⟨o8, hq9, hf⟩ := xbind hf
            obtain ⟨hg10, hf⟩ := xifn hf
            obtain ⟨hm11, hf⟩ := xmoE hf
            have hFc := xm_free hD hS hA
            refine va_callv (va_runV (C := "ValueBenchModel") (As := [xv vadL o2, xv vadL o5]) (rest := []) ⟨hx, hb, hml, hown, htx⟩ (gM_wait l hl9 D cT aK aV H.size n aM adL rd gdL vadL ws9 o2 o5 o8 hq9) ⟨callB_of 2 htx (xw_goodC kw_6_112) rfl rfl rfl (htx _ kw_1_5) (htx _ kw_6_109) ⟨by decide, by decide, by decide +kernel⟩ ⟨Nat.le_of_ble_eq_true rfl, Nat.le_of_ble_eq_true rfl⟩, (htx _ kw_6_111), (htx _ kp_M_wait)⟩ ⟨xPre_blind, va_recv hK hP (ci := 5) rfl (q0 := 0) rfl, (fun U hU hW => ⟨rfl, xPre_of hZ hS hFc hP hD hK U hU hW⟩)⟩ rfl rfl hl.1 rfl (xm_room (Nat.le_of_ble_eq_true rfl)) dM_added_181 ⟨hm11.1, hm11.2⟩) hS (fun q _ h => hFc q h) hFc (fun u9 t H1 locs ht hvm hr9 hB hz1 hk1 hS => ?_)
            obtain ⟨hP1, hK1, hD1⟩ := hB
            rw [ht] at hP1
            obtain ⟨ad13, gd14, vad15⟩ := u9
            obtain ⟨hv16, hn17⟩ := hr9
            have hP : va_P D xcl (xMw cT aM ad13 rd gd14 vad15 o8.2.2 []) H1 := hP1
            have hD : va_D A (xMw cT aM ad13 rd gd14 vad15 o8.2.2 []) := hD1.weaken (fun k q _ h => hFc q.1 h)
            generalize H1 = H at hP hS ⊢
            have hE9 : ∀ p, p < xct st → vad15 p = vad p := fun p h => (hv16 p (Nat.lt_of_lt_of_le h hN)).trans (hE p h)
            have hE := hE9
            have hN : xct st ≤ xct o8.2.2 := Nat.le_trans hN hn17
            have ev18 : xv vadL y1 = xv vad15 y1 := xvE hv16 (fun h => hg1 (Or.inr h))
            have ev19 : xv vadL y2 = xv vad15 y2 := xvE hv16 hg10
            have hl : lv_has ls 6 [(5, .int (-1)), (4, .int y4), (3, .int y3), (0, .ref aM), (1, xv vad15 y1), (2, xv vad15 y2)] := by first | exact hl | ((try (rw [← ev18])); (try (rw [← ev19])); exact hl)
            refine W.eq (g2 := F0 m 184 ls []) (by first | rfl | ((try (rw [ev18])); (try (rw [ev19])); rfl)) ?_
            refine lv_iinc (v := (y4 + 1)) (lv' := [(4, .int (y4 + 1)), (5, .int (-1)), (3, .int y3), (0, .ref aM), (1, xv vad15 y1), (2, xv vad15 y2)]) hx hb dM_added_184 hl (k := 1) rfl rfl (by decide) rfl (fun ls hl => ?_)
            refine lv_goto (tgt := 102) hx hb dM_added_187 (by decide) ?_
            exact ih (1, (y4 + 1), y3, y1, y2, o8.2.2, (wc + o8.1), (wn + o8.2.1)) _ _ ls (Or.inl ⟨ad13, gd14, vad15, rfl, hf, hP, hD, hS, lv_sub hl [0, 2, 3, 4, 5] rfl, hE, hN⟩)
        · rw [if_pos hc] at hf
          refine lv_aload_n hx hb dM_added_120 rfl (lv_at hl 2 rfl) ?_
          refine xm_aload_n hx hb (xvor _ _) dM_added_121 rfl (lv_at hl 4 rfl) ?_
          refine lv_aload_n hx hb dM_added_122 rfl (lv_at hl 2 rfl) ?_
          refine xm_aload_n hx hb (xvor _ _) dM_added_123 rfl (lv_at hl 3 rfl) ?_
          refine lv_iload hx hb dM_added_124 (lv_at hl 0 rfl) ?_
          obtain ⟨o2, hq3, hf⟩ := xbind hf
          have hFc := xm_free hD hS hA
          refine va_callq (va_runV (C := "ValueBenchModel") (As := [xv vadL y1, .int y4]) (rest := [xv vadL y2, .ref aM]) ⟨hx, hb, hml, hown, htx⟩ (gM_name l hl9 D cT aK aV H.size n aM adL rd gdL vadL ws9 y1 y4 o2 hq3) ⟨callB_of 2 htx (xw_goodC kw_6_154) rfl rfl rfl (htx _ kw_1_5) (htx _ kw_6_151) ⟨by decide, by decide, by decide +kernel⟩ ⟨Nat.le_of_ble_eq_true rfl, Nat.le_of_ble_eq_true rfl⟩, (htx _ kw_6_153), (htx _ kp_M_name)⟩ ⟨xPre_blind, va_recv hK hP (ci := 5) rfl (q0 := 0) rfl, (fun U hU hW => ⟨rfl, xPre_of hZ hS hFc hP hD hK U hU hW⟩)⟩ rfl rfl hl.1 rfl (xm_room (by simp [xvcat, xrscat, xcI, xcL, xcR, xcN])) dM_added_126 ⟨hm0.1, hm0.2⟩) hS (fun q _ h => hFc q h) hFc (fun r4 u9 t H1 locs ht hvm hr9 hB hz1 hk1 hS => ?_)
          obtain ⟨hP1, hK1, hD1⟩ := hB
          rw [ht] at hP1
          have hP : va_P D xcl (xMw cT aM adL rd gdL vadL ws9 []) H1 := hP1
          have hD : va_D A (xMw cT aM adL rd gdL vadL ws9 []) := hD1.weaken (fun k q _ h => hFc q.1 h)
          generalize H1 = H at hP hS ⊢
          rw [hr9]
          refine W.eq (g2 := F0 m 129 ls [xv vadL o2, xv vadL y2, .ref aM]) (by first | rfl | (skip; rfl)) ?_
          obtain ⟨o5, hq6, hf⟩ := xbind hf
          have hFc := xm_free hD hS hA
          refine va_calli (va_runV (C := "ValueBenchModel") (As := [xv vadL y2, xv vadL o2]) (rest := []) ⟨hx, hb, hml, hown, htx⟩ (gM_place l hl9 D cT aK aV H.size n aM adL rd gdL vadL ws9 y2 o2 o5 hq6) ⟨callB_of 2 htx (xw_goodC kw_6_178) rfl rfl rfl (htx _ kw_1_5) (htx _ kw_6_175) ⟨by decide, by decide, by decide +kernel⟩ ⟨Nat.le_of_ble_eq_true rfl, Nat.le_of_ble_eq_true rfl⟩, (htx _ kw_6_177), (htx _ kp_M_place)⟩ ⟨xPre_blind, va_recv hK hP (ci := 5) rfl (q0 := 0) rfl, (fun U hU hW => ⟨rfl, xPre_of hZ hS hFc hP hD hK U hU hW⟩)⟩ rfl rfl hl.1 rfl (xm_room (Nat.le_of_ble_eq_true rfl)) dM_added_129 ⟨hm0.1, hm0.2⟩) hS (fun q _ h => hFc q h) hFc (fun r7 u9 t H1 locs ht hvm hr9 hB hz1 hk1 hS => ?_)
          obtain ⟨hP1, hK1, hD1⟩ := hB
          rw [ht] at hP1
          have hP : va_P D xcl (xMw cT aM adL rd gdL vadL ws9 []) H1 := hP1
          have hD : va_D A (xMw cT aM adL rd gdL vadL ws9 []) := hD1.weaken (fun k q _ h => hFc q.1 h)
          generalize H1 = H at hP hS ⊢
          rw [hr9]
          refine W.eq (g2 := F0 m 132 ls [.int o5]) (by first | rfl | (skip; rfl)) ?_
          refine lv_goto (tgt := 136) hx hb dM_added_132 (by decide) ?_
          refine lv_istore (lv' := [(5, .int o5), (4, .int y4), (3, .int y3), (0, .ref aM), (1, xv vadL y1), (2, xv vadL y2)]) hx hb dM_added_136 hl (by decide) rfl (fun ls hl => ?_)
          refine lv_aload_n hx hb dM_added_138 rfl (lv_at hl 3 rfl) ?_
          refine xm_aload_n hx hb (xvor _ _) dM_added_139 rfl (lv_at hl 4 rfl) ?_
          refine xm_vget (v := .int ((xpi ws9 0) (y1 - 1))) hx hb htx hown hK hP 0 (by decide) hg1 rfl ((hZ.1 (93, "kind", "I") (List.mem_of_getElem? (i := 0) rfl)).use rfl) rfl dM_added_140 ?_
          refine lv_bipush (v := 6) hx hb dM_added_143 (by decide) ?_
          refine lv_icmp_ne (tgt := 158) hx hb dM_added_145 (by decide) (fun hc => ?_) (fun hc => ?_)
          · rw [if_neg hc] at hf
            refine lv_null hx hb dM_added_158 ?_
            refine lv_iload hx hb dM_added_159 (lv_at hl 0 rfl) ?_
            refine lv_if_ge (tgt := 174) hx hb dM_added_161 (by decide) (fun hc => ?_) (fun hc => ?_)
            · rw [if_pos hc] at hf
              refine lv_aload_n hx hb dM_added_174 rfl (lv_at hl 3 rfl) ?_
              refine xm_aload_n hx hb (xvor _ _) dM_added_175 rfl (lv_at hl 5 rfl) ?_
              refine lv_iload hx hb dM_added_176 (lv_at hl 0 rfl) ?_
              obtain ⟨o8, hq9, hf⟩ := xbind hf
              have hFc := xm_free hD hS hA
              refine va_callq (va_runV (C := "ValueBenchModel") (As := [xv vadL y2, .int o5]) (rest := [.null, .ref aM]) ⟨hx, hb, hml, hown, htx⟩ (gM_kid l hl9 D cT aK aV H.size n aM adL rd gdL vadL ws9 y2 o5 o8 hq9) ⟨callB_of 2 htx (xw_goodC kw_6_158) rfl rfl rfl (htx _ kw_1_5) (htx _ kw_6_155) ⟨by decide, by decide, by decide +kernel⟩ ⟨Nat.le_of_ble_eq_true rfl, Nat.le_of_ble_eq_true rfl⟩, (htx _ kw_6_157), (htx _ kp_M_kid)⟩ ⟨xPre_blind, va_recv hK hP (ci := 5) rfl (q0 := 0) rfl, (fun U hU hW => ⟨rfl, xPre_of hZ hS hFc hP hD hK U hU hW⟩)⟩ rfl rfl hl.1 rfl (xm_room (Nat.le_of_ble_eq_true rfl)) dM_added_178 ⟨hm0.1, hm0.2⟩) hS (fun q _ h => hFc q h) hFc (fun r10 u9 t H1 locs ht hvm hr9 hB hz1 hk1 hS => ?_)
              obtain ⟨hP1, hK1, hD1⟩ := hB
              rw [ht] at hP1
              have hP : va_P D xcl (xMw cT aM adL rd gdL vadL ws9 []) H1 := hP1
              have hD : va_D A (xMw cT aM adL rd gdL vadL ws9 []) := hD1.weaken (fun k q _ h => hFc q.1 h)
              generalize H1 = H at hP hS ⊢
              rw [hr9]
              refine W.eq (g2 := F0 m 181 ls [xv vadL o8, .null, .ref aM]) (by first | rfl | (skip; rfl)) ?_
              obtain ⟨o11, hq12, hf⟩ := xbind hf
              obtain ⟨hg13, hf⟩ := xifn hf
              obtain ⟨hm14, hf⟩ := xmoE hf
              have hFc := xm_free hD hS hA
              refine va_callv (va_runV (C := "ValueBenchModel") (As := [.null, xv vadL o8]) (rest := []) ⟨hx, hb, hml, hown, htx⟩ (gM_wait l hl9 D cT aK aV H.size n aM adL rd gdL vadL ws9 0 o8 o11 hq12) ⟨callB_of 2 htx (xw_goodC kw_6_112) rfl rfl rfl (htx _ kw_1_5) (htx _ kw_6_109) ⟨by decide, by decide, by decide +kernel⟩ ⟨Nat.le_of_ble_eq_true rfl, Nat.le_of_ble_eq_true rfl⟩, (htx _ kw_6_111), (htx _ kp_M_wait)⟩ ⟨xPre_blind, va_recv hK hP (ci := 5) rfl (q0 := 0) rfl, (fun U hU hW => ⟨rfl, xPre_of hZ hS hFc hP hD hK U hU hW⟩)⟩ rfl rfl hl.1 rfl (xm_room (Nat.le_of_ble_eq_true rfl)) dM_added_181 ⟨hm14.1, hm14.2⟩) hS (fun q _ h => hFc q h) hFc (fun u9 t H1 locs ht hvm hr9 hB hz1 hk1 hS => ?_)
              obtain ⟨hP1, hK1, hD1⟩ := hB
              rw [ht] at hP1
              obtain ⟨ad16, gd17, vad18⟩ := u9
              obtain ⟨hv19, hn20⟩ := hr9
              have hP : va_P D xcl (xMw cT aM ad16 rd gd17 vad18 o11.2.2 []) H1 := hP1
              have hD : va_D A (xMw cT aM ad16 rd gd17 vad18 o11.2.2 []) := hD1.weaken (fun k q _ h => hFc q.1 h)
              generalize H1 = H at hP hS ⊢
              have hE9 : ∀ p, p < xct st → vad18 p = vad p := fun p h => (hv19 p (Nat.lt_of_lt_of_le h hN)).trans (hE p h)
              have hE := hE9
              have hN : xct st ≤ xct o11.2.2 := Nat.le_trans hN hn20
              have ev21 : xv vadL y1 = xv vad18 y1 := xvE hv19 (fun h => hg1 (Or.inr h))
              have ev22 : xv vadL y2 = xv vad18 y2 := xvE hv19 hg13
              have hl : lv_has ls 6 [(5, .int o5), (4, .int y4), (3, .int y3), (0, .ref aM), (1, xv vad18 y1), (2, xv vad18 y2)] := by first | exact hl | ((try (rw [← ev21])); (try (rw [← ev22])); exact hl)
              refine W.eq (g2 := F0 m 184 ls []) (by first | rfl | ((try (rw [ev21])); (try (rw [ev22])); rfl)) ?_
              refine lv_iinc (v := (y4 + 1)) (lv' := [(4, .int (y4 + 1)), (5, .int o5), (3, .int y3), (0, .ref aM), (1, xv vad18 y1), (2, xv vad18 y2)]) hx hb dM_added_184 hl (k := 1) rfl rfl (by decide) rfl (fun ls hl => ?_)
              refine lv_goto (tgt := 102) hx hb dM_added_187 (by decide) ?_
              exact ih (1, (y4 + 1), y3, y1, y2, o11.2.2, (wc + o11.1), (wn + o11.2.1)) _ _ ls (Or.inl ⟨ad16, gd17, vad18, rfl, hf, hP, hD, hS, lv_sub hl [0, 2, 3, 4, 5] rfl, hE, hN⟩)
            · rw [if_neg hc] at hf
              refine lv_aload_n hx hb dM_added_164 rfl (lv_at hl 3 rfl) ?_
              refine xm_aload_n hx hb (xvor _ _) dM_added_165 rfl (lv_at hl 4 rfl) ?_
              refine lv_iload hx hb dM_added_166 (lv_at hl 1 rfl) ?_
              obtain ⟨o8, hq9, hf⟩ := xbind hf
              have hFc := xm_free hD hS hA
              refine va_callq (va_runV (C := "ValueBenchModel") (As := [xv vadL y1, .int y4]) (rest := [.null, .ref aM]) ⟨hx, hb, hml, hown, htx⟩ (gM_kid l hl9 D cT aK aV H.size n aM adL rd gdL vadL ws9 y1 y4 o8 hq9) ⟨callB_of 2 htx (xw_goodC kw_6_158) rfl rfl rfl (htx _ kw_1_5) (htx _ kw_6_155) ⟨by decide, by decide, by decide +kernel⟩ ⟨Nat.le_of_ble_eq_true rfl, Nat.le_of_ble_eq_true rfl⟩, (htx _ kw_6_157), (htx _ kp_M_kid)⟩ ⟨xPre_blind, va_recv hK hP (ci := 5) rfl (q0 := 0) rfl, (fun U hU hW => ⟨rfl, xPre_of hZ hS hFc hP hD hK U hU hW⟩)⟩ rfl rfl hl.1 rfl (xm_room (Nat.le_of_ble_eq_true rfl)) dM_added_168 ⟨hm0.1, hm0.2⟩) hS (fun q _ h => hFc q h) hFc (fun r10 u9 t H1 locs ht hvm hr9 hB hz1 hk1 hS => ?_)
              obtain ⟨hP1, hK1, hD1⟩ := hB
              rw [ht] at hP1
              have hP : va_P D xcl (xMw cT aM adL rd gdL vadL ws9 []) H1 := hP1
              have hD : va_D A (xMw cT aM adL rd gdL vadL ws9 []) := hD1.weaken (fun k q _ h => hFc q.1 h)
              generalize H1 = H at hP hS ⊢
              rw [hr9]
              refine W.eq (g2 := F0 m 171 ls [xv vadL o8, .null, .ref aM]) (by first | rfl | (skip; rfl)) ?_
              refine lv_goto (tgt := 181) hx hb dM_added_171 (by decide) ?_
              obtain ⟨o11, hq12, hf⟩ := xbind hf
              obtain ⟨hg13, hf⟩ := xifn hf
              obtain ⟨hm14, hf⟩ := xmoE hf
              have hFc := xm_free hD hS hA
              refine va_callv (va_runV (C := "ValueBenchModel") (As := [.null, xv vadL o8]) (rest := []) ⟨hx, hb, hml, hown, htx⟩ (gM_wait l hl9 D cT aK aV H.size n aM adL rd gdL vadL ws9 0 o8 o11 hq12) ⟨callB_of 2 htx (xw_goodC kw_6_112) rfl rfl rfl (htx _ kw_1_5) (htx _ kw_6_109) ⟨by decide, by decide, by decide +kernel⟩ ⟨Nat.le_of_ble_eq_true rfl, Nat.le_of_ble_eq_true rfl⟩, (htx _ kw_6_111), (htx _ kp_M_wait)⟩ ⟨xPre_blind, va_recv hK hP (ci := 5) rfl (q0 := 0) rfl, (fun U hU hW => ⟨rfl, xPre_of hZ hS hFc hP hD hK U hU hW⟩)⟩ rfl rfl hl.1 rfl (xm_room (Nat.le_of_ble_eq_true rfl)) dM_added_181 ⟨hm14.1, hm14.2⟩) hS (fun q _ h => hFc q h) hFc (fun u9 t H1 locs ht hvm hr9 hB hz1 hk1 hS => ?_)
              obtain ⟨hP1, hK1, hD1⟩ := hB
              rw [ht] at hP1
              obtain ⟨ad16, gd17, vad18⟩ := u9
              obtain ⟨hv19, hn20⟩ := hr9
              have hP : va_P D xcl (xMw cT aM ad16 rd gd17 vad18 o11.2.2 []) H1 := hP1
              have hD : va_D A (xMw cT aM ad16 rd gd17 vad18 o11.2.2 []) := hD1.weaken (fun k q _ h => hFc q.1 h)
              generalize H1 = H at hP hS ⊢
              have hE9 : ∀ p, p < xct st → vad18 p = vad p := fun p h => (hv19 p (Nat.lt_of_lt_of_le h hN)).trans (hE p h)
              have hE := hE9
              have hN : xct st ≤ xct o11.2.2 := Nat.le_trans hN hn20
              have ev21 : xv vadL y1 = xv vad18 y1 := xvE hv19 (fun h => hg1 (Or.inr h))
              have ev22 : xv vadL y2 = xv vad18 y2 := xvE hv19 hg13
              have hl : lv_has ls 6 [(5, .int o5), (4, .int y4), (3, .int y3), (0, .ref aM), (1, xv vad18 y1), (2, xv vad18 y2)] := by first | exact hl | ((try (rw [← ev21])); (try (rw [← ev22])); exact hl)
              refine W.eq (g2 := F0 m 184 ls []) (by first | rfl | ((try (rw [ev21])); (try (rw [ev22])); rfl)) ?_
              refine lv_iinc (v := (y4 + 1)) (lv' := [(4, .int (y4 + 1)), (5, .int o5), (3, .int y3), (0, .ref aM), (1, xv vad18 y1), (2, xv vad18 y2)]) hx hb dM_added_184 hl (k := 1) rfl rfl (by decide) rfl (fun ls hl => ?_)
              refine lv_goto (tgt := 102) hx hb dM_added_187 (by decide) ?_
              exact ih (1, (y4 + 1), y3, y1, y2, o11.2.2, (wc + o11.1), (wn + o11.2.1)) _ _ ls (Or.inl ⟨ad16, gd17, vad18, rfl, hf, hP, hD, hS, lv_sub hl [0, 2, 3, 4, 5] rfl, hE, hN⟩)
          · rw [if_pos hc] at hf
            refine lv_aload_n hx hb dM_added_148 rfl (lv_at hl 3 rfl) ?_
            refine xm_aload_n hx hb (xvor _ _) dM_added_149 rfl (lv_at hl 4 rfl) ?_
            refine lv_iload hx hb dM_added_150 (lv_at hl 1 rfl) ?_
            obtain ⟨o8, hq9, hf⟩ := xbind hf
            have hFc := xm_free hD hS hA
            refine va_callq (va_runV (C := "ValueBenchModel") (As := [xv vadL y1, .int y4]) (rest := [.ref aM]) ⟨hx, hb, hml, hown, htx⟩ (gM_name l hl9 D cT aK aV H.size n aM adL rd gdL vadL ws9 y1 y4 o8 hq9) ⟨callB_of 2 htx (xw_goodC kw_6_154) rfl rfl rfl (htx _ kw_1_5) (htx _ kw_6_151) ⟨by decide, by decide, by decide +kernel⟩ ⟨Nat.le_of_ble_eq_true rfl, Nat.le_of_ble_eq_true rfl⟩, (htx _ kw_6_153), (htx _ kp_M_name)⟩ ⟨xPre_blind, va_recv hK hP (ci := 5) rfl (q0 := 0) rfl, (fun U hU hW => ⟨rfl, xPre_of hZ hS hFc hP hD hK U hU hW⟩)⟩ rfl rfl hl.1 rfl (xm_room (Nat.le_of_ble_eq_true rfl)) dM_added_152 ⟨hm0.1, hm0.2⟩) hS (fun q _ h => hFc q h) hFc (fun r10 u9 t H1 locs ht hvm hr9 hB hz1 hk1 hS => ?_)
            obtain ⟨hP1, hK1, hD1⟩ := hB
            rw [ht] at hP1
            have hP : va_P D xcl (xMw cT aM adL rd gdL vadL ws9 []) H1 := hP1
            have hD : va_D A (xMw cT aM adL rd gdL vadL ws9 []) := hD1.weaken (fun k q _ h => hFc q.1 h)
            generalize H1 = H at hP hS ⊢
            rw [hr9]
            refine W.eq (g2 := F0 m 155 ls [xv vadL o8, .ref aM]) (by first | rfl | (skip; rfl)) ?_
            refine lv_goto (tgt := 159) hx hb dM_added_155 (by decide) ?_
            refine lv_iload hx hb dM_added_159 (lv_at hl 0 rfl) ?_
            refine lv_if_ge (tgt := 174) hx hb dM_added_161 (by decide) (fun hc => ?_) (fun hc => ?_)
            · rw [if_pos hc] at hf
              refine lv_aload_n hx hb dM_added_174 rfl (lv_at hl 3 rfl) ?_
              refine xm_aload_n hx hb (xvor _ _) dM_added_175 rfl (lv_at hl 5 rfl) ?_
              refine lv_iload hx hb dM_added_176 (lv_at hl 0 rfl) ?_
              obtain ⟨o11, hq12, hf⟩ := xbind hf
              have hFc := xm_free hD hS hA
              refine va_callq (va_runV (C := "ValueBenchModel") (As := [xv vadL y2, .int o5]) (rest := [xv vadL o8, .ref aM]) ⟨hx, hb, hml, hown, htx⟩ (gM_kid l hl9 D cT aK aV H.size n aM adL rd gdL vadL ws9 y2 o5 o11 hq12) ⟨callB_of 2 htx (xw_goodC kw_6_158) rfl rfl rfl (htx _ kw_1_5) (htx _ kw_6_155) ⟨by decide, by decide, by decide +kernel⟩ ⟨Nat.le_of_ble_eq_true rfl, Nat.le_of_ble_eq_true rfl⟩, (htx _ kw_6_157), (htx _ kp_M_kid)⟩ ⟨xPre_blind, va_recv hK hP (ci := 5) rfl (q0 := 0) rfl, (fun U hU hW => ⟨rfl, xPre_of hZ hS hFc hP hD hK U hU hW⟩)⟩ rfl rfl hl.1 rfl (xm_room (by simp [xvcat, xrscat, xcI, xcL, xcR, xcN])) dM_added_178 ⟨hm0.1, hm0.2⟩) hS (fun q _ h => hFc q h) hFc (fun r13 u9 t H1 locs ht hvm hr9 hB hz1 hk1 hS => ?_)
              obtain ⟨hP1, hK1, hD1⟩ := hB
              rw [ht] at hP1
              have hP : va_P D xcl (xMw cT aM adL rd gdL vadL ws9 []) H1 := hP1
              have hD : va_D A (xMw cT aM adL rd gdL vadL ws9 []) := hD1.weaken (fun k q _ h => hFc q.1 h)
              generalize H1 = H at hP hS ⊢
              rw [hr9]
              refine W.eq (g2 := F0 m 181 ls [xv vadL o11, xv vadL o8, .ref aM]) (by first | rfl | (skip; rfl)) ?_
              obtain ⟨o14, hq15, hf⟩ := xbind hf
              obtain ⟨hg16, hf⟩ := xifn hf
              obtain ⟨hm17, hf⟩ := xmoE hf
              have hFc := xm_free hD hS hA
              refine va_callv (va_runV (C := "ValueBenchModel") (As := [xv vadL o8, xv vadL o11]) (rest := []) ⟨hx, hb, hml, hown, htx⟩ (gM_wait l hl9 D cT aK aV H.size n aM adL rd gdL vadL ws9 o8 o11 o14 hq15) ⟨callB_of 2 htx (xw_goodC kw_6_112) rfl rfl rfl (htx _ kw_1_5) (htx _ kw_6_109) ⟨by decide, by decide, by decide +kernel⟩ ⟨Nat.le_of_ble_eq_true rfl, Nat.le_of_ble_eq_true rfl⟩, (htx _ kw_6_111), (htx _ kp_M_wait)⟩ ⟨xPre_blind, va_recv hK hP (ci := 5) rfl (q0 := 0) rfl, (fun U hU hW => ⟨rfl, xPre_of hZ hS hFc hP hD hK U hU hW⟩)⟩ rfl rfl hl.1 rfl (xm_room (Nat.le_of_ble_eq_true rfl)) dM_added_181 ⟨hm17.1, hm17.2⟩) hS (fun q _ h => hFc q h) hFc (fun u9 t H1 locs ht hvm hr9 hB hz1 hk1 hS => ?_)
              obtain ⟨hP1, hK1, hD1⟩ := hB
              rw [ht] at hP1
              obtain ⟨ad19, gd20, vad21⟩ := u9
              obtain ⟨hv22, hn23⟩ := hr9
              have hP : va_P D xcl (xMw cT aM ad19 rd gd20 vad21 o14.2.2 []) H1 := hP1
              have hD : va_D A (xMw cT aM ad19 rd gd20 vad21 o14.2.2 []) := hD1.weaken (fun k q _ h => hFc q.1 h)
              generalize H1 = H at hP hS ⊢
              have hE9 : ∀ p, p < xct st → vad21 p = vad p := fun p h => (hv22 p (Nat.lt_of_lt_of_le h hN)).trans (hE p h)
              have hE := hE9
              have hN : xct st ≤ xct o14.2.2 := Nat.le_trans hN hn23
              have ev24 : xv vadL y1 = xv vad21 y1 := xvE hv22 (fun h => hg1 (Or.inr h))
              have ev25 : xv vadL y2 = xv vad21 y2 := xvE hv22 hg16
              have hl : lv_has ls 6 [(5, .int o5), (4, .int y4), (3, .int y3), (0, .ref aM), (1, xv vad21 y1), (2, xv vad21 y2)] := by first | exact hl | ((try (rw [← ev24])); (try (rw [← ev25])); exact hl)
              refine W.eq (g2 := F0 m 184 ls []) (by first | rfl | ((try (rw [ev24])); (try (rw [ev25])); rfl)) ?_
              refine lv_iinc (v := (y4 + 1)) (lv' := [(4, .int (y4 + 1)), (5, .int o5), (3, .int y3), (0, .ref aM), (1, xv vad21 y1), (2, xv vad21 y2)]) hx hb dM_added_184 hl (k := 1) rfl rfl (by decide) rfl (fun ls hl => ?_)
              refine lv_goto (tgt := 102) hx hb dM_added_187 (by decide) ?_
              exact ih (1, (y4 + 1), y3, y1, y2, o14.2.2, (wc + o14.1), (wn + o14.2.1)) _ _ ls (Or.inl ⟨ad19, gd20, vad21, rfl, hf, hP, hD, hS, lv_sub hl [0, 2, 3, 4, 5] rfl, hE, hN⟩)
            · rw [if_neg hc] at hf
              refine lv_aload_n hx hb dM_added_164 rfl (lv_at hl 3 rfl) ?_
              refine xm_aload_n hx hb (xvor _ _) dM_added_165 rfl (lv_at hl 4 rfl) ?_
              refine lv_iload hx hb dM_added_166 (lv_at hl 1 rfl) ?_
              obtain ⟨o11, hq12, hf⟩ := xbind hf
              have hFc := xm_free hD hS hA
              refine va_callq (va_runV (C := "ValueBenchModel") (As := [xv vadL y1, .int y4]) (rest := [xv vadL o8, .ref aM]) ⟨hx, hb, hml, hown, htx⟩ (gM_kid l hl9 D cT aK aV H.size n aM adL rd gdL vadL ws9 y1 y4 o11 hq12) ⟨callB_of 2 htx (xw_goodC kw_6_158) rfl rfl rfl (htx _ kw_1_5) (htx _ kw_6_155) ⟨by decide, by decide, by decide +kernel⟩ ⟨Nat.le_of_ble_eq_true rfl, Nat.le_of_ble_eq_true rfl⟩, (htx _ kw_6_157), (htx _ kp_M_kid)⟩ ⟨xPre_blind, va_recv hK hP (ci := 5) rfl (q0 := 0) rfl, (fun U hU hW => ⟨rfl, xPre_of hZ hS hFc hP hD hK U hU hW⟩)⟩ rfl rfl hl.1 rfl (xm_room (by simp [xvcat, xrscat, xcI, xcL, xcR, xcN])) dM_added_168 ⟨hm0.1, hm0.2⟩) hS (fun q _ h => hFc q h) hFc (fun r13 u9 t H1 locs ht hvm hr9 hB hz1 hk1 hS => ?_)
              obtain ⟨hP1, hK1, hD1⟩ := hB
              rw [ht] at hP1
              have hP : va_P D xcl (xMw cT aM adL rd gdL vadL ws9 []) H1 := hP1
              have hD : va_D A (xMw cT aM adL rd gdL vadL ws9 []) := hD1.weaken (fun k q _ h => hFc q.1 h)
              generalize H1 = H at hP hS ⊢
              rw [hr9]
              refine W.eq (g2 := F0 m 171 ls [xv vadL o11, xv vadL o8, .ref aM]) (by first | rfl | (skip; rfl)) ?_
              refine lv_goto (tgt := 181) hx hb dM_added_171 (by decide) ?_
              obtain ⟨o14, hq15, hf⟩ := xbind hf
              obtain ⟨hg16, hf⟩ := xifn hf
              obtain ⟨hm17, hf⟩ := xmoE hf
              have hFc := xm_free hD hS hA
              refine va_callv (va_runV (C := "ValueBenchModel") (As := [xv vadL o8, xv vadL o11]) (rest := []) ⟨hx, hb, hml, hown, htx⟩ (gM_wait l hl9 D cT aK aV H.size n aM adL rd gdL vadL ws9 o8 o11 o14 hq15) ⟨callB_of 2 htx (xw_goodC kw_6_112) rfl rfl rfl (htx _ kw_1_5) (htx _ kw_6_109) ⟨by decide, by decide, by decide +kernel⟩ ⟨Nat.le_of_ble_eq_true rfl, Nat.le_of_ble_eq_true rfl⟩, (htx _ kw_6_111), (htx _ kp_M_wait)⟩ ⟨xPre_blind, va_recv hK hP (ci := 5) rfl (q0 := 0) rfl, (fun U hU hW => ⟨rfl, xPre_of hZ hS hFc hP hD hK U hU hW⟩)⟩ rfl rfl hl.1 rfl (xm_room (Nat.le_of_ble_eq_true rfl)) dM_added_181 ⟨hm17.1, hm17.2⟩) hS (fun q _ h => hFc q h) hFc (fun u9 t H1 locs ht hvm hr9 hB hz1 hk1 hS => ?_)
              obtain ⟨hP1, hK1, hD1⟩ := hB
              rw [ht] at hP1
              obtain ⟨ad19, gd20, vad21⟩ := u9
              obtain ⟨hv22, hn23⟩ := hr9
              have hP : va_P D xcl (xMw cT aM ad19 rd gd20 vad21 o14.2.2 []) H1 := hP1
              have hD : va_D A (xMw cT aM ad19 rd gd20 vad21 o14.2.2 []) := hD1.weaken (fun k q _ h => hFc q.1 h)
              generalize H1 = H at hP hS ⊢
              have hE9 : ∀ p, p < xct st → vad21 p = vad p := fun p h => (hv22 p (Nat.lt_of_lt_of_le h hN)).trans (hE p h)
              have hE := hE9
              have hN : xct st ≤ xct o14.2.2 := Nat.le_trans hN hn23
              have ev24 : xv vadL y1 = xv vad21 y1 := xvE hv22 (fun h => hg1 (Or.inr h))
              have ev25 : xv vadL y2 = xv vad21 y2 := xvE hv22 hg16
              have hl : lv_has ls 6 [(5, .int o5), (4, .int y4), (3, .int y3), (0, .ref aM), (1, xv vad21 y1), (2, xv vad21 y2)] := by first | exact hl | ((try (rw [← ev24])); (try (rw [← ev25])); exact hl)
              refine W.eq (g2 := F0 m 184 ls []) (by first | rfl | ((try (rw [ev24])); (try (rw [ev25])); rfl)) ?_
              refine lv_iinc (v := (y4 + 1)) (lv' := [(4, .int (y4 + 1)), (5, .int o5), (3, .int y3), (0, .ref aM), (1, xv vad21 y1), (2, xv vad21 y2)]) hx hb dM_added_184 hl (k := 1) rfl rfl (by decide) rfl (fun ls hl => ?_)
              refine lv_goto (tgt := 102) hx hb dM_added_187 (by decide) ?_
              exact ih (1, (y4 + 1), y3, y1, y2, o14.2.2, (wc + o14.1), (wn + o14.2.1)) _ _ ls (Or.inl ⟨ad19, gd20, vad21, rfl, hf, hP, hD, hS, lv_sub hl [0, 2, 3, 4, 5] rfl, hE, hN⟩)
    · subst hj
      have hf : fM_added_b (n + 1) 2 y4 y3 y1 y2 ws9 wc wn = some out := hf
      rw [fM_added_b, if_neg (by decide)] at hf
      obtain ⟨hP, hD⟩ : xPD D xcl A (xMw cT aM adL rd gdL vadL ws9 []) H := ⟨hP, hD⟩
      have hl : lv_has ls 6 [(4, .int y4), (3, .int y3), (0, .ref aM), (1, xv vadL y1), (2, xv vadL y2)] := hl
      refine W.eq (g2 := F0 m 193 ls []) rfl ?_
      show W p l e _ s m _ below meth c H locs wc wn _ _
      obtain ⟨hm0, hf⟩ := xmoE hf
      refine lv_iload hx hb dM_added_193 (lv_at hl 0 rfl) ?_
      refine xm_aload_n hx hb (xvor _ _) dM_added_195 rfl (lv_at hl 4 rfl) ?_
      obtain ⟨hg1, hf⟩ := xifn hf
      refine xm_vget (v := .int ((xpi ws9 3) (y2 - 1))) hx hb htx hown hK hP 3 (by decide) hg1 rfl ((hZ.1 (103, "count", "I") (List.mem_of_getElem? (i := 3) rfl)).use rfl) rfl dM_added_196 ?_
      refine lv_icmp_ge (tgt := 262) hx hb dM_added_199 (by decide) (fun hc => ?_) (fun hc => ?_)
      · rw [if_pos hc] at hf
        refine lv_aload_n hx hb dM_added_262 rfl (lv_at hl 2 rfl) ?_
        refine xm_aload_n hx hb (xvor _ _) dM_added_263 rfl (lv_at hl 3 rfl) ?_
        obtain ⟨hg2, hf⟩ := xifn hf
        refine xm_vget (v := .int ((xpi ws9 0) (y1 - 1))) hx hb htx hown hK hP 0 (by decide) hg2 rfl ((hZ.1 (93, "kind", "I") (List.mem_of_getElem? (i := 0) rfl)).use rfl) rfl dM_added_264 ?_
        refine lv_iload_n hx hb dM_added_267 rfl (lv_at hl 1 rfl) ?_
        obtain ⟨o3, hq4, hf⟩ := xbind hf
        have hl := lv_sub (l' := [(4, .int y4), (3, .int y3), (0, .ref aM)]) hl [0, 1, 2] rfl
        by_cases hk5 : o3.1 = 0
        · rw [if_pos hk5] at hf
          obtain ⟨hm6, hf⟩ := xmoE hf
          have hFc := xm_free hD hS hA
          refine va_callq (va_runV (C := "ValueBenchModel") (As := [.int ((xpi ws9 0) (y1 - 1)), .int y3]) (rest := []) ⟨hx, hb, hml, hown, htx⟩ (gM_whole l hl9 D cT aK aV H.size n aM adL rd gdL vadL ws9 ((xpi ws9 0) (y1 - 1)) y3 o3 hq4 hk5) ⟨callB_of 2 htx (xw_goodC kw_6_106) rfl rfl rfl (htx _ kw_1_5) (htx _ kw_6_103) ⟨by decide, by decide, by decide +kernel⟩ ⟨Nat.le_of_ble_eq_true rfl, Nat.le_of_ble_eq_true rfl⟩, (htx _ kw_6_105), (htx _ kp_M_whole)⟩ ⟨xPre_blind, va_recv hK hP (ci := 5) rfl (q0 := 0) rfl, (fun U hU hW => ⟨rfl, xPre_of hZ hS hFc hP hD hK U hU hW⟩)⟩ rfl rfl hl.1 rfl (xm_room (Nat.le_of_ble_eq_true rfl)) dM_added_268 ⟨hm6.1, hm6.2⟩) hS (fun q _ h => hFc q h) hFc (fun r7 u9 t H1 locs ht hvm hr9 hB hz1 hk1 hS => ?_)
          obtain ⟨hP1, hK1, hD1⟩ := hB
          rw [ht] at hP1
          obtain ⟨ad8, gd9, vad10⟩ := u9
          obtain ⟨hr9, hv11, hn12⟩ := hr9
          have hP : va_P D xcl (xMw cT aM ad8 rd gd9 vad10 o3.2.2.2.2 []) H1 := hP1
          have hD : va_D A (xMw cT aM ad8 rd gd9 vad10 o3.2.2.2.2 []) := hD1.weaken (fun k q _ h => hFc q.1 h)
          generalize H1 = H at hP hS ⊢
          have hE9 : ∀ p, p < xct st → vad10 p = vad p := fun p h => (hv11 p (Nat.lt_of_lt_of_le h hN)).trans (hE p h)
          have hE := hE9
          have hN : xct st ≤ xct o3.2.2.2.2 := Nat.le_trans hN hn12
          rw [hr9]
          refine W.eq (g2 := F0 m 271 ls [xv vad10 o3.2.2.2.1]) (by first | rfl | (skip; rfl)) ?_
          obtain rfl := Option.some.inj hf
          exact absurd (show (0 : Nat) = 1 from hkd) (by decide)
        rw [if_neg hk5] at hf
        by_cases hk13 : o3.1 = 1
        · rw [if_pos hk13] at hf
          obtain ⟨hm14, hf⟩ := xmoE hf
          obtain rfl := Option.some.inj hf
          exact absurd (show (2 : Nat) = 1 from hkd) (by decide)
        rw [if_neg hk13] at hf
        exact nomatch hf
      · rw [if_neg hc] at hf
        refine xm_aload_n hx hb (xvor _ _) dM_added_202 rfl (lv_at hl 3 rfl) ?_
        obtain ⟨hg2, hf⟩ := xifn hf
        refine xm_vget (v := .int ((xpi ws9 0) (y1 - 1))) hx hb htx hown hK hP 0 (by decide) hg2 rfl ((hZ.1 (93, "kind", "I") (List.mem_of_getElem? (i := 0) rfl)).use rfl) rfl dM_added_203 ?_
        refine lv_iconst (v := 5) hx hb dM_added_206 (by decide) ?_
        refine lv_icmp_eq (tgt := 225) hx hb dM_added_207 (by decide) (fun hc => ?_) (fun hc => ?_)
        · rw [if_pos hc] at hf
          refine lv_aload_n hx hb dM_added_225 rfl (lv_at hl 2 rfl) ?_
          refine xm_aload_n hx hb (xvor _ _) dM_added_226 rfl (lv_at hl 3 rfl) ?_
          refine xm_vget (v := .int ((xpi ws9 0) (y1 - 1))) hx hb htx hown hK hP 0 (by decide) hg2 rfl ((hZ.1 (93, "kind", "I") (List.mem_of_getElem? (i := 0) rfl)).use rfl) rfl dM_added_227 ?_
          refine lv_bipush (v := 6) hx hb dM_added_230 (by decide) ?_
          refine lv_icmp_ne (tgt := 245) hx hb dM_added_232 (by decide) (fun hc => ?_) (fun hc => ?_)
          · rw [if_neg hc] at hf
            refine lv_null hx hb dM_added_245 ?_
            refine lv_aload_n hx hb dM_added_246 rfl (lv_at hl 2 rfl) ?_
            refine xm_aload_n hx hb (xvor _ _) dM_added_247 rfl (lv_at hl 4 rfl) ?_
            refine lv_iload hx hb dM_added_248 (lv_at hl 0 rfl) ?_
            obtain ⟨o3, hq4, hf⟩ := xbind hf
            have hFc := xm_free hD hS hA
            refine va_callq (va_runV (C := "ValueBenchModel") (As := [xv vadL y2, .int y4]) (rest := [.null, .ref aM]) ⟨hx, hb, hml, hown, htx⟩ (gM_kid l hl9 D cT aK aV H.size n aM adL rd gdL vadL ws9 y2 y4 o3 hq4) ⟨callB_of 2 htx (xw_goodC kw_6_158) rfl rfl rfl (htx _ kw_1_5) (htx _ kw_6_155) ⟨by decide, by decide, by decide +kernel⟩ ⟨Nat.le_of_ble_eq_true rfl, Nat.le_of_ble_eq_true rfl⟩, (htx _ kw_6_157), (htx _ kp_M_kid)⟩ ⟨xPre_blind, va_recv hK hP (ci := 5) rfl (q0 := 0) rfl, (fun U hU hW => ⟨rfl, xPre_of hZ hS hFc hP hD hK U hU hW⟩)⟩ rfl rfl hl.1 rfl (xm_room (Nat.le_of_ble_eq_true rfl)) dM_added_250 ⟨hm0.1, hm0.2⟩) hS (fun q _ h => hFc q h) hFc (fun r5 u9 t H1 locs ht hvm hr9 hB hz1 hk1 hS => ?_)
            obtain ⟨hP1, hK1, hD1⟩ := hB
            rw [ht] at hP1
            have hP : va_P D xcl (xMw cT aM adL rd gdL vadL ws9 []) H1 := hP1
            have hD : va_D A (xMw cT aM adL rd gdL vadL ws9 []) := hD1.weaken (fun k q _ h => hFc q.1 h)
            generalize H1 = H at hP hS ⊢
            rw [hr9]
            refine W.eq (g2 := F0 m 253 ls [xv vadL o3, .null, .ref aM]) (by first | rfl | (skip; rfl)) ?_
            obtain ⟨o6, hq7, hf⟩ := xbind hf
            obtain ⟨hm8, hf⟩ := xmoE hf
            have hFc := xm_free hD hS hA
            refine va_callv (va_runV (C := "ValueBenchModel") (As := [.null, xv vadL o3]) (rest := []) ⟨hx, hb, hml, hown, htx⟩ (gM_wait l hl9 D cT aK aV H.size n aM adL rd gdL vadL ws9 0 o3 o6 hq7) ⟨callB_of 2 htx (xw_goodC kw_6_112) rfl rfl rfl (htx _ kw_1_5) (htx _ kw_6_109) ⟨by decide, by decide, by decide +kernel⟩ ⟨Nat.le_of_ble_eq_true rfl, Nat.le_of_ble_eq_true rfl⟩, (htx _ kw_6_111), (htx _ kp_M_wait)⟩ ⟨xPre_blind, va_recv hK hP (ci := 5) rfl (q0 := 0) rfl, (fun U hU hW => ⟨rfl, xPre_of hZ hS hFc hP hD hK U hU hW⟩)⟩ rfl rfl hl.1 rfl (xm_room (Nat.le_of_ble_eq_true rfl)) dM_added_253 ⟨hm8.1, hm8.2⟩) hS (fun q _ h => hFc q h) hFc (fun u9 t H1 locs ht hvm hr9 hB hz1 hk1 hS => ?_)
            obtain ⟨hP1, hK1, hD1⟩ := hB
            rw [ht] at hP1
            obtain ⟨ad10, gd11, vad12⟩ := u9
            obtain ⟨hv13, hn14⟩ := hr9
            have hP : va_P D xcl (xMw cT aM ad10 rd gd11 vad12 o6.2.2 []) H1 := hP1
            have hD : va_D A (xMw cT aM ad10 rd gd11 vad12 o6.2.2 []) := hD1.weaken (fun k q _ h => hFc q.1 h)
            generalize H1 = H at hP hS ⊢
            have hE9 : ∀ p, p < xct st → vad12 p = vad p := fun p h => (hv13 p (Nat.lt_of_lt_of_le h hN)).trans (hE p h)
            have hE := hE9
            have hN : xct st ≤ xct o6.2.2 := Nat.le_trans hN hn14
            have ev15 : xv vadL y1 = xv vad12 y1 := xvE hv13 (fun h => hg2 (Or.inr h))
            have ev16 : xv vadL y2 = xv vad12 y2 := xvE hv13 (fun h => hg1 (Or.inr h))
            have hl : lv_has ls 6 [(4, .int y4), (3, .int y3), (0, .ref aM), (1, xv vad12 y1), (2, xv vad12 y2)] := by first | exact hl | ((try (rw [← ev15])); (try (rw [← ev16])); exact hl)
            refine W.eq (g2 := F0 m 256 ls []) (by first | rfl | ((try (rw [ev15])); (try (rw [ev16])); rfl)) ?_
            refine lv_iinc (v := (y4 + 1)) (lv' := [(4, .int (y4 + 1)), (3, .int y3), (0, .ref aM), (1, xv vad12 y1), (2, xv vad12 y2)]) hx hb dM_added_256 hl (k := 0) rfl rfl (by decide) rfl (fun ls hl => ?_)
            refine lv_goto (tgt := 193) hx hb dM_added_259 (by decide) ?_
            exact ih (2, (y4 + 1), y3, y1, y2, o6.2.2, (wc + o6.1), (wn + o6.2.1)) _ _ ls (Or.inr (⟨ad10, gd11, vad12, rfl, hf, hP, hD, hS, lv_sub hl [0, 1, 2, 3, 4] rfl, hE, hN⟩))
          · rw [if_pos hc] at hf
            refine lv_aload_n hx hb dM_added_235 rfl (lv_at hl 2 rfl) ?_
            refine xm_aload_n hx hb (xvor _ _) dM_added_236 rfl (lv_at hl 4 rfl) ?_
            refine lv_iload hx hb dM_added_237 (lv_at hl 0 rfl) ?_
            obtain ⟨o3, hq4, hf⟩ := xbind hf
            have hFc := xm_free hD hS hA
            refine va_callq (va_runV (C := "ValueBenchModel") (As := [xv vadL y2, .int y4]) (rest := [.ref aM]) ⟨hx, hb, hml, hown, htx⟩ (gM_name l hl9 D cT aK aV H.size n aM adL rd gdL vadL ws9 y2 y4 o3 hq4) ⟨callB_of 2 htx (xw_goodC kw_6_154) rfl rfl rfl (htx _ kw_1_5) (htx _ kw_6_151) ⟨by decide, by decide, by decide +kernel⟩ ⟨Nat.le_of_ble_eq_true rfl, Nat.le_of_ble_eq_true rfl⟩, (htx _ kw_6_153), (htx _ kp_M_name)⟩ ⟨xPre_blind, va_recv hK hP (ci := 5) rfl (q0 := 0) rfl, (fun U hU hW => ⟨rfl, xPre_of hZ hS hFc hP hD hK U hU hW⟩)⟩ rfl rfl hl.1 rfl (xm_room (Nat.le_of_ble_eq_true rfl)) dM_added_239 ⟨hm0.1, hm0.2⟩) hS (fun q _ h => hFc q h) hFc (fun r5 u9 t H1 locs ht hvm hr9 hB hz1 hk1 hS => ?_)
            obtain ⟨hP1, hK1, hD1⟩ := hB
            rw [ht] at hP1
            have hP : va_P D xcl (xMw cT aM adL rd gdL vadL ws9 []) H1 := hP1
            have hD : va_D A (xMw cT aM adL rd gdL vadL ws9 []) := hD1.weaken (fun k q _ h => hFc q.1 h)
            generalize H1 = H at hP hS ⊢
            rw [hr9]
            refine W.eq (g2 := F0 m 242 ls [xv vadL o3, .ref aM]) (by first | rfl | (skip; rfl)) ?_
            refine lv_goto (tgt := 246) hx hb dM_added_242 (by decide) ?_
            refine lv_aload_n hx hb dM_added_246 rfl (lv_at hl 2 rfl) ?_
            refine xm_aload_n hx hb (xvor _ _) dM_added_247 rfl (lv_at hl 4 rfl) ?_
            refine lv_iload hx hb dM_added_248 (lv_at hl 0 rfl) ?_
            obtain ⟨o6, hq7, hf⟩ := xbind hf
            have hFc := xm_free hD hS hA
            refine va_callq (va_runV (C := "ValueBenchModel") (As := [xv vadL y2, .int y4]) (rest := [xv vadL o3, .ref aM]) ⟨hx, hb, hml, hown, htx⟩ (gM_kid l hl9 D cT aK aV H.size n aM adL rd gdL vadL ws9 y2 y4 o6 hq7) ⟨callB_of 2 htx (xw_goodC kw_6_158) rfl rfl rfl (htx _ kw_1_5) (htx _ kw_6_155) ⟨by decide, by decide, by decide +kernel⟩ ⟨Nat.le_of_ble_eq_true rfl, Nat.le_of_ble_eq_true rfl⟩, (htx _ kw_6_157), (htx _ kp_M_kid)⟩ ⟨xPre_blind, va_recv hK hP (ci := 5) rfl (q0 := 0) rfl, (fun U hU hW => ⟨rfl, xPre_of hZ hS hFc hP hD hK U hU hW⟩)⟩ rfl rfl hl.1 rfl (xm_room (by simp [xvcat, xrscat, xcI, xcL, xcR, xcN])) dM_added_250 ⟨hm0.1, hm0.2⟩) hS (fun q _ h => hFc q h) hFc (fun r8 u9 t H1 locs ht hvm hr9 hB hz1 hk1 hS => ?_)
            obtain ⟨hP1, hK1, hD1⟩ := hB
            rw [ht] at hP1
            have hP : va_P D xcl (xMw cT aM adL rd gdL vadL ws9 []) H1 := hP1
            have hD : va_D A (xMw cT aM adL rd gdL vadL ws9 []) := hD1.weaken (fun k q _ h => hFc q.1 h)
            generalize H1 = H at hP hS ⊢
            rw [hr9]
            refine W.eq (g2 := F0 m 253 ls [xv vadL o6, xv vadL o3, .ref aM]) (by first | rfl | (skip; rfl)) ?_
            obtain ⟨o9, hq10, hf⟩ := xbind hf
            obtain ⟨hm11, hf⟩ := xmoE hf
            have hFc := xm_free hD hS hA
            refine va_callv (va_runV (C := "ValueBenchModel") (As := [xv vadL o3, xv vadL o6]) (rest := []) ⟨hx, hb, hml, hown, htx⟩ (gM_wait l hl9 D cT aK aV H.size n aM adL rd gdL vadL ws9 o3 o6 o9 hq10) ⟨callB_of 2 htx (xw_goodC kw_6_112) rfl rfl rfl (htx _ kw_1_5) (htx _ kw_6_109) ⟨by decide, by decide, by decide +kernel⟩ ⟨Nat.le_of_ble_eq_true rfl, Nat.le_of_ble_eq_true rfl⟩, (htx _ kw_6_111), (htx _ kp_M_wait)⟩ ⟨xPre_blind, va_recv hK hP (ci := 5) rfl (q0 := 0) rfl, (fun U hU hW => ⟨rfl, xPre_of hZ hS hFc hP hD hK U hU hW⟩)⟩ rfl rfl hl.1 rfl (xm_room (Nat.le_of_ble_eq_true rfl)) dM_added_253 ⟨hm11.1, hm11.2⟩) hS (fun q _ h => hFc q h) hFc (fun u9 t H1 locs ht hvm hr9 hB hz1 hk1 hS => ?_)
            obtain ⟨hP1, hK1, hD1⟩ := hB
            rw [ht] at hP1
            obtain ⟨ad13, gd14, vad15⟩ := u9
            obtain ⟨hv16, hn17⟩ := hr9
            have hP : va_P D xcl (xMw cT aM ad13 rd gd14 vad15 o9.2.2 []) H1 := hP1
            have hD : va_D A (xMw cT aM ad13 rd gd14 vad15 o9.2.2 []) := hD1.weaken (fun k q _ h => hFc q.1 h)
            generalize H1 = H at hP hS ⊢
            have hE9 : ∀ p, p < xct st → vad15 p = vad p := fun p h => (hv16 p (Nat.lt_of_lt_of_le h hN)).trans (hE p h)
            have hE := hE9
            have hN : xct st ≤ xct o9.2.2 := Nat.le_trans hN hn17
            have ev18 : xv vadL y1 = xv vad15 y1 := xvE hv16 (fun h => hg2 (Or.inr h))
            have ev19 : xv vadL y2 = xv vad15 y2 := xvE hv16 (fun h => hg1 (Or.inr h))
            have hl : lv_has ls 6 [(4, .int y4), (3, .int y3), (0, .ref aM), (1, xv vad15 y1), (2, xv vad15 y2)] := by first | exact hl | ((try (rw [← ev18])); (try (rw [← ev19])); exact hl)
            refine W.eq (g2 := F0 m 256 ls []) (by first | rfl | ((try (rw [ev18])); (try (rw [ev19])); rfl)) ?_
            refine lv_iinc (v := (y4 + 1)) (lv' := [(4, .int (y4 + 1)), (3, .int y3), (0, .ref aM), (1, xv vad15 y1), (2, xv vad15 y2)]) hx hb dM_added_256 hl (k := 0) rfl rfl (by decide) rfl (fun ls hl => ?_)
            refine lv_goto (tgt := 193) hx hb dM_added_259 (by decide) ?_
            exact ih (2, (y4 + 1), y3, y1, y2, o9.2.2, (wc + o9.1), (wn + o9.2.1)) _ _ ls (Or.inr (⟨ad13, gd14, vad15, rfl, hf, hP, hD, hS, lv_sub hl [0, 1, 2, 3, 4] rfl, hE, hN⟩))
        · rw [if_neg hc] at hf
          refine lv_aload_n hx hb dM_added_210 rfl (lv_at hl 2 rfl) ?_
          refine xm_aload_n hx hb (xvor _ _) dM_added_211 rfl (lv_at hl 3 rfl) ?_
          refine lv_aload_n hx hb dM_added_212 rfl (lv_at hl 2 rfl) ?_
          refine xm_aload_n hx hb (xvor _ _) dM_added_213 rfl (lv_at hl 4 rfl) ?_
          refine lv_iload hx hb dM_added_214 (lv_at hl 0 rfl) ?_
          obtain ⟨o3, hq4, hf⟩ := xbind hf
          have hFc := xm_free hD hS hA
          refine va_callq (va_runV (C := "ValueBenchModel") (As := [xv vadL y2, .int y4]) (rest := [xv vadL y1, .ref aM]) ⟨hx, hb, hml, hown, htx⟩ (gM_name l hl9 D cT aK aV H.size n aM adL rd gdL vadL ws9 y2 y4 o3 hq4) ⟨callB_of 2 htx (xw_goodC kw_6_154) rfl rfl rfl (htx _ kw_1_5) (htx _ kw_6_151) ⟨by decide, by decide, by decide +kernel⟩ ⟨Nat.le_of_ble_eq_true rfl, Nat.le_of_ble_eq_true rfl⟩, (htx _ kw_6_153), (htx _ kp_M_name)⟩ ⟨xPre_blind, va_recv hK hP (ci := 5) rfl (q0 := 0) rfl, (fun U hU hW => ⟨rfl, xPre_of hZ hS hFc hP hD hK U hU hW⟩)⟩ rfl rfl hl.1 rfl (xm_room (by simp [xvcat, xrscat, xcI, xcL, xcR, xcN])) dM_added_216 ⟨hm0.1, hm0.2⟩) hS (fun q _ h => hFc q h) hFc (fun r5 u9 t H1 locs ht hvm hr9 hB hz1 hk1 hS => ?_)
          obtain ⟨hP1, hK1, hD1⟩ := hB
          rw [ht] at hP1
          have hP : va_P D xcl (xMw cT aM adL rd gdL vadL ws9 []) H1 := hP1
          have hD : va_D A (xMw cT aM adL rd gdL vadL ws9 []) := hD1.weaken (fun k q _ h => hFc q.1 h)
          generalize H1 = H at hP hS ⊢
          rw [hr9]
          refine W.eq (g2 := F0 m 219 ls [xv vadL o3, xv vadL y1, .ref aM]) (by first | rfl | (skip; rfl)) ?_
          obtain ⟨o6, hq7, hf⟩ := xbind hf
          have hFc := xm_free hD hS hA
          refine va_calli (va_runV (C := "ValueBenchModel") (As := [xv vadL y1, xv vadL o3]) (rest := []) ⟨hx, hb, hml, hown, htx⟩ (gM_place l hl9 D cT aK aV H.size n aM adL rd gdL vadL ws9 y1 o3 o6 hq7) ⟨callB_of 2 htx (xw_goodC kw_6_178) rfl rfl rfl (htx _ kw_1_5) (htx _ kw_6_175) ⟨by decide, by decide, by decide +kernel⟩ ⟨Nat.le_of_ble_eq_true rfl, Nat.le_of_ble_eq_true rfl⟩, (htx _ kw_6_177), (htx _ kp_M_place)⟩ ⟨xPre_blind, va_recv hK hP (ci := 5) rfl (q0 := 0) rfl, (fun U hU hW => ⟨rfl, xPre_of hZ hS hFc hP hD hK U hU hW⟩)⟩ rfl rfl hl.1 rfl (xm_room (Nat.le_of_ble_eq_true rfl)) dM_added_219 ⟨hm0.1, hm0.2⟩) hS (fun q _ h => hFc q h) hFc (fun r8 u9 t H1 locs ht hvm hr9 hB hz1 hk1 hS => ?_)
          obtain ⟨hP1, hK1, hD1⟩ := hB
          rw [ht] at hP1
          have hP : va_P D xcl (xMw cT aM adL rd gdL vadL ws9 []) H1 := hP1
          have hD : va_D A (xMw cT aM adL rd gdL vadL ws9 []) := hD1.weaken (fun k q _ h => hFc q.1 h)
          generalize H1 = H at hP hS ⊢
          rw [hr9]
          refine W.eq (g2 := F0 m 222 ls [.int o6]) (by first | rfl | (skip; rfl)) ?_
          refine lv_if_ge (tgt := 256) hx hb dM_added_222 (by decide) (fun hc => ?_) (fun hc => ?_)
          · rw [if_pos hc] at hf
            refine lv_iinc (v := (y4 + 1)) (lv' := [(4, .int (y4 + 1)), (3, .int y3), (0, .ref aM), (1, xv vadL y1), (2, xv vadL y2)]) hx hb dM_added_256 hl (k := 0) rfl rfl (by decide) rfl (fun ls hl => ?_)
            refine lv_goto (tgt := 193) hx hb dM_added_259 (by decide) ?_
            exact ih (2, (y4 + 1), y3, y1, y2, ws9, wc, wn) _ _ ls (Or.inr (⟨adL, gdL, vadL, rfl, hf, hP, hD, hS, lv_sub hl [0, 1, 2, 3, 4] rfl, hE, hN⟩))
          · rw [if_neg hc] at hf
            refine lv_aload_n hx hb dM_added_225 rfl (lv_at hl 2 rfl) ?_
            refine xm_aload_n hx hb (xvor _ _) dM_added_226 rfl (lv_at hl 3 rfl) ?_
            refine xm_vget (v := .int ((xpi ws9 0) (y1 - 1))) hx hb htx hown hK hP 0 (by decide) hg2 rfl ((hZ.1 (93, "kind", "I") (List.mem_of_getElem? (i := 0) rfl)).use rfl) rfl dM_added_227 ?_
            refine lv_bipush (v := 6) hx hb dM_added_230 (by decide) ?_
            refine lv_icmp_ne (tgt := 245) hx hb dM_added_232 (by decide) (fun hc => ?_) (fun hc => ?_)
            · rw [if_neg hc] at hf
              refine lv_null hx hb dM_added_245 ?_
              refine lv_aload_n hx hb dM_added_246 rfl (lv_at hl 2 rfl) ?_
              refine xm_aload_n hx hb (xvor _ _) dM_added_247 rfl (lv_at hl 4 rfl) ?_
              refine lv_iload hx hb dM_added_248 (lv_at hl 0 rfl) ?_
              obtain ⟨o9, hq10, hf⟩ := xbind hf
              have hFc := xm_free hD hS hA
              refine va_callq (va_runV (C := "ValueBenchModel") (As := [xv vadL y2, .int y4]) (rest := [.null, .ref aM]) ⟨hx, hb, hml, hown, htx⟩ (gM_kid l hl9 D cT aK aV H.size n aM adL rd gdL vadL ws9 y2 y4 o9 hq10) ⟨callB_of 2 htx (xw_goodC kw_6_158) rfl rfl rfl (htx _ kw_1_5) (htx _ kw_6_155) ⟨by decide, by decide, by decide +kernel⟩ ⟨Nat.le_of_ble_eq_true rfl, Nat.le_of_ble_eq_true rfl⟩, (htx _ kw_6_157), (htx _ kp_M_kid)⟩ ⟨xPre_blind, va_recv hK hP (ci := 5) rfl (q0 := 0) rfl, (fun U hU hW => ⟨rfl, xPre_of hZ hS hFc hP hD hK U hU hW⟩)⟩ rfl rfl hl.1 rfl (xm_room (Nat.le_of_ble_eq_true rfl)) dM_added_250 ⟨hm0.1, hm0.2⟩) hS (fun q _ h => hFc q h) hFc (fun r11 u9 t H1 locs ht hvm hr9 hB hz1 hk1 hS => ?_)
              obtain ⟨hP1, hK1, hD1⟩ := hB
              rw [ht] at hP1
              have hP : va_P D xcl (xMw cT aM adL rd gdL vadL ws9 []) H1 := hP1
              have hD : va_D A (xMw cT aM adL rd gdL vadL ws9 []) := hD1.weaken (fun k q _ h => hFc q.1 h)
              generalize H1 = H at hP hS ⊢
              rw [hr9]
              refine W.eq (g2 := F0 m 253 ls [xv vadL o9, .null, .ref aM]) (by first | rfl | (skip; rfl)) ?_
              obtain ⟨o12, hq13, hf⟩ := xbind hf
              obtain ⟨hm14, hf⟩ := xmoE hf
              have hFc := xm_free hD hS hA
              refine va_callv (va_runV (C := "ValueBenchModel") (As := [.null, xv vadL o9]) (rest := []) ⟨hx, hb, hml, hown, htx⟩ (gM_wait l hl9 D cT aK aV H.size n aM adL rd gdL vadL ws9 0 o9 o12 hq13) ⟨callB_of 2 htx (xw_goodC kw_6_112) rfl rfl rfl (htx _ kw_1_5) (htx _ kw_6_109) ⟨by decide, by decide, by decide +kernel⟩ ⟨Nat.le_of_ble_eq_true rfl, Nat.le_of_ble_eq_true rfl⟩, (htx _ kw_6_111), (htx _ kp_M_wait)⟩ ⟨xPre_blind, va_recv hK hP (ci := 5) rfl (q0 := 0) rfl, (fun U hU hW => ⟨rfl, xPre_of hZ hS hFc hP hD hK U hU hW⟩)⟩ rfl rfl hl.1 rfl (xm_room (Nat.le_of_ble_eq_true rfl)) dM_added_253 ⟨hm14.1, hm14.2⟩) hS (fun q _ h => hFc q h) hFc (fun u9 t H1 locs ht hvm hr9 hB hz1 hk1 hS => ?_)
              obtain ⟨hP1, hK1, hD1⟩ := hB
              rw [ht] at hP1
              obtain ⟨ad16, gd17, vad18⟩ := u9
              obtain ⟨hv19, hn20⟩ := hr9
              have hP : va_P D xcl (xMw cT aM ad16 rd gd17 vad18 o12.2.2 []) H1 := hP1
              have hD : va_D A (xMw cT aM ad16 rd gd17 vad18 o12.2.2 []) := hD1.weaken (fun k q _ h => hFc q.1 h)
              generalize H1 = H at hP hS ⊢
              have hE9 : ∀ p, p < xct st → vad18 p = vad p := fun p h => (hv19 p (Nat.lt_of_lt_of_le h hN)).trans (hE p h)
              have hE := hE9
              have hN : xct st ≤ xct o12.2.2 := Nat.le_trans hN hn20
              have ev21 : xv vadL y1 = xv vad18 y1 := xvE hv19 (fun h => hg2 (Or.inr h))
              have ev22 : xv vadL y2 = xv vad18 y2 := xvE hv19 (fun h => hg1 (Or.inr h))
              have hl : lv_has ls 6 [(4, .int y4), (3, .int y3), (0, .ref aM), (1, xv vad18 y1), (2, xv vad18 y2)] := by first | exact hl | ((try (rw [← ev21])); (try (rw [← ev22])); exact hl)
              refine W.eq (g2 := F0 m 256 ls []) (by first | rfl | ((try (rw [ev21])); (try (rw [ev22])); rfl)) ?_
              refine lv_iinc (v := (y4 + 1)) (lv' := [(4, .int (y4 + 1)), (3, .int y3), (0, .ref aM), (1, xv vad18 y1), (2, xv vad18 y2)]) hx hb dM_added_256 hl (k := 0) rfl rfl (by decide) rfl (fun ls hl => ?_)
              refine lv_goto (tgt := 193) hx hb dM_added_259 (by decide) ?_
              exact ih (2, (y4 + 1), y3, y1, y2, o12.2.2, (wc + o12.1), (wn + o12.2.1)) _ _ ls (Or.inr (⟨ad16, gd17, vad18, rfl, hf, hP, hD, hS, lv_sub hl [0, 1, 2, 3, 4] rfl, hE, hN⟩))
            · rw [if_pos hc] at hf
              refine lv_aload_n hx hb dM_added_235 rfl (lv_at hl 2 rfl) ?_
              refine xm_aload_n hx hb (xvor _ _) dM_added_236 rfl (lv_at hl 4 rfl) ?_
              refine lv_iload hx hb dM_added_237 (lv_at hl 0 rfl) ?_
              obtain ⟨o9, hq10, hf⟩ := xbind hf
              have hFc := xm_free hD hS hA
              refine va_callq (va_runV (C := "ValueBenchModel") (As := [xv vadL y2, .int y4]) (rest := [.ref aM]) ⟨hx, hb, hml, hown, htx⟩ (gM_name l hl9 D cT aK aV H.size n aM adL rd gdL vadL ws9 y2 y4 o9 hq10) ⟨callB_of 2 htx (xw_goodC kw_6_154) rfl rfl rfl (htx _ kw_1_5) (htx _ kw_6_151) ⟨by decide, by decide, by decide +kernel⟩ ⟨Nat.le_of_ble_eq_true rfl, Nat.le_of_ble_eq_true rfl⟩, (htx _ kw_6_153), (htx _ kp_M_name)⟩ ⟨xPre_blind, va_recv hK hP (ci := 5) rfl (q0 := 0) rfl, (fun U hU hW => ⟨rfl, xPre_of hZ hS hFc hP hD hK U hU hW⟩)⟩ rfl rfl hl.1 rfl (xm_room (Nat.le_of_ble_eq_true rfl)) dM_added_239 ⟨hm0.1, hm0.2⟩) hS (fun q _ h => hFc q h) hFc (fun r11 u9 t H1 locs ht hvm hr9 hB hz1 hk1 hS => ?_)
              obtain ⟨hP1, hK1, hD1⟩ := hB
              rw [ht] at hP1
              have hP : va_P D xcl (xMw cT aM adL rd gdL vadL ws9 []) H1 := hP1
              have hD : va_D A (xMw cT aM adL rd gdL vadL ws9 []) := hD1.weaken (fun k q _ h => hFc q.1 h)
              generalize H1 = H at hP hS ⊢
              rw [hr9]
              refine W.eq (g2 := F0 m 242 ls [xv vadL o9, .ref aM]) (by first | rfl | (skip; rfl)) ?_
              refine lv_goto (tgt := 246) hx hb dM_added_242 (by decide) ?_
              refine lv_aload_n hx hb dM_added_246 rfl (lv_at hl 2 rfl) ?_
              refine xm_aload_n hx hb (xvor _ _) dM_added_247 rfl (lv_at hl 4 rfl) ?_
              refine lv_iload hx hb dM_added_248 (lv_at hl 0 rfl) ?_
              obtain ⟨o12, hq13, hf⟩ := xbind hf
              have hFc := xm_free hD hS hA
              refine va_callq (va_runV (C := "ValueBenchModel") (As := [xv vadL y2, .int y4]) (rest := [xv vadL o9, .ref aM]) ⟨hx, hb, hml, hown, htx⟩ (gM_kid l hl9 D cT aK aV H.size n aM adL rd gdL vadL ws9 y2 y4 o12 hq13) ⟨callB_of 2 htx (xw_goodC kw_6_158) rfl rfl rfl (htx _ kw_1_5) (htx _ kw_6_155) ⟨by decide, by decide, by decide +kernel⟩ ⟨Nat.le_of_ble_eq_true rfl, Nat.le_of_ble_eq_true rfl⟩, (htx _ kw_6_157), (htx _ kp_M_kid)⟩ ⟨xPre_blind, va_recv hK hP (ci := 5) rfl (q0 := 0) rfl, (fun U hU hW => ⟨rfl, xPre_of hZ hS hFc hP hD hK U hU hW⟩)⟩ rfl rfl hl.1 rfl (xm_room (by simp [xvcat, xrscat, xcI, xcL, xcR, xcN])) dM_added_250 ⟨hm0.1, hm0.2⟩) hS (fun q _ h => hFc q h) hFc (fun r14 u9 t H1 locs ht hvm hr9 hB hz1 hk1 hS => ?_)
              obtain ⟨hP1, hK1, hD1⟩ := hB
              rw [ht] at hP1
              have hP : va_P D xcl (xMw cT aM adL rd gdL vadL ws9 []) H1 := hP1
              have hD : va_D A (xMw cT aM adL rd gdL vadL ws9 []) := hD1.weaken (fun k q _ h => hFc q.1 h)
              generalize H1 = H at hP hS ⊢
              rw [hr9]
              refine W.eq (g2 := F0 m 253 ls [xv vadL o12, xv vadL o9, .ref aM]) (by first | rfl | (skip; rfl)) ?_
              obtain ⟨o15, hq16, hf⟩ := xbind hf
              obtain ⟨hm17, hf⟩ := xmoE hf
              have hFc := xm_free hD hS hA
              refine va_callv (va_runV (C := "ValueBenchModel") (As := [xv vadL o9, xv vadL o12]) (rest := []) ⟨hx, hb, hml, hown, htx⟩ (gM_wait l hl9 D cT aK aV H.size n aM adL rd gdL vadL ws9 o9 o12 o15 hq16) ⟨callB_of 2 htx (xw_goodC kw_6_112) rfl rfl rfl (htx _ kw_1_5) (htx _ kw_6_109) ⟨by decide, by decide, by decide +kernel⟩ ⟨Nat.le_of_ble_eq_true rfl, Nat.le_of_ble_eq_true rfl⟩, (htx _ kw_6_111), (htx _ kp_M_wait)⟩ ⟨xPre_blind, va_recv hK hP (ci := 5) rfl (q0 := 0) rfl, (fun U hU hW => ⟨rfl, xPre_of hZ hS hFc hP hD hK U hU hW⟩)⟩ rfl rfl hl.1 rfl (xm_room (Nat.le_of_ble_eq_true rfl)) dM_added_253 ⟨hm17.1, hm17.2⟩) hS (fun q _ h => hFc q h) hFc (fun u9 t H1 locs ht hvm hr9 hB hz1 hk1 hS => ?_)
              obtain ⟨hP1, hK1, hD1⟩ := hB
              rw [ht] at hP1
              obtain ⟨ad19, gd20, vad21⟩ := u9
              obtain ⟨hv22, hn23⟩ := hr9
              have hP : va_P D xcl (xMw cT aM ad19 rd gd20 vad21 o15.2.2 []) H1 := hP1
              have hD : va_D A (xMw cT aM ad19 rd gd20 vad21 o15.2.2 []) := hD1.weaken (fun k q _ h => hFc q.1 h)
              generalize H1 = H at hP hS ⊢
              have hE9 : ∀ p, p < xct st → vad21 p = vad p := fun p h => (hv22 p (Nat.lt_of_lt_of_le h hN)).trans (hE p h)
              have hE := hE9
              have hN : xct st ≤ xct o15.2.2 := Nat.le_trans hN hn23
              have ev24 : xv vadL y1 = xv vad21 y1 := xvE hv22 (fun h => hg2 (Or.inr h))
              have ev25 : xv vadL y2 = xv vad21 y2 := xvE hv22 (fun h => hg1 (Or.inr h))
              have hl : lv_has ls 6 [(4, .int y4), (3, .int y3), (0, .ref aM), (1, xv vad21 y1), (2, xv vad21 y2)] := by first | exact hl | ((try (rw [← ev24])); (try (rw [← ev25])); exact hl)
              refine W.eq (g2 := F0 m 256 ls []) (by first | rfl | ((try (rw [ev24])); (try (rw [ev25])); rfl)) ?_
              refine lv_iinc (v := (y4 + 1)) (lv' := [(4, .int (y4 + 1)), (3, .int y3), (0, .ref aM), (1, xv vad21 y1), (2, xv vad21 y2)]) hx hb dM_added_256 hl (k := 0) rfl rfl (by decide) rfl (fun ls hl => ?_)
              refine lv_goto (tgt := 193) hx hb dM_added_259 (by decide) ?_
              exact ih (2, (y4 + 1), y3, y1, y2, o15.2.2, (wc + o15.1), (wn + o15.2.1)) _ _ ls (Or.inr (⟨ad19, gd20, vad21, rfl, hf, hP, hD, hS, lv_sub hl [0, 1, 2, 3, 4] rfl, hE, hN⟩))
  refine xm_aload_n hx hb (xvor _ _) dM_added_0 rfl (lv_at hl 1 rfl) ?_
  obtain ⟨hg1, hf⟩ := xifn hf
  refine xm_vget (v := .int ((xpi st 0) (c0 - 1))) hx hb htx hown hK hP 0 (by decide) hg1 rfl ((hZ.1 (93, "kind", "I") (List.mem_of_getElem? (i := 0) rfl)).use rfl) rfl dM_added_1 ?_
  refine lv_if_ne (tgt := 9) hx hb dM_added_4 (by decide) (fun hc => ?_) (fun hc => ?_)
  · rw [if_neg hc] at hf
    refine xm_aload_n hx hb (xvor _ _) dM_added_9 rfl (lv_at hl 2 rfl) ?_
    obtain ⟨hg2, hf⟩ := xifn hf
    refine xm_vget (v := .int ((xpi st 0) (c1 - 1))) hx hb htx hown hK hP 0 (by decide) hg2 rfl ((hZ.1 (93, "kind", "I") (List.mem_of_getElem? (i := 0) rfl)).use rfl) rfl dM_added_10 ?_
    refine lv_if_ne (tgt := 18) hx hb dM_added_13 (by decide) (fun hc => ?_) (fun hc => ?_)
    · rw [if_neg hc] at hf
      refine xm_aload_n hx hb (xvor _ _) dM_added_18 rfl (lv_at hl 1 rfl) ?_
      refine xm_vget (v := .int ((xpi st 0) (c0 - 1))) hx hb htx hown hK hP 0 (by decide) hg1 rfl ((hZ.1 (93, "kind", "I") (List.mem_of_getElem? (i := 0) rfl)).use rfl) rfl dM_added_19 ?_
      refine xm_aload_n hx hb (xvor _ _) dM_added_22 rfl (lv_at hl 2 rfl) ?_
      refine xm_vget (v := .int ((xpi st 0) (c1 - 1))) hx hb htx hown hK hP 0 (by decide) hg2 rfl ((hZ.1 (93, "kind", "I") (List.mem_of_getElem? (i := 0) rfl)).use rfl) rfl dM_added_23 ?_
      refine lv_icmp_ne (tgt := 37) hx hb dM_added_26 (by decide) (fun hc => ?_) (fun hc => ?_)
      · rw [if_neg hc] at hf
        refine lv_aload_n hx hb dM_added_37 rfl (lv_at hl 0 rfl) ?_
        refine lv_iconst (v := 1) hx hb dM_added_38 (by decide) ?_
        obtain ⟨o3, hq4, hf⟩ := xbind hf
        have hl := lv_sub (l' := [(0, .ref aM)]) hl [0] rfl
        by_cases hk5 : o3.1 = 1
        · rw [if_pos hk5] at hf
          obtain ⟨hm6, hf⟩ := xmoE hf
          have hFc := xm_free hD hS hA
          refine xx_thr (vx_runV (C := "ValueBenchModel") (As := [.int 1]) (rest := []) ⟨hx, hb, hml, hown, htx⟩ (gM_refuse_1 l hl9 D cT aK aV s.heap.size n aM ad rd gd vad st (1 : Int32) o3 hq4 hk5) ⟨callB_of 1 htx (xw_goodC kw_6_93) rfl rfl rfl (htx _ kw_1_5) (htx _ kw_6_90) ⟨by decide, by decide, by decide +kernel⟩ ⟨Nat.le_of_ble_eq_true rfl, Nat.le_of_ble_eq_true rfl⟩, (htx _ kw_6_92), (htx _ kp_M_refuse)⟩ ⟨xPre_blind, va_recv hK hP (ci := 5) rfl (q0 := 0) rfl, (fun U hU hW => ⟨rfl, xPre_of hZ hS hFc hP hD hK U hU hW⟩)⟩ rfl rfl hl.1 rfl (xm_room (Nat.le_of_ble_eq_true rfl)) dM_added_39 ⟨hm6.1, hm6.2⟩) hS hFc (fun q _ h => hFc q h) (fun E ce q9 u9 t H1 locs ht hvm hr9 hB hz1 hk1 hS hce hcv hcl => ?_)
          obtain ⟨rfl, hP1, hK1, hD1⟩ := hB
          rw [ht] at hP1
          obtain ⟨ad8, gd9, vad10⟩ := u9
          obtain ⟨hv11, hn12⟩ := hr9
          have hP : va_P D xcl (xMw cT aM ad8 rd gd9 vad10 o3.2.2.2.2 []) H1 := hP1
          have hD : va_D A (xMw cT aM ad8 rd gd9 vad10 o3.2.2.2.2 []) := hD1.weaken (fun k q _ h => hFc q.1 h)
          generalize H1 = H at hP hS hce ⊢
          have hE9 : ∀ p, p < xct st → vad10 p = vad p := fun p h => (hv11 p (Nat.lt_of_lt_of_le h hN)).trans (hE p h)
          have hE := hE9
          have hN : xct st ≤ xct o3.2.2.2.2 := Nat.le_trans hN hn12
          obtain rfl := Option.some.inj hf
          exact vx_out (E := "java/lang/ArithmeticException") (fun x h => (hne x h).elim) hlocks hce hcv hcl (fun t ht ha => ⟨(ad8, gd9, vad10), ⟨hE, hN⟩, ⟨rfl, by rw [ht]; exact hP, va_K.moved ha hK, hD⟩, hS.F ht⟩) hS.2.2 (Nat.le_refl _) (Nat.le_refl _)
        rw [if_neg hk5] at hf
        exact nomatch hf
      · rw [if_pos hc] at hf
        refine xm_aload_n hx hb (xvor _ _) dM_added_29 rfl (lv_at hl 1 rfl) ?_
        refine xm_vget (v := .int ((xpi st 0) (c0 - 1))) hx hb htx hown hK hP 0 (by decide) hg1 rfl ((hZ.1 (93, "kind", "I") (List.mem_of_getElem? (i := 0) rfl)).use rfl) rfl dM_added_30 ?_
        refine lv_iconst (v := 3) hx hb dM_added_33 (by decide) ?_
        refine lv_icmp_ge (tgt := 43) hx hb dM_added_34 (by decide) (fun hc => ?_) (fun hc => ?_)
        · rw [if_pos hc] at hf
          refine xm_aload_n hx hb (xvor _ _) dM_added_43 rfl (lv_at hl 1 rfl) ?_
          refine xm_vget (v := .int ((xpi st 0) (c0 - 1))) hx hb htx hown hK hP 0 (by decide) hg1 rfl ((hZ.1 (93, "kind", "I") (List.mem_of_getElem? (i := 0) rfl)).use rfl) rfl dM_added_44 ?_
          refine lv_iconst (v := 3) hx hb dM_added_47 (by decide) ?_
          refine lv_icmp_ne (tgt := 65) hx hb dM_added_48 (by decide) (fun hc => ?_) (fun hc => ?_)
          · rw [if_neg hc] at hf
            refine xm_aload_n hx hb (xvor _ _) dM_added_65 rfl (lv_at hl 1 rfl) ?_
            refine xm_vget (v := .int ((xpi st 0) (c0 - 1))) hx hb htx hown hK hP 0 (by decide) hg1 rfl ((hZ.1 (93, "kind", "I") (List.mem_of_getElem? (i := 0) rfl)).use rfl) rfl dM_added_66 ?_
            refine lv_iconst (v := 4) hx hb dM_added_69 (by decide) ?_
            refine lv_icmp_ne (tgt := 94) hx hb dM_added_70 (by decide) (fun hc => ?_) (fun hc => ?_)
            · rw [if_neg hc] at hf
              refine lv_aload_n hx hb dM_added_94 rfl (lv_at hl 0 rfl) ?_
              refine xm_get (v := .int (xsi st 12)) hx hb htx hown hK hP 12 (by decide) rfl (htx _ kw_5_99) rfl dM_added_95 ?_
              refine lv_istore_n (lv' := [(3, .int (xsi st 12)), (0, .ref aM), (1, xv vad c0), (2, xv vad c1)]) hx hb dM_added_98 rfl hl (by decide) (by simp only [List.filter, xvcat, xrscat, xcI, xcL, xcR, xcN]; rfl) (fun ls hl => ?_)
              refine lv_iconst (v := 0) hx hb dM_added_99 (by decide) ?_
              refine lv_istore (lv' := [(4, .int 0), (3, .int (xsi st 12)), (0, .ref aM), (1, xv vad c0), (2, xv vad c1)]) hx hb dM_added_100 hl (by decide) rfl (fun ls hl => ?_)
              exact key n (1, (0 : Int32), (xsi st 12), c0, c1, st, 0, 0) _ _ ls (Or.inl ⟨ad, gd, vad, rfl, hf, hP, hD, hS, lv_sub hl [0, 1, 2, 3, 4] rfl, hE, hN⟩)
            · rw [if_pos hc] at hf
              refine lv_aload_n hx hb dM_added_73 rfl (lv_at hl 0 rfl) ?_
              refine xm_get (v := .int (xsi st 4)) hx hb htx hown hK hP 4 (by decide) rfl (htx _ kw_5_91) rfl dM_added_74 ?_
              refine lv_istore_n (lv' := [(3, .int (xsi st 4)), (0, .ref aM), (1, xv vad c0), (2, xv vad c1)]) hx hb dM_added_77 rfl hl (by decide) (by simp only [List.filter, xvcat, xrscat, xcI, xcL, xcR, xcN]; rfl) (fun ls hl => ?_)
              refine lv_aload_n hx hb dM_added_78 rfl (lv_at hl 1 rfl) ?_
              refine xm_aload_n hx hb (xvor _ _) dM_added_79 rfl (lv_at hl 2 rfl) ?_
              obtain ⟨o3, hq4, hf⟩ := xbind hf
              have hl := lv_sub (l' := [(3, .int (xsi st 4)), (0, .ref aM), (2, xv vad c1)]) hl [0, 1, 3] rfl
              obtain ⟨hm5, hf⟩ := xmoE hf
              have hFc := xm_free hD hS hA
              refine va_callv (va_runV (C := "ValueBenchModel") (As := [xv vad c0]) (rest := []) ⟨hx, hb, hml, hown, htx⟩ (gM_letters l hl9 D cT aK aV s.heap.size n aM ad rd gd vad st c0 o3 hq4) ⟨callB_of 1 htx (xw_goodC kw_6_207) rfl rfl rfl (htx _ kw_1_5) (htx _ kw_6_204) ⟨by decide, by decide, by decide +kernel⟩ ⟨Nat.le_of_ble_eq_true rfl, Nat.le_of_ble_eq_true rfl⟩, (htx _ kw_6_206), (htx _ kp_M_letters)⟩ ⟨xPre_blind, va_recv hK hP (ci := 5) rfl (q0 := 0) rfl, (fun U hU hW => ⟨rfl, xPre_of hZ hS hFc hP hD hK U hU hW⟩)⟩ rfl rfl hl.1 rfl (xm_room (Nat.le_of_ble_eq_true rfl)) dM_added_80 ⟨hm5.1, hm5.2⟩) hS (fun q _ h => hFc q h) hFc (fun u9 t H1 locs ht hvm hr9 hB hz1 hk1 hS => ?_)
              obtain ⟨hP1, hK1, hD1⟩ := hB
              rw [ht] at hP1
              obtain ⟨ad7, gd8, vad9⟩ := u9
              obtain ⟨hv10, hn11⟩ := hr9
              have hP : va_P D xcl (xMw cT aM ad7 rd gd8 vad9 o3.2.2 []) H1 := hP1
              have hD : va_D A (xMw cT aM ad7 rd gd8 vad9 o3.2.2 []) := hD1.weaken (fun k q _ h => hFc q.1 h)
              generalize H1 = H at hP hS ⊢
              have hE9 : ∀ p, p < xct st → vad9 p = vad p := fun p h => (hv10 p (Nat.lt_of_lt_of_le h hN)).trans (hE p h)
              have hE := hE9
              have hN : xct st ≤ xct o3.2.2 := Nat.le_trans hN hn11
              have ev12 : xv vad c1 = xv vad9 c1 := xvE hv10 (fun h => hg2 (Or.inr h))
              have hl : lv_has ls 6 [(3, .int (xsi st 4)), (0, .ref aM), (2, xv vad9 c1)] := by first | exact hl | ((try (rw [← ev12])); exact hl)
              refine W.eq (g2 := F0 m 83 ls []) (by first | rfl | ((try (rw [ev12])); rfl)) ?_
              refine lv_aload_n hx hb dM_added_83 rfl (lv_at hl 1 rfl) ?_
              refine xm_aload_n hx hb (xvor _ _) dM_added_84 rfl (lv_at hl 2 rfl) ?_
              obtain ⟨o13, hq14, hf⟩ := xbind hf
              have hl := lv_sub (l' := [(3, .int (xsi st 4)), (0, .ref aM)]) hl [0, 1] rfl
              obtain ⟨hm15, hf⟩ := xmoE hf
              have hFc := xm_free hD hS hA
              refine va_callv (va_runV (C := "ValueBenchModel") (As := [xv vad9 c1]) (rest := []) ⟨hx, hb, hml, hown, htx⟩ (gM_letters l hl9 D cT aK aV H.size n aM ad7 rd gd8 vad9 o3.2.2 c1 o13 hq14) ⟨callB_of 1 htx (xw_goodC kw_6_207) rfl rfl rfl (htx _ kw_1_5) (htx _ kw_6_204) ⟨by decide, by decide, by decide +kernel⟩ ⟨Nat.le_of_ble_eq_true rfl, Nat.le_of_ble_eq_true rfl⟩, (htx _ kw_6_206), (htx _ kp_M_letters)⟩ ⟨xPre_blind, va_recv hK hP (ci := 5) rfl (q0 := 0) rfl, (fun U hU hW => ⟨rfl, xPre_of hZ hS hFc hP hD hK U hU hW⟩)⟩ rfl rfl hl.1 rfl (xm_room (Nat.le_of_ble_eq_true rfl)) dM_added_85 ⟨hm15.1, hm15.2⟩) hS (fun q _ h => hFc q h) hFc (fun u9 t H1 locs ht hvm hr9 hB hz1 hk1 hS => ?_)
              obtain ⟨hP1, hK1, hD1⟩ := hB
              rw [ht] at hP1
              obtain ⟨ad17, gd18, vad19⟩ := u9
              obtain ⟨hv20, hn21⟩ := hr9
              have hP : va_P D xcl (xMw cT aM ad17 rd gd18 vad19 o13.2.2 []) H1 := hP1
              have hD : va_D A (xMw cT aM ad17 rd gd18 vad19 o13.2.2 []) := hD1.weaken (fun k q _ h => hFc q.1 h)
              generalize H1 = H at hP hS ⊢
              have hE9 : ∀ p, p < xct st → vad19 p = vad p := fun p h => (hv20 p (Nat.lt_of_lt_of_le h hN)).trans (hE p h)
              have hE := hE9
              have hN : xct st ≤ xct o13.2.2 := Nat.le_trans hN hn21
              refine W.eq (g2 := F0 m 88 ls []) (by first | rfl | (skip; rfl)) ?_
              refine lv_aload_n hx hb dM_added_88 rfl (lv_at hl 1 rfl) ?_
              refine lv_iload_n hx hb dM_added_89 rfl (lv_at hl 0 rfl) ?_
              obtain ⟨o22, hq23, hf⟩ := xbind hf
              by_cases hk24 : o22.1 = 0
              · rw [if_pos hk24] at hf
                obtain ⟨hm25, hf⟩ := xmoE hf
                have hFc := xm_free hD hS hA
                refine va_callq (va_runV (C := "ValueBenchModel") (As := [.int (xsi st 4)]) (rest := []) ⟨hx, hb, hml, hown, htx⟩ (gM_string l hl9 D cT aK aV H.size n aM ad17 rd gd18 vad19 o13.2.2 (xsi st 4) o22 hq23 hk24) ⟨callB_of 1 htx (xw_goodC kw_6_61) rfl rfl rfl (htx _ kw_1_5) (htx _ kw_6_58) ⟨by decide, by decide, by decide +kernel⟩ ⟨Nat.le_of_ble_eq_true rfl, Nat.le_of_ble_eq_true rfl⟩, (htx _ kw_6_60), (htx _ kp_M_string)⟩ ⟨xPre_blind, va_recv hK hP (ci := 5) rfl (q0 := 0) rfl, (fun U hU hW => ⟨rfl, xPre_of hZ hS hFc hP hD hK U hU hW⟩)⟩ rfl rfl hl.1 rfl (xm_room (Nat.le_of_ble_eq_true rfl)) dM_added_90 ⟨hm25.1, hm25.2⟩) hS (fun q _ h => hFc q h) hFc (fun r26 u9 t H1 locs ht hvm hr9 hB hz1 hk1 hS => ?_)
                obtain ⟨hP1, hK1, hD1⟩ := hB
                rw [ht] at hP1
                obtain ⟨ad27, gd28, vad29⟩ := u9
                obtain ⟨hr9, hv30, hn31⟩ := hr9
                have hP : va_P D xcl (xMw cT aM ad27 rd gd28 vad29 o22.2.2.2.2 []) H1 := hP1
                have hD : va_D A (xMw cT aM ad27 rd gd28 vad29 o22.2.2.2.2 []) := hD1.weaken (fun k q _ h => hFc q.1 h)
                generalize H1 = H at hP hS ⊢
                have hE9 : ∀ p, p < xct st → vad29 p = vad p := fun p h => (hv30 p (Nat.lt_of_lt_of_le h hN)).trans (hE p h)
                have hE := hE9
                have hN : xct st ≤ xct o22.2.2.2.2 := Nat.le_trans hN hn31
                rw [hr9]
                refine W.eq (g2 := F0 m 93 ls [xv vad29 o22.2.2.2.1]) (by first | rfl | (skip; rfl)) ?_
                obtain rfl := Option.some.inj hf
                exact absurd (show (0 : Nat) = 1 from hkd) (by decide)
              rw [if_neg hk24] at hf
              by_cases hk32 : o22.1 = 1
              · rw [if_pos hk32] at hf
                obtain ⟨hm33, hf⟩ := xmoE hf
                obtain rfl := Option.some.inj hf
                exact absurd (show (2 : Nat) = 1 from hkd) (by decide)
              rw [if_neg hk32] at hf
              exact nomatch hf
          · rw [if_pos hc] at hf
            refine lv_aload_n hx hb dM_added_51 rfl (lv_at hl 0 rfl) ?_
            refine xm_aload_n hx hb (xvor _ _) dM_added_52 rfl (lv_at hl 1 rfl) ?_
            refine xm_vget (v := .long ((xpl st) (c0 - 1))) hx hb htx hown hK hP 1 (by decide) hg1 rfl ((hZ.1 (96, "n", "J") (List.mem_of_getElem? (i := 1) rfl)).use rfl) rfl dM_added_53 ?_
            refine xm_aload_n hx hb (xvor _ _) dM_added_56 rfl (lv_at hl 2 rfl) ?_
            refine xm_vget (v := .long ((xpl st) (c1 - 1))) hx hb htx hown hK hP 1 (by decide) hg2 rfl ((hZ.1 (96, "n", "J") (List.mem_of_getElem? (i := 1) rfl)).use rfl) rfl dM_added_57 ?_
            refine lv_ladd hx hb dM_added_60 ?_
            obtain ⟨o3, hq4, hf⟩ := xbind hf
            have hl := lv_sub (l' := [(0, .ref aM)]) hl [0] rfl
            by_cases hk5 : o3.1 = 0
            · rw [if_pos hk5] at hf
              obtain ⟨hm6, hf⟩ := xmoE hf
              have hFc := xm_free hD hS hA
              refine va_callq (va_runV (C := "ValueBenchModel") (As := [.long (((xpl st) (c0 - 1)) + ((xpl st) (c1 - 1)))]) (rest := []) ⟨hx, hb, hml, hown, htx⟩ (gM_number l hl9 D cT aK aV s.heap.size n aM ad rd gd vad st (((xpl st) (c0 - 1)) + ((xpl st) (c1 - 1))) o3 hq4 hk5) ⟨callB_of 1 htx (xw_goodC kw_6_88) rfl rfl rfl (htx _ kw_1_5) (htx _ kw_6_85) ⟨by decide, by decide, by decide +kernel⟩ ⟨Nat.le_of_ble_eq_true rfl, Nat.le_of_ble_eq_true rfl⟩, (htx _ kw_6_87), (htx _ kp_M_number)⟩ ⟨xPre_blind, va_recv hK hP (ci := 5) rfl (q0 := 0) rfl, (fun U hU hW => ⟨rfl, xPre_of hZ hS hFc hP hD hK U hU hW⟩)⟩ rfl rfl hl.1 rfl (xm_room (Nat.le_of_ble_eq_true rfl)) dM_added_61 ⟨hm6.1, hm6.2⟩) hS (fun q _ h => hFc q h) hFc (fun r7 u9 t H1 locs ht hvm hr9 hB hz1 hk1 hS => ?_)
              obtain ⟨hP1, hK1, hD1⟩ := hB
              rw [ht] at hP1
              obtain ⟨ad8, gd9, vad10⟩ := u9
              obtain ⟨hr9, hv11, hn12⟩ := hr9
              have hP : va_P D xcl (xMw cT aM ad8 rd gd9 vad10 o3.2.2.2.2 []) H1 := hP1
              have hD : va_D A (xMw cT aM ad8 rd gd9 vad10 o3.2.2.2.2 []) := hD1.weaken (fun k q _ h => hFc q.1 h)
              generalize H1 = H at hP hS ⊢
              have hE9 : ∀ p, p < xct st → vad10 p = vad p := fun p h => (hv11 p (Nat.lt_of_lt_of_le h hN)).trans (hE p h)
              have hE := hE9
              have hN : xct st ≤ xct o3.2.2.2.2 := Nat.le_trans hN hn12
              rw [hr9]
              refine W.eq (g2 := F0 m 64 ls [xv vad10 o3.2.2.2.1]) (by first | rfl | (skip; rfl)) ?_
              obtain rfl := Option.some.inj hf
              exact absurd (show (0 : Nat) = 1 from hkd) (by decide)
            rw [if_neg hk5] at hf
            by_cases hk13 : o3.1 = 1
            · rw [if_pos hk13] at hf
              obtain ⟨hm14, hf⟩ := xmoE hf
              have hFc := xm_free hD hS hA
              refine xx_thr (vx_runV (C := "ValueBenchModel") (As := [.long (((xpl st) (c0 - 1)) + ((xpl st) (c1 - 1)))]) (rest := []) ⟨hx, hb, hml, hown, htx⟩ (gM_number_1 l hl9 D cT aK aV s.heap.size n aM ad rd gd vad st (((xpl st) (c0 - 1)) + ((xpl st) (c1 - 1))) o3 hq4 hk13) ⟨callB_of 1 htx (xw_goodC kw_6_88) rfl rfl rfl (htx _ kw_1_5) (htx _ kw_6_85) ⟨by decide, by decide, by decide +kernel⟩ ⟨Nat.le_of_ble_eq_true rfl, Nat.le_of_ble_eq_true rfl⟩, (htx _ kw_6_87), (htx _ kp_M_number)⟩ ⟨xPre_blind, va_recv hK hP (ci := 5) rfl (q0 := 0) rfl, (fun U hU hW => ⟨rfl, xPre_of hZ hS hFc hP hD hK U hU hW⟩)⟩ rfl rfl hl.1 rfl (xm_room (Nat.le_of_ble_eq_true rfl)) dM_added_61 ⟨hm14.1, hm14.2⟩) hS hFc (fun q _ h => hFc q h) (fun E ce q9 u9 t H1 locs ht hvm hr9 hB hz1 hk1 hS hce hcv hcl => ?_)
              obtain ⟨rfl, hP1, hK1, hD1⟩ := hB
              rw [ht] at hP1
              obtain ⟨ad16, gd17, vad18⟩ := u9
              obtain ⟨hv19, hn20⟩ := hr9
              have hP : va_P D xcl (xMw cT aM ad16 rd gd17 vad18 o3.2.2.2.2 []) H1 := hP1
              have hD : va_D A (xMw cT aM ad16 rd gd17 vad18 o3.2.2.2.2 []) := hD1.weaken (fun k q _ h => hFc q.1 h)
              generalize H1 = H at hP hS hce ⊢
              have hE9 : ∀ p, p < xct st → vad18 p = vad p := fun p h => (hv19 p (Nat.lt_of_lt_of_le h hN)).trans (hE p h)
              have hE := hE9
              have hN : xct st ≤ xct o3.2.2.2.2 := Nat.le_trans hN hn20
              obtain rfl := Option.some.inj hf
              exact vx_out (E := "java/lang/ArithmeticException") (fun x h => (hne x h).elim) hlocks hce hcv hcl (fun t ht ha => ⟨(ad16, gd17, vad18), ⟨hE, hN⟩, ⟨rfl, by rw [ht]; exact hP, va_K.moved ha hK, hD⟩, hS.F ht⟩) hS.2.2 (Nat.le_refl _) (Nat.le_refl _)
            rw [if_neg hk13] at hf
            exact nomatch hf
        · rw [if_neg hc] at hf
          refine lv_aload_n hx hb dM_added_37 rfl (lv_at hl 0 rfl) ?_
          refine lv_iconst (v := 1) hx hb dM_added_38 (by decide) ?_
          obtain ⟨o3, hq4, hf⟩ := xbind hf
          have hl := lv_sub (l' := [(0, .ref aM)]) hl [0] rfl
          by_cases hk5 : o3.1 = 1
          · rw [if_pos hk5] at hf
            obtain ⟨hm6, hf⟩ := xmoE hf
            have hFc := xm_free hD hS hA
            refine xx_thr (vx_runV (C := "ValueBenchModel") (As := [.int 1]) (rest := []) ⟨hx, hb, hml, hown, htx⟩ (gM_refuse_1 l hl9 D cT aK aV s.heap.size n aM ad rd gd vad st (1 : Int32) o3 hq4 hk5) ⟨callB_of 1 htx (xw_goodC kw_6_93) rfl rfl rfl (htx _ kw_1_5) (htx _ kw_6_90) ⟨by decide, by decide, by decide +kernel⟩ ⟨Nat.le_of_ble_eq_true rfl, Nat.le_of_ble_eq_true rfl⟩, (htx _ kw_6_92), (htx _ kp_M_refuse)⟩ ⟨xPre_blind, va_recv hK hP (ci := 5) rfl (q0 := 0) rfl, (fun U hU hW => ⟨rfl, xPre_of hZ hS hFc hP hD hK U hU hW⟩)⟩ rfl rfl hl.1 rfl (xm_room (Nat.le_of_ble_eq_true rfl)) dM_added_39 ⟨hm6.1, hm6.2⟩) hS hFc (fun q _ h => hFc q h) (fun E ce q9 u9 t H1 locs ht hvm hr9 hB hz1 hk1 hS hce hcv hcl => ?_)
            obtain ⟨rfl, hP1, hK1, hD1⟩ := hB
            rw [ht] at hP1
            obtain ⟨ad8, gd9, vad10⟩ := u9
            obtain ⟨hv11, hn12⟩ := hr9
            have hP : va_P D xcl (xMw cT aM ad8 rd gd9 vad10 o3.2.2.2.2 []) H1 := hP1
            have hD : va_D A (xMw cT aM ad8 rd gd9 vad10 o3.2.2.2.2 []) := hD1.weaken (fun k q _ h => hFc q.1 h)
            generalize H1 = H at hP hS hce ⊢
            have hE9 : ∀ p, p < xct st → vad10 p = vad p := fun p h => (hv11 p (Nat.lt_of_lt_of_le h hN)).trans (hE p h)
            have hE := hE9
            have hN : xct st ≤ xct o3.2.2.2.2 := Nat.le_trans hN hn12
            obtain rfl := Option.some.inj hf
            exact vx_out (E := "java/lang/ArithmeticException") (fun x h => (hne x h).elim) hlocks hce hcv hcl (fun t ht ha => ⟨(ad8, gd9, vad10), ⟨hE, hN⟩, ⟨rfl, by rw [ht]; exact hP, va_K.moved ha hK, hD⟩, hS.F ht⟩) hS.2.2 (Nat.le_refl _) (Nat.le_refl _)
          rw [if_neg hk5] at hf
          exact nomatch hf
    · rw [if_pos hc] at hf
      refine xm_aload_n hx hb (xvor _ _) dM_added_16 rfl (lv_at hl 1 rfl) ?_
      obtain rfl := Option.some.inj hf
      exact absurd (show (0 : Nat) = 1 from hkd) (by decide)
  · rw [if_pos hc] at hf
    refine xm_aload_n hx hb (xvor _ _) dM_added_7 rfl (lv_at hl 2 rfl) ?_
    obtain rfl := Option.some.inj hf
    exact absurd (show (0 : Nat) = 1 from hkd) (by decide)
set_option maxHeartbeats 400000000 in
set_option maxRecDepth 100000 in
theorem gM_added_2 (l : Launch) (hl9 : l.stackTraces = false) (D : va_G) (cT : Nat → ClassId) (aK aV : Nat → Nat) (sz n : Nat) (aM : Nat) (ad rd gd vad : Nat → Nat) (st : xS) (c0 : Nat) (c1 : Nat) (out : Nat × Nat × Nat × Nat × xS) (hf : fM_added n st c0 c1 = some out) (hkd : out.1 = 2) : xMetY l yM_added wyM_added 8 out.2.1 out.2.2.1 147 D cT aK aV sz [.ref aM, xv vad c0, xv vad c1] (xMw cT aM ad rd gd vad st []) "java/lang/IndexOutOfBoundsException" (fun u => xE vad st out.2.2.2.2 u) (fun A u t => xB D xcl cT A (xMw cT aM u.1 rd u.2.1 u.2.2 out.2.2.2.2 []) t) := by
  refine vx_ofW (cc := prog_13_method_49_code) (maxL := 6) (ret := (some (.object "ValueBenchModel$V"))) (by decide) rfl ?_
  intro p e s m args below meth c s₁ B hml hne hv
  obtain ⟨rfl, hsz, hZ, hP, hK, hD0⟩ := hv
  have hx := B.exec
  have hb := B.bytes
  have hr := B.returns
  have hts := atoms_spec (ws := wyM_added) B.pre
  have htx := fun w h => hts w (List.mem_cons_of_mem _ h)
  have hown : s.vm.findClass "ValueBenchModel" = some m.cls := findClass_of_methodNamed B.named
  have hlocks := B.notSynchronized
  subst hsz
  have hD := hD0.self (sz := s.heap.size)
  generalize hAe : va_A (xMw cT aM ad rd gd vad st []) s.heap.size = A at hD hZ ⊢
  have hA : ∀ q : Nat, s.heap.size ≤ q → A q := fun q h => by rw [← hAe]; exact Or.inr h
  have hS : va_S A s.heap s.heap [] := va_S.rf
  have hl := lv_entry ([.ref aM, xv vad c0, xv vad c1]) (n := 6) (by simp [lg_sl, xvcat, xrscat, xcI, xcL, xcR, xcN])
  rw [show lv_args 0 [.ref aM, xv vad c0, xv vad c1] = [(0, .ref aM), (1, xv vad c0), (2, xv vad c1)] from by simp [lv_args, xvcat, xrscat, xcI, xcL, xcR, xcN]] at hl
  rw [lg_entry_eq]
  generalize (lg_sl ([.ref aM, xv vad c0, xv vad c1]) ++ List.replicate (6 - (lg_sl ([.ref aM, xv vad c0, xv vad c1])).length) Slot.unset).toArray = ls at hl ⊢
  have hl : lv_has ls 6 [(0, .ref aM), (1, xv vad c0), (2, xv vad c1)] := hl
  have hE : ∀ p, p < xct st → vad p = vad p := fun _ _ => rfl
  have hN : xct st ≤ xct st := Nat.le_refl _
  unfold fM_added at hf
  refine xloopM (σ := Nat × Int32 × Int32 × Nat × Nat × xS × Nat × Nat) (fun n x H locs ls => (∃ (adL gdL vadL : Nat → Nat), x.1 = 1 ∧ fM_added_b n x.1 x.2.1 x.2.2.1 x.2.2.2.1 x.2.2.2.2.1 x.2.2.2.2.2.1 x.2.2.2.2.2.2.1 x.2.2.2.2.2.2.2 = some out ∧ va_P D xcl (xMw cT aM adL rd gdL vadL x.2.2.2.2.2.1 []) H ∧ va_D A (xMw cT aM adL rd gdL vadL x.2.2.2.2.2.1 []) ∧ va_S A s.heap H locs ∧ lv_has ls 6 [(4, .int x.2.1), (3, .int x.2.2.1), (0, .ref aM), (1, xv vadL x.2.2.2.1), (2, xv vadL x.2.2.2.2.1)] ∧ (∀ p, p < xct st → vadL p = vad p) ∧ xct st ≤ xct x.2.2.2.2.2.1) ∨ (∃ (adL gdL vadL : Nat → Nat), x.1 = 2 ∧ fM_added_b n x.1 x.2.1 x.2.2.1 x.2.2.2.1 x.2.2.2.2.1 x.2.2.2.2.2.1 x.2.2.2.2.2.2.1 x.2.2.2.2.2.2.2 = some out ∧ va_P D xcl (xMw cT aM adL rd gdL vadL x.2.2.2.2.2.1 []) H ∧ va_D A (xMw cT aM adL rd gdL vadL x.2.2.2.2.2.1 []) ∧ va_S A s.heap H locs ∧ lv_has ls 6 [(4, .int x.2.1), (3, .int x.2.2.1), (0, .ref aM), (1, xv vadL x.2.2.2.1), (2, xv vadL x.2.2.2.2.1)] ∧ (∀ p, p < xct st → vadL p = vad p) ∧ xct st ≤ xct x.2.2.2.2.2.1)) (fun x => if x.1 = 1 then 102 else 193) (fun x => x.2.2.2.2.2.2.1) (fun x => x.2.2.2.2.2.2.2) (fun x H locs ls h => by rcases h with h | h; (obtain ⟨_, _, _, h⟩ := h; exact absurd h.2.1 (by rw [fM_added_b]; exact fun h => nomatch h)); (obtain ⟨_, _, _, h⟩ := h; exact absurd h.2.1 (by rw [fM_added_b]; exact fun h => nomatch h))) (fun n ih x H locs ls hv => ?_) (fun key => ?_)
  · obtain ⟨lb, y4, y3, y1, y2, ws9, wc, wn⟩ := x
    rcases hv with ⟨adL, gdL, vadL, hj, hf, hP, hD, hS, hl, hE, hN⟩ | ⟨adL, gdL, vadL, hj, hf, hP, hD, hS, hl, hE, hN⟩
    · subst hj
      have hf : fM_added_b (n + 1) 1 y4 y3 y1 y2 ws9 wc wn = some out := hf
      rw [fM_added_b, if_pos rfl] at hf
      obtain ⟨hP, hD⟩ : xPD D xcl A (xMw cT aM adL rd gdL vadL ws9 []) H := ⟨hP, hD⟩
      have hl : lv_has ls 6 [(4, .int y4), (3, .int y3), (0, .ref aM), (1, xv vadL y1), (2, xv vadL y2)] := hl
      refine W.eq (g2 := F0 m 102 ls []) rfl ?_
      show W p l e _ s m _ below meth c H locs wc wn _ _
      obtain ⟨hm0, hf⟩ := xmoE hf
      refine lv_iload hx hb dM_added_102 (lv_at hl 0 rfl) ?_
      refine xm_aload_n hx hb (xvor _ _) dM_added_104 rfl (lv_at hl 3 rfl) ?_
      obtain ⟨hg1, hf⟩ := xifn hf
      refine xm_vget (v := .int ((xpi ws9 3) (y1 - 1))) hx hb htx hown hK hP 3 (by decide) hg1 rfl ((hZ.1 (103, "count", "I") (List.mem_of_getElem? (i := 3) rfl)).use rfl) rfl dM_added_105 ?_
      refine lv_icmp_ge (tgt := 190) hx hb dM_added_108 (by decide) (fun hc => ?_) (fun hc => ?_)
      · rw [if_pos hc] at hf
        refine lv_iconst (v := 0) hx hb dM_added_190 (by decide) ?_
        refine lv_istore (lv' := [(4, .int 0), (3, .int y3), (0, .ref aM), (1, xv vadL y1), (2, xv vadL y2)]) hx hb dM_added_191 hl (by decide) rfl (fun ls hl => ?_)
        exact ih (2, (0 : Int32), y3, y1, y2, ws9, wc, wn) _ _ ls (Or.inr (⟨adL, gdL, vadL, rfl, hf, hP, hD, hS, lv_sub hl [0, 1, 2, 3, 4] rfl, hE, hN⟩))
      · rw [if_neg hc] at hf
        refine xm_aload_n hx hb (xvor _ _) dM_added_111 rfl (lv_at hl 3 rfl) ?_
        refine xm_vget (v := .int ((xpi ws9 0) (y1 - 1))) hx hb htx hown hK hP 0 (by decide) hg1 rfl ((hZ.1 (93, "kind", "I") (List.mem_of_getElem? (i := 0) rfl)).use rfl) rfl dM_added_112 ?_
        refine lv_bipush (v := 6) hx hb dM_added_115 (by decide) ?_
        refine lv_icmp_ne (tgt := 135) hx hb dM_added_117 (by decide) (fun hc => ?_) (fun hc => ?_)
        · rw [if_neg hc] at hf
          refine lv_iconst (v := (-1)) hx hb dM_added_135 (by decide) ?_
          refine lv_istore (lv' := [(5, .int (-1)), (4, .int y4), (3, .int y3), (0, .ref aM), (1, xv vadL y1), (2, xv vadL y2)]) hx hb dM_added_136 hl (by decide) rfl (fun ls hl => ?_)
          refine lv_aload_n hx hb dM_added_138 rfl (lv_at hl 3 rfl) ?_
          refine xm_aload_n hx hb (xvor _ _) dM_added_139 rfl (lv_at hl 4 rfl) ?_
          refine xm_vget (v := .int ((xpi ws9 0) (y1 - 1))) hx hb htx hown hK hP 0 (by decide) hg1 rfl ((hZ.1 (93, "kind", "I") (List.mem_of_getElem? (i := 0) rfl)).use rfl) rfl dM_added_140 ?_
          refine lv_bipush (v := 6) hx hb dM_added_143 (by decide) ?_
          refine lv_icmp_ne (tgt := 158) hx hb dM_added_145 (by decide) (fun hc => ?_) (fun hc => ?_)
          · rw [if_neg hc] at hf
            refine lv_null hx hb dM_added_158 ?_
            refine lv_iload hx hb dM_added_159 (lv_at hl 0 rfl) ?_
            refine lv_if_ge (tgt := 174) hx hb dM_added_161 (by decide) (fun h => ((by revert h; decide : False)).elim) (fun _ => ?_)
            refine lv_aload_n hx hb dM_added_164 rfl (lv_at hl 3 rfl) ?_
            refine xm_aload_n hx hb (xvor _ _) dM_added_165 rfl (lv_at hl 4 rfl) ?_
            refine lv_iload hx hb dM_added_166 (lv_at hl 1 rfl) ?_
            obtain ⟨o2, hq3, hf⟩ := xbind hf
            have hFc := xm_free hD hS hA
            refine va_callq (va_runV (C := "ValueBenchModel") (As := [xv vadL y1, .int y4]) (rest := [.null, .ref aM]) ⟨hx, hb, hml, hown, htx⟩ (gM_kid l hl9 D cT aK aV H.size n aM adL rd gdL vadL ws9 y1 y4 o2 hq3) ⟨callB_of 2 htx (xw_goodC kw_6_158) rfl rfl rfl (htx _ kw_1_5) (htx _ kw_6_155) ⟨by decide, by decide, by decide +kernel⟩ ⟨Nat.le_of_ble_eq_true rfl, Nat.le_of_ble_eq_true rfl⟩, (htx _ kw_6_157), (htx _ kp_M_kid)⟩ ⟨xPre_blind, va_recv hK hP (ci := 5) rfl (q0 := 0) rfl, (fun U hU hW => ⟨rfl, xPre_of hZ hS hFc hP hD hK U hU hW⟩)⟩ rfl rfl hl.1 rfl (xm_room (Nat.le_of_ble_eq_true rfl)) dM_added_168 ⟨hm0.1, hm0.2⟩) hS (fun q _ h => hFc q h) hFc (fun r4 u9 t H1 locs ht hvm hr9 hB hz1 hk1 hS => ?_)
            obtain ⟨hP1, hK1, hD1⟩ := hB
            rw [ht] at hP1
            have hP : va_P D xcl (xMw cT aM adL rd gdL vadL ws9 []) H1 := hP1
            have hD : va_D A (xMw cT aM adL rd gdL vadL ws9 []) := hD1.weaken (fun k q _ h => hFc q.1 h)
            generalize H1 = H at hP hS ⊢
            rw [hr9]
            refine W.eq (g2 := F0 m 171 ls [xv vadL o2, .null, .ref aM]) (by first | rfl | (skip; rfl)) ?_
            refine lv_goto (tgt := 181) hx hb dM_added_171 (by decide) ?_
            obtain ⟨o5, hq6, hf⟩ := xbind hf
            obtain ⟨hg7, hf⟩ := xifn hf
            obtain ⟨hm8, hf⟩ := xmoE hf
            have hFc := xm_free hD hS hA
            refine va_callv (va_runV (C := "ValueBenchModel") (As := [.null, xv vadL o2]) (rest := []) ⟨hx, hb, hml, hown, htx⟩ (gM_wait l hl9 D cT aK aV H.size n aM adL rd gdL vadL ws9 0 o2 o5 hq6) ⟨callB_of 2 htx (xw_goodC kw_6_112) rfl rfl rfl (htx _ kw_1_5) (htx _ kw_6_109) ⟨by decide, by decide, by decide +kernel⟩ ⟨Nat.le_of_ble_eq_true rfl, Nat.le_of_ble_eq_true rfl⟩, (htx _ kw_6_111), (htx _ kp_M_wait)⟩ ⟨xPre_blind, va_recv hK hP (ci := 5) rfl (q0 := 0) rfl, (fun U hU hW => ⟨rfl, xPre_of hZ hS hFc hP hD hK U hU hW⟩)⟩ rfl rfl hl.1 rfl (xm_room (Nat.le_of_ble_eq_true rfl)) dM_added_181 ⟨hm8.1, hm8.2⟩) hS (fun q _ h => hFc q h) hFc (fun u9 t H1 locs ht hvm hr9 hB hz1 hk1 hS => ?_)
            obtain ⟨hP1, hK1, hD1⟩ := hB
            rw [ht] at hP1
            obtain ⟨ad10, gd11, vad12⟩ := u9
            obtain ⟨hv13, hn14⟩ := hr9
            have hP : va_P D xcl (xMw cT aM ad10 rd gd11 vad12 o5.2.2 []) H1 := hP1
            have hD : va_D A (xMw cT aM ad10 rd gd11 vad12 o5.2.2 []) := hD1.weaken (fun k q _ h => hFc q.1 h)
            generalize H1 = H at hP hS ⊢
            have hE9 : ∀ p, p < xct st → vad12 p = vad p := fun p h => (hv13 p (Nat.lt_of_lt_of_le h hN)).trans (hE p h)
            have hE := hE9
            have hN : xct st ≤ xct o5.2.2 := Nat.le_trans hN hn14
            have ev15 : xv vadL y1 = xv vad12 y1 := xvE hv13 (fun h => hg1 (Or.inr h))
            have ev16 : xv vadL y2 = xv vad12 y2 := xvE hv13 hg7
            have hl : lv_has ls 6 [(5, .int (-1)), (4, .int y4), (3, .int y3), (0, .ref aM), (1, xv vad12 y1), (2, xv vad12 y2)] := by first | exact hl | ((try (rw [← ev15])); (try (rw [← ev16])); exact hl)
            refine W.eq (g2 := F0 m 184 ls []) (by first | rfl | ((try (rw [ev15])); (try (rw [ev16])); rfl)) ?_
            refine lv_iinc (v := (y4 + 1)) (lv' := [(4, .int (y4 + 1)), (5, .int (-1)), (3, .int y3), (0, .ref aM), (1, xv vad12 y1), (2, xv vad12 y2)]) hx hb dM_added_184 hl (k := 1) rfl rfl (by decide) rfl (fun ls hl => ?_)
            refine lv_goto (tgt := 102) hx hb dM_added_187 (by decide) ?_
            exact ih (1, (y4 + 1), y3, y1, y2, o5.2.2, (wc + o5.1), (wn + o5.2.1)) _ _ ls (Or.inl ⟨ad10, gd11, vad12, rfl, hf, hP, hD, hS, lv_sub hl [0, 2, 3, 4, 5] rfl, hE, hN⟩)
          · rw [if_pos hc] at hf
            refine lv_aload_n hx hb dM_added_148 rfl (lv_at hl 3 rfl) ?_
            refine xm_aload_n hx hb (xvor _ _) dM_added_149 rfl (lv_at hl 4 rfl) ?_
            refine lv_iload hx hb dM_added_150 (lv_at hl 1 rfl) ?_
            obtain ⟨o2, hq3, hf⟩ := xbind hf
            have hFc := xm_free hD hS hA
            refine va_callq (va_runV (C := "ValueBenchModel") (As := [xv vadL y1, .int y4]) (rest := [.ref aM]) ⟨hx, hb, hml, hown, htx⟩ (gM_name l hl9 D cT aK aV H.size n aM adL rd gdL vadL ws9 y1 y4 o2 hq3) ⟨callB_of 2 htx (xw_goodC kw_6_154) rfl rfl rfl (htx _ kw_1_5) (htx _ kw_6_151) ⟨by decide, by decide, by decide +kernel⟩ ⟨Nat.le_of_ble_eq_true rfl, Nat.le_of_ble_eq_true rfl⟩, (htx _ kw_6_153), (htx _ kp_M_name)⟩ ⟨xPre_blind, va_recv hK hP (ci := 5) rfl (q0 := 0) rfl, (fun U hU hW => ⟨rfl, xPre_of hZ hS hFc hP hD hK U hU hW⟩)⟩ rfl rfl hl.1 rfl (xm_room (Nat.le_of_ble_eq_true rfl)) dM_added_152 ⟨hm0.1, hm0.2⟩) hS (fun q _ h => hFc q h) hFc (fun r4 u9 t H1 locs ht hvm hr9 hB hz1 hk1 hS => ?_)
            obtain ⟨hP1, hK1, hD1⟩ := hB
            rw [ht] at hP1
            have hP : va_P D xcl (xMw cT aM adL rd gdL vadL ws9 []) H1 := hP1
            have hD : va_D A (xMw cT aM adL rd gdL vadL ws9 []) := hD1.weaken (fun k q _ h => hFc q.1 h)
            generalize H1 = H at hP hS ⊢
            rw [hr9]
            refine W.eq (g2 := F0 m 155 ls [xv vadL o2, .ref aM]) (by first | rfl | (skip; rfl)) ?_
            refine lv_goto (tgt := 159) hx hb dM_added_155 (by decide) ?_
            refine lv_iload hx hb dM_added_159 (lv_at hl 0 rfl) ?_
            refine lv_if_ge (tgt := 174) hx hb dM_added_161 (by decide) (fun h => ((by revert h; decide : False)).elim) (fun _ => ?_)
            refine lv_aload_n hx hb dM_added_164 rfl (lv_at hl 3 rfl) ?_
            refine xm_aload_n hx hb (xvor _ _) dM_added_165 rfl (lv_at hl 4 rfl) ?_
            refine lv_iload hx hb dM_added_166 (lv_at hl 1 rfl) ?_
            obtain ⟨o5, hq6, hf⟩ := xbind hf
            have hFc := xm_free hD hS hA
            refine va_callq (va_runV (C := "ValueBenchModel") (As := [xv vadL y1, .int y4]) (rest := [xv vadL o2, .ref aM]) ⟨hx, hb, hml, hown, htx⟩ (gM_kid l hl9 D cT aK aV H.size n aM adL rd gdL vadL ws9 y1 y4 o5 hq6) ⟨callB_of 2 htx (xw_goodC kw_6_158) rfl rfl rfl (htx _ kw_1_5) (htx _ kw_6_155) ⟨by decide, by decide, by decide +kernel⟩ ⟨Nat.le_of_ble_eq_true rfl, Nat.le_of_ble_eq_true rfl⟩, (htx _ kw_6_157), (htx _ kp_M_kid)⟩ ⟨xPre_blind, va_recv hK hP (ci := 5) rfl (q0 := 0) rfl, (fun U hU hW => ⟨rfl, xPre_of hZ hS hFc hP hD hK U hU hW⟩)⟩ rfl rfl hl.1 rfl (xm_room (by simp [xvcat, xrscat, xcI, xcL, xcR, xcN])) dM_added_168 ⟨hm0.1, hm0.2⟩) hS (fun q _ h => hFc q h) hFc (fun r7 u9 t H1 locs ht hvm hr9 hB hz1 hk1 hS => ?_)
            obtain ⟨hP1, hK1, hD1⟩ := hB
            rw [ht] at hP1
            have hP : va_P D xcl (xMw cT aM adL rd gdL vadL ws9 []) H1 := hP1
            have hD : va_D A (xMw cT aM adL rd gdL vadL ws9 []) := hD1.weaken (fun k q _ h => hFc q.1 h)
            generalize H1 = H at hP hS ⊢
            rw [hr9]
            refine W.eq (g2 := F0 m 171 ls [xv vadL o5, xv vadL o2, .ref aM]) (by first | rfl | (skip; rfl)) ?_
            refine lv_goto (tgt := 181) hx hb dM_added_171 (by decide) ?_
            obtain ⟨o8, hq9, hf⟩ := xbind hf
            obtain ⟨hg10, hf⟩ := xifn hf
            obtain ⟨hm11, hf⟩ := xmoE hf
            have hFc := xm_free hD hS hA
            refine va_callv (va_runV (C := "ValueBenchModel") (As := [xv vadL o2, xv vadL o5]) (rest := []) ⟨hx, hb, hml, hown, htx⟩ (gM_wait l hl9 D cT aK aV H.size n aM adL rd gdL vadL ws9 o2 o5 o8 hq9) ⟨callB_of 2 htx (xw_goodC kw_6_112) rfl rfl rfl (htx _ kw_1_5) (htx _ kw_6_109) ⟨by decide, by decide, by decide +kernel⟩ ⟨Nat.le_of_ble_eq_true rfl, Nat.le_of_ble_eq_true rfl⟩, (htx _ kw_6_111), (htx _ kp_M_wait)⟩ ⟨xPre_blind, va_recv hK hP (ci := 5) rfl (q0 := 0) rfl, (fun U hU hW => ⟨rfl, xPre_of hZ hS hFc hP hD hK U hU hW⟩)⟩ rfl rfl hl.1 rfl (xm_room (Nat.le_of_ble_eq_true rfl)) dM_added_181 ⟨hm11.1, hm11.2⟩) hS (fun q _ h => hFc q h) hFc (fun u9 t H1 locs ht hvm hr9 hB hz1 hk1 hS => ?_)
            obtain ⟨hP1, hK1, hD1⟩ := hB
            rw [ht] at hP1
            obtain ⟨ad13, gd14, vad15⟩ := u9
            obtain ⟨hv16, hn17⟩ := hr9
            have hP : va_P D xcl (xMw cT aM ad13 rd gd14 vad15 o8.2.2 []) H1 := hP1
            have hD : va_D A (xMw cT aM ad13 rd gd14 vad15 o8.2.2 []) := hD1.weaken (fun k q _ h => hFc q.1 h)
            generalize H1 = H at hP hS ⊢
            have hE9 : ∀ p, p < xct st → vad15 p = vad p := fun p h => (hv16 p (Nat.lt_of_lt_of_le h hN)).trans (hE p h)
            have hE := hE9
            have hN : xct st ≤ xct o8.2.2 := Nat.le_trans hN hn17
            have ev18 : xv vadL y1 = xv vad15 y1 := xvE hv16 (fun h => hg1 (Or.inr h))
            have ev19 : xv vadL y2 = xv vad15 y2 := xvE hv16 hg10
            have hl : lv_has ls 6 [(5, .int (-1)), (4, .int y4), (3, .int y3), (0, .ref aM), (1, xv vad15 y1), (2, xv vad15 y2)] := by first | exact hl | ((try (rw [← ev18])); (try (rw [← ev19])); exact hl)
            refine W.eq (g2 := F0 m 184 ls []) (by first | rfl | ((try (rw [ev18])); (try (rw [ev19])); rfl)) ?_
            refine lv_iinc (v := (y4 + 1)) (lv' := [(4, .int (y4 + 1)), (5, .int (-1)), (3, .int y3), (0, .ref aM), (1, xv vad15 y1), (2, xv vad15 y2)]) hx hb dM_added_184 hl (k := 1) rfl rfl (by decide) rfl (fun ls hl => ?_)
            refine lv_goto (tgt := 102) hx hb dM_added_187 (by decide) ?_
            exact ih (1, (y4 + 1), y3, y1, y2, o8.2.2, (wc + o8.1), (wn + o8.2.1)) _ _ ls (Or.inl ⟨ad13, gd14, vad15, rfl, hf, hP, hD, hS, lv_sub hl [0, 2, 3, 4, 5] rfl, hE, hN⟩)
        · rw [if_pos hc] at hf
          refine lv_aload_n hx hb dM_added_120 rfl (lv_at hl 2 rfl) ?_
          refine xm_aload_n hx hb (xvor _ _) dM_added_121 rfl (lv_at hl 4 rfl) ?_
          refine lv_aload_n hx hb dM_added_122 rfl (lv_at hl 2 rfl) ?_
          refine xm_aload_n hx hb (xvor _ _) dM_added_123 rfl (lv_at hl 3 rfl) ?_
          refine lv_iload hx hb dM_added_124 (lv_at hl 0 rfl) ?_
          obtain ⟨o2, hq3, hf⟩ := xbind hf
          have hFc := xm_free hD hS hA
          refine va_callq (va_runV (C := "ValueBenchModel") (As := [xv vadL y1, .int y4]) (rest := [xv vadL y2, .ref aM]) ⟨hx, hb, hml, hown, htx⟩ (gM_name l hl9 D cT aK aV H.size n aM adL rd gdL vadL ws9 y1 y4 o2 hq3) ⟨callB_of 2 htx (xw_goodC kw_6_154) rfl rfl rfl (htx _ kw_1_5) (htx _ kw_6_151) ⟨by decide, by decide, by decide +kernel⟩ ⟨Nat.le_of_ble_eq_true rfl, Nat.le_of_ble_eq_true rfl⟩, (htx _ kw_6_153), (htx _ kp_M_name)⟩ ⟨xPre_blind, va_recv hK hP (ci := 5) rfl (q0 := 0) rfl, (fun U hU hW => ⟨rfl, xPre_of hZ hS hFc hP hD hK U hU hW⟩)⟩ rfl rfl hl.1 rfl (xm_room (by simp [xvcat, xrscat, xcI, xcL, xcR, xcN])) dM_added_126 ⟨hm0.1, hm0.2⟩) hS (fun q _ h => hFc q h) hFc (fun r4 u9 t H1 locs ht hvm hr9 hB hz1 hk1 hS => ?_)
          obtain ⟨hP1, hK1, hD1⟩ := hB
          rw [ht] at hP1
          have hP : va_P D xcl (xMw cT aM adL rd gdL vadL ws9 []) H1 := hP1
          have hD : va_D A (xMw cT aM adL rd gdL vadL ws9 []) := hD1.weaken (fun k q _ h => hFc q.1 h)
          generalize H1 = H at hP hS ⊢
          rw [hr9]
          refine W.eq (g2 := F0 m 129 ls [xv vadL o2, xv vadL y2, .ref aM]) (by first | rfl | (skip; rfl)) ?_
          obtain ⟨o5, hq6, hf⟩ := xbind hf
          have hFc := xm_free hD hS hA
          refine va_calli (va_runV (C := "ValueBenchModel") (As := [xv vadL y2, xv vadL o2]) (rest := []) ⟨hx, hb, hml, hown, htx⟩ (gM_place l hl9 D cT aK aV H.size n aM adL rd gdL vadL ws9 y2 o2 o5 hq6) ⟨callB_of 2 htx (xw_goodC kw_6_178) rfl rfl rfl (htx _ kw_1_5) (htx _ kw_6_175) ⟨by decide, by decide, by decide +kernel⟩ ⟨Nat.le_of_ble_eq_true rfl, Nat.le_of_ble_eq_true rfl⟩, (htx _ kw_6_177), (htx _ kp_M_place)⟩ ⟨xPre_blind, va_recv hK hP (ci := 5) rfl (q0 := 0) rfl, (fun U hU hW => ⟨rfl, xPre_of hZ hS hFc hP hD hK U hU hW⟩)⟩ rfl rfl hl.1 rfl (xm_room (Nat.le_of_ble_eq_true rfl)) dM_added_129 ⟨hm0.1, hm0.2⟩) hS (fun q _ h => hFc q h) hFc (fun r7 u9 t H1 locs ht hvm hr9 hB hz1 hk1 hS => ?_)
          obtain ⟨hP1, hK1, hD1⟩ := hB
          rw [ht] at hP1
          have hP : va_P D xcl (xMw cT aM adL rd gdL vadL ws9 []) H1 := hP1
          have hD : va_D A (xMw cT aM adL rd gdL vadL ws9 []) := hD1.weaken (fun k q _ h => hFc q.1 h)
          generalize H1 = H at hP hS ⊢
          rw [hr9]
          refine W.eq (g2 := F0 m 132 ls [.int o5]) (by first | rfl | (skip; rfl)) ?_
          refine lv_goto (tgt := 136) hx hb dM_added_132 (by decide) ?_
          refine lv_istore (lv' := [(5, .int o5), (4, .int y4), (3, .int y3), (0, .ref aM), (1, xv vadL y1), (2, xv vadL y2)]) hx hb dM_added_136 hl (by decide) rfl (fun ls hl => ?_)
          refine lv_aload_n hx hb dM_added_138 rfl (lv_at hl 3 rfl) ?_
          refine xm_aload_n hx hb (xvor _ _) dM_added_139 rfl (lv_at hl 4 rfl) ?_
          refine xm_vget (v := .int ((xpi ws9 0) (y1 - 1))) hx hb htx hown hK hP 0 (by decide) hg1 rfl ((hZ.1 (93, "kind", "I") (List.mem_of_getElem? (i := 0) rfl)).use rfl) rfl dM_added_140 ?_
          refine lv_bipush (v := 6) hx hb dM_added_143 (by decide) ?_
          refine lv_icmp_ne (tgt := 158) hx hb dM_added_145 (by decide) (fun hc => ?_) (fun hc => ?_)
          · rw [if_neg hc] at hf
            refine lv_null hx hb dM_added_158 ?_
            refine lv_iload hx hb dM_added_159 (lv_at hl 0 rfl) ?_
            refine lv_if_ge (tgt := 174) hx hb dM_added_161 (by decide) (fun hc => ?_) (fun hc => ?_)
            · rw [if_pos hc] at hf
              refine lv_aload_n hx hb dM_added_174 rfl (lv_at hl 3 rfl) ?_
              refine xm_aload_n hx hb (xvor _ _) dM_added_175 rfl (lv_at hl 5 rfl) ?_
              refine lv_iload hx hb dM_added_176 (lv_at hl 0 rfl) ?_
              obtain ⟨o8, hq9, hf⟩ := xbind hf
              have hFc := xm_free hD hS hA
              refine va_callq (va_runV (C := "ValueBenchModel") (As := [xv vadL y2, .int o5]) (rest := [.null, .ref aM]) ⟨hx, hb, hml, hown, htx⟩ (gM_kid l hl9 D cT aK aV H.size n aM adL rd gdL vadL ws9 y2 o5 o8 hq9) ⟨callB_of 2 htx (xw_goodC kw_6_158) rfl rfl rfl (htx _ kw_1_5) (htx _ kw_6_155) ⟨by decide, by decide, by decide +kernel⟩ ⟨Nat.le_of_ble_eq_true rfl, Nat.le_of_ble_eq_true rfl⟩, (htx _ kw_6_157), (htx _ kp_M_kid)⟩ ⟨xPre_blind, va_recv hK hP (ci := 5) rfl (q0 := 0) rfl, (fun U hU hW => ⟨rfl, xPre_of hZ hS hFc hP hD hK U hU hW⟩)⟩ rfl rfl hl.1 rfl (xm_room (Nat.le_of_ble_eq_true rfl)) dM_added_178 ⟨hm0.1, hm0.2⟩) hS (fun q _ h => hFc q h) hFc (fun r10 u9 t H1 locs ht hvm hr9 hB hz1 hk1 hS => ?_)
              obtain ⟨hP1, hK1, hD1⟩ := hB
              rw [ht] at hP1
              have hP : va_P D xcl (xMw cT aM adL rd gdL vadL ws9 []) H1 := hP1
              have hD : va_D A (xMw cT aM adL rd gdL vadL ws9 []) := hD1.weaken (fun k q _ h => hFc q.1 h)
              generalize H1 = H at hP hS ⊢
              rw [hr9]
              refine W.eq (g2 := F0 m 181 ls [xv vadL o8, .null, .ref aM]) (by first | rfl | (skip; rfl)) ?_
              obtain ⟨o11, hq12, hf⟩ := xbind hf
              obtain ⟨hg13, hf⟩ := xifn hf
              obtain ⟨hm14, hf⟩ := xmoE hf
              have hFc := xm_free hD hS hA
              refine va_callv (va_runV (C := "ValueBenchModel") (As := [.null, xv vadL o8]) (rest := []) ⟨hx, hb, hml, hown, htx⟩ (gM_wait l hl9 D cT aK aV H.size n aM adL rd gdL vadL ws9 0 o8 o11 hq12) ⟨callB_of 2 htx (xw_goodC kw_6_112) rfl rfl rfl (htx _ kw_1_5) (htx _ kw_6_109) ⟨by decide, by decide, by decide +kernel⟩ ⟨Nat.le_of_ble_eq_true rfl, Nat.le_of_ble_eq_true rfl⟩, (htx _ kw_6_111), (htx _ kp_M_wait)⟩ ⟨xPre_blind, va_recv hK hP (ci := 5) rfl (q0 := 0) rfl, (fun U hU hW => ⟨rfl, xPre_of hZ hS hFc hP hD hK U hU hW⟩)⟩ rfl rfl hl.1 rfl (xm_room (Nat.le_of_ble_eq_true rfl)) dM_added_181 ⟨hm14.1, hm14.2⟩) hS (fun q _ h => hFc q h) hFc (fun u9 t H1 locs ht hvm hr9 hB hz1 hk1 hS => ?_)
              obtain ⟨hP1, hK1, hD1⟩ := hB
              rw [ht] at hP1
              obtain ⟨ad16, gd17, vad18⟩ := u9
              obtain ⟨hv19, hn20⟩ := hr9
              have hP : va_P D xcl (xMw cT aM ad16 rd gd17 vad18 o11.2.2 []) H1 := hP1
              have hD : va_D A (xMw cT aM ad16 rd gd17 vad18 o11.2.2 []) := hD1.weaken (fun k q _ h => hFc q.1 h)
              generalize H1 = H at hP hS ⊢
              have hE9 : ∀ p, p < xct st → vad18 p = vad p := fun p h => (hv19 p (Nat.lt_of_lt_of_le h hN)).trans (hE p h)
              have hE := hE9
              have hN : xct st ≤ xct o11.2.2 := Nat.le_trans hN hn20
              have ev21 : xv vadL y1 = xv vad18 y1 := xvE hv19 (fun h => hg1 (Or.inr h))
              have ev22 : xv vadL y2 = xv vad18 y2 := xvE hv19 hg13
              have hl : lv_has ls 6 [(5, .int o5), (4, .int y4), (3, .int y3), (0, .ref aM), (1, xv vad18 y1), (2, xv vad18 y2)] := by first | exact hl | ((try (rw [← ev21])); (try (rw [← ev22])); exact hl)
              refine W.eq (g2 := F0 m 184 ls []) (by first | rfl | ((try (rw [ev21])); (try (rw [ev22])); rfl)) ?_
              refine lv_iinc (v := (y4 + 1)) (lv' := [(4, .int (y4 + 1)), (5, .int o5), (3, .int y3), (0, .ref aM), (1, xv vad18 y1), (2, xv vad18 y2)]) hx hb dM_added_184 hl (k := 1) rfl rfl (by decide) rfl (fun ls hl => ?_)
              refine lv_goto (tgt := 102) hx hb dM_added_187 (by decide) ?_
              exact ih (1, (y4 + 1), y3, y1, y2, o11.2.2, (wc + o11.1), (wn + o11.2.1)) _ _ ls (Or.inl ⟨ad16, gd17, vad18, rfl, hf, hP, hD, hS, lv_sub hl [0, 2, 3, 4, 5] rfl, hE, hN⟩)
            · rw [if_neg hc] at hf
              refine lv_aload_n hx hb dM_added_164 rfl (lv_at hl 3 rfl) ?_
              refine xm_aload_n hx hb (xvor _ _) dM_added_165 rfl (lv_at hl 4 rfl) ?_
              refine lv_iload hx hb dM_added_166 (lv_at hl 1 rfl) ?_
              obtain ⟨o8, hq9, hf⟩ := xbind hf
              have hFc := xm_free hD hS hA
              refine va_callq (va_runV (C := "ValueBenchModel") (As := [xv vadL y1, .int y4]) (rest := [.null, .ref aM]) ⟨hx, hb, hml, hown, htx⟩ (gM_kid l hl9 D cT aK aV H.size n aM adL rd gdL vadL ws9 y1 y4 o8 hq9) ⟨callB_of 2 htx (xw_goodC kw_6_158) rfl rfl rfl (htx _ kw_1_5) (htx _ kw_6_155) ⟨by decide, by decide, by decide +kernel⟩ ⟨Nat.le_of_ble_eq_true rfl, Nat.le_of_ble_eq_true rfl⟩, (htx _ kw_6_157), (htx _ kp_M_kid)⟩ ⟨xPre_blind, va_recv hK hP (ci := 5) rfl (q0 := 0) rfl, (fun U hU hW => ⟨rfl, xPre_of hZ hS hFc hP hD hK U hU hW⟩)⟩ rfl rfl hl.1 rfl (xm_room (Nat.le_of_ble_eq_true rfl)) dM_added_168 ⟨hm0.1, hm0.2⟩) hS (fun q _ h => hFc q h) hFc (fun r10 u9 t H1 locs ht hvm hr9 hB hz1 hk1 hS => ?_)
              obtain ⟨hP1, hK1, hD1⟩ := hB
              rw [ht] at hP1
              have hP : va_P D xcl (xMw cT aM adL rd gdL vadL ws9 []) H1 := hP1
              have hD : va_D A (xMw cT aM adL rd gdL vadL ws9 []) := hD1.weaken (fun k q _ h => hFc q.1 h)
              generalize H1 = H at hP hS ⊢
              rw [hr9]
              refine W.eq (g2 := F0 m 171 ls [xv vadL o8, .null, .ref aM]) (by first | rfl | (skip; rfl)) ?_
              refine lv_goto (tgt := 181) hx hb dM_added_171 (by decide) ?_
              obtain ⟨o11, hq12, hf⟩ := xbind hf
              obtain ⟨hg13, hf⟩ := xifn hf
              obtain ⟨hm14, hf⟩ := xmoE hf
              have hFc := xm_free hD hS hA
              refine va_callv (va_runV (C := "ValueBenchModel") (As := [.null, xv vadL o8]) (rest := []) ⟨hx, hb, hml, hown, htx⟩ (gM_wait l hl9 D cT aK aV H.size n aM adL rd gdL vadL ws9 0 o8 o11 hq12) ⟨callB_of 2 htx (xw_goodC kw_6_112) rfl rfl rfl (htx _ kw_1_5) (htx _ kw_6_109) ⟨by decide, by decide, by decide +kernel⟩ ⟨Nat.le_of_ble_eq_true rfl, Nat.le_of_ble_eq_true rfl⟩, (htx _ kw_6_111), (htx _ kp_M_wait)⟩ ⟨xPre_blind, va_recv hK hP (ci := 5) rfl (q0 := 0) rfl, (fun U hU hW => ⟨rfl, xPre_of hZ hS hFc hP hD hK U hU hW⟩)⟩ rfl rfl hl.1 rfl (xm_room (Nat.le_of_ble_eq_true rfl)) dM_added_181 ⟨hm14.1, hm14.2⟩) hS (fun q _ h => hFc q h) hFc (fun u9 t H1 locs ht hvm hr9 hB hz1 hk1 hS => ?_)
              obtain ⟨hP1, hK1, hD1⟩ := hB
              rw [ht] at hP1
              obtain ⟨ad16, gd17, vad18⟩ := u9
              obtain ⟨hv19, hn20⟩ := hr9
              have hP : va_P D xcl (xMw cT aM ad16 rd gd17 vad18 o11.2.2 []) H1 := hP1
              have hD : va_D A (xMw cT aM ad16 rd gd17 vad18 o11.2.2 []) := hD1.weaken (fun k q _ h => hFc q.1 h)
              generalize H1 = H at hP hS ⊢
              have hE9 : ∀ p, p < xct st → vad18 p = vad p := fun p h => (hv19 p (Nat.lt_of_lt_of_le h hN)).trans (hE p h)
              have hE := hE9
              have hN : xct st ≤ xct o11.2.2 := Nat.le_trans hN hn20
              have ev21 : xv vadL y1 = xv vad18 y1 := xvE hv19 (fun h => hg1 (Or.inr h))
              have ev22 : xv vadL y2 = xv vad18 y2 := xvE hv19 hg13
              have hl : lv_has ls 6 [(5, .int o5), (4, .int y4), (3, .int y3), (0, .ref aM), (1, xv vad18 y1), (2, xv vad18 y2)] := by first | exact hl | ((try (rw [← ev21])); (try (rw [← ev22])); exact hl)
              refine W.eq (g2 := F0 m 184 ls []) (by first | rfl | ((try (rw [ev21])); (try (rw [ev22])); rfl)) ?_
              refine lv_iinc (v := (y4 + 1)) (lv' := [(4, .int (y4 + 1)), (5, .int o5), (3, .int y3), (0, .ref aM), (1, xv vad18 y1), (2, xv vad18 y2)]) hx hb dM_added_184 hl (k := 1) rfl rfl (by decide) rfl (fun ls hl => ?_)
              refine lv_goto (tgt := 102) hx hb dM_added_187 (by decide) ?_
              exact ih (1, (y4 + 1), y3, y1, y2, o11.2.2, (wc + o11.1), (wn + o11.2.1)) _ _ ls (Or.inl ⟨ad16, gd17, vad18, rfl, hf, hP, hD, hS, lv_sub hl [0, 2, 3, 4, 5] rfl, hE, hN⟩)
          · rw [if_pos hc] at hf
            refine lv_aload_n hx hb dM_added_148 rfl (lv_at hl 3 rfl) ?_
            refine xm_aload_n hx hb (xvor _ _) dM_added_149 rfl (lv_at hl 4 rfl) ?_
            refine lv_iload hx hb dM_added_150 (lv_at hl 1 rfl) ?_
            obtain ⟨o8, hq9, hf⟩ := xbind hf
            have hFc := xm_free hD hS hA
            refine va_callq (va_runV (C := "ValueBenchModel") (As := [xv vadL y1, .int y4]) (rest := [.ref aM]) ⟨hx, hb, hml, hown, htx⟩ (gM_name l hl9 D cT aK aV H.size n aM adL rd gdL vadL ws9 y1 y4 o8 hq9) ⟨callB_of 2 htx (xw_goodC kw_6_154) rfl rfl rfl (htx _ kw_1_5) (htx _ kw_6_151) ⟨by decide, by decide, by decide +kernel⟩ ⟨Nat.le_of_ble_eq_true rfl, Nat.le_of_ble_eq_true rfl⟩, (htx _ kw_6_153), (htx _ kp_M_name)⟩ ⟨xPre_blind, va_recv hK hP (ci := 5) rfl (q0 := 0) rfl, (fun U hU hW => ⟨rfl, xPre_of hZ hS hFc hP hD hK U hU hW⟩)⟩ rfl rfl hl.1 rfl (xm_room (Nat.le_of_ble_eq_true rfl)) dM_added_152 ⟨hm0.1, hm0.2⟩) hS (fun q _ h => hFc q h) hFc (fun r10 u9 t H1 locs ht hvm hr9 hB hz1 hk1 hS => ?_)
            obtain ⟨hP1, hK1, hD1⟩ := hB
            rw [ht] at hP1
            have hP : va_P D xcl (xMw cT aM adL rd gdL vadL ws9 []) H1 := hP1
            have hD : va_D A (xMw cT aM adL rd gdL vadL ws9 []) := hD1.weaken (fun k q _ h => hFc q.1 h)
            generalize H1 = H at hP hS ⊢
            rw [hr9]
            refine W.eq (g2 := F0 m 155 ls [xv vadL o8, .ref aM]) (by first | rfl | (skip; rfl)) ?_
            refine lv_goto (tgt := 159) hx hb dM_added_155 (by decide) ?_
            refine lv_iload hx hb dM_added_159 (lv_at hl 0 rfl) ?_
            refine lv_if_ge (tgt := 174) hx hb dM_added_161 (by decide) (fun hc => ?_) (fun hc => ?_)
            · rw [if_pos hc] at hf
              refine lv_aload_n hx hb dM_added_174 rfl (lv_at hl 3 rfl) ?_
              refine xm_aload_n hx hb (xvor _ _) dM_added_175 rfl (lv_at hl 5 rfl) ?_
              refine lv_iload hx hb dM_added_176 (lv_at hl 0 rfl) ?_
              obtain ⟨o11, hq12, hf⟩ := xbind hf
              have hFc := xm_free hD hS hA
              refine va_callq (va_runV (C := "ValueBenchModel") (As := [xv vadL y2, .int o5]) (rest := [xv vadL o8, .ref aM]) ⟨hx, hb, hml, hown, htx⟩ (gM_kid l hl9 D cT aK aV H.size n aM adL rd gdL vadL ws9 y2 o5 o11 hq12) ⟨callB_of 2 htx (xw_goodC kw_6_158) rfl rfl rfl (htx _ kw_1_5) (htx _ kw_6_155) ⟨by decide, by decide, by decide +kernel⟩ ⟨Nat.le_of_ble_eq_true rfl, Nat.le_of_ble_eq_true rfl⟩, (htx _ kw_6_157), (htx _ kp_M_kid)⟩ ⟨xPre_blind, va_recv hK hP (ci := 5) rfl (q0 := 0) rfl, (fun U hU hW => ⟨rfl, xPre_of hZ hS hFc hP hD hK U hU hW⟩)⟩ rfl rfl hl.1 rfl (xm_room (by simp [xvcat, xrscat, xcI, xcL, xcR, xcN])) dM_added_178 ⟨hm0.1, hm0.2⟩) hS (fun q _ h => hFc q h) hFc (fun r13 u9 t H1 locs ht hvm hr9 hB hz1 hk1 hS => ?_)
              obtain ⟨hP1, hK1, hD1⟩ := hB
              rw [ht] at hP1
              have hP : va_P D xcl (xMw cT aM adL rd gdL vadL ws9 []) H1 := hP1
              have hD : va_D A (xMw cT aM adL rd gdL vadL ws9 []) := hD1.weaken (fun k q _ h => hFc q.1 h)
              generalize H1 = H at hP hS ⊢
              rw [hr9]
              refine W.eq (g2 := F0 m 181 ls [xv vadL o11, xv vadL o8, .ref aM]) (by first | rfl | (skip; rfl)) ?_
              obtain ⟨o14, hq15, hf⟩ := xbind hf
              obtain ⟨hg16, hf⟩ := xifn hf
              obtain ⟨hm17, hf⟩ := xmoE hf
              have hFc := xm_free hD hS hA
              refine va_callv (va_runV (C := "ValueBenchModel") (As := [xv vadL o8, xv vadL o11]) (rest := []) ⟨hx, hb, hml, hown, htx⟩ (gM_wait l hl9 D cT aK aV H.size n aM adL rd gdL vadL ws9 o8 o11 o14 hq15) ⟨callB_of 2 htx (xw_goodC kw_6_112) rfl rfl rfl (htx _ kw_1_5) (htx _ kw_6_109) ⟨by decide, by decide, by decide +kernel⟩ ⟨Nat.le_of_ble_eq_true rfl, Nat.le_of_ble_eq_true rfl⟩, (htx _ kw_6_111), (htx _ kp_M_wait)⟩ ⟨xPre_blind, va_recv hK hP (ci := 5) rfl (q0 := 0) rfl, (fun U hU hW => ⟨rfl, xPre_of hZ hS hFc hP hD hK U hU hW⟩)⟩ rfl rfl hl.1 rfl (xm_room (Nat.le_of_ble_eq_true rfl)) dM_added_181 ⟨hm17.1, hm17.2⟩) hS (fun q _ h => hFc q h) hFc (fun u9 t H1 locs ht hvm hr9 hB hz1 hk1 hS => ?_)
              obtain ⟨hP1, hK1, hD1⟩ := hB
              rw [ht] at hP1
              obtain ⟨ad19, gd20, vad21⟩ := u9
              obtain ⟨hv22, hn23⟩ := hr9
              have hP : va_P D xcl (xMw cT aM ad19 rd gd20 vad21 o14.2.2 []) H1 := hP1
              have hD : va_D A (xMw cT aM ad19 rd gd20 vad21 o14.2.2 []) := hD1.weaken (fun k q _ h => hFc q.1 h)
              generalize H1 = H at hP hS ⊢
              have hE9 : ∀ p, p < xct st → vad21 p = vad p := fun p h => (hv22 p (Nat.lt_of_lt_of_le h hN)).trans (hE p h)
              have hE := hE9
              have hN : xct st ≤ xct o14.2.2 := Nat.le_trans hN hn23
              have ev24 : xv vadL y1 = xv vad21 y1 := xvE hv22 (fun h => hg1 (Or.inr h))
              have ev25 : xv vadL y2 = xv vad21 y2 := xvE hv22 hg16
              have hl : lv_has ls 6 [(5, .int o5), (4, .int y4), (3, .int y3), (0, .ref aM), (1, xv vad21 y1), (2, xv vad21 y2)] := by first | exact hl | ((try (rw [← ev24])); (try (rw [← ev25])); exact hl)
              refine W.eq (g2 := F0 m 184 ls []) (by first | rfl | ((try (rw [ev24])); (try (rw [ev25])); rfl)) ?_
              refine lv_iinc (v := (y4 + 1)) (lv' := [(4, .int (y4 + 1)), (5, .int o5), (3, .int y3), (0, .ref aM), (1, xv vad21 y1), (2, xv vad21 y2)]) hx hb dM_added_184 hl (k := 1) rfl rfl (by decide) rfl (fun ls hl => ?_)
              refine lv_goto (tgt := 102) hx hb dM_added_187 (by decide) ?_
              exact ih (1, (y4 + 1), y3, y1, y2, o14.2.2, (wc + o14.1), (wn + o14.2.1)) _ _ ls (Or.inl ⟨ad19, gd20, vad21, rfl, hf, hP, hD, hS, lv_sub hl [0, 2, 3, 4, 5] rfl, hE, hN⟩)
            · rw [if_neg hc] at hf
              refine lv_aload_n hx hb dM_added_164 rfl (lv_at hl 3 rfl) ?_
              refine xm_aload_n hx hb (xvor _ _) dM_added_165 rfl (lv_at hl 4 rfl) ?_
              refine lv_iload hx hb dM_added_166 (lv_at hl 1 rfl) ?_
              obtain ⟨o11, hq12, hf⟩ := xbind hf
              have hFc := xm_free hD hS hA
              refine va_callq (va_runV (C := "ValueBenchModel") (As := [xv vadL y1, .int y4]) (rest := [xv vadL o8, .ref aM]) ⟨hx, hb, hml, hown, htx⟩ (gM_kid l hl9 D cT aK aV H.size n aM adL rd gdL vadL ws9 y1 y4 o11 hq12) ⟨callB_of 2 htx (xw_goodC kw_6_158) rfl rfl rfl (htx _ kw_1_5) (htx _ kw_6_155) ⟨by decide, by decide, by decide +kernel⟩ ⟨Nat.le_of_ble_eq_true rfl, Nat.le_of_ble_eq_true rfl⟩, (htx _ kw_6_157), (htx _ kp_M_kid)⟩ ⟨xPre_blind, va_recv hK hP (ci := 5) rfl (q0 := 0) rfl, (fun U hU hW => ⟨rfl, xPre_of hZ hS hFc hP hD hK U hU hW⟩)⟩ rfl rfl hl.1 rfl (xm_room (by simp [xvcat, xrscat, xcI, xcL, xcR, xcN])) dM_added_168 ⟨hm0.1, hm0.2⟩) hS (fun q _ h => hFc q h) hFc (fun r13 u9 t H1 locs ht hvm hr9 hB hz1 hk1 hS => ?_)
              obtain ⟨hP1, hK1, hD1⟩ := hB
              rw [ht] at hP1
              have hP : va_P D xcl (xMw cT aM adL rd gdL vadL ws9 []) H1 := hP1
              have hD : va_D A (xMw cT aM adL rd gdL vadL ws9 []) := hD1.weaken (fun k q _ h => hFc q.1 h)
              generalize H1 = H at hP hS ⊢
              rw [hr9]
              refine W.eq (g2 := F0 m 171 ls [xv vadL o11, xv vadL o8, .ref aM]) (by first | rfl | (skip; rfl)) ?_
              refine lv_goto (tgt := 181) hx hb dM_added_171 (by decide) ?_
              obtain ⟨o14, hq15, hf⟩ := xbind hf
              obtain ⟨hg16, hf⟩ := xifn hf
              obtain ⟨hm17, hf⟩ := xmoE hf
              have hFc := xm_free hD hS hA
              refine va_callv (va_runV (C := "ValueBenchModel") (As := [xv vadL o8, xv vadL o11]) (rest := []) ⟨hx, hb, hml, hown, htx⟩ (gM_wait l hl9 D cT aK aV H.size n aM adL rd gdL vadL ws9 o8 o11 o14 hq15) ⟨callB_of 2 htx (xw_goodC kw_6_112) rfl rfl rfl (htx _ kw_1_5) (htx _ kw_6_109) ⟨by decide, by decide, by decide +kernel⟩ ⟨Nat.le_of_ble_eq_true rfl, Nat.le_of_ble_eq_true rfl⟩, (htx _ kw_6_111), (htx _ kp_M_wait)⟩ ⟨xPre_blind, va_recv hK hP (ci := 5) rfl (q0 := 0) rfl, (fun U hU hW => ⟨rfl, xPre_of hZ hS hFc hP hD hK U hU hW⟩)⟩ rfl rfl hl.1 rfl (xm_room (Nat.le_of_ble_eq_true rfl)) dM_added_181 ⟨hm17.1, hm17.2⟩) hS (fun q _ h => hFc q h) hFc (fun u9 t H1 locs ht hvm hr9 hB hz1 hk1 hS => ?_)
              obtain ⟨hP1, hK1, hD1⟩ := hB
              rw [ht] at hP1
              obtain ⟨ad19, gd20, vad21⟩ := u9
              obtain ⟨hv22, hn23⟩ := hr9
              have hP : va_P D xcl (xMw cT aM ad19 rd gd20 vad21 o14.2.2 []) H1 := hP1
              have hD : va_D A (xMw cT aM ad19 rd gd20 vad21 o14.2.2 []) := hD1.weaken (fun k q _ h => hFc q.1 h)
              generalize H1 = H at hP hS ⊢
              have hE9 : ∀ p, p < xct st → vad21 p = vad p := fun p h => (hv22 p (Nat.lt_of_lt_of_le h hN)).trans (hE p h)
              have hE := hE9
              have hN : xct st ≤ xct o14.2.2 := Nat.le_trans hN hn23
              have ev24 : xv vadL y1 = xv vad21 y1 := xvE hv22 (fun h => hg1 (Or.inr h))
              have ev25 : xv vadL y2 = xv vad21 y2 := xvE hv22 hg16
              have hl : lv_has ls 6 [(5, .int o5), (4, .int y4), (3, .int y3), (0, .ref aM), (1, xv vad21 y1), (2, xv vad21 y2)] := by first | exact hl | ((try (rw [← ev24])); (try (rw [← ev25])); exact hl)
              refine W.eq (g2 := F0 m 184 ls []) (by first | rfl | ((try (rw [ev24])); (try (rw [ev25])); rfl)) ?_
              refine lv_iinc (v := (y4 + 1)) (lv' := [(4, .int (y4 + 1)), (5, .int o5), (3, .int y3), (0, .ref aM), (1, xv vad21 y1), (2, xv vad21 y2)]) hx hb dM_added_184 hl (k := 1) rfl rfl (by decide) rfl (fun ls hl => ?_)
              refine lv_goto (tgt := 102) hx hb dM_added_187 (by decide) ?_
              exact ih (1, (y4 + 1), y3, y1, y2, o14.2.2, (wc + o14.1), (wn + o14.2.1)) _ _ ls (Or.inl ⟨ad19, gd20, vad21, rfl, hf, hP, hD, hS, lv_sub hl [0, 2, 3, 4, 5] rfl, hE, hN⟩)
    · subst hj
      have hf : fM_added_b (n + 1) 2 y4 y3 y1 y2 ws9 wc wn = some out := hf
      rw [fM_added_b, if_neg (by decide)] at hf
      obtain ⟨hP, hD⟩ : xPD D xcl A (xMw cT aM adL rd gdL vadL ws9 []) H := ⟨hP, hD⟩
      have hl : lv_has ls 6 [(4, .int y4), (3, .int y3), (0, .ref aM), (1, xv vadL y1), (2, xv vadL y2)] := hl
      refine W.eq (g2 := F0 m 193 ls []) rfl ?_
      show W p l e _ s m _ below meth c H locs wc wn _ _
      obtain ⟨hm0, hf⟩ := xmoE hf
      refine lv_iload hx hb dM_added_193 (lv_at hl 0 rfl) ?_
      refine xm_aload_n hx hb (xvor _ _) dM_added_195 rfl (lv_at hl 4 rfl) ?_
      obtain ⟨hg1, hf⟩ := xifn hf
      refine xm_vget (v := .int ((xpi ws9 3) (y2 - 1))) hx hb htx hown hK hP 3 (by decide) hg1 rfl ((hZ.1 (103, "count", "I") (List.mem_of_getElem? (i := 3) rfl)).use rfl) rfl dM_added_196 ?_
      refine lv_icmp_ge (tgt := 262) hx hb dM_added_199 (by decide) (fun hc => ?_) (fun hc => ?_)
      · rw [if_pos hc] at hf
        refine lv_aload_n hx hb dM_added_262 rfl (lv_at hl 2 rfl) ?_
        refine xm_aload_n hx hb (xvor _ _) dM_added_263 rfl (lv_at hl 3 rfl) ?_
        obtain ⟨hg2, hf⟩ := xifn hf
        refine xm_vget (v := .int ((xpi ws9 0) (y1 - 1))) hx hb htx hown hK hP 0 (by decide) hg2 rfl ((hZ.1 (93, "kind", "I") (List.mem_of_getElem? (i := 0) rfl)).use rfl) rfl dM_added_264 ?_
        refine lv_iload_n hx hb dM_added_267 rfl (lv_at hl 1 rfl) ?_
        obtain ⟨o3, hq4, hf⟩ := xbind hf
        have hl := lv_sub (l' := [(4, .int y4), (3, .int y3), (0, .ref aM)]) hl [0, 1, 2] rfl
        by_cases hk5 : o3.1 = 0
        · rw [if_pos hk5] at hf
          obtain ⟨hm6, hf⟩ := xmoE hf
          have hFc := xm_free hD hS hA
          refine va_callq (va_runV (C := "ValueBenchModel") (As := [.int ((xpi ws9 0) (y1 - 1)), .int y3]) (rest := []) ⟨hx, hb, hml, hown, htx⟩ (gM_whole l hl9 D cT aK aV H.size n aM adL rd gdL vadL ws9 ((xpi ws9 0) (y1 - 1)) y3 o3 hq4 hk5) ⟨callB_of 2 htx (xw_goodC kw_6_106) rfl rfl rfl (htx _ kw_1_5) (htx _ kw_6_103) ⟨by decide, by decide, by decide +kernel⟩ ⟨Nat.le_of_ble_eq_true rfl, Nat.le_of_ble_eq_true rfl⟩, (htx _ kw_6_105), (htx _ kp_M_whole)⟩ ⟨xPre_blind, va_recv hK hP (ci := 5) rfl (q0 := 0) rfl, (fun U hU hW => ⟨rfl, xPre_of hZ hS hFc hP hD hK U hU hW⟩)⟩ rfl rfl hl.1 rfl (xm_room (Nat.le_of_ble_eq_true rfl)) dM_added_268 ⟨hm6.1, hm6.2⟩) hS (fun q _ h => hFc q h) hFc (fun r7 u9 t H1 locs ht hvm hr9 hB hz1 hk1 hS => ?_)
          obtain ⟨hP1, hK1, hD1⟩ := hB
          rw [ht] at hP1
          obtain ⟨ad8, gd9, vad10⟩ := u9
          obtain ⟨hr9, hv11, hn12⟩ := hr9
          have hP : va_P D xcl (xMw cT aM ad8 rd gd9 vad10 o3.2.2.2.2 []) H1 := hP1
          have hD : va_D A (xMw cT aM ad8 rd gd9 vad10 o3.2.2.2.2 []) := hD1.weaken (fun k q _ h => hFc q.1 h)
          generalize H1 = H at hP hS ⊢
          have hE9 : ∀ p, p < xct st → vad10 p = vad p := fun p h => (hv11 p (Nat.lt_of_lt_of_le h hN)).trans (hE p h)
          have hE := hE9
          have hN : xct st ≤ xct o3.2.2.2.2 := Nat.le_trans hN hn12
          rw [hr9]
          refine W.eq (g2 := F0 m 271 ls [xv vad10 o3.2.2.2.1]) (by first | rfl | (skip; rfl)) ?_
          obtain rfl := Option.some.inj hf
          exact absurd (show (0 : Nat) = 2 from hkd) (by decide)
        rw [if_neg hk5] at hf
        by_cases hk13 : o3.1 = 1
        · rw [if_pos hk13] at hf
          obtain ⟨hm14, hf⟩ := xmoE hf
          have hFc := xm_free hD hS hA
          refine xx_thr (vx_runV (C := "ValueBenchModel") (As := [.int ((xpi ws9 0) (y1 - 1)), .int y3]) (rest := []) ⟨hx, hb, hml, hown, htx⟩ (gM_whole_1 l hl9 D cT aK aV H.size n aM adL rd gdL vadL ws9 ((xpi ws9 0) (y1 - 1)) y3 o3 hq4 hk13) ⟨callB_of 2 htx (xw_goodC kw_6_106) rfl rfl rfl (htx _ kw_1_5) (htx _ kw_6_103) ⟨by decide, by decide, by decide +kernel⟩ ⟨Nat.le_of_ble_eq_true rfl, Nat.le_of_ble_eq_true rfl⟩, (htx _ kw_6_105), (htx _ kp_M_whole)⟩ ⟨xPre_blind, va_recv hK hP (ci := 5) rfl (q0 := 0) rfl, (fun U hU hW => ⟨rfl, xPre_of hZ hS hFc hP hD hK U hU hW⟩)⟩ rfl rfl hl.1 rfl (xm_room (Nat.le_of_ble_eq_true rfl)) dM_added_268 ⟨hm14.1, hm14.2⟩) hS hFc (fun q _ h => hFc q h) (fun E ce q9 u9 t H1 locs ht hvm hr9 hB hz1 hk1 hS hce hcv hcl => ?_)
          obtain ⟨rfl, hP1, hK1, hD1⟩ := hB
          rw [ht] at hP1
          obtain ⟨ad16, gd17, vad18⟩ := u9
          obtain ⟨hv19, hn20⟩ := hr9
          have hP : va_P D xcl (xMw cT aM ad16 rd gd17 vad18 o3.2.2.2.2 []) H1 := hP1
          have hD : va_D A (xMw cT aM ad16 rd gd17 vad18 o3.2.2.2.2 []) := hD1.weaken (fun k q _ h => hFc q.1 h)
          generalize H1 = H at hP hS hce ⊢
          have hE9 : ∀ p, p < xct st → vad18 p = vad p := fun p h => (hv19 p (Nat.lt_of_lt_of_le h hN)).trans (hE p h)
          have hE := hE9
          have hN : xct st ≤ xct o3.2.2.2.2 := Nat.le_trans hN hn20
          obtain rfl := Option.some.inj hf
          exact vx_out (E := "java/lang/IndexOutOfBoundsException") (fun x h => (hne x h).elim) hlocks hce hcv hcl (fun t ht ha => ⟨(ad16, gd17, vad18), ⟨hE, hN⟩, ⟨rfl, by rw [ht]; exact hP, va_K.moved ha hK, hD⟩, hS.F ht⟩) hS.2.2 (Nat.le_refl _) (Nat.le_refl _)
        rw [if_neg hk13] at hf
        exact nomatch hf
      · rw [if_neg hc] at hf
        refine xm_aload_n hx hb (xvor _ _) dM_added_202 rfl (lv_at hl 3 rfl) ?_
        obtain ⟨hg2, hf⟩ := xifn hf
        refine xm_vget (v := .int ((xpi ws9 0) (y1 - 1))) hx hb htx hown hK hP 0 (by decide) hg2 rfl ((hZ.1 (93, "kind", "I") (List.mem_of_getElem? (i := 0) rfl)).use rfl) rfl dM_added_203 ?_
        refine lv_iconst (v := 5) hx hb dM_added_206 (by decide) ?_
        refine lv_icmp_eq (tgt := 225) hx hb dM_added_207 (by decide) (fun hc => ?_) (fun hc => ?_)
        · rw [if_pos hc] at hf
          refine lv_aload_n hx hb dM_added_225 rfl (lv_at hl 2 rfl) ?_
          refine xm_aload_n hx hb (xvor _ _) dM_added_226 rfl (lv_at hl 3 rfl) ?_
          refine xm_vget (v := .int ((xpi ws9 0) (y1 - 1))) hx hb htx hown hK hP 0 (by decide) hg2 rfl ((hZ.1 (93, "kind", "I") (List.mem_of_getElem? (i := 0) rfl)).use rfl) rfl dM_added_227 ?_
          refine lv_bipush (v := 6) hx hb dM_added_230 (by decide) ?_
          refine lv_icmp_ne (tgt := 245) hx hb dM_added_232 (by decide) (fun hc => ?_) (fun hc => ?_)
          · rw [if_neg hc] at hf
            refine lv_null hx hb dM_added_245 ?_
            refine lv_aload_n hx hb dM_added_246 rfl (lv_at hl 2 rfl) ?_
            refine xm_aload_n hx hb (xvor _ _) dM_added_247 rfl (lv_at hl 4 rfl) ?_
            refine lv_iload hx hb dM_added_248 (lv_at hl 0 rfl) ?_
            obtain ⟨o3, hq4, hf⟩ := xbind hf
            have hFc := xm_free hD hS hA
            refine va_callq (va_runV (C := "ValueBenchModel") (As := [xv vadL y2, .int y4]) (rest := [.null, .ref aM]) ⟨hx, hb, hml, hown, htx⟩ (gM_kid l hl9 D cT aK aV H.size n aM adL rd gdL vadL ws9 y2 y4 o3 hq4) ⟨callB_of 2 htx (xw_goodC kw_6_158) rfl rfl rfl (htx _ kw_1_5) (htx _ kw_6_155) ⟨by decide, by decide, by decide +kernel⟩ ⟨Nat.le_of_ble_eq_true rfl, Nat.le_of_ble_eq_true rfl⟩, (htx _ kw_6_157), (htx _ kp_M_kid)⟩ ⟨xPre_blind, va_recv hK hP (ci := 5) rfl (q0 := 0) rfl, (fun U hU hW => ⟨rfl, xPre_of hZ hS hFc hP hD hK U hU hW⟩)⟩ rfl rfl hl.1 rfl (xm_room (Nat.le_of_ble_eq_true rfl)) dM_added_250 ⟨hm0.1, hm0.2⟩) hS (fun q _ h => hFc q h) hFc (fun r5 u9 t H1 locs ht hvm hr9 hB hz1 hk1 hS => ?_)
            obtain ⟨hP1, hK1, hD1⟩ := hB
            rw [ht] at hP1
            have hP : va_P D xcl (xMw cT aM adL rd gdL vadL ws9 []) H1 := hP1
            have hD : va_D A (xMw cT aM adL rd gdL vadL ws9 []) := hD1.weaken (fun k q _ h => hFc q.1 h)
            generalize H1 = H at hP hS ⊢
            rw [hr9]
            refine W.eq (g2 := F0 m 253 ls [xv vadL o3, .null, .ref aM]) (by first | rfl | (skip; rfl)) ?_
            obtain ⟨o6, hq7, hf⟩ := xbind hf
            obtain ⟨hm8, hf⟩ := xmoE hf
            have hFc := xm_free hD hS hA
            refine va_callv (va_runV (C := "ValueBenchModel") (As := [.null, xv vadL o3]) (rest := []) ⟨hx, hb, hml, hown, htx⟩ (gM_wait l hl9 D cT aK aV H.size n aM adL rd gdL vadL ws9 0 o3 o6 hq7) ⟨callB_of 2 htx (xw_goodC kw_6_112) rfl rfl rfl (htx _ kw_1_5) (htx _ kw_6_109) ⟨by decide, by decide, by decide +kernel⟩ ⟨Nat.le_of_ble_eq_true rfl, Nat.le_of_ble_eq_true rfl⟩, (htx _ kw_6_111), (htx _ kp_M_wait)⟩ ⟨xPre_blind, va_recv hK hP (ci := 5) rfl (q0 := 0) rfl, (fun U hU hW => ⟨rfl, xPre_of hZ hS hFc hP hD hK U hU hW⟩)⟩ rfl rfl hl.1 rfl (xm_room (Nat.le_of_ble_eq_true rfl)) dM_added_253 ⟨hm8.1, hm8.2⟩) hS (fun q _ h => hFc q h) hFc (fun u9 t H1 locs ht hvm hr9 hB hz1 hk1 hS => ?_)
            obtain ⟨hP1, hK1, hD1⟩ := hB
            rw [ht] at hP1
            obtain ⟨ad10, gd11, vad12⟩ := u9
            obtain ⟨hv13, hn14⟩ := hr9
            have hP : va_P D xcl (xMw cT aM ad10 rd gd11 vad12 o6.2.2 []) H1 := hP1
            have hD : va_D A (xMw cT aM ad10 rd gd11 vad12 o6.2.2 []) := hD1.weaken (fun k q _ h => hFc q.1 h)
            generalize H1 = H at hP hS ⊢
            have hE9 : ∀ p, p < xct st → vad12 p = vad p := fun p h => (hv13 p (Nat.lt_of_lt_of_le h hN)).trans (hE p h)
            have hE := hE9
            have hN : xct st ≤ xct o6.2.2 := Nat.le_trans hN hn14
            have ev15 : xv vadL y1 = xv vad12 y1 := xvE hv13 (fun h => hg2 (Or.inr h))
            have ev16 : xv vadL y2 = xv vad12 y2 := xvE hv13 (fun h => hg1 (Or.inr h))
            have hl : lv_has ls 6 [(4, .int y4), (3, .int y3), (0, .ref aM), (1, xv vad12 y1), (2, xv vad12 y2)] := by first | exact hl | ((try (rw [← ev15])); (try (rw [← ev16])); exact hl)
            refine W.eq (g2 := F0 m 256 ls []) (by first | rfl | ((try (rw [ev15])); (try (rw [ev16])); rfl)) ?_
            refine lv_iinc (v := (y4 + 1)) (lv' := [(4, .int (y4 + 1)), (3, .int y3), (0, .ref aM), (1, xv vad12 y1), (2, xv vad12 y2)]) hx hb dM_added_256 hl (k := 0) rfl rfl (by decide) rfl (fun ls hl => ?_)
            refine lv_goto (tgt := 193) hx hb dM_added_259 (by decide) ?_
            exact ih (2, (y4 + 1), y3, y1, y2, o6.2.2, (wc + o6.1), (wn + o6.2.1)) _ _ ls (Or.inr (⟨ad10, gd11, vad12, rfl, hf, hP, hD, hS, lv_sub hl [0, 1, 2, 3, 4] rfl, hE, hN⟩))
          · rw [if_pos hc] at hf
            refine lv_aload_n hx hb dM_added_235 rfl (lv_at hl 2 rfl) ?_
            refine xm_aload_n hx hb (xvor _ _) dM_added_236 rfl (lv_at hl 4 rfl) ?_
            refine lv_iload hx hb dM_added_237 (lv_at hl 0 rfl) ?_
            obtain ⟨o3, hq4, hf⟩ := xbind hf
            have hFc := xm_free hD hS hA
            refine va_callq (va_runV (C := "ValueBenchModel") (As := [xv vadL y2, .int y4]) (rest := [.ref aM]) ⟨hx, hb, hml, hown, htx⟩ (gM_name l hl9 D cT aK aV H.size n aM adL rd gdL vadL ws9 y2 y4 o3 hq4) ⟨callB_of 2 htx (xw_goodC kw_6_154) rfl rfl rfl (htx _ kw_1_5) (htx _ kw_6_151) ⟨by decide, by decide, by decide +kernel⟩ ⟨Nat.le_of_ble_eq_true rfl, Nat.le_of_ble_eq_true rfl⟩, (htx _ kw_6_153), (htx _ kp_M_name)⟩ ⟨xPre_blind, va_recv hK hP (ci := 5) rfl (q0 := 0) rfl, (fun U hU hW => ⟨rfl, xPre_of hZ hS hFc hP hD hK U hU hW⟩)⟩ rfl rfl hl.1 rfl (xm_room (Nat.le_of_ble_eq_true rfl)) dM_added_239 ⟨hm0.1, hm0.2⟩) hS (fun q _ h => hFc q h) hFc (fun r5 u9 t H1 locs ht hvm hr9 hB hz1 hk1 hS => ?_)
            obtain ⟨hP1, hK1, hD1⟩ := hB
            rw [ht] at hP1
            have hP : va_P D xcl (xMw cT aM adL rd gdL vadL ws9 []) H1 := hP1
            have hD : va_D A (xMw cT aM adL rd gdL vadL ws9 []) := hD1.weaken (fun k q _ h => hFc q.1 h)
            generalize H1 = H at hP hS ⊢
            rw [hr9]
            refine W.eq (g2 := F0 m 242 ls [xv vadL o3, .ref aM]) (by first | rfl | (skip; rfl)) ?_
            refine lv_goto (tgt := 246) hx hb dM_added_242 (by decide) ?_
            refine lv_aload_n hx hb dM_added_246 rfl (lv_at hl 2 rfl) ?_
            refine xm_aload_n hx hb (xvor _ _) dM_added_247 rfl (lv_at hl 4 rfl) ?_
            refine lv_iload hx hb dM_added_248 (lv_at hl 0 rfl) ?_
            obtain ⟨o6, hq7, hf⟩ := xbind hf
            have hFc := xm_free hD hS hA
            refine va_callq (va_runV (C := "ValueBenchModel") (As := [xv vadL y2, .int y4]) (rest := [xv vadL o3, .ref aM]) ⟨hx, hb, hml, hown, htx⟩ (gM_kid l hl9 D cT aK aV H.size n aM adL rd gdL vadL ws9 y2 y4 o6 hq7) ⟨callB_of 2 htx (xw_goodC kw_6_158) rfl rfl rfl (htx _ kw_1_5) (htx _ kw_6_155) ⟨by decide, by decide, by decide +kernel⟩ ⟨Nat.le_of_ble_eq_true rfl, Nat.le_of_ble_eq_true rfl⟩, (htx _ kw_6_157), (htx _ kp_M_kid)⟩ ⟨xPre_blind, va_recv hK hP (ci := 5) rfl (q0 := 0) rfl, (fun U hU hW => ⟨rfl, xPre_of hZ hS hFc hP hD hK U hU hW⟩)⟩ rfl rfl hl.1 rfl (xm_room (by simp [xvcat, xrscat, xcI, xcL, xcR, xcN])) dM_added_250 ⟨hm0.1, hm0.2⟩) hS (fun q _ h => hFc q h) hFc (fun r8 u9 t H1 locs ht hvm hr9 hB hz1 hk1 hS => ?_)
            obtain ⟨hP1, hK1, hD1⟩ := hB
            rw [ht] at hP1
            have hP : va_P D xcl (xMw cT aM adL rd gdL vadL ws9 []) H1 := hP1
            have hD : va_D A (xMw cT aM adL rd gdL vadL ws9 []) := hD1.weaken (fun k q _ h => hFc q.1 h)
            generalize H1 = H at hP hS ⊢
            rw [hr9]
            refine W.eq (g2 := F0 m 253 ls [xv vadL o6, xv vadL o3, .ref aM]) (by first | rfl | (skip; rfl)) ?_
            obtain ⟨o9, hq10, hf⟩ := xbind hf
            obtain ⟨hm11, hf⟩ := xmoE hf
            have hFc := xm_free hD hS hA
            refine va_callv (va_runV (C := "ValueBenchModel") (As := [xv vadL o3, xv vadL o6]) (rest := []) ⟨hx, hb, hml, hown, htx⟩ (gM_wait l hl9 D cT aK aV H.size n aM adL rd gdL vadL ws9 o3 o6 o9 hq10) ⟨callB_of 2 htx (xw_goodC kw_6_112) rfl rfl rfl (htx _ kw_1_5) (htx _ kw_6_109) ⟨by decide, by decide, by decide +kernel⟩ ⟨Nat.le_of_ble_eq_true rfl, Nat.le_of_ble_eq_true rfl⟩, (htx _ kw_6_111), (htx _ kp_M_wait)⟩ ⟨xPre_blind, va_recv hK hP (ci := 5) rfl (q0 := 0) rfl, (fun U hU hW => ⟨rfl, xPre_of hZ hS hFc hP hD hK U hU hW⟩)⟩ rfl rfl hl.1 rfl (xm_room (Nat.le_of_ble_eq_true rfl)) dM_added_253 ⟨hm11.1, hm11.2⟩) hS (fun q _ h => hFc q h) hFc (fun u9 t H1 locs ht hvm hr9 hB hz1 hk1 hS => ?_)
            obtain ⟨hP1, hK1, hD1⟩ := hB
            rw [ht] at hP1
            obtain ⟨ad13, gd14, vad15⟩ := u9
            obtain ⟨hv16, hn17⟩ := hr9
            have hP : va_P D xcl (xMw cT aM ad13 rd gd14 vad15 o9.2.2 []) H1 := hP1
            have hD : va_D A (xMw cT aM ad13 rd gd14 vad15 o9.2.2 []) := hD1.weaken (fun k q _ h => hFc q.1 h)
            generalize H1 = H at hP hS ⊢
            have hE9 : ∀ p, p < xct st → vad15 p = vad p := fun p h => (hv16 p (Nat.lt_of_lt_of_le h hN)).trans (hE p h)
            have hE := hE9
            have hN : xct st ≤ xct o9.2.2 := Nat.le_trans hN hn17
            have ev18 : xv vadL y1 = xv vad15 y1 := xvE hv16 (fun h => hg2 (Or.inr h))
            have ev19 : xv vadL y2 = xv vad15 y2 := xvE hv16 (fun h => hg1 (Or.inr h))
            have hl : lv_has ls 6 [(4, .int y4), (3, .int y3), (0, .ref aM), (1, xv vad15 y1), (2, xv vad15 y2)] := by first | exact hl | ((try (rw [← ev18])); (try (rw [← ev19])); exact hl)
            refine W.eq (g2 := F0 m 256 ls []) (by first | rfl | ((try (rw [ev18])); (try (rw [ev19])); rfl)) ?_
            refine lv_iinc (v := (y4 + 1)) (lv' := [(4, .int (y4 + 1)), (3, .int y3), (0, .ref aM), (1, xv vad15 y1), (2, xv vad15 y2)]) hx hb dM_added_256 hl (k := 0) rfl rfl (by decide) rfl (fun ls hl => ?_)
            refine lv_goto (tgt := 193) hx hb dM_added_259 (by decide) ?_
            exact ih (2, (y4 + 1), y3, y1, y2, o9.2.2, (wc + o9.1), (wn + o9.2.1)) _ _ ls (Or.inr (⟨ad13, gd14, vad15, rfl, hf, hP, hD, hS, lv_sub hl [0, 1, 2, 3, 4] rfl, hE, hN⟩))
        · rw [if_neg hc] at hf
          refine lv_aload_n hx hb dM_added_210 rfl (lv_at hl 2 rfl) ?_
          refine xm_aload_n hx hb (xvor _ _) dM_added_211 rfl (lv_at hl 3 rfl) ?_
          refine lv_aload_n hx hb dM_added_212 rfl (lv_at hl 2 rfl) ?_
          refine xm_aload_n hx hb (xvor _ _) dM_added_213 rfl (lv_at hl 4 rfl) ?_
          refine lv_iload hx hb dM_added_214 (lv_at hl 0 rfl) ?_
          obtain ⟨o3, hq4, hf⟩ := xbind hf
          have hFc := xm_free hD hS hA
          refine va_callq (va_runV (C := "ValueBenchModel") (As := [xv vadL y2, .int y4]) (rest := [xv vadL y1, .ref aM]) ⟨hx, hb, hml, hown, htx⟩ (gM_name l hl9 D cT aK aV H.size n aM adL rd gdL vadL ws9 y2 y4 o3 hq4) ⟨callB_of 2 htx (xw_goodC kw_6_154) rfl rfl rfl (htx _ kw_1_5) (htx _ kw_6_151) ⟨by decide, by decide, by decide +kernel⟩ ⟨Nat.le_of_ble_eq_true rfl, Nat.le_of_ble_eq_true rfl⟩, (htx _ kw_6_153), (htx _ kp_M_name)⟩ ⟨xPre_blind, va_recv hK hP (ci := 5) rfl (q0 := 0) rfl, (fun U hU hW => ⟨rfl, xPre_of hZ hS hFc hP hD hK U hU hW⟩)⟩ rfl rfl hl.1 rfl (xm_room (by simp [xvcat, xrscat, xcI, xcL, xcR, xcN])) dM_added_216 ⟨hm0.1, hm0.2⟩) hS (fun q _ h => hFc q h) hFc (fun r5 u9 t H1 locs ht hvm hr9 hB hz1 hk1 hS => ?_)
          obtain ⟨hP1, hK1, hD1⟩ := hB
          rw [ht] at hP1
          have hP : va_P D xcl (xMw cT aM adL rd gdL vadL ws9 []) H1 := hP1
          have hD : va_D A (xMw cT aM adL rd gdL vadL ws9 []) := hD1.weaken (fun k q _ h => hFc q.1 h)
          generalize H1 = H at hP hS ⊢
          rw [hr9]
          refine W.eq (g2 := F0 m 219 ls [xv vadL o3, xv vadL y1, .ref aM]) (by first | rfl | (skip; rfl)) ?_
          obtain ⟨o6, hq7, hf⟩ := xbind hf
          have hFc := xm_free hD hS hA
          refine va_calli (va_runV (C := "ValueBenchModel") (As := [xv vadL y1, xv vadL o3]) (rest := []) ⟨hx, hb, hml, hown, htx⟩ (gM_place l hl9 D cT aK aV H.size n aM adL rd gdL vadL ws9 y1 o3 o6 hq7) ⟨callB_of 2 htx (xw_goodC kw_6_178) rfl rfl rfl (htx _ kw_1_5) (htx _ kw_6_175) ⟨by decide, by decide, by decide +kernel⟩ ⟨Nat.le_of_ble_eq_true rfl, Nat.le_of_ble_eq_true rfl⟩, (htx _ kw_6_177), (htx _ kp_M_place)⟩ ⟨xPre_blind, va_recv hK hP (ci := 5) rfl (q0 := 0) rfl, (fun U hU hW => ⟨rfl, xPre_of hZ hS hFc hP hD hK U hU hW⟩)⟩ rfl rfl hl.1 rfl (xm_room (Nat.le_of_ble_eq_true rfl)) dM_added_219 ⟨hm0.1, hm0.2⟩) hS (fun q _ h => hFc q h) hFc (fun r8 u9 t H1 locs ht hvm hr9 hB hz1 hk1 hS => ?_)
          obtain ⟨hP1, hK1, hD1⟩ := hB
          rw [ht] at hP1
          have hP : va_P D xcl (xMw cT aM adL rd gdL vadL ws9 []) H1 := hP1
          have hD : va_D A (xMw cT aM adL rd gdL vadL ws9 []) := hD1.weaken (fun k q _ h => hFc q.1 h)
          generalize H1 = H at hP hS ⊢
          rw [hr9]
          refine W.eq (g2 := F0 m 222 ls [.int o6]) (by first | rfl | (skip; rfl)) ?_
          refine lv_if_ge (tgt := 256) hx hb dM_added_222 (by decide) (fun hc => ?_) (fun hc => ?_)
          · rw [if_pos hc] at hf
            refine lv_iinc (v := (y4 + 1)) (lv' := [(4, .int (y4 + 1)), (3, .int y3), (0, .ref aM), (1, xv vadL y1), (2, xv vadL y2)]) hx hb dM_added_256 hl (k := 0) rfl rfl (by decide) rfl (fun ls hl => ?_)
            refine lv_goto (tgt := 193) hx hb dM_added_259 (by decide) ?_
            exact ih (2, (y4 + 1), y3, y1, y2, ws9, wc, wn) _ _ ls (Or.inr (⟨adL, gdL, vadL, rfl, hf, hP, hD, hS, lv_sub hl [0, 1, 2, 3, 4] rfl, hE, hN⟩))
          · rw [if_neg hc] at hf
            refine lv_aload_n hx hb dM_added_225 rfl (lv_at hl 2 rfl) ?_
            refine xm_aload_n hx hb (xvor _ _) dM_added_226 rfl (lv_at hl 3 rfl) ?_
            refine xm_vget (v := .int ((xpi ws9 0) (y1 - 1))) hx hb htx hown hK hP 0 (by decide) hg2 rfl ((hZ.1 (93, "kind", "I") (List.mem_of_getElem? (i := 0) rfl)).use rfl) rfl dM_added_227 ?_
            refine lv_bipush (v := 6) hx hb dM_added_230 (by decide) ?_
            refine lv_icmp_ne (tgt := 245) hx hb dM_added_232 (by decide) (fun hc => ?_) (fun hc => ?_)
            · rw [if_neg hc] at hf
              refine lv_null hx hb dM_added_245 ?_
              refine lv_aload_n hx hb dM_added_246 rfl (lv_at hl 2 rfl) ?_
              refine xm_aload_n hx hb (xvor _ _) dM_added_247 rfl (lv_at hl 4 rfl) ?_
              refine lv_iload hx hb dM_added_248 (lv_at hl 0 rfl) ?_
              obtain ⟨o9, hq10, hf⟩ := xbind hf
              have hFc := xm_free hD hS hA
              refine va_callq (va_runV (C := "ValueBenchModel") (As := [xv vadL y2, .int y4]) (rest := [.null, .ref aM]) ⟨hx, hb, hml, hown, htx⟩ (gM_kid l hl9 D cT aK aV H.size n aM adL rd gdL vadL ws9 y2 y4 o9 hq10) ⟨callB_of 2 htx (xw_goodC kw_6_158) rfl rfl rfl (htx _ kw_1_5) (htx _ kw_6_155) ⟨by decide, by decide, by decide +kernel⟩ ⟨Nat.le_of_ble_eq_true rfl, Nat.le_of_ble_eq_true rfl⟩, (htx _ kw_6_157), (htx _ kp_M_kid)⟩ ⟨xPre_blind, va_recv hK hP (ci := 5) rfl (q0 := 0) rfl, (fun U hU hW => ⟨rfl, xPre_of hZ hS hFc hP hD hK U hU hW⟩)⟩ rfl rfl hl.1 rfl (xm_room (Nat.le_of_ble_eq_true rfl)) dM_added_250 ⟨hm0.1, hm0.2⟩) hS (fun q _ h => hFc q h) hFc (fun r11 u9 t H1 locs ht hvm hr9 hB hz1 hk1 hS => ?_)
              obtain ⟨hP1, hK1, hD1⟩ := hB
              rw [ht] at hP1
              have hP : va_P D xcl (xMw cT aM adL rd gdL vadL ws9 []) H1 := hP1
              have hD : va_D A (xMw cT aM adL rd gdL vadL ws9 []) := hD1.weaken (fun k q _ h => hFc q.1 h)
              generalize H1 = H at hP hS ⊢
              rw [hr9]
              refine W.eq (g2 := F0 m 253 ls [xv vadL o9, .null, .ref aM]) (by first | rfl | (skip; rfl)) ?_
              obtain ⟨o12, hq13, hf⟩ := xbind hf
              obtain ⟨hm14, hf⟩ := xmoE hf
              have hFc := xm_free hD hS hA
              refine va_callv (va_runV (C := "ValueBenchModel") (As := [.null, xv vadL o9]) (rest := []) ⟨hx, hb, hml, hown, htx⟩ (gM_wait l hl9 D cT aK aV H.size n aM adL rd gdL vadL ws9 0 o9 o12 hq13) ⟨callB_of 2 htx (xw_goodC kw_6_112) rfl rfl rfl (htx _ kw_1_5) (htx _ kw_6_109) ⟨by decide, by decide, by decide +kernel⟩ ⟨Nat.le_of_ble_eq_true rfl, Nat.le_of_ble_eq_true rfl⟩, (htx _ kw_6_111), (htx _ kp_M_wait)⟩ ⟨xPre_blind, va_recv hK hP (ci := 5) rfl (q0 := 0) rfl, (fun U hU hW => ⟨rfl, xPre_of hZ hS hFc hP hD hK U hU hW⟩)⟩ rfl rfl hl.1 rfl (xm_room (Nat.le_of_ble_eq_true rfl)) dM_added_253 ⟨hm14.1, hm14.2⟩) hS (fun q _ h => hFc q h) hFc (fun u9 t H1 locs ht hvm hr9 hB hz1 hk1 hS => ?_)
              obtain ⟨hP1, hK1, hD1⟩ := hB
              rw [ht] at hP1
              obtain ⟨ad16, gd17, vad18⟩ := u9
              obtain ⟨hv19, hn20⟩ := hr9
              have hP : va_P D xcl (xMw cT aM ad16 rd gd17 vad18 o12.2.2 []) H1 := hP1
              have hD : va_D A (xMw cT aM ad16 rd gd17 vad18 o12.2.2 []) := hD1.weaken (fun k q _ h => hFc q.1 h)
              generalize H1 = H at hP hS ⊢
              have hE9 : ∀ p, p < xct st → vad18 p = vad p := fun p h => (hv19 p (Nat.lt_of_lt_of_le h hN)).trans (hE p h)
              have hE := hE9
              have hN : xct st ≤ xct o12.2.2 := Nat.le_trans hN hn20
              have ev21 : xv vadL y1 = xv vad18 y1 := xvE hv19 (fun h => hg2 (Or.inr h))
              have ev22 : xv vadL y2 = xv vad18 y2 := xvE hv19 (fun h => hg1 (Or.inr h))
              have hl : lv_has ls 6 [(4, .int y4), (3, .int y3), (0, .ref aM), (1, xv vad18 y1), (2, xv vad18 y2)] := by first | exact hl | ((try (rw [← ev21])); (try (rw [← ev22])); exact hl)
              refine W.eq (g2 := F0 m 256 ls []) (by first | rfl | ((try (rw [ev21])); (try (rw [ev22])); rfl)) ?_
              refine lv_iinc (v := (y4 + 1)) (lv' := [(4, .int (y4 + 1)), (3, .int y3), (0, .ref aM), (1, xv vad18 y1), (2, xv vad18 y2)]) hx hb dM_added_256 hl (k := 0) rfl rfl (by decide) rfl (fun ls hl => ?_)
              refine lv_goto (tgt := 193) hx hb dM_added_259 (by decide) ?_
              exact ih (2, (y4 + 1), y3, y1, y2, o12.2.2, (wc + o12.1), (wn + o12.2.1)) _ _ ls (Or.inr (⟨ad16, gd17, vad18, rfl, hf, hP, hD, hS, lv_sub hl [0, 1, 2, 3, 4] rfl, hE, hN⟩))
            · rw [if_pos hc] at hf
              refine lv_aload_n hx hb dM_added_235 rfl (lv_at hl 2 rfl) ?_
              refine xm_aload_n hx hb (xvor _ _) dM_added_236 rfl (lv_at hl 4 rfl) ?_
              refine lv_iload hx hb dM_added_237 (lv_at hl 0 rfl) ?_
              obtain ⟨o9, hq10, hf⟩ := xbind hf
              have hFc := xm_free hD hS hA
              refine va_callq (va_runV (C := "ValueBenchModel") (As := [xv vadL y2, .int y4]) (rest := [.ref aM]) ⟨hx, hb, hml, hown, htx⟩ (gM_name l hl9 D cT aK aV H.size n aM adL rd gdL vadL ws9 y2 y4 o9 hq10) ⟨callB_of 2 htx (xw_goodC kw_6_154) rfl rfl rfl (htx _ kw_1_5) (htx _ kw_6_151) ⟨by decide, by decide, by decide +kernel⟩ ⟨Nat.le_of_ble_eq_true rfl, Nat.le_of_ble_eq_true rfl⟩, (htx _ kw_6_153), (htx _ kp_M_name)⟩ ⟨xPre_blind, va_recv hK hP (ci := 5) rfl (q0 := 0) rfl, (fun U hU hW => ⟨rfl, xPre_of hZ hS hFc hP hD hK U hU hW⟩)⟩ rfl rfl hl.1 rfl (xm_room (Nat.le_of_ble_eq_true rfl)) dM_added_239 ⟨hm0.1, hm0.2⟩) hS (fun q _ h => hFc q h) hFc (fun r11 u9 t H1 locs ht hvm hr9 hB hz1 hk1 hS => ?_)
              obtain ⟨hP1, hK1, hD1⟩ := hB
              rw [ht] at hP1
              have hP : va_P D xcl (xMw cT aM adL rd gdL vadL ws9 []) H1 := hP1
              have hD : va_D A (xMw cT aM adL rd gdL vadL ws9 []) := hD1.weaken (fun k q _ h => hFc q.1 h)
              generalize H1 = H at hP hS ⊢
              rw [hr9]
              refine W.eq (g2 := F0 m 242 ls [xv vadL o9, .ref aM]) (by first | rfl | (skip; rfl)) ?_
              refine lv_goto (tgt := 246) hx hb dM_added_242 (by decide) ?_
              refine lv_aload_n hx hb dM_added_246 rfl (lv_at hl 2 rfl) ?_
              refine xm_aload_n hx hb (xvor _ _) dM_added_247 rfl (lv_at hl 4 rfl) ?_
              refine lv_iload hx hb dM_added_248 (lv_at hl 0 rfl) ?_
              obtain ⟨o12, hq13, hf⟩ := xbind hf
              have hFc := xm_free hD hS hA
              refine va_callq (va_runV (C := "ValueBenchModel") (As := [xv vadL y2, .int y4]) (rest := [xv vadL o9, .ref aM]) ⟨hx, hb, hml, hown, htx⟩ (gM_kid l hl9 D cT aK aV H.size n aM adL rd gdL vadL ws9 y2 y4 o12 hq13) ⟨callB_of 2 htx (xw_goodC kw_6_158) rfl rfl rfl (htx _ kw_1_5) (htx _ kw_6_155) ⟨by decide, by decide, by decide +kernel⟩ ⟨Nat.le_of_ble_eq_true rfl, Nat.le_of_ble_eq_true rfl⟩, (htx _ kw_6_157), (htx _ kp_M_kid)⟩ ⟨xPre_blind, va_recv hK hP (ci := 5) rfl (q0 := 0) rfl, (fun U hU hW => ⟨rfl, xPre_of hZ hS hFc hP hD hK U hU hW⟩)⟩ rfl rfl hl.1 rfl (xm_room (by simp [xvcat, xrscat, xcI, xcL, xcR, xcN])) dM_added_250 ⟨hm0.1, hm0.2⟩) hS (fun q _ h => hFc q h) hFc (fun r14 u9 t H1 locs ht hvm hr9 hB hz1 hk1 hS => ?_)
              obtain ⟨hP1, hK1, hD1⟩ := hB
              rw [ht] at hP1
              have hP : va_P D xcl (xMw cT aM adL rd gdL vadL ws9 []) H1 := hP1
              have hD : va_D A (xMw cT aM adL rd gdL vadL ws9 []) := hD1.weaken (fun k q _ h => hFc q.1 h)
              generalize H1 = H at hP hS ⊢
              rw [hr9]
              refine W.eq (g2 := F0 m 253 ls [xv vadL o12, xv vadL o9, .ref aM]) (by first | rfl | (skip; rfl)) ?_
              obtain ⟨o15, hq16, hf⟩ := xbind hf
              obtain ⟨hm17, hf⟩ := xmoE hf
              have hFc := xm_free hD hS hA
              refine va_callv (va_runV (C := "ValueBenchModel") (As := [xv vadL o9, xv vadL o12]) (rest := []) ⟨hx, hb, hml, hown, htx⟩ (gM_wait l hl9 D cT aK aV H.size n aM adL rd gdL vadL ws9 o9 o12 o15 hq16) ⟨callB_of 2 htx (xw_goodC kw_6_112) rfl rfl rfl (htx _ kw_1_5) (htx _ kw_6_109) ⟨by decide, by decide, by decide +kernel⟩ ⟨Nat.le_of_ble_eq_true rfl, Nat.le_of_ble_eq_true rfl⟩, (htx _ kw_6_111), (htx _ kp_M_wait)⟩ ⟨xPre_blind, va_recv hK hP (ci := 5) rfl (q0 := 0) rfl, (fun U hU hW => ⟨rfl, xPre_of hZ hS hFc hP hD hK U hU hW⟩)⟩ rfl rfl hl.1 rfl (xm_room (Nat.le_of_ble_eq_true rfl)) dM_added_253 ⟨hm17.1, hm17.2⟩) hS (fun q _ h => hFc q h) hFc (fun u9 t H1 locs ht hvm hr9 hB hz1 hk1 hS => ?_)
              obtain ⟨hP1, hK1, hD1⟩ := hB
              rw [ht] at hP1
              obtain ⟨ad19, gd20, vad21⟩ := u9
              obtain ⟨hv22, hn23⟩ := hr9
              have hP : va_P D xcl (xMw cT aM ad19 rd gd20 vad21 o15.2.2 []) H1 := hP1
              have hD : va_D A (xMw cT aM ad19 rd gd20 vad21 o15.2.2 []) := hD1.weaken (fun k q _ h => hFc q.1 h)
              generalize H1 = H at hP hS ⊢
              have hE9 : ∀ p, p < xct st → vad21 p = vad p := fun p h => (hv22 p (Nat.lt_of_lt_of_le h hN)).trans (hE p h)
              have hE := hE9
              have hN : xct st ≤ xct o15.2.2 := Nat.le_trans hN hn23
              have ev24 : xv vadL y1 = xv vad21 y1 := xvE hv22 (fun h => hg2 (Or.inr h))
              have ev25 : xv vadL y2 = xv vad21 y2 := xvE hv22 (fun h => hg1 (Or.inr h))
              have hl : lv_has ls 6 [(4, .int y4), (3, .int y3), (0, .ref aM), (1, xv vad21 y1), (2, xv vad21 y2)] := by first | exact hl | ((try (rw [← ev24])); (try (rw [← ev25])); exact hl)
              refine W.eq (g2 := F0 m 256 ls []) (by first | rfl | ((try (rw [ev24])); (try (rw [ev25])); rfl)) ?_
              refine lv_iinc (v := (y4 + 1)) (lv' := [(4, .int (y4 + 1)), (3, .int y3), (0, .ref aM), (1, xv vad21 y1), (2, xv vad21 y2)]) hx hb dM_added_256 hl (k := 0) rfl rfl (by decide) rfl (fun ls hl => ?_)
              refine lv_goto (tgt := 193) hx hb dM_added_259 (by decide) ?_
              exact ih (2, (y4 + 1), y3, y1, y2, o15.2.2, (wc + o15.1), (wn + o15.2.1)) _ _ ls (Or.inr (⟨ad19, gd20, vad21, rfl, hf, hP, hD, hS, lv_sub hl [0, 1, 2, 3, 4] rfl, hE, hN⟩))
  refine xm_aload_n hx hb (xvor _ _) dM_added_0 rfl (lv_at hl 1 rfl) ?_
  obtain ⟨hg1, hf⟩ := xifn hf
  refine xm_vget (v := .int ((xpi st 0) (c0 - 1))) hx hb htx hown hK hP 0 (by decide) hg1 rfl ((hZ.1 (93, "kind", "I") (List.mem_of_getElem? (i := 0) rfl)).use rfl) rfl dM_added_1 ?_
  refine lv_if_ne (tgt := 9) hx hb dM_added_4 (by decide) (fun hc => ?_) (fun hc => ?_)
  · rw [if_neg hc] at hf
    refine xm_aload_n hx hb (xvor _ _) dM_added_9 rfl (lv_at hl 2 rfl) ?_
    obtain ⟨hg2, hf⟩ := xifn hf
    refine xm_vget (v := .int ((xpi st 0) (c1 - 1))) hx hb htx hown hK hP 0 (by decide) hg2 rfl ((hZ.1 (93, "kind", "I") (List.mem_of_getElem? (i := 0) rfl)).use rfl) rfl dM_added_10 ?_
    refine lv_if_ne (tgt := 18) hx hb dM_added_13 (by decide) (fun hc => ?_) (fun hc => ?_)
    · rw [if_neg hc] at hf
      refine xm_aload_n hx hb (xvor _ _) dM_added_18 rfl (lv_at hl 1 rfl) ?_
      refine xm_vget (v := .int ((xpi st 0) (c0 - 1))) hx hb htx hown hK hP 0 (by decide) hg1 rfl ((hZ.1 (93, "kind", "I") (List.mem_of_getElem? (i := 0) rfl)).use rfl) rfl dM_added_19 ?_
      refine xm_aload_n hx hb (xvor _ _) dM_added_22 rfl (lv_at hl 2 rfl) ?_
      refine xm_vget (v := .int ((xpi st 0) (c1 - 1))) hx hb htx hown hK hP 0 (by decide) hg2 rfl ((hZ.1 (93, "kind", "I") (List.mem_of_getElem? (i := 0) rfl)).use rfl) rfl dM_added_23 ?_
      refine lv_icmp_ne (tgt := 37) hx hb dM_added_26 (by decide) (fun hc => ?_) (fun hc => ?_)
      · rw [if_neg hc] at hf
        refine lv_aload_n hx hb dM_added_37 rfl (lv_at hl 0 rfl) ?_
        refine lv_iconst (v := 1) hx hb dM_added_38 (by decide) ?_
        obtain ⟨o3, hq4, hf⟩ := xbind hf
        have hl := lv_sub (l' := [(0, .ref aM)]) hl [0] rfl
        by_cases hk5 : o3.1 = 1
        · rw [if_pos hk5] at hf
          obtain ⟨hm6, hf⟩ := xmoE hf
          obtain rfl := Option.some.inj hf
          exact absurd (show (1 : Nat) = 2 from hkd) (by decide)
        rw [if_neg hk5] at hf
        exact nomatch hf
      · rw [if_pos hc] at hf
        refine xm_aload_n hx hb (xvor _ _) dM_added_29 rfl (lv_at hl 1 rfl) ?_
        refine xm_vget (v := .int ((xpi st 0) (c0 - 1))) hx hb htx hown hK hP 0 (by decide) hg1 rfl ((hZ.1 (93, "kind", "I") (List.mem_of_getElem? (i := 0) rfl)).use rfl) rfl dM_added_30 ?_
        refine lv_iconst (v := 3) hx hb dM_added_33 (by decide) ?_
        refine lv_icmp_ge (tgt := 43) hx hb dM_added_34 (by decide) (fun hc => ?_) (fun hc => ?_)
        · rw [if_pos hc] at hf
          refine xm_aload_n hx hb (xvor _ _) dM_added_43 rfl (lv_at hl 1 rfl) ?_
          refine xm_vget (v := .int ((xpi st 0) (c0 - 1))) hx hb htx hown hK hP 0 (by decide) hg1 rfl ((hZ.1 (93, "kind", "I") (List.mem_of_getElem? (i := 0) rfl)).use rfl) rfl dM_added_44 ?_
          refine lv_iconst (v := 3) hx hb dM_added_47 (by decide) ?_
          refine lv_icmp_ne (tgt := 65) hx hb dM_added_48 (by decide) (fun hc => ?_) (fun hc => ?_)
          · rw [if_neg hc] at hf
            refine xm_aload_n hx hb (xvor _ _) dM_added_65 rfl (lv_at hl 1 rfl) ?_
            refine xm_vget (v := .int ((xpi st 0) (c0 - 1))) hx hb htx hown hK hP 0 (by decide) hg1 rfl ((hZ.1 (93, "kind", "I") (List.mem_of_getElem? (i := 0) rfl)).use rfl) rfl dM_added_66 ?_
            refine lv_iconst (v := 4) hx hb dM_added_69 (by decide) ?_
            refine lv_icmp_ne (tgt := 94) hx hb dM_added_70 (by decide) (fun hc => ?_) (fun hc => ?_)
            · rw [if_neg hc] at hf
              refine lv_aload_n hx hb dM_added_94 rfl (lv_at hl 0 rfl) ?_
              refine xm_get (v := .int (xsi st 12)) hx hb htx hown hK hP 12 (by decide) rfl (htx _ kw_5_99) rfl dM_added_95 ?_
              refine lv_istore_n (lv' := [(3, .int (xsi st 12)), (0, .ref aM), (1, xv vad c0), (2, xv vad c1)]) hx hb dM_added_98 rfl hl (by decide) (by simp only [List.filter, xvcat, xrscat, xcI, xcL, xcR, xcN]; rfl) (fun ls hl => ?_)
              refine lv_iconst (v := 0) hx hb dM_added_99 (by decide) ?_
              refine lv_istore (lv' := [(4, .int 0), (3, .int (xsi st 12)), (0, .ref aM), (1, xv vad c0), (2, xv vad c1)]) hx hb dM_added_100 hl (by decide) rfl (fun ls hl => ?_)
              exact key n (1, (0 : Int32), (xsi st 12), c0, c1, st, 0, 0) _ _ ls (Or.inl ⟨ad, gd, vad, rfl, hf, hP, hD, hS, lv_sub hl [0, 1, 2, 3, 4] rfl, hE, hN⟩)
            · rw [if_pos hc] at hf
              refine lv_aload_n hx hb dM_added_73 rfl (lv_at hl 0 rfl) ?_
              refine xm_get (v := .int (xsi st 4)) hx hb htx hown hK hP 4 (by decide) rfl (htx _ kw_5_91) rfl dM_added_74 ?_
              refine lv_istore_n (lv' := [(3, .int (xsi st 4)), (0, .ref aM), (1, xv vad c0), (2, xv vad c1)]) hx hb dM_added_77 rfl hl (by decide) (by simp only [List.filter, xvcat, xrscat, xcI, xcL, xcR, xcN]; rfl) (fun ls hl => ?_)
              refine lv_aload_n hx hb dM_added_78 rfl (lv_at hl 1 rfl) ?_
              refine xm_aload_n hx hb (xvor _ _) dM_added_79 rfl (lv_at hl 2 rfl) ?_
              obtain ⟨o3, hq4, hf⟩ := xbind hf
              have hl := lv_sub (l' := [(3, .int (xsi st 4)), (0, .ref aM), (2, xv vad c1)]) hl [0, 1, 3] rfl
              obtain ⟨hm5, hf⟩ := xmoE hf
              have hFc := xm_free hD hS hA
              refine va_callv (va_runV (C := "ValueBenchModel") (As := [xv vad c0]) (rest := []) ⟨hx, hb, hml, hown, htx⟩ (gM_letters l hl9 D cT aK aV s.heap.size n aM ad rd gd vad st c0 o3 hq4) ⟨callB_of 1 htx (xw_goodC kw_6_207) rfl rfl rfl (htx _ kw_1_5) (htx _ kw_6_204) ⟨by decide, by decide, by decide +kernel⟩ ⟨Nat.le_of_ble_eq_true rfl, Nat.le_of_ble_eq_true rfl⟩, (htx _ kw_6_206), (htx _ kp_M_letters)⟩ ⟨xPre_blind, va_recv hK hP (ci := 5) rfl (q0 := 0) rfl, (fun U hU hW => ⟨rfl, xPre_of hZ hS hFc hP hD hK U hU hW⟩)⟩ rfl rfl hl.1 rfl (xm_room (Nat.le_of_ble_eq_true rfl)) dM_added_80 ⟨hm5.1, hm5.2⟩) hS (fun q _ h => hFc q h) hFc (fun u9 t H1 locs ht hvm hr9 hB hz1 hk1 hS => ?_)
              obtain ⟨hP1, hK1, hD1⟩ := hB
              rw [ht] at hP1
              obtain ⟨ad7, gd8, vad9⟩ := u9
              obtain ⟨hv10, hn11⟩ := hr9
              have hP : va_P D xcl (xMw cT aM ad7 rd gd8 vad9 o3.2.2 []) H1 := hP1
              have hD : va_D A (xMw cT aM ad7 rd gd8 vad9 o3.2.2 []) := hD1.weaken (fun k q _ h => hFc q.1 h)
              generalize H1 = H at hP hS ⊢
              have hE9 : ∀ p, p < xct st → vad9 p = vad p := fun p h => (hv10 p (Nat.lt_of_lt_of_le h hN)).trans (hE p h)
              have hE := hE9
              have hN : xct st ≤ xct o3.2.2 := Nat.le_trans hN hn11
              have ev12 : xv vad c1 = xv vad9 c1 := xvE hv10 (fun h => hg2 (Or.inr h))
              have hl : lv_has ls 6 [(3, .int (xsi st 4)), (0, .ref aM), (2, xv vad9 c1)] := by first | exact hl | ((try (rw [← ev12])); exact hl)
              refine W.eq (g2 := F0 m 83 ls []) (by first | rfl | ((try (rw [ev12])); rfl)) ?_
              refine lv_aload_n hx hb dM_added_83 rfl (lv_at hl 1 rfl) ?_
              refine xm_aload_n hx hb (xvor _ _) dM_added_84 rfl (lv_at hl 2 rfl) ?_
              obtain ⟨o13, hq14, hf⟩ := xbind hf
              have hl := lv_sub (l' := [(3, .int (xsi st 4)), (0, .ref aM)]) hl [0, 1] rfl
              obtain ⟨hm15, hf⟩ := xmoE hf
              have hFc := xm_free hD hS hA
              refine va_callv (va_runV (C := "ValueBenchModel") (As := [xv vad9 c1]) (rest := []) ⟨hx, hb, hml, hown, htx⟩ (gM_letters l hl9 D cT aK aV H.size n aM ad7 rd gd8 vad9 o3.2.2 c1 o13 hq14) ⟨callB_of 1 htx (xw_goodC kw_6_207) rfl rfl rfl (htx _ kw_1_5) (htx _ kw_6_204) ⟨by decide, by decide, by decide +kernel⟩ ⟨Nat.le_of_ble_eq_true rfl, Nat.le_of_ble_eq_true rfl⟩, (htx _ kw_6_206), (htx _ kp_M_letters)⟩ ⟨xPre_blind, va_recv hK hP (ci := 5) rfl (q0 := 0) rfl, (fun U hU hW => ⟨rfl, xPre_of hZ hS hFc hP hD hK U hU hW⟩)⟩ rfl rfl hl.1 rfl (xm_room (Nat.le_of_ble_eq_true rfl)) dM_added_85 ⟨hm15.1, hm15.2⟩) hS (fun q _ h => hFc q h) hFc (fun u9 t H1 locs ht hvm hr9 hB hz1 hk1 hS => ?_)
              obtain ⟨hP1, hK1, hD1⟩ := hB
              rw [ht] at hP1
              obtain ⟨ad17, gd18, vad19⟩ := u9
              obtain ⟨hv20, hn21⟩ := hr9
              have hP : va_P D xcl (xMw cT aM ad17 rd gd18 vad19 o13.2.2 []) H1 := hP1
              have hD : va_D A (xMw cT aM ad17 rd gd18 vad19 o13.2.2 []) := hD1.weaken (fun k q _ h => hFc q.1 h)
              generalize H1 = H at hP hS ⊢
              have hE9 : ∀ p, p < xct st → vad19 p = vad p := fun p h => (hv20 p (Nat.lt_of_lt_of_le h hN)).trans (hE p h)
              have hE := hE9
              have hN : xct st ≤ xct o13.2.2 := Nat.le_trans hN hn21
              refine W.eq (g2 := F0 m 88 ls []) (by first | rfl | (skip; rfl)) ?_
              refine lv_aload_n hx hb dM_added_88 rfl (lv_at hl 1 rfl) ?_
              refine lv_iload_n hx hb dM_added_89 rfl (lv_at hl 0 rfl) ?_
              obtain ⟨o22, hq23, hf⟩ := xbind hf
              by_cases hk24 : o22.1 = 0
              · rw [if_pos hk24] at hf
                obtain ⟨hm25, hf⟩ := xmoE hf
                have hFc := xm_free hD hS hA
                refine va_callq (va_runV (C := "ValueBenchModel") (As := [.int (xsi st 4)]) (rest := []) ⟨hx, hb, hml, hown, htx⟩ (gM_string l hl9 D cT aK aV H.size n aM ad17 rd gd18 vad19 o13.2.2 (xsi st 4) o22 hq23 hk24) ⟨callB_of 1 htx (xw_goodC kw_6_61) rfl rfl rfl (htx _ kw_1_5) (htx _ kw_6_58) ⟨by decide, by decide, by decide +kernel⟩ ⟨Nat.le_of_ble_eq_true rfl, Nat.le_of_ble_eq_true rfl⟩, (htx _ kw_6_60), (htx _ kp_M_string)⟩ ⟨xPre_blind, va_recv hK hP (ci := 5) rfl (q0 := 0) rfl, (fun U hU hW => ⟨rfl, xPre_of hZ hS hFc hP hD hK U hU hW⟩)⟩ rfl rfl hl.1 rfl (xm_room (Nat.le_of_ble_eq_true rfl)) dM_added_90 ⟨hm25.1, hm25.2⟩) hS (fun q _ h => hFc q h) hFc (fun r26 u9 t H1 locs ht hvm hr9 hB hz1 hk1 hS => ?_)
                obtain ⟨hP1, hK1, hD1⟩ := hB
                rw [ht] at hP1
                obtain ⟨ad27, gd28, vad29⟩ := u9
                obtain ⟨hr9, hv30, hn31⟩ := hr9
                have hP : va_P D xcl (xMw cT aM ad27 rd gd28 vad29 o22.2.2.2.2 []) H1 := hP1
                have hD : va_D A (xMw cT aM ad27 rd gd28 vad29 o22.2.2.2.2 []) := hD1.weaken (fun k q _ h => hFc q.1 h)
                generalize H1 = H at hP hS ⊢
                have hE9 : ∀ p, p < xct st → vad29 p = vad p := fun p h => (hv30 p (Nat.lt_of_lt_of_le h hN)).trans (hE p h)
                have hE := hE9
                have hN : xct st ≤ xct o22.2.2.2.2 := Nat.le_trans hN hn31
                rw [hr9]
                refine W.eq (g2 := F0 m 93 ls [xv vad29 o22.2.2.2.1]) (by first | rfl | (skip; rfl)) ?_
                obtain rfl := Option.some.inj hf
                exact absurd (show (0 : Nat) = 2 from hkd) (by decide)
              rw [if_neg hk24] at hf
              by_cases hk32 : o22.1 = 1
              · rw [if_pos hk32] at hf
                obtain ⟨hm33, hf⟩ := xmoE hf
                have hFc := xm_free hD hS hA
                refine xx_thr (vx_runV (C := "ValueBenchModel") (As := [.int (xsi st 4)]) (rest := []) ⟨hx, hb, hml, hown, htx⟩ (gM_string_1 l hl9 D cT aK aV H.size n aM ad17 rd gd18 vad19 o13.2.2 (xsi st 4) o22 hq23 hk32) ⟨callB_of 1 htx (xw_goodC kw_6_61) rfl rfl rfl (htx _ kw_1_5) (htx _ kw_6_58) ⟨by decide, by decide, by decide +kernel⟩ ⟨Nat.le_of_ble_eq_true rfl, Nat.le_of_ble_eq_true rfl⟩, (htx _ kw_6_60), (htx _ kp_M_string)⟩ ⟨xPre_blind, va_recv hK hP (ci := 5) rfl (q0 := 0) rfl, (fun U hU hW => ⟨rfl, xPre_of hZ hS hFc hP hD hK U hU hW⟩)⟩ rfl rfl hl.1 rfl (xm_room (Nat.le_of_ble_eq_true rfl)) dM_added_90 ⟨hm33.1, hm33.2⟩) hS hFc (fun q _ h => hFc q h) (fun E ce q9 u9 t H1 locs ht hvm hr9 hB hz1 hk1 hS hce hcv hcl => ?_)
                obtain ⟨rfl, hP1, hK1, hD1⟩ := hB
                rw [ht] at hP1
                obtain ⟨ad35, gd36, vad37⟩ := u9
                obtain ⟨hv38, hn39⟩ := hr9
                have hP : va_P D xcl (xMw cT aM ad35 rd gd36 vad37 o22.2.2.2.2 []) H1 := hP1
                have hD : va_D A (xMw cT aM ad35 rd gd36 vad37 o22.2.2.2.2 []) := hD1.weaken (fun k q _ h => hFc q.1 h)
                generalize H1 = H at hP hS hce ⊢
                have hE9 : ∀ p, p < xct st → vad37 p = vad p := fun p h => (hv38 p (Nat.lt_of_lt_of_le h hN)).trans (hE p h)
                have hE := hE9
                have hN : xct st ≤ xct o22.2.2.2.2 := Nat.le_trans hN hn39
                obtain rfl := Option.some.inj hf
                exact vx_out (E := "java/lang/IndexOutOfBoundsException") (fun x h => (hne x h).elim) hlocks hce hcv hcl (fun t ht ha => ⟨(ad35, gd36, vad37), ⟨hE, hN⟩, ⟨rfl, by rw [ht]; exact hP, va_K.moved ha hK, hD⟩, hS.F ht⟩) hS.2.2 (Nat.le_refl _) (Nat.le_refl _)
              rw [if_neg hk32] at hf
              exact nomatch hf
          · rw [if_pos hc] at hf
            refine lv_aload_n hx hb dM_added_51 rfl (lv_at hl 0 rfl) ?_
            refine xm_aload_n hx hb (xvor _ _) dM_added_52 rfl (lv_at hl 1 rfl) ?_
            refine xm_vget (v := .long ((xpl st) (c0 - 1))) hx hb htx hown hK hP 1 (by decide) hg1 rfl ((hZ.1 (96, "n", "J") (List.mem_of_getElem? (i := 1) rfl)).use rfl) rfl dM_added_53 ?_
            refine xm_aload_n hx hb (xvor _ _) dM_added_56 rfl (lv_at hl 2 rfl) ?_
            refine xm_vget (v := .long ((xpl st) (c1 - 1))) hx hb htx hown hK hP 1 (by decide) hg2 rfl ((hZ.1 (96, "n", "J") (List.mem_of_getElem? (i := 1) rfl)).use rfl) rfl dM_added_57 ?_
            refine lv_ladd hx hb dM_added_60 ?_
            obtain ⟨o3, hq4, hf⟩ := xbind hf
            have hl := lv_sub (l' := [(0, .ref aM)]) hl [0] rfl
            by_cases hk5 : o3.1 = 0
            · rw [if_pos hk5] at hf
              obtain ⟨hm6, hf⟩ := xmoE hf
              have hFc := xm_free hD hS hA
              refine va_callq (va_runV (C := "ValueBenchModel") (As := [.long (((xpl st) (c0 - 1)) + ((xpl st) (c1 - 1)))]) (rest := []) ⟨hx, hb, hml, hown, htx⟩ (gM_number l hl9 D cT aK aV s.heap.size n aM ad rd gd vad st (((xpl st) (c0 - 1)) + ((xpl st) (c1 - 1))) o3 hq4 hk5) ⟨callB_of 1 htx (xw_goodC kw_6_88) rfl rfl rfl (htx _ kw_1_5) (htx _ kw_6_85) ⟨by decide, by decide, by decide +kernel⟩ ⟨Nat.le_of_ble_eq_true rfl, Nat.le_of_ble_eq_true rfl⟩, (htx _ kw_6_87), (htx _ kp_M_number)⟩ ⟨xPre_blind, va_recv hK hP (ci := 5) rfl (q0 := 0) rfl, (fun U hU hW => ⟨rfl, xPre_of hZ hS hFc hP hD hK U hU hW⟩)⟩ rfl rfl hl.1 rfl (xm_room (Nat.le_of_ble_eq_true rfl)) dM_added_61 ⟨hm6.1, hm6.2⟩) hS (fun q _ h => hFc q h) hFc (fun r7 u9 t H1 locs ht hvm hr9 hB hz1 hk1 hS => ?_)
              obtain ⟨hP1, hK1, hD1⟩ := hB
              rw [ht] at hP1
              obtain ⟨ad8, gd9, vad10⟩ := u9
              obtain ⟨hr9, hv11, hn12⟩ := hr9
              have hP : va_P D xcl (xMw cT aM ad8 rd gd9 vad10 o3.2.2.2.2 []) H1 := hP1
              have hD : va_D A (xMw cT aM ad8 rd gd9 vad10 o3.2.2.2.2 []) := hD1.weaken (fun k q _ h => hFc q.1 h)
              generalize H1 = H at hP hS ⊢
              have hE9 : ∀ p, p < xct st → vad10 p = vad p := fun p h => (hv11 p (Nat.lt_of_lt_of_le h hN)).trans (hE p h)
              have hE := hE9
              have hN : xct st ≤ xct o3.2.2.2.2 := Nat.le_trans hN hn12
              rw [hr9]
              refine W.eq (g2 := F0 m 64 ls [xv vad10 o3.2.2.2.1]) (by first | rfl | (skip; rfl)) ?_
              obtain rfl := Option.some.inj hf
              exact absurd (show (0 : Nat) = 2 from hkd) (by decide)
            rw [if_neg hk5] at hf
            by_cases hk13 : o3.1 = 1
            · rw [if_pos hk13] at hf
              obtain ⟨hm14, hf⟩ := xmoE hf
              obtain rfl := Option.some.inj hf
              exact absurd (show (1 : Nat) = 2 from hkd) (by decide)
            rw [if_neg hk13] at hf
            exact nomatch hf
        · rw [if_neg hc] at hf
          refine lv_aload_n hx hb dM_added_37 rfl (lv_at hl 0 rfl) ?_
          refine lv_iconst (v := 1) hx hb dM_added_38 (by decide) ?_
          obtain ⟨o3, hq4, hf⟩ := xbind hf
          have hl := lv_sub (l' := [(0, .ref aM)]) hl [0] rfl
          by_cases hk5 : o3.1 = 1
          · rw [if_pos hk5] at hf
            obtain ⟨hm6, hf⟩ := xmoE hf
            obtain rfl := Option.some.inj hf
            exact absurd (show (1 : Nat) = 2 from hkd) (by decide)
          rw [if_neg hk5] at hf
          exact nomatch hf
    · rw [if_pos hc] at hf
      refine xm_aload_n hx hb (xvor _ _) dM_added_16 rfl (lv_at hl 1 rfl) ?_
      obtain rfl := Option.some.inj hf
      exact absurd (show (0 : Nat) = 2 from hkd) (by decide)
  · rw [if_pos hc] at hf
    refine xm_aload_n hx hb (xvor _ _) dM_added_7 rfl (lv_at hl 2 rfl) ?_
    obtain rfl := Option.some.inj hf
    exact absurd (show (0 : Nat) = 2 from hkd) (by decide)
set_option maxHeartbeats 400000000 in
set_option maxRecDepth 100000 in
theorem gM_alike (l : Launch) (hl9 : l.stackTraces = false) (D : va_G) (cT : Nat → ClassId) (aK aV : Nat → Nat) (sz n : Nat) (aM : Nat) (ad rd gd vad : Nat → Nat) (st : xS) (c0 : Nat) (c1 : Nat) (out : Int32) (hf : fM_alike n st c0 c1 = some out) : xMet l yM_alike wyM_alike 0 0 0 0 D cT aK aV sz [.ref aM, xv vad c0, xv vad c1] (xMw cT aM ad rd gd vad st []) (fun A => va_Qi (fun (r : Int32) (_ : Unit) => r = out) (fun _ t => xB D xcl cT A (xMw cT aM ad rd gd vad st []) t) A) := by
  refine Met.ofW (cc := prog_13_method_69_code) (maxL := 3) (ret := (some .boolean)) (by decide) rfl ?_
  intro p e s m args below meth c s₁ B hml hv
  obtain ⟨rfl, hsz, hZ, hP, hK, hD0⟩ := hv
  have hx := B.exec
  have hb := B.bytes
  have hr := B.returns
  have hts := atoms_spec (ws := wyM_alike) B.pre
  have htx := fun w h => hts w (List.mem_cons_of_mem _ h)
  have hown : s.vm.findClass "ValueBenchModel" = some m.cls := findClass_of_methodNamed B.named
  have hlocks := B.notSynchronized
  subst hsz
  have hD := hD0.self (sz := s.heap.size)
  generalize hAe : va_A (xMw cT aM ad rd gd vad st []) s.heap.size = A at hD hZ ⊢
  have hA : ∀ q : Nat, s.heap.size ≤ q → A q := fun q h => by rw [← hAe]; exact Or.inr h
  have hS : va_S A s.heap s.heap [] := va_S.rf
  have hl := lv_entry ([.ref aM, xv vad c0, xv vad c1]) (n := 3) (by simp [lg_sl, xvcat, xrscat, xcI, xcL, xcR, xcN])
  rw [show lv_args 0 [.ref aM, xv vad c0, xv vad c1] = [(0, .ref aM), (1, xv vad c0), (2, xv vad c1)] from by simp [lv_args, xvcat, xrscat, xcI, xcL, xcR, xcN]] at hl
  rw [lg_entry_eq]
  generalize (lg_sl ([.ref aM, xv vad c0, xv vad c1]) ++ List.replicate (3 - (lg_sl ([.ref aM, xv vad c0, xv vad c1])).length) Slot.unset).toArray = ls at hl ⊢
  have hl : lv_has ls 3 [(0, .ref aM), (1, xv vad c0), (2, xv vad c1)] := hl
  unfold fM_alike at hf
  refine xm_aload_n hx hb (xvor _ _) dM_alike_0 rfl (lv_at hl 1 rfl) ?_
  obtain ⟨hg1, hf⟩ := xifn hf
  refine xm_vget (v := .int ((xpi st 0) (c0 - 1))) hx hb htx hown hK hP 0 (by decide) hg1 rfl ((hZ.1 (93, "kind", "I") (List.mem_of_getElem? (i := 0) rfl)).use rfl) rfl dM_alike_1 ?_
  refine xm_aload_n hx hb (xvor _ _) dM_alike_4 rfl (lv_at hl 2 rfl) ?_
  obtain ⟨hg2, hf⟩ := xifn hf
  refine xm_vget (v := .int ((xpi st 0) (c1 - 1))) hx hb htx hown hK hP 0 (by decide) hg2 rfl ((hZ.1 (93, "kind", "I") (List.mem_of_getElem? (i := 0) rfl)).use rfl) rfl dM_alike_5 ?_
  refine lv_icmp_eq (tgt := 38) hx hb dM_alike_8 (by decide) (fun hc => ?_) (fun hc => ?_)
  · rw [if_pos hc] at hf
    refine lv_iconst (v := 1) hx hb dM_alike_38 (by decide) ?_
    refine lv_goto (tgt := 43) hx hb dM_alike_39 (by decide) ?_
    obtain rfl := Option.some.inj hf
    exact W.zret (v := (1 : Int32)) hx hb hr rfl (fun t ht hW => ⟨⟨(1 : Int32), (), rfl, rfl, by rw [ht]; exact hP, va_K.moved hW.alike hK, hD⟩, hS.F ht⟩) hS.2.2 dM_alike_43
  · rw [if_neg hc] at hf
    refine xm_aload_n hx hb (xvor _ _) dM_alike_11 rfl (lv_at hl 1 rfl) ?_
    refine xm_vget (v := .int ((xpi st 0) (c0 - 1))) hx hb htx hown hK hP 0 (by decide) hg1 rfl ((hZ.1 (93, "kind", "I") (List.mem_of_getElem? (i := 0) rfl)).use rfl) rfl dM_alike_12 ?_
    refine xm_aload_n hx hb (xvor _ _) dM_alike_15 rfl (lv_at hl 2 rfl) ?_
    refine xm_vget (v := .int ((xpi st 0) (c1 - 1))) hx hb htx hown hK hP 0 (by decide) hg2 rfl ((hZ.1 (93, "kind", "I") (List.mem_of_getElem? (i := 0) rfl)).use rfl) rfl dM_alike_16 ?_
    refine lv_iadd hx hb dM_alike_19 ?_
    refine lv_iconst (v := 3) hx hb dM_alike_20 (by decide) ?_
    refine lv_icmp_ne (tgt := 42) hx hb dM_alike_21 (by decide) (fun hc => ?_) (fun hc => ?_)
    · rw [if_neg hc] at hf
      refine lv_iconst (v := 0) hx hb dM_alike_42 (by decide) ?_
      obtain rfl := Option.some.inj hf
      exact W.zret (v := (0 : Int32)) hx hb hr rfl (fun t ht hW => ⟨⟨(0 : Int32), (), rfl, rfl, by rw [ht]; exact hP, va_K.moved hW.alike hK, hD⟩, hS.F ht⟩) hS.2.2 dM_alike_43
    · rw [if_pos hc] at hf
      refine xm_aload_n hx hb (xvor _ _) dM_alike_24 rfl (lv_at hl 1 rfl) ?_
      refine xm_vget (v := .int ((xpi st 0) (c0 - 1))) hx hb htx hown hK hP 0 (by decide) hg1 rfl ((hZ.1 (93, "kind", "I") (List.mem_of_getElem? (i := 0) rfl)).use rfl) rfl dM_alike_25 ?_
      refine lv_if_le (tgt := 42) hx hb dM_alike_28 (by decide) (fun hc => ?_) (fun hc => ?_)
      · rw [if_pos hc] at hf
        refine lv_iconst (v := 0) hx hb dM_alike_42 (by decide) ?_
        obtain rfl := Option.some.inj hf
        exact W.zret (v := (0 : Int32)) hx hb hr rfl (fun t ht hW => ⟨⟨(0 : Int32), (), rfl, rfl, by rw [ht]; exact hP, va_K.moved hW.alike hK, hD⟩, hS.F ht⟩) hS.2.2 dM_alike_43
      · rw [if_neg hc] at hf
        refine xm_aload_n hx hb (xvor _ _) dM_alike_31 rfl (lv_at hl 2 rfl) ?_
        refine xm_vget (v := .int ((xpi st 0) (c1 - 1))) hx hb htx hown hK hP 0 (by decide) hg2 rfl ((hZ.1 (93, "kind", "I") (List.mem_of_getElem? (i := 0) rfl)).use rfl) rfl dM_alike_32 ?_
        refine lv_if_le (tgt := 42) hx hb dM_alike_35 (by decide) (fun hc => ?_) (fun hc => ?_)
        · rw [if_pos hc] at hf
          refine lv_iconst (v := 0) hx hb dM_alike_42 (by decide) ?_
          obtain rfl := Option.some.inj hf
          exact W.zret (v := (0 : Int32)) hx hb hr rfl (fun t ht hW => ⟨⟨(0 : Int32), (), rfl, rfl, by rw [ht]; exact hP, va_K.moved hW.alike hK, hD⟩, hS.F ht⟩) hS.2.2 dM_alike_43
        · rw [if_neg hc] at hf
          refine lv_iconst (v := 1) hx hb dM_alike_38 (by decide) ?_
          refine lv_goto (tgt := 43) hx hb dM_alike_39 (by decide) ?_
          obtain rfl := Option.some.inj hf
          exact W.zret (v := (1 : Int32)) hx hb hr rfl (fun t ht hW => ⟨⟨(1 : Int32), (), rfl, rfl, by rw [ht]; exact hP, va_K.moved hW.alike hK, hD⟩, hS.F ht⟩) hS.2.2 dM_alike_43
set_option maxHeartbeats 400000000 in
set_option maxRecDepth 100000 in
theorem gM_array (l : Launch) (hl9 : l.stackTraces = false) (D : va_G) (cT : Nat → ClassId) (aK aV : Nat → Nat) (sz n : Nat) (aM : Nat) (ad rd gd vad : Nat → Nat) (st : xS) (c0 : Nat) (out : Nat × Nat × Nat × Nat × xS) (hf : fM_array n st c0 = some out) (hkd : out.1 = 0) : xMet l yM_array wyM_array 7 out.2.1 out.2.2.1 121 D cT aK aV sz [.ref aM, xv vad c0] (xMw cT aM ad rd gd vad st []) (fun A => va_Qq (fun (r : Option Nat) (u : xU) => r = xca u.2.2 out.2.2.2.1 ∧ xE vad st out.2.2.2.2 u) (fun u t => xB D xcl cT A (xMw cT aM u.1 rd u.2.1 u.2.2 out.2.2.2.2 []) t) A) := by
  refine Met.ofW (cc := prog_13_method_55_code) (maxL := 2) (ret := (some (.object "ValueBenchModel$V"))) (by decide) rfl ?_
  intro p e s m args below meth c s₁ B hml hv
  obtain ⟨rfl, hsz, hZ, hP, hK, hD0⟩ := hv
  have hx := B.exec
  have hb := B.bytes
  have hr := B.returns
  have hts := atoms_spec (ws := wyM_array) B.pre
  have htx := fun w h => hts w (List.mem_cons_of_mem _ h)
  have hown : s.vm.findClass "ValueBenchModel" = some m.cls := findClass_of_methodNamed B.named
  have hlocks := B.notSynchronized
  subst hsz
  have hD := hD0.self (sz := s.heap.size)
  generalize hAe : va_A (xMw cT aM ad rd gd vad st []) s.heap.size = A at hD hZ ⊢
  have hA : ∀ q : Nat, s.heap.size ≤ q → A q := fun q h => by rw [← hAe]; exact Or.inr h
  have hS : va_S A s.heap s.heap [] := va_S.rf
  have hl := lv_entry ([.ref aM, xv vad c0]) (n := 2) (by simp [lg_sl, xvcat, xrscat, xcI, xcL, xcR, xcN])
  rw [show lv_args 0 [.ref aM, xv vad c0] = [(0, .ref aM), (1, xv vad c0)] from by simp [lv_args, xvcat, xrscat, xcI, xcL, xcR, xcN]] at hl
  rw [lg_entry_eq]
  generalize (lg_sl ([.ref aM, xv vad c0]) ++ List.replicate (2 - (lg_sl ([.ref aM, xv vad c0])).length) Slot.unset).toArray = ls at hl ⊢
  have hl : lv_has ls 2 [(0, .ref aM), (1, xv vad c0)] := hl
  have hE : ∀ p, p < xct st → vad p = vad p := fun _ _ => rfl
  have hN : xct st ≤ xct st := Nat.le_refl _
  unfold fM_array at hf
  refine xm_aload_n hx hb (xvor _ _) dM_array_0 rfl (lv_at hl 1 rfl) ?_
  obtain ⟨hg1, hf⟩ := xifn hf
  refine xm_vget (v := .int ((xpi st 0) (c0 - 1))) hx hb htx hown hK hP 0 (by decide) hg1 rfl ((hZ.1 (93, "kind", "I") (List.mem_of_getElem? (i := 0) rfl)).use rfl) rfl dM_array_1 ?_
  refine lv_iconst (v := 5) hx hb dM_array_4 (by decide) ?_
  refine lv_icmp_ne (tgt := 12) hx hb dM_array_5 (by decide) (fun hc => ?_) (fun hc => ?_)
  · rw [if_neg hc] at hf
    refine lv_aload_n hx hb dM_array_12 rfl (lv_at hl 0 rfl) ?_
    refine lv_iconst (v := 1) hx hb dM_array_13 (by decide) ?_
    obtain ⟨o2, hq3, hf⟩ := xbind hf
    have hl := lv_sub (l' := [(0, .ref aM)]) hl [0] rfl
    by_cases hk4 : o2.1 = 1
    · rw [if_pos hk4] at hf
      obtain ⟨hm5, hf⟩ := xmoE hf
      obtain rfl := Option.some.inj hf
      exact absurd (show (1 : Nat) = 0 from hkd) (by decide)
    rw [if_neg hk4] at hf
    exact nomatch hf
  · rw [if_pos hc] at hf
    refine xm_aload_n hx hb (xvor _ _) dM_array_8 rfl (lv_at hl 1 rfl) ?_
    refine lv_goto (tgt := 17) hx hb dM_array_9 (by decide) ?_
    obtain rfl := Option.some.inj hf
    exact W.aret (v := xv vad c0) hx hb hr (Or.inl ⟨_, rfl⟩) (xvor _ _) (fun t ht hW => ⟨⟨xca vad c0, (ad, gd, vad), rfl, ⟨rfl, hE, hN⟩, by rw [ht]; exact hP, va_K.moved hW.alike hK, hD⟩, hS.F ht⟩) hS.2.2 dM_array_17
set_option maxHeartbeats 400000000 in
set_option maxRecDepth 100000 in
theorem gM_array_1 (l : Launch) (hl9 : l.stackTraces = false) (D : va_G) (cT : Nat → ClassId) (aK aV : Nat → Nat) (sz n : Nat) (aM : Nat) (ad rd gd vad : Nat → Nat) (st : xS) (c0 : Nat) (out : Nat × Nat × Nat × Nat × xS) (hf : fM_array n st c0 = some out) (hkd : out.1 = 1) : xMetY l yM_array wyM_array 7 out.2.1 out.2.2.1 121 D cT aK aV sz [.ref aM, xv vad c0] (xMw cT aM ad rd gd vad st []) "java/lang/ArithmeticException" (fun u => xE vad st out.2.2.2.2 u) (fun A u t => xB D xcl cT A (xMw cT aM u.1 rd u.2.1 u.2.2 out.2.2.2.2 []) t) := by
  refine vx_ofW (cc := prog_13_method_55_code) (maxL := 2) (ret := (some (.object "ValueBenchModel$V"))) (by decide) rfl ?_
  intro p e s m args below meth c s₁ B hml hne hv
  obtain ⟨rfl, hsz, hZ, hP, hK, hD0⟩ := hv
  have hx := B.exec
  have hb := B.bytes
  have hr := B.returns
  have hts := atoms_spec (ws := wyM_array) B.pre
  have htx := fun w h => hts w (List.mem_cons_of_mem _ h)
  have hown : s.vm.findClass "ValueBenchModel" = some m.cls := findClass_of_methodNamed B.named
  have hlocks := B.notSynchronized
  subst hsz
  have hD := hD0.self (sz := s.heap.size)
  generalize hAe : va_A (xMw cT aM ad rd gd vad st []) s.heap.size = A at hD hZ ⊢
  have hA : ∀ q : Nat, s.heap.size ≤ q → A q := fun q h => by rw [← hAe]; exact Or.inr h
  have hS : va_S A s.heap s.heap [] := va_S.rf
  have hl := lv_entry ([.ref aM, xv vad c0]) (n := 2) (by simp [lg_sl, xvcat, xrscat, xcI, xcL, xcR, xcN])
  rw [show lv_args 0 [.ref aM, xv vad c0] = [(0, .ref aM), (1, xv vad c0)] from by simp [lv_args, xvcat, xrscat, xcI, xcL, xcR, xcN]] at hl
  rw [lg_entry_eq]
  generalize (lg_sl ([.ref aM, xv vad c0]) ++ List.replicate (2 - (lg_sl ([.ref aM, xv vad c0])).length) Slot.unset).toArray = ls at hl ⊢
  have hl : lv_has ls 2 [(0, .ref aM), (1, xv vad c0)] := hl
  have hE : ∀ p, p < xct st → vad p = vad p := fun _ _ => rfl
  have hN : xct st ≤ xct st := Nat.le_refl _
  unfold fM_array at hf
  refine xm_aload_n hx hb (xvor _ _) dM_array_0 rfl (lv_at hl 1 rfl) ?_
  obtain ⟨hg1, hf⟩ := xifn hf
  refine xm_vget (v := .int ((xpi st 0) (c0 - 1))) hx hb htx hown hK hP 0 (by decide) hg1 rfl ((hZ.1 (93, "kind", "I") (List.mem_of_getElem? (i := 0) rfl)).use rfl) rfl dM_array_1 ?_
  refine lv_iconst (v := 5) hx hb dM_array_4 (by decide) ?_
  refine lv_icmp_ne (tgt := 12) hx hb dM_array_5 (by decide) (fun hc => ?_) (fun hc => ?_)
  · rw [if_neg hc] at hf
    refine lv_aload_n hx hb dM_array_12 rfl (lv_at hl 0 rfl) ?_
    refine lv_iconst (v := 1) hx hb dM_array_13 (by decide) ?_
    obtain ⟨o2, hq3, hf⟩ := xbind hf
    have hl := lv_sub (l' := [(0, .ref aM)]) hl [0] rfl
    by_cases hk4 : o2.1 = 1
    · rw [if_pos hk4] at hf
      obtain ⟨hm5, hf⟩ := xmoE hf
      have hFc := xm_free hD hS hA
      refine xx_thr (vx_runV (C := "ValueBenchModel") (As := [.int 1]) (rest := []) ⟨hx, hb, hml, hown, htx⟩ (gM_refuse_1 l hl9 D cT aK aV s.heap.size n aM ad rd gd vad st (1 : Int32) o2 hq3 hk4) ⟨callB_of 1 htx (xw_goodC kw_6_93) rfl rfl rfl (htx _ kw_1_5) (htx _ kw_6_90) ⟨by decide, by decide, by decide +kernel⟩ ⟨Nat.le_of_ble_eq_true rfl, Nat.le_of_ble_eq_true rfl⟩, (htx _ kw_6_92), (htx _ kp_M_refuse)⟩ ⟨xPre_blind, va_recv hK hP (ci := 5) rfl (q0 := 0) rfl, (fun U hU hW => ⟨rfl, xPre_of hZ hS hFc hP hD hK U hU hW⟩)⟩ rfl rfl hl.1 rfl (xm_room (Nat.le_of_ble_eq_true rfl)) dM_array_14 ⟨hm5.1, hm5.2⟩) hS hFc (fun q _ h => hFc q h) (fun E ce q9 u9 t H1 locs ht hvm hr9 hB hz1 hk1 hS hce hcv hcl => ?_)
      obtain ⟨rfl, hP1, hK1, hD1⟩ := hB
      rw [ht] at hP1
      obtain ⟨ad7, gd8, vad9⟩ := u9
      obtain ⟨hv10, hn11⟩ := hr9
      have hP : va_P D xcl (xMw cT aM ad7 rd gd8 vad9 o2.2.2.2.2 []) H1 := hP1
      have hD : va_D A (xMw cT aM ad7 rd gd8 vad9 o2.2.2.2.2 []) := hD1.weaken (fun k q _ h => hFc q.1 h)
      generalize H1 = H at hP hS hce ⊢
      have hE9 : ∀ p, p < xct st → vad9 p = vad p := fun p h => (hv10 p (Nat.lt_of_lt_of_le h hN)).trans (hE p h)
      have hE := hE9
      have hN : xct st ≤ xct o2.2.2.2.2 := Nat.le_trans hN hn11
      obtain rfl := Option.some.inj hf
      exact vx_out (E := "java/lang/ArithmeticException") (fun x h => (hne x h).elim) hlocks hce hcv hcl (fun t ht ha => ⟨(ad7, gd8, vad9), ⟨hE, hN⟩, ⟨rfl, by rw [ht]; exact hP, va_K.moved ha hK, hD⟩, hS.F ht⟩) hS.2.2 (Nat.le_refl _) (Nat.le_refl _)
    rw [if_neg hk4] at hf
    exact nomatch hf
  · rw [if_pos hc] at hf
    refine xm_aload_n hx hb (xvor _ _) dM_array_8 rfl (lv_at hl 1 rfl) ?_
    refine lv_goto (tgt := 17) hx hb dM_array_9 (by decide) ?_
    obtain rfl := Option.some.inj hf
    exact absurd (show (0 : Nat) = 1 from hkd) (by decide)
set_option maxHeartbeats 400000000 in
set_option maxRecDepth 100000 in
theorem gM_same1 (l : Launch) (hl9 : l.stackTraces = false) (D : va_G) (cT : Nat → ClassId) (aK aV : Nat → Nat) : ∀ (d sz n : Nat) (aM : Nat) (ad rd gd vad : Nat → Nat) (st : xS) (c0 : Nat) (c1 : Nat) (out : Int32) (hf : fM_same1 d n st c0 c1 = some out), xMet l yM_same1 wyM_same1 ((16 * d)) 0 0 ((400 * d)) D cT aK aV sz [.ref aM, xv vad c0, xv vad c1] (xMw cT aM ad rd gd vad st []) (fun A => va_Qi (fun (r : Int32) (_ : Unit) => r = out) (fun _ t => xB D xcl cT A (xMw cT aM ad rd gd vad st []) t) A) := by
  intro d
  induction d with
  | zero =>
    intro sz n aM ad rd gd vad st c0 c1 out hf
    rw [fM_same1] at hf
    exact nomatch hf
  | succ d ih =>
    intro sz n aM ad rd gd vad st c0 c1 out hf
    rw [fM_same1] at hf
    obtain ⟨rec, hrec, hf⟩ : ∃ rec : xS → Nat → Nat → Option (Int32), (∀ (sz aM : Nat) (ad rd gd vad : Nat → Nat) (st : xS) (c0 : Nat) (c1 : Nat) (out : Int32), rec st c0 c1 = some out → xMet l yM_same1 wyM_same1 (16 * d) 0 0 (400 * d) D cT aK aV sz [.ref aM, xv vad c0, xv vad c1] (xMw cT aM ad rd gd vad st []) (fun A => va_Qi (fun (r : Int32) (_ : Unit) => r = out) (fun _ t => xB D xcl cT A (xMw cT aM ad rd gd vad st []) t) A)) ∧ (if c0 = 0 ∨ (xct st) < c0 then none else if c1 = 0 ∨ (xct st) < c1 then none else (if ((xpi st 0) (c0 - 1)) = ((xpi st 0) (c1 - 1)) then (if ((xpi st 0) (c0 - 1)) = 3 then (if (lg_cmp ((xpl st) (c0 - 1)) ((xpl st) (c1 - 1))) = 0 then some ((1 : Int32)) else some ((0 : Int32))) else (if ((xpi st 0) (c0 - 1)) = 4 then (fM_sameText n st c0 c1).bind fun o3 => (if ¬ (o3 = 0 ∨ o3 = 1) then none else some (o3)) else (if 5 ≤ ((xpi st 0) (c0 - 1)) then (if ((xpi st 3) (c0 - 1)) = ((xpi st 3) (c1 - 1)) then fM_same1_b rec st n 1 (0 : Int32) c0 c1 else some ((0 : Int32))) else some ((1 : Int32))))) else some ((0 : Int32)))) = some out := ⟨fM_same1 d n, fun sz => ih sz n, hf⟩
    refine Met.ofW (cc := prog_13_method_21_code) (maxL := 5) (ret := (some .boolean)) (by decide) rfl ?_
    intro p e s m args below meth c s₁ B hml hv
    obtain ⟨rfl, hsz, hZ, hP, hK, hD0⟩ := hv
    have hx := B.exec
    have hb := B.bytes
    have hr := B.returns
    have hts := atoms_spec (ws := wyM_same1) B.pre
    have htx := fun w h => hts w (List.mem_cons_of_mem _ h)
    have hown : s.vm.findClass "ValueBenchModel" = some m.cls := findClass_of_methodNamed B.named
    have hlocks := B.notSynchronized
    subst hsz
    have hD := hD0.self (sz := s.heap.size)
    generalize hAe : va_A (xMw cT aM ad rd gd vad st []) s.heap.size = A at hD hZ ⊢
    have hA : ∀ q : Nat, s.heap.size ≤ q → A q := fun q h => by rw [← hAe]; exact Or.inr h
    have hS : va_S A s.heap s.heap [] := va_S.rf
    have hl := lv_entry ([.ref aM, xv vad c0, xv vad c1]) (n := 5) (by simp [lg_sl, xvcat, xrscat, xcI, xcL, xcR, xcN])
    rw [show lv_args 0 [.ref aM, xv vad c0, xv vad c1] = [(0, .ref aM), (1, xv vad c0), (2, xv vad c1)] from by simp [lv_args, xvcat, xrscat, xcI, xcL, xcR, xcN]] at hl
    rw [lg_entry_eq]
    generalize (lg_sl ([.ref aM, xv vad c0, xv vad c1]) ++ List.replicate (5 - (lg_sl ([.ref aM, xv vad c0, xv vad c1])).length) Slot.unset).toArray = ls at hl ⊢
    have hl : lv_has ls 5 [(0, .ref aM), (1, xv vad c0), (2, xv vad c1)] := hl
    refine xloopM (σ := Nat × Int32 × Nat × Nat) (fun n x H locs ls => (x.1 = 1 ∧ fM_same1_b rec st n x.1 x.2.1 x.2.2.1 x.2.2.2 = some out ∧ va_P D xcl (xMw cT aM ad rd gd vad st []) H ∧ va_D A (xMw cT aM ad rd gd vad st []) ∧ va_S A s.heap H locs ∧ lv_has ls 5 [(3, .int x.2.1), (0, .ref aM), (1, xv vad x.2.2.1), (2, xv vad x.2.2.2)])) (fun x => 79) (fun x => 0) (fun x => 0) (fun x H locs ls h => by (exact absurd h.2.1 (by rw [fM_same1_b]; exact fun h => nomatch h))) (fun n ih x H locs ls hv => ?_) (fun key => ?_)
    · obtain ⟨lb, y3, y1, y2⟩ := x
      rcases hv with ⟨hj, hf, hP, hD, hS, hl⟩
      subst hj
      have hf : fM_same1_b rec st (n + 1) 1 y3 y1 y2 = some out := hf
      rw [fM_same1_b] at hf
      obtain ⟨hP, hD⟩ : xPD D xcl A (xMw cT aM ad rd gd vad st []) H := ⟨hP, hD⟩
      have hl : lv_has ls 5 [(3, .int y3), (0, .ref aM), (1, xv vad y1), (2, xv vad y2)] := hl
      refine W.eq (g2 := F0 m 79 ls []) rfl ?_
      refine lv_iload_n hx hb dM_same1_79 rfl (lv_at hl 0 rfl) ?_
      refine xm_aload_n hx hb (xvor _ _) dM_same1_80 rfl (lv_at hl 2 rfl) ?_
      obtain ⟨hg1, hf⟩ := xifn hf
      refine xm_vget (v := .int ((xpi st 3) (y1 - 1))) hx hb htx hown hK hP 3 (by decide) hg1 rfl ((hZ.1 (103, "count", "I") (List.mem_of_getElem? (i := 3) rfl)).use rfl) rfl dM_same1_81 ?_
      refine lv_icmp_ge (tgt := 145) hx hb dM_same1_84 (by decide) (fun hc => ?_) (fun hc => ?_)
      · rw [if_pos hc] at hf
        refine lv_iconst (v := 1) hx hb dM_same1_145 (by decide) ?_
        obtain rfl := Option.some.inj hf
        exact W.zret (v := (1 : Int32)) hx hb hr rfl (fun t ht hW => ⟨⟨(1 : Int32), (), rfl, rfl, by rw [ht]; exact hP, va_K.moved hW.alike hK, hD⟩, hS.F ht⟩) hS.2.2 dM_same1_146
      · rw [if_neg hc] at hf
        refine xm_aload_n hx hb (xvor _ _) dM_same1_87 rfl (lv_at hl 2 rfl) ?_
        refine xm_vget (v := .int ((xpi st 0) (y1 - 1))) hx hb htx hown hK hP 0 (by decide) hg1 rfl ((hZ.1 (93, "kind", "I") (List.mem_of_getElem? (i := 0) rfl)).use rfl) rfl dM_same1_88 ?_
        refine lv_iconst (v := 5) hx hb dM_same1_91 (by decide) ?_
        refine lv_icmp_ne (tgt := 99) hx hb dM_same1_92 (by decide) (fun hc => ?_) (fun hc => ?_)
        · rw [if_neg hc] at hf
          refine lv_aload_n hx hb dM_same1_99 rfl (lv_at hl 1 rfl) ?_
          refine xm_aload_n hx hb (xvor _ _) dM_same1_100 rfl (lv_at hl 3 rfl) ?_
          refine lv_aload_n hx hb dM_same1_101 rfl (lv_at hl 1 rfl) ?_
          refine xm_aload_n hx hb (xvor _ _) dM_same1_102 rfl (lv_at hl 2 rfl) ?_
          refine lv_iload_n hx hb dM_same1_103 rfl (lv_at hl 0 rfl) ?_
          obtain ⟨o2, hq3, hf⟩ := xbind hf
          have hFc := xm_free hD hS hA
          refine va_callq (va_runV (C := "ValueBenchModel") (As := [xv vad y1, .int y3]) (rest := [xv vad y2, .ref aM]) ⟨hx, hb, hml, hown, htx⟩ (gM_name l hl9 D cT aK aV H.size n aM ad rd gd vad st y1 y3 o2 hq3) ⟨callB_of 2 htx (xw_goodC kw_6_154) rfl rfl rfl (htx _ kw_1_5) (htx _ kw_6_151) ⟨by decide, by decide, by decide +kernel⟩ ⟨Nat.le_of_ble_eq_true rfl, Nat.le_of_ble_eq_true rfl⟩, (htx _ kw_6_153), (htx _ kp_M_name)⟩ ⟨xPre_blind, va_recv hK hP (ci := 5) rfl (q0 := 0) rfl, (fun U hU hW => ⟨rfl, xPre_of hZ hS hFc hP hD hK U hU hW⟩)⟩ rfl rfl hl.1 rfl (xm_room (by simp [xvcat, xrscat, xcI, xcL, xcR, xcN])) dM_same1_104 ⟨Nat.le_of_ble_eq_true rfl, Nat.le_of_ble_eq_true rfl⟩) hS (fun q _ h => hFc q h) hFc (fun r4 u9 t H1 locs ht hvm hr9 hB hz1 hk1 hS => ?_)
          obtain ⟨hP1, hK1, hD1⟩ := hB
          rw [ht] at hP1
          have hP : va_P D xcl (xMw cT aM ad rd gd vad st []) H1 := hP1
          have hD : va_D A (xMw cT aM ad rd gd vad st []) := hD1.weaken (fun k q _ h => hFc q.1 h)
          generalize H1 = H at hP hS ⊢
          rw [hr9]
          refine W.eq (g2 := F0 m 107 ls [xv vad o2, xv vad y2, .ref aM]) (by first | rfl | (skip; rfl)) ?_
          obtain ⟨o5, hq6, hf⟩ := xbind hf
          have hFc := xm_free hD hS hA
          refine va_calli (va_runV (C := "ValueBenchModel") (As := [xv vad y2, xv vad o2]) (rest := []) ⟨hx, hb, hml, hown, htx⟩ (gM_place l hl9 D cT aK aV H.size n aM ad rd gd vad st y2 o2 o5 hq6) ⟨callB_of 2 htx (xw_goodC kw_6_178) rfl rfl rfl (htx _ kw_1_5) (htx _ kw_6_175) ⟨by decide, by decide, by decide +kernel⟩ ⟨Nat.le_of_ble_eq_true rfl, Nat.le_of_ble_eq_true rfl⟩, (htx _ kw_6_177), (htx _ kp_M_place)⟩ ⟨xPre_blind, va_recv hK hP (ci := 5) rfl (q0 := 0) rfl, (fun U hU hW => ⟨rfl, xPre_of hZ hS hFc hP hD hK U hU hW⟩)⟩ rfl rfl hl.1 rfl (xm_room (Nat.le_of_ble_eq_true rfl)) dM_same1_107 ⟨Nat.le_of_ble_eq_true rfl, Nat.le_of_ble_eq_true rfl⟩) hS (fun q _ h => hFc q h) hFc (fun r7 u9 t H1 locs ht hvm hr9 hB hz1 hk1 hS => ?_)
          obtain ⟨hP1, hK1, hD1⟩ := hB
          rw [ht] at hP1
          have hP : va_P D xcl (xMw cT aM ad rd gd vad st []) H1 := hP1
          have hD : va_D A (xMw cT aM ad rd gd vad st []) := hD1.weaken (fun k q _ h => hFc q.1 h)
          generalize H1 = H at hP hS ⊢
          rw [hr9]
          refine W.eq (g2 := F0 m 110 ls [.int o5]) (by first | rfl | (skip; rfl)) ?_
          refine lv_istore (lv' := [(4, .int o5), (3, .int y3), (0, .ref aM), (1, xv vad y1), (2, xv vad y2)]) hx hb dM_same1_110 hl (by decide) rfl (fun ls hl => ?_)
          refine lv_iload hx hb dM_same1_112 (lv_at hl 0 rfl) ?_
          refine lv_if_lt (tgt := 137) hx hb dM_same1_114 (by decide) (fun hc => ?_) (fun hc => ?_)
          · rw [if_pos hc] at hf
            refine lv_iconst (v := 0) hx hb dM_same1_137 (by decide) ?_
            obtain rfl := Option.some.inj hf
            exact W.zret (v := (0 : Int32)) hx hb hr rfl (fun t ht hW => ⟨⟨(0 : Int32), (), rfl, rfl, by rw [ht]; exact hP, va_K.moved hW.alike hK, hD⟩, hS.F ht⟩) hS.2.2 dM_same1_138
          · rw [if_neg hc] at hf
            refine lv_aload_n hx hb dM_same1_117 rfl (lv_at hl 2 rfl) ?_
            refine lv_aload_n hx hb dM_same1_118 rfl (lv_at hl 2 rfl) ?_
            refine xm_aload_n hx hb (xvor _ _) dM_same1_119 rfl (lv_at hl 3 rfl) ?_
            refine lv_iload_n hx hb dM_same1_120 rfl (lv_at hl 1 rfl) ?_
            obtain ⟨o8, hq9, hf⟩ := xbind hf
            have hFc := xm_free hD hS hA
            refine va_callq (va_runV (C := "ValueBenchModel") (As := [xv vad y1, .int y3]) (rest := [.ref aM]) ⟨hx, hb, hml, hown, htx⟩ (gM_kid l hl9 D cT aK aV H.size n aM ad rd gd vad st y1 y3 o8 hq9) ⟨callB_of 2 htx (xw_goodC kw_6_158) rfl rfl rfl (htx _ kw_1_5) (htx _ kw_6_155) ⟨by decide, by decide, by decide +kernel⟩ ⟨Nat.le_of_ble_eq_true rfl, Nat.le_of_ble_eq_true rfl⟩, (htx _ kw_6_157), (htx _ kp_M_kid)⟩ ⟨xPre_blind, va_recv hK hP (ci := 5) rfl (q0 := 0) rfl, (fun U hU hW => ⟨rfl, xPre_of hZ hS hFc hP hD hK U hU hW⟩)⟩ rfl rfl hl.1 rfl (xm_room (Nat.le_of_ble_eq_true rfl)) dM_same1_121 ⟨Nat.le_of_ble_eq_true rfl, Nat.le_of_ble_eq_true rfl⟩) hS (fun q _ h => hFc q h) hFc (fun r10 u9 t H1 locs ht hvm hr9 hB hz1 hk1 hS => ?_)
            obtain ⟨hP1, hK1, hD1⟩ := hB
            rw [ht] at hP1
            have hP : va_P D xcl (xMw cT aM ad rd gd vad st []) H1 := hP1
            have hD : va_D A (xMw cT aM ad rd gd vad st []) := hD1.weaken (fun k q _ h => hFc q.1 h)
            generalize H1 = H at hP hS ⊢
            rw [hr9]
            refine W.eq (g2 := F0 m 124 ls [xv vad o8, .ref aM]) (by first | rfl | (skip; rfl)) ?_
            refine lv_aload_n hx hb dM_same1_124 rfl (lv_at hl 2 rfl) ?_
            refine xm_aload_n hx hb (xvor _ _) dM_same1_125 rfl (lv_at hl 4 rfl) ?_
            refine lv_iload hx hb dM_same1_126 (lv_at hl 0 rfl) ?_
            obtain ⟨o11, hq12, hf⟩ := xbind hf
            have hFc := xm_free hD hS hA
            refine va_callq (va_runV (C := "ValueBenchModel") (As := [xv vad y2, .int o5]) (rest := [xv vad o8, .ref aM]) ⟨hx, hb, hml, hown, htx⟩ (gM_kid l hl9 D cT aK aV H.size n aM ad rd gd vad st y2 o5 o11 hq12) ⟨callB_of 2 htx (xw_goodC kw_6_158) rfl rfl rfl (htx _ kw_1_5) (htx _ kw_6_155) ⟨by decide, by decide, by decide +kernel⟩ ⟨Nat.le_of_ble_eq_true rfl, Nat.le_of_ble_eq_true rfl⟩, (htx _ kw_6_157), (htx _ kp_M_kid)⟩ ⟨xPre_blind, va_recv hK hP (ci := 5) rfl (q0 := 0) rfl, (fun U hU hW => ⟨rfl, xPre_of hZ hS hFc hP hD hK U hU hW⟩)⟩ rfl rfl hl.1 rfl (xm_room (by simp [xvcat, xrscat, xcI, xcL, xcR, xcN])) dM_same1_128 ⟨Nat.le_of_ble_eq_true rfl, Nat.le_of_ble_eq_true rfl⟩) hS (fun q _ h => hFc q h) hFc (fun r13 u9 t H1 locs ht hvm hr9 hB hz1 hk1 hS => ?_)
            obtain ⟨hP1, hK1, hD1⟩ := hB
            rw [ht] at hP1
            have hP : va_P D xcl (xMw cT aM ad rd gd vad st []) H1 := hP1
            have hD : va_D A (xMw cT aM ad rd gd vad st []) := hD1.weaken (fun k q _ h => hFc q.1 h)
            generalize H1 = H at hP hS ⊢
            rw [hr9]
            refine W.eq (g2 := F0 m 131 ls [xv vad o11, xv vad o8, .ref aM]) (by first | rfl | (skip; rfl)) ?_
            obtain ⟨o14, hq15, hf⟩ := xbind hf
            have hFc := xm_free hD hS hA
            refine va_calli (va_runV (C := "ValueBenchModel") (As := [xv vad o8, xv vad o11]) (rest := []) ⟨hx, hb, hml, hown, htx⟩ (hrec H.size aM ad rd gd vad st o8 o11 o14 hq15) ⟨callB_of 2 htx (xw_goodC kw_6_174) rfl rfl rfl (htx _ kw_1_5) (htx _ kw_6_171) ⟨by decide, by decide, by decide +kernel⟩ ⟨(by show (16 * d) + 1 ≤ 16 * (d + 1); omega), (by show 8 + (5 + 11) + (400 * d) ≤ 400 * (d + 1); omega)⟩, (htx _ kw_6_173), (htx _ kp_M_same1)⟩ ⟨xPre_blind, va_recv hK hP (ci := 5) rfl (q0 := 0) rfl, (fun U hU hW => ⟨rfl, xPre_of hZ hS hFc hP hD hK U hU hW⟩)⟩ rfl rfl hl.1 rfl (xm_room (Nat.le_of_ble_eq_true rfl)) dM_same1_131 ⟨Nat.le_of_ble_eq_true rfl, Nat.le_of_ble_eq_true rfl⟩) hS (fun q _ h => hFc q h) hFc (fun r16 u9 t H1 locs ht hvm hr9 hB hz1 hk1 hS => ?_)
            obtain ⟨hP1, hK1, hD1⟩ := hB
            rw [ht] at hP1
            have hP : va_P D xcl (xMw cT aM ad rd gd vad st []) H1 := hP1
            have hD : va_D A (xMw cT aM ad rd gd vad st []) := hD1.weaken (fun k q _ h => hFc q.1 h)
            generalize H1 = H at hP hS ⊢
            rw [hr9]
            refine W.eq (g2 := F0 m 134 ls [.int o14]) (by first | rfl | (skip; rfl)) ?_
            refine lv_if_ne (tgt := 139) hx hb dM_same1_134 (by decide) (fun hc => ?_) (fun hc => ?_)
            · rw [if_neg hc] at hf
              refine lv_iinc (v := (y3 + 1)) (lv' := [(3, .int (y3 + 1)), (4, .int o5), (0, .ref aM), (1, xv vad y1), (2, xv vad y2)]) hx hb dM_same1_139 hl (k := 1) rfl rfl (by decide) (by simp only [List.filter, xvcat, xrscat, xcI, xcL, xcR, xcN]; rfl) (fun ls hl => ?_)
              refine lv_goto (tgt := 79) hx hb dM_same1_142 (by decide) ?_
              exact ih (1, (y3 + 1), y1, y2) _ _ ls (⟨rfl, hf, hP, hD, hS, lv_sub hl [0, 2, 3, 4] rfl⟩)
            · rw [if_pos hc] at hf
              refine lv_iconst (v := 0) hx hb dM_same1_137 (by decide) ?_
              obtain rfl := Option.some.inj hf
              exact W.zret (v := (0 : Int32)) hx hb hr rfl (fun t ht hW => ⟨⟨(0 : Int32), (), rfl, rfl, by rw [ht]; exact hP, va_K.moved hW.alike hK, hD⟩, hS.F ht⟩) hS.2.2 dM_same1_138
        · rw [if_pos hc] at hf
          refine lv_iload_n hx hb dM_same1_95 rfl (lv_at hl 0 rfl) ?_
          refine lv_goto (tgt := 110) hx hb dM_same1_96 (by decide) ?_
          refine lv_istore (lv' := [(4, .int y3), (3, .int y3), (0, .ref aM), (1, xv vad y1), (2, xv vad y2)]) hx hb dM_same1_110 hl (by decide) rfl (fun ls hl => ?_)
          refine lv_iload hx hb dM_same1_112 (lv_at hl 0 rfl) ?_
          refine lv_if_lt (tgt := 137) hx hb dM_same1_114 (by decide) (fun hc => ?_) (fun hc => ?_)
          · rw [if_pos hc] at hf
            refine lv_iconst (v := 0) hx hb dM_same1_137 (by decide) ?_
            obtain rfl := Option.some.inj hf
            exact W.zret (v := (0 : Int32)) hx hb hr rfl (fun t ht hW => ⟨⟨(0 : Int32), (), rfl, rfl, by rw [ht]; exact hP, va_K.moved hW.alike hK, hD⟩, hS.F ht⟩) hS.2.2 dM_same1_138
          · rw [if_neg hc] at hf
            refine lv_aload_n hx hb dM_same1_117 rfl (lv_at hl 2 rfl) ?_
            refine lv_aload_n hx hb dM_same1_118 rfl (lv_at hl 2 rfl) ?_
            refine xm_aload_n hx hb (xvor _ _) dM_same1_119 rfl (lv_at hl 3 rfl) ?_
            refine lv_iload_n hx hb dM_same1_120 rfl (lv_at hl 1 rfl) ?_
            obtain ⟨o2, hq3, hf⟩ := xbind hf
            have hFc := xm_free hD hS hA
            refine va_callq (va_runV (C := "ValueBenchModel") (As := [xv vad y1, .int y3]) (rest := [.ref aM]) ⟨hx, hb, hml, hown, htx⟩ (gM_kid l hl9 D cT aK aV H.size n aM ad rd gd vad st y1 y3 o2 hq3) ⟨callB_of 2 htx (xw_goodC kw_6_158) rfl rfl rfl (htx _ kw_1_5) (htx _ kw_6_155) ⟨by decide, by decide, by decide +kernel⟩ ⟨Nat.le_of_ble_eq_true rfl, Nat.le_of_ble_eq_true rfl⟩, (htx _ kw_6_157), (htx _ kp_M_kid)⟩ ⟨xPre_blind, va_recv hK hP (ci := 5) rfl (q0 := 0) rfl, (fun U hU hW => ⟨rfl, xPre_of hZ hS hFc hP hD hK U hU hW⟩)⟩ rfl rfl hl.1 rfl (xm_room (Nat.le_of_ble_eq_true rfl)) dM_same1_121 ⟨Nat.le_of_ble_eq_true rfl, Nat.le_of_ble_eq_true rfl⟩) hS (fun q _ h => hFc q h) hFc (fun r4 u9 t H1 locs ht hvm hr9 hB hz1 hk1 hS => ?_)
            obtain ⟨hP1, hK1, hD1⟩ := hB
            rw [ht] at hP1
            have hP : va_P D xcl (xMw cT aM ad rd gd vad st []) H1 := hP1
            have hD : va_D A (xMw cT aM ad rd gd vad st []) := hD1.weaken (fun k q _ h => hFc q.1 h)
            generalize H1 = H at hP hS ⊢
            rw [hr9]
            refine W.eq (g2 := F0 m 124 ls [xv vad o2, .ref aM]) (by first | rfl | (skip; rfl)) ?_
            refine lv_aload_n hx hb dM_same1_124 rfl (lv_at hl 2 rfl) ?_
            refine xm_aload_n hx hb (xvor _ _) dM_same1_125 rfl (lv_at hl 4 rfl) ?_
            refine lv_iload hx hb dM_same1_126 (lv_at hl 0 rfl) ?_
            obtain ⟨o5, hq6, hf⟩ := xbind hf
            have hFc := xm_free hD hS hA
            refine va_callq (va_runV (C := "ValueBenchModel") (As := [xv vad y2, .int y3]) (rest := [xv vad o2, .ref aM]) ⟨hx, hb, hml, hown, htx⟩ (gM_kid l hl9 D cT aK aV H.size n aM ad rd gd vad st y2 y3 o5 hq6) ⟨callB_of 2 htx (xw_goodC kw_6_158) rfl rfl rfl (htx _ kw_1_5) (htx _ kw_6_155) ⟨by decide, by decide, by decide +kernel⟩ ⟨Nat.le_of_ble_eq_true rfl, Nat.le_of_ble_eq_true rfl⟩, (htx _ kw_6_157), (htx _ kp_M_kid)⟩ ⟨xPre_blind, va_recv hK hP (ci := 5) rfl (q0 := 0) rfl, (fun U hU hW => ⟨rfl, xPre_of hZ hS hFc hP hD hK U hU hW⟩)⟩ rfl rfl hl.1 rfl (xm_room (by simp [xvcat, xrscat, xcI, xcL, xcR, xcN])) dM_same1_128 ⟨Nat.le_of_ble_eq_true rfl, Nat.le_of_ble_eq_true rfl⟩) hS (fun q _ h => hFc q h) hFc (fun r7 u9 t H1 locs ht hvm hr9 hB hz1 hk1 hS => ?_)
            obtain ⟨hP1, hK1, hD1⟩ := hB
            rw [ht] at hP1
            have hP : va_P D xcl (xMw cT aM ad rd gd vad st []) H1 := hP1
            have hD : va_D A (xMw cT aM ad rd gd vad st []) := hD1.weaken (fun k q _ h => hFc q.1 h)
            generalize H1 = H at hP hS ⊢
            rw [hr9]
            refine W.eq (g2 := F0 m 131 ls [xv vad o5, xv vad o2, .ref aM]) (by first | rfl | (skip; rfl)) ?_
            obtain ⟨o8, hq9, hf⟩ := xbind hf
            have hFc := xm_free hD hS hA
            refine va_calli (va_runV (C := "ValueBenchModel") (As := [xv vad o2, xv vad o5]) (rest := []) ⟨hx, hb, hml, hown, htx⟩ (hrec H.size aM ad rd gd vad st o2 o5 o8 hq9) ⟨callB_of 2 htx (xw_goodC kw_6_174) rfl rfl rfl (htx _ kw_1_5) (htx _ kw_6_171) ⟨by decide, by decide, by decide +kernel⟩ ⟨(by show (16 * d) + 1 ≤ 16 * (d + 1); omega), (by show 8 + (5 + 11) + (400 * d) ≤ 400 * (d + 1); omega)⟩, (htx _ kw_6_173), (htx _ kp_M_same1)⟩ ⟨xPre_blind, va_recv hK hP (ci := 5) rfl (q0 := 0) rfl, (fun U hU hW => ⟨rfl, xPre_of hZ hS hFc hP hD hK U hU hW⟩)⟩ rfl rfl hl.1 rfl (xm_room (Nat.le_of_ble_eq_true rfl)) dM_same1_131 ⟨Nat.le_of_ble_eq_true rfl, Nat.le_of_ble_eq_true rfl⟩) hS (fun q _ h => hFc q h) hFc (fun r10 u9 t H1 locs ht hvm hr9 hB hz1 hk1 hS => ?_)
            obtain ⟨hP1, hK1, hD1⟩ := hB
            rw [ht] at hP1
            have hP : va_P D xcl (xMw cT aM ad rd gd vad st []) H1 := hP1
            have hD : va_D A (xMw cT aM ad rd gd vad st []) := hD1.weaken (fun k q _ h => hFc q.1 h)
            generalize H1 = H at hP hS ⊢
            rw [hr9]
            refine W.eq (g2 := F0 m 134 ls [.int o8]) (by first | rfl | (skip; rfl)) ?_
            refine lv_if_ne (tgt := 139) hx hb dM_same1_134 (by decide) (fun hc => ?_) (fun hc => ?_)
            · rw [if_neg hc] at hf
              refine lv_iinc (v := (y3 + 1)) (lv' := [(3, .int (y3 + 1)), (4, .int y3), (0, .ref aM), (1, xv vad y1), (2, xv vad y2)]) hx hb dM_same1_139 hl (k := 1) rfl rfl (by decide) (by simp only [List.filter, xvcat, xrscat, xcI, xcL, xcR, xcN]; rfl) (fun ls hl => ?_)
              refine lv_goto (tgt := 79) hx hb dM_same1_142 (by decide) ?_
              exact ih (1, (y3 + 1), y1, y2) _ _ ls (⟨rfl, hf, hP, hD, hS, lv_sub hl [0, 2, 3, 4] rfl⟩)
            · rw [if_pos hc] at hf
              refine lv_iconst (v := 0) hx hb dM_same1_137 (by decide) ?_
              obtain rfl := Option.some.inj hf
              exact W.zret (v := (0 : Int32)) hx hb hr rfl (fun t ht hW => ⟨⟨(0 : Int32), (), rfl, rfl, by rw [ht]; exact hP, va_K.moved hW.alike hK, hD⟩, hS.F ht⟩) hS.2.2 dM_same1_138
    refine xm_aload_n hx hb (xvor _ _) dM_same1_0 rfl (lv_at hl 1 rfl) ?_
    obtain ⟨hg1, hf⟩ := xifn hf
    refine xm_vget (v := .int ((xpi st 0) (c0 - 1))) hx hb htx hown hK hP 0 (by decide) hg1 rfl ((hZ.1 (93, "kind", "I") (List.mem_of_getElem? (i := 0) rfl)).use rfl) rfl dM_same1_1 ?_
    refine xm_aload_n hx hb (xvor _ _) dM_same1_4 rfl (lv_at hl 2 rfl) ?_
    obtain ⟨hg2, hf⟩ := xifn hf
    refine xm_vget (v := .int ((xpi st 0) (c1 - 1))) hx hb htx hown hK hP 0 (by decide) hg2 rfl ((hZ.1 (93, "kind", "I") (List.mem_of_getElem? (i := 0) rfl)).use rfl) rfl dM_same1_5 ?_
    refine lv_icmp_eq (tgt := 13) hx hb dM_same1_8 (by decide) (fun hc => ?_) (fun hc => ?_)
    · rw [if_pos hc] at hf
      refine xm_aload_n hx hb (xvor _ _) dM_same1_13 rfl (lv_at hl 1 rfl) ?_
      refine xm_vget (v := .int ((xpi st 0) (c0 - 1))) hx hb htx hown hK hP 0 (by decide) hg1 rfl ((hZ.1 (93, "kind", "I") (List.mem_of_getElem? (i := 0) rfl)).use rfl) rfl dM_same1_14 ?_
      refine lv_iconst (v := 3) hx hb dM_same1_17 (by decide) ?_
      refine lv_icmp_ne (tgt := 39) hx hb dM_same1_18 (by decide) (fun hc => ?_) (fun hc => ?_)
      · rw [if_neg hc] at hf
        refine xm_aload_n hx hb (xvor _ _) dM_same1_39 rfl (lv_at hl 1 rfl) ?_
        refine xm_vget (v := .int ((xpi st 0) (c0 - 1))) hx hb htx hown hK hP 0 (by decide) hg1 rfl ((hZ.1 (93, "kind", "I") (List.mem_of_getElem? (i := 0) rfl)).use rfl) rfl dM_same1_40 ?_
        refine lv_iconst (v := 4) hx hb dM_same1_43 (by decide) ?_
        refine lv_icmp_ne (tgt := 54) hx hb dM_same1_44 (by decide) (fun hc => ?_) (fun hc => ?_)
        · rw [if_neg hc] at hf
          refine xm_aload_n hx hb (xvor _ _) dM_same1_54 rfl (lv_at hl 1 rfl) ?_
          refine xm_vget (v := .int ((xpi st 0) (c0 - 1))) hx hb htx hown hK hP 0 (by decide) hg1 rfl ((hZ.1 (93, "kind", "I") (List.mem_of_getElem? (i := 0) rfl)).use rfl) rfl dM_same1_55 ?_
          refine lv_iconst (v := 5) hx hb dM_same1_58 (by decide) ?_
          refine lv_icmp_ge (tgt := 64) hx hb dM_same1_59 (by decide) (fun hc => ?_) (fun hc => ?_)
          · rw [if_pos hc] at hf
            refine xm_aload_n hx hb (xvor _ _) dM_same1_64 rfl (lv_at hl 1 rfl) ?_
            refine xm_vget (v := .int ((xpi st 3) (c0 - 1))) hx hb htx hown hK hP 3 (by decide) hg1 rfl ((hZ.1 (103, "count", "I") (List.mem_of_getElem? (i := 3) rfl)).use rfl) rfl dM_same1_65 ?_
            refine xm_aload_n hx hb (xvor _ _) dM_same1_68 rfl (lv_at hl 2 rfl) ?_
            refine xm_vget (v := .int ((xpi st 3) (c1 - 1))) hx hb htx hown hK hP 3 (by decide) hg2 rfl ((hZ.1 (103, "count", "I") (List.mem_of_getElem? (i := 3) rfl)).use rfl) rfl dM_same1_69 ?_
            refine lv_icmp_eq (tgt := 77) hx hb dM_same1_72 (by decide) (fun hc => ?_) (fun hc => ?_)
            · rw [if_pos hc] at hf
              refine lv_iconst (v := 0) hx hb dM_same1_77 (by decide) ?_
              refine lv_istore_n (lv' := [(3, .int 0), (0, .ref aM), (1, xv vad c0), (2, xv vad c1)]) hx hb dM_same1_78 rfl hl (by decide) (by simp only [List.filter, xvcat, xrscat, xcI, xcL, xcR, xcN]; rfl) (fun ls hl => ?_)
              exact key n (1, (0 : Int32), c0, c1) _ _ ls (⟨rfl, hf, hP, hD, hS, lv_sub hl [0, 1, 2, 3] rfl⟩)
            · rw [if_neg hc] at hf
              refine lv_iconst (v := 0) hx hb dM_same1_75 (by decide) ?_
              obtain rfl := Option.some.inj hf
              exact W.zret (v := (0 : Int32)) hx hb hr rfl (fun t ht hW => ⟨⟨(0 : Int32), (), rfl, rfl, by rw [ht]; exact hP, va_K.moved hW.alike hK, hD⟩, hS.F ht⟩) hS.2.2 dM_same1_76
          · rw [if_neg hc] at hf
            refine lv_iconst (v := 1) hx hb dM_same1_62 (by decide) ?_
            obtain rfl := Option.some.inj hf
            exact W.zret (v := (1 : Int32)) hx hb hr rfl (fun t ht hW => ⟨⟨(1 : Int32), (), rfl, rfl, by rw [ht]; exact hP, va_K.moved hW.alike hK, hD⟩, hS.F ht⟩) hS.2.2 dM_same1_63
        · rw [if_pos hc] at hf
          refine lv_aload_n hx hb dM_same1_47 rfl (lv_at hl 0 rfl) ?_
          refine xm_aload_n hx hb (xvor _ _) dM_same1_48 rfl (lv_at hl 1 rfl) ?_
          refine xm_aload_n hx hb (xvor _ _) dM_same1_49 rfl (lv_at hl 2 rfl) ?_
          obtain ⟨o3, hq4, hf⟩ := xbind hf
          have hl := lv_sub (l' := [(0, .ref aM)]) hl [0] rfl
          have hFc := xm_free hD hS hA
          refine va_calli (va_runV (C := "ValueBenchModel") (As := [xv vad c0, xv vad c1]) (rest := []) ⟨hx, hb, hml, hown, htx⟩ (gM_sameText l hl9 D cT aK aV s.heap.size n aM ad rd gd vad st c0 c1 o3 hq4) ⟨callB_of 2 htx (xw_goodC kw_6_120) rfl rfl rfl (htx _ kw_1_5) (htx _ kw_6_117) ⟨by decide, by decide, by decide +kernel⟩ ⟨Nat.le_of_ble_eq_true rfl, Nat.le_of_ble_eq_true rfl⟩, (htx _ kw_6_119), (htx _ kp_M_sameText)⟩ ⟨xPre_blind, va_recv hK hP (ci := 5) rfl (q0 := 0) rfl, (fun U hU hW => ⟨rfl, xPre_of hZ hS hFc hP hD hK U hU hW⟩)⟩ rfl rfl hl.1 rfl (xm_room (Nat.le_of_ble_eq_true rfl)) dM_same1_50 ⟨Nat.le_of_ble_eq_true rfl, Nat.le_of_ble_eq_true rfl⟩) hS (fun q _ h => hFc q h) hFc (fun r5 u9 t H1 locs ht hvm hr9 hB hz1 hk1 hS => ?_)
          obtain ⟨hP1, hK1, hD1⟩ := hB
          rw [ht] at hP1
          have hP : va_P D xcl (xMw cT aM ad rd gd vad st []) H1 := hP1
          have hD : va_D A (xMw cT aM ad rd gd vad st []) := hD1.weaken (fun k q _ h => hFc q.1 h)
          generalize H1 = H at hP hS ⊢
          rw [hr9]
          refine W.eq (g2 := F0 m 53 ls [.int o3]) (by first | rfl | (skip; rfl)) ?_
          obtain ⟨hg6, hf⟩ := xifn hf
          obtain rfl := Option.some.inj hf
          exact W.zret (v := o3) hx hb hr (xzb hg6) (fun t ht hW => ⟨⟨o3, (), rfl, rfl, by rw [ht]; exact hP, va_K.moved hW.alike hK, hD⟩, hS.F ht⟩) hS.2.2 dM_same1_53
      · rw [if_pos hc] at hf
        refine xm_aload_n hx hb (xvor _ _) dM_same1_21 rfl (lv_at hl 1 rfl) ?_
        refine xm_vget (v := .long ((xpl st) (c0 - 1))) hx hb htx hown hK hP 1 (by decide) hg1 rfl ((hZ.1 (96, "n", "J") (List.mem_of_getElem? (i := 1) rfl)).use rfl) rfl dM_same1_22 ?_
        refine xm_aload_n hx hb (xvor _ _) dM_same1_25 rfl (lv_at hl 2 rfl) ?_
        refine xm_vget (v := .long ((xpl st) (c1 - 1))) hx hb htx hown hK hP 1 (by decide) hg2 rfl ((hZ.1 (96, "n", "J") (List.mem_of_getElem? (i := 1) rfl)).use rfl) rfl dM_same1_26 ?_
        refine W.lcmp hx hb dM_same1_29 ?_
        refine lv_if_ne (tgt := 37) hx hb dM_same1_30 (by decide) (fun hc => ?_) (fun hc => ?_)
        · rw [if_neg hc] at hf
          refine lv_iconst (v := 0) hx hb dM_same1_37 (by decide) ?_
          obtain rfl := Option.some.inj hf
          exact W.zret (v := (0 : Int32)) hx hb hr rfl (fun t ht hW => ⟨⟨(0 : Int32), (), rfl, rfl, by rw [ht]; exact hP, va_K.moved hW.alike hK, hD⟩, hS.F ht⟩) hS.2.2 dM_same1_38
        · rw [if_pos hc] at hf
          refine lv_iconst (v := 1) hx hb dM_same1_33 (by decide) ?_
          refine lv_goto (tgt := 38) hx hb dM_same1_34 (by decide) ?_
          obtain rfl := Option.some.inj hf
          exact W.zret (v := (1 : Int32)) hx hb hr rfl (fun t ht hW => ⟨⟨(1 : Int32), (), rfl, rfl, by rw [ht]; exact hP, va_K.moved hW.alike hK, hD⟩, hS.F ht⟩) hS.2.2 dM_same1_38
    · rw [if_neg hc] at hf
      refine lv_iconst (v := 0) hx hb dM_same1_11 (by decide) ?_
      obtain rfl := Option.some.inj hf
      exact W.zret (v := (0 : Int32)) hx hb hr rfl (fun t ht hW => ⟨⟨(0 : Int32), (), rfl, rfl, by rw [ht]; exact hP, va_K.moved hW.alike hK, hD⟩, hS.F ht⟩) hS.2.2 dM_same1_12
set_option maxHeartbeats 400000000 in
set_option maxRecDepth 100000 in
theorem gM_begins (l : Launch) (hl9 : l.stackTraces = false) (D : va_G) (cT : Nat → ClassId) (aK aV : Nat → Nat) (sz n : Nat) (aM : Nat) (ad rd gd vad : Nat → Nat) (st : xS) (c0 : Nat) (c1 : Nat) (x2 : Int32) (out : Int32) (hf : fM_begins n st c0 c1 x2 = some out) : xMet l yM_begins wyM_begins 0 0 0 0 D cT aK aV sz [.ref aM, xv vad c0, xv vad c1, .int x2] (xMw cT aM ad rd gd vad st []) (fun A => va_Qi (fun (r : Int32) (_ : Unit) => r = out) (fun _ t => xB D xcl cT A (xMw cT aM ad rd gd vad st []) t) A) := by
  refine Met.ofW (cc := prog_13_method_68_code) (maxL := 5) (ret := (some .boolean)) (by decide) rfl ?_
  intro p e s m args below meth c s₁ B hml hv
  obtain ⟨rfl, hsz, hZ, hP, hK, hD0⟩ := hv
  have hx := B.exec
  have hb := B.bytes
  have hr := B.returns
  have hts := atoms_spec (ws := wyM_begins) B.pre
  have htx := fun w h => hts w (List.mem_cons_of_mem _ h)
  have hown : s.vm.findClass "ValueBenchModel" = some m.cls := findClass_of_methodNamed B.named
  have hlocks := B.notSynchronized
  subst hsz
  have hD := hD0.self (sz := s.heap.size)
  generalize hAe : va_A (xMw cT aM ad rd gd vad st []) s.heap.size = A at hD hZ ⊢
  have hA : ∀ q : Nat, s.heap.size ≤ q → A q := fun q h => by rw [← hAe]; exact Or.inr h
  have hS : va_S A s.heap s.heap [] := va_S.rf
  have hl := lv_entry ([.ref aM, xv vad c0, xv vad c1, .int x2]) (n := 5) (by simp [lg_sl, xvcat, xrscat, xcI, xcL, xcR, xcN])
  rw [show lv_args 0 [.ref aM, xv vad c0, xv vad c1, .int x2] = [(0, .ref aM), (1, xv vad c0), (2, xv vad c1), (3, .int x2)] from by simp [lv_args, xvcat, xrscat, xcI, xcL, xcR, xcN]] at hl
  rw [lg_entry_eq]
  generalize (lg_sl ([.ref aM, xv vad c0, xv vad c1, .int x2]) ++ List.replicate (5 - (lg_sl ([.ref aM, xv vad c0, xv vad c1, .int x2])).length) Slot.unset).toArray = ls at hl ⊢
  have hl : lv_has ls 5 [(0, .ref aM), (1, xv vad c0), (2, xv vad c1), (3, .int x2)] := hl
  unfold fM_begins at hf
  refine xloopM (σ := Nat × Int32 × Nat × Nat × Int32) (fun n x H locs ls => (x.1 = 1 ∧ fM_begins_b st n x.1 x.2.1 x.2.2.1 x.2.2.2.1 x.2.2.2.2 = some out ∧ va_P D xcl (xMw cT aM ad rd gd vad st []) H ∧ va_D A (xMw cT aM ad rd gd vad st []) ∧ va_S A s.heap H locs ∧ lv_has ls 5 [(4, .int x.2.1), (0, .ref aM), (1, xv vad x.2.2.1), (2, xv vad x.2.2.2.1), (3, .int x.2.2.2.2)])) (fun x => 22) (fun x => 0) (fun x => 0) (fun x H locs ls h => by (exact absurd h.2.1 (by rw [fM_begins_b]; exact fun h => nomatch h))) (fun n ih x H locs ls hv => ?_) (fun key => ?_)
  · obtain ⟨lb, y4, y1, y2, y3⟩ := x
    rcases hv with ⟨hj, hf, hP, hD, hS, hl⟩
    subst hj
    have hf : fM_begins_b st (n + 1) 1 y4 y1 y2 y3 = some out := hf
    rw [fM_begins_b] at hf
    obtain ⟨hP, hD⟩ : xPD D xcl A (xMw cT aM ad rd gd vad st []) H := ⟨hP, hD⟩
    have hl : lv_has ls 5 [(4, .int y4), (0, .ref aM), (1, xv vad y1), (2, xv vad y2), (3, .int y3)] := hl
    refine W.eq (g2 := F0 m 22 ls []) rfl ?_
    refine lv_iload hx hb dM_begins_22 (lv_at hl 0 rfl) ?_
    refine xm_aload_n hx hb (xvor _ _) dM_begins_24 rfl (lv_at hl 3 rfl) ?_
    obtain ⟨hg1, hf⟩ := xifn hf
    refine xm_vget (v := .int ((xpi st 3) (y2 - 1))) hx hb htx hown hK hP 3 (by decide) hg1 rfl ((hZ.1 (103, "count", "I") (List.mem_of_getElem? (i := 3) rfl)).use rfl) rfl dM_begins_25 ?_
    refine lv_icmp_ge (tgt := 68) hx hb dM_begins_28 (by decide) (fun hc => ?_) (fun hc => ?_)
    · rw [if_pos hc] at hf
      refine lv_iconst (v := 1) hx hb dM_begins_68 (by decide) ?_
      obtain rfl := Option.some.inj hf
      exact W.zret (v := (1 : Int32)) hx hb hr rfl (fun t ht hW => ⟨⟨(1 : Int32), (), rfl, rfl, by rw [ht]; exact hP, va_K.moved hW.alike hK, hD⟩, hS.F ht⟩) hS.2.2 dM_begins_69
    · rw [if_neg hc] at hf
      refine lv_aload_n hx hb dM_begins_31 rfl (lv_at hl 1 rfl) ?_
      refine xm_get (v := .ref (ad 3)) hx hb htx hown hK hP 3 (by decide) rfl (htx _ kw_5_90) rfl dM_begins_32 ?_
      refine xm_aload_n hx hb (xvor _ _) dM_begins_35 rfl (lv_at hl 2 rfl) ?_
      obtain ⟨hg2, hf⟩ := xifn hf
      refine xm_vget (v := .int ((xpi st 2) (y1 - 1))) hx hb htx hown hK hP 2 (by decide) hg2 rfl ((hZ.1 (100, "off", "I") (List.mem_of_getElem? (i := 2) rfl)).use rfl) rfl dM_begins_36 ?_
      refine lv_iload_n hx hb dM_begins_39 rfl (lv_at hl 4 rfl) ?_
      refine lv_iadd hx hb dM_begins_40 ?_
      refine lv_iload hx hb dM_begins_41 (lv_at hl 0 rfl) ?_
      refine lv_iadd hx hb dM_begins_43 ?_
      obtain ⟨hg3, hf⟩ := xifn hf
      refine va_bald hx hb hK hP 2 0 rfl rfl hg3 dM_begins_44 ?_
      refine W.eq (g2 := F0 m 45 ls [.int ((xba st 3) ((((xpi st 2) (y1 - 1)) + y3) + y4).toNatClampNeg)]) rfl ?_
      refine lv_aload_n hx hb dM_begins_45 rfl (lv_at hl 1 rfl) ?_
      refine xm_get (v := .ref (ad 3)) hx hb htx hown hK hP 3 (by decide) rfl (htx _ kw_5_90) rfl dM_begins_46 ?_
      refine xm_aload_n hx hb (xvor _ _) dM_begins_49 rfl (lv_at hl 3 rfl) ?_
      refine xm_vget (v := .int ((xpi st 2) (y2 - 1))) hx hb htx hown hK hP 2 (by decide) hg1 rfl ((hZ.1 (100, "off", "I") (List.mem_of_getElem? (i := 2) rfl)).use rfl) rfl dM_begins_50 ?_
      refine lv_iload hx hb dM_begins_53 (lv_at hl 0 rfl) ?_
      refine lv_iadd hx hb dM_begins_55 ?_
      obtain ⟨hg4, hf⟩ := xifn hf
      refine va_bald hx hb hK hP 2 0 rfl rfl hg4 dM_begins_56 ?_
      refine W.eq (g2 := F0 m 57 ls [.int ((xba st 3) (((xpi st 2) (y2 - 1)) + y4).toNatClampNeg), .int ((xba st 3) ((((xpi st 2) (y1 - 1)) + y3) + y4).toNatClampNeg)]) rfl ?_
      refine lv_icmp_eq (tgt := 62) hx hb dM_begins_57 (by decide) (fun hc => ?_) (fun hc => ?_)
      · rw [if_pos hc] at hf
        refine lv_iinc (v := (y4 + 1)) (lv' := [(4, .int (y4 + 1)), (0, .ref aM), (1, xv vad y1), (2, xv vad y2), (3, .int y3)]) hx hb dM_begins_62 hl (k := 0) rfl rfl (by decide) rfl (fun ls hl => ?_)
        refine lv_goto (tgt := 22) hx hb dM_begins_65 (by decide) ?_
        exact ih (1, (y4 + 1), y1, y2, y3) _ _ ls (⟨rfl, hf, hP, hD, hS, lv_sub hl [0, 1, 2, 3, 4] rfl⟩)
      · rw [if_neg hc] at hf
        refine lv_iconst (v := 0) hx hb dM_begins_60 (by decide) ?_
        obtain rfl := Option.some.inj hf
        exact W.zret (v := (0 : Int32)) hx hb hr rfl (fun t ht hW => ⟨⟨(0 : Int32), (), rfl, rfl, by rw [ht]; exact hP, va_K.moved hW.alike hK, hD⟩, hS.F ht⟩) hS.2.2 dM_begins_61
  refine lv_iload_n hx hb dM_begins_0 rfl (lv_at hl 3 rfl) ?_
  refine lv_if_lt (tgt := 17) hx hb dM_begins_1 (by decide) (fun hc => ?_) (fun hc => ?_)
  · rw [if_pos hc] at hf
    refine lv_iconst (v := 0) hx hb dM_begins_17 (by decide) ?_
    obtain rfl := Option.some.inj hf
    exact W.zret (v := (0 : Int32)) hx hb hr rfl (fun t ht hW => ⟨⟨(0 : Int32), (), rfl, rfl, by rw [ht]; exact hP, va_K.moved hW.alike hK, hD⟩, hS.F ht⟩) hS.2.2 dM_begins_18
  · rw [if_neg hc] at hf
    refine lv_iload_n hx hb dM_begins_4 rfl (lv_at hl 3 rfl) ?_
    refine xm_aload_n hx hb (xvor _ _) dM_begins_5 rfl (lv_at hl 2 rfl) ?_
    obtain ⟨hg1, hf⟩ := xifn hf
    refine xm_vget (v := .int ((xpi st 3) (c1 - 1))) hx hb htx hown hK hP 3 (by decide) hg1 rfl ((hZ.1 (103, "count", "I") (List.mem_of_getElem? (i := 3) rfl)).use rfl) rfl dM_begins_6 ?_
    refine lv_iadd hx hb dM_begins_9 ?_
    refine xm_aload_n hx hb (xvor _ _) dM_begins_10 rfl (lv_at hl 1 rfl) ?_
    obtain ⟨hg2, hf⟩ := xifn hf
    refine xm_vget (v := .int ((xpi st 3) (c0 - 1))) hx hb htx hown hK hP 3 (by decide) hg2 rfl ((hZ.1 (103, "count", "I") (List.mem_of_getElem? (i := 3) rfl)).use rfl) rfl dM_begins_11 ?_
    refine lv_icmp_le (tgt := 19) hx hb dM_begins_14 (by decide) (fun hc => ?_) (fun hc => ?_)
    · rw [if_pos hc] at hf
      refine lv_iconst (v := 0) hx hb dM_begins_19 (by decide) ?_
      refine lv_istore (lv' := [(4, .int 0), (0, .ref aM), (1, xv vad c0), (2, xv vad c1), (3, .int x2)]) hx hb dM_begins_20 hl (by decide) rfl (fun ls hl => ?_)
      exact key n (1, (0 : Int32), c0, c1, x2) _ _ ls (⟨rfl, hf, hP, hD, hS, lv_sub hl [0, 1, 2, 3, 4] rfl⟩)
    · rw [if_neg hc] at hf
      refine lv_iconst (v := 0) hx hb dM_begins_17 (by decide) ?_
      obtain rfl := Option.some.inj hf
      exact W.zret (v := (0 : Int32)) hx hb hr rfl (fun t ht hW => ⟨⟨(0 : Int32), (), rfl, rfl, by rw [ht]; exact hP, va_K.moved hW.alike hK, hD⟩, hS.F ht⟩) hS.2.2 dM_begins_18
set_option maxHeartbeats 400000000 in
set_option maxRecDepth 100000 in
theorem gM_indices (l : Launch) (hl9 : l.stackTraces = false) (D : va_G) (cT : Nat → ClassId) (aK aV : Nat → Nat) (sz d n : Nat) (aM : Nat) (ad rd gd vad : Nat → Nat) (st : xS) (c0 : Nat) (c1 : Nat) (out : Nat × Nat × Nat × Nat × xS) (hf : fM_indices d n st c0 c1 = some out) (hkd : out.1 = 0) : xMet l yM_indices wyM_indices (16 * d + 8) out.2.1 out.2.2.1 (400 * d + 147) D cT aK aV sz [.ref aM, xv vad c0, xv vad c1] (xMw cT aM ad rd gd vad st []) (fun A => va_Qq (fun (r : Option Nat) (u : xU) => r = xca u.2.2 out.2.2.2.1 ∧ xE vad st out.2.2.2.2 u) (fun u t => xB D xcl cT A (xMw cT aM u.1 rd u.2.1 u.2.2 out.2.2.2.2 []) t) A) := by
  refine Met.ofW (cc := prog_13_method_72_code) (maxL := 9) (ret := (some (.object "ValueBenchModel$V"))) (by decide) rfl ?_
  intro p e s m args below meth c s₁ B hml hv
  obtain ⟨rfl, hsz, hZ, hP, hK, hD0⟩ := hv
  have hx := B.exec
  have hb := B.bytes
  have hr := B.returns
  have hts := atoms_spec (ws := wyM_indices) B.pre
  have htx := fun w h => hts w (List.mem_cons_of_mem _ h)
  have hown : s.vm.findClass "ValueBenchModel" = some m.cls := findClass_of_methodNamed B.named
  have hlocks := B.notSynchronized
  subst hsz
  have hD := hD0.self (sz := s.heap.size)
  generalize hAe : va_A (xMw cT aM ad rd gd vad st []) s.heap.size = A at hD hZ ⊢
  have hA : ∀ q : Nat, s.heap.size ≤ q → A q := fun q h => by rw [← hAe]; exact Or.inr h
  have hS : va_S A s.heap s.heap [] := va_S.rf
  have hl := lv_entry ([.ref aM, xv vad c0, xv vad c1]) (n := 9) (by simp [lg_sl, xvcat, xrscat, xcI, xcL, xcR, xcN])
  rw [show lv_args 0 [.ref aM, xv vad c0, xv vad c1] = [(0, .ref aM), (1, xv vad c0), (2, xv vad c1)] from by simp [lv_args, xvcat, xrscat, xcI, xcL, xcR, xcN]] at hl
  rw [lg_entry_eq]
  generalize (lg_sl ([.ref aM, xv vad c0, xv vad c1]) ++ List.replicate (9 - (lg_sl ([.ref aM, xv vad c0, xv vad c1])).length) Slot.unset).toArray = ls at hl ⊢
  have hl : lv_has ls 9 [(0, .ref aM), (1, xv vad c0), (2, xv vad c1)] := hl
  have hE : ∀ p, p < xct st → vad p = vad p := fun _ _ => rfl
  have hN : xct st ≤ xct st := Nat.le_refl _
  unfold fM_indices at hf
  refine xloopM (σ := Nat × Int32 × Int32 × Int32 × Int32 × Nat × Nat × Int32 × Int32 × xS × Nat × Nat) (fun n x H locs ls => (∃ (adL gdL vadL : Nat → Nat), x.1 = 1 ∧ fM_indices_b d n x.1 x.2.1 x.2.2.1 x.2.2.2.1 x.2.2.2.2.1 x.2.2.2.2.2.1 x.2.2.2.2.2.2.1 x.2.2.2.2.2.2.2.1 x.2.2.2.2.2.2.2.2.1 x.2.2.2.2.2.2.2.2.2.1 x.2.2.2.2.2.2.2.2.2.2.1 x.2.2.2.2.2.2.2.2.2.2.2 = some out ∧ va_P D xcl (xMw cT aM adL rd gdL vadL x.2.2.2.2.2.2.2.2.2.1 []) H ∧ va_D A (xMw cT aM adL rd gdL vadL x.2.2.2.2.2.2.2.2.2.1 []) ∧ va_S A s.heap H locs ∧ lv_has ls 9 [(6, .int x.2.1), (5, .int x.2.2.1), (4, .int x.2.2.2.1), (3, .int x.2.2.2.2.1), (0, .ref aM), (1, xv vadL x.2.2.2.2.2.1), (2, xv vadL x.2.2.2.2.2.2.1)] ∧ (∀ p, p < xct st → vadL p = vad p) ∧ xct st ≤ xct x.2.2.2.2.2.2.2.2.2.1) ∨ (∃ (adL gdL vadL : Nat → Nat), x.1 = 2 ∧ fM_indices_b d n x.1 x.2.1 x.2.2.1 x.2.2.2.1 x.2.2.2.2.1 x.2.2.2.2.2.1 x.2.2.2.2.2.2.1 x.2.2.2.2.2.2.2.1 x.2.2.2.2.2.2.2.2.1 x.2.2.2.2.2.2.2.2.2.1 x.2.2.2.2.2.2.2.2.2.2.1 x.2.2.2.2.2.2.2.2.2.2.2 = some out ∧ va_P D xcl (xMw cT aM adL rd gdL vadL x.2.2.2.2.2.2.2.2.2.1 []) H ∧ va_D A (xMw cT aM adL rd gdL vadL x.2.2.2.2.2.2.2.2.2.1 []) ∧ va_S A s.heap H locs ∧ lv_has ls 9 [(8, .int x.2.2.2.2.2.2.2.1), (7, .int x.2.2.2.2.2.2.2.2.1), (6, .int x.2.1), (5, .int x.2.2.1), (4, .int x.2.2.2.1), (3, .int x.2.2.2.2.1), (0, .ref aM), (1, xv vadL x.2.2.2.2.2.1), (2, xv vadL x.2.2.2.2.2.2.1)] ∧ (∀ p, p < xct st → vadL p = vad p) ∧ xct st ≤ xct x.2.2.2.2.2.2.2.2.2.1)) (fun x => if x.1 = 1 then 95 else 175) (fun x => x.2.2.2.2.2.2.2.2.2.2.1) (fun x => x.2.2.2.2.2.2.2.2.2.2.2) (fun x H locs ls h => by rcases h with h | h; (obtain ⟨_, _, _, h⟩ := h; exact absurd h.2.1 (by rw [fM_indices_b]; exact fun h => nomatch h)); (obtain ⟨_, _, _, h⟩ := h; exact absurd h.2.1 (by rw [fM_indices_b]; exact fun h => nomatch h))) (fun n ih x H locs ls hv => ?_) (fun key => ?_)
  · obtain ⟨lb, y6, y5, y4, y3, y1, y2, y8, y7, ws9, wc, wn⟩ := x
    rcases hv with ⟨adL, gdL, vadL, hj, hf, hP, hD, hS, hl, hE, hN⟩ | ⟨adL, gdL, vadL, hj, hf, hP, hD, hS, hl, hE, hN⟩
    · subst hj
      have hf : fM_indices_b d (n + 1) 1 y6 y5 y4 y3 y1 y2 y8 y7 ws9 wc wn = some out := hf
      rw [fM_indices_b, if_pos rfl] at hf
      obtain ⟨hP, hD⟩ : xPD D xcl A (xMw cT aM adL rd gdL vadL ws9 []) H := ⟨hP, hD⟩
      have hl : lv_has ls 9 [(6, .int y6), (5, .int y5), (4, .int y4), (3, .int y3), (0, .ref aM), (1, xv vadL y1), (2, xv vadL y2)] := hl
      refine W.eq (g2 := F0 m 95 ls []) rfl ?_
      show W p l e _ s m _ below meth c H locs wc wn _ _
      obtain ⟨hm0, hf⟩ := xmoE hf
      refine lv_iload hx hb dM_indices_95 (lv_at hl 0 rfl) ?_
      refine xm_aload_n hx hb (xvor _ _) dM_indices_97 rfl (lv_at hl 5 rfl) ?_
      obtain ⟨hg1, hf⟩ := xifn hf
      refine xm_vget (v := .int ((xpi ws9 3) (y1 - 1))) hx hb htx hown hK hP 3 (by decide) hg1 rfl ((hZ.1 (103, "count", "I") (List.mem_of_getElem? (i := 3) rfl)).use rfl) rfl dM_indices_98 ?_
      refine lv_icmp_ge (tgt := 241) hx hb dM_indices_101 (by decide) (fun hc => ?_) (fun hc => ?_)
      · rw [if_pos hc] at hf
        refine lv_aload_n hx hb dM_indices_241 rfl (lv_at hl 4 rfl) ?_
        refine lv_iconst (v := 5) hx hb dM_indices_242 (by decide) ?_
        refine lv_iload hx hb dM_indices_243 (lv_at hl 1 rfl) ?_
        obtain ⟨o2, hq3, hf⟩ := xbind hf
        have hl := lv_sub (l' := [(6, .int y6), (5, .int y5), (4, .int y4), (3, .int y3), (0, .ref aM)]) hl [0, 1, 2, 3, 4] rfl
        by_cases hk4 : o2.1 = 0
        · rw [if_pos hk4] at hf
          obtain ⟨hm5, hf⟩ := xmoE hf
          have hFc := xm_free hD hS hA
          refine va_callq (va_runV (C := "ValueBenchModel") (As := [.int 5, .int y5]) (rest := []) ⟨hx, hb, hml, hown, htx⟩ (gM_whole l hl9 D cT aK aV H.size n aM adL rd gdL vadL ws9 (5 : Int32) y5 o2 hq3 hk4) ⟨callB_of 2 htx (xw_goodC kw_6_106) rfl rfl rfl (htx _ kw_1_5) (htx _ kw_6_103) ⟨by decide, by decide, by decide +kernel⟩ ⟨Nat.le_of_ble_eq_true rfl, Nat.le_of_ble_eq_true rfl⟩, (htx _ kw_6_105), (htx _ kp_M_whole)⟩ ⟨xPre_blind, va_recv hK hP (ci := 5) rfl (q0 := 0) rfl, (fun U hU hW => ⟨rfl, xPre_of hZ hS hFc hP hD hK U hU hW⟩)⟩ rfl rfl hl.1 rfl (xm_room (Nat.le_of_ble_eq_true rfl)) dM_indices_245 ⟨hm5.1, hm5.2⟩) hS (fun q _ h => hFc q h) hFc (fun r6 u9 t H1 locs ht hvm hr9 hB hz1 hk1 hS => ?_)
          obtain ⟨hP1, hK1, hD1⟩ := hB
          rw [ht] at hP1
          obtain ⟨ad7, gd8, vad9⟩ := u9
          obtain ⟨hr9, hv10, hn11⟩ := hr9
          have hP : va_P D xcl (xMw cT aM ad7 rd gd8 vad9 o2.2.2.2.2 []) H1 := hP1
          have hD : va_D A (xMw cT aM ad7 rd gd8 vad9 o2.2.2.2.2 []) := hD1.weaken (fun k q _ h => hFc q.1 h)
          generalize H1 = H at hP hS ⊢
          have hE9 : ∀ p, p < xct st → vad9 p = vad p := fun p h => (hv10 p (Nat.lt_of_lt_of_le h hN)).trans (hE p h)
          have hE := hE9
          have hN : xct st ≤ xct o2.2.2.2.2 := Nat.le_trans hN hn11
          rw [hr9]
          refine W.eq (g2 := F0 m 248 ls [xv vad9 o2.2.2.2.1]) (by first | rfl | (skip; rfl)) ?_
          obtain rfl := Option.some.inj hf
          exact W.aret (v := xv vad9 o2.2.2.2.1) hx hb hr (Or.inl ⟨_, rfl⟩) (xvor _ _) (fun t ht hW => ⟨⟨xca vad9 o2.2.2.2.1, (ad7, gd8, vad9), rfl, ⟨rfl, hE, hN⟩, by rw [ht]; exact hP, va_K.moved hW.alike hK, hD⟩, hS.F ht⟩) hS.2.2 dM_indices_248
        rw [if_neg hk4] at hf
        by_cases hk12 : o2.1 = 1
        · rw [if_pos hk12] at hf
          obtain ⟨hm13, hf⟩ := xmoE hf
          obtain rfl := Option.some.inj hf
          exact absurd (show (2 : Nat) = 0 from hkd) (by decide)
        rw [if_neg hk12] at hf
        exact nomatch hf
      · rw [if_neg hc] at hf
        refine lv_iload_n hx hb dM_indices_104 rfl (lv_at hl 3 rfl) ?_
        refine lv_if_eq (tgt := 119) hx hb dM_indices_105 (by decide) (fun hc => ?_) (fun hc => ?_)
        · rw [if_pos hc] at hf
          refine lv_iload hx hb dM_indices_119 (lv_at hl 2 rfl) ?_
          refine lv_if_ne (tgt := 143) hx hb dM_indices_121 (by decide) (fun hc => ?_) (fun hc => ?_)
          · rw [if_neg hc] at hf
            refine lv_iconst (v := 0) hx hb dM_indices_143 (by decide) ?_
            refine lv_istore (lv' := [(7, .int 0), (6, .int y6), (5, .int y5), (4, .int y4), (3, .int y3), (0, .ref aM), (1, xv vadL y1), (2, xv vadL y2)]) hx hb dM_indices_144 hl (by decide) rfl (fun ls hl => ?_)
            refine lv_iload hx hb dM_indices_146 (lv_at hl 3 rfl) ?_
            refine lv_if_eq (tgt := 218) hx hb dM_indices_148 (by decide) (fun hc => ?_) (fun hc => ?_)
            · rw [if_pos hc] at hf
              refine lv_iload hx hb dM_indices_218 (lv_at hl 0 rfl) ?_
              refine lv_if_eq (tgt := 235) hx hb dM_indices_220 (by decide) (fun _ => ?_) (fun h => ((by revert h; decide : False)).elim)
              refine lv_iinc (v := (y6 + 1)) (lv' := [(6, .int (y6 + 1)), (7, .int 0), (5, .int y5), (4, .int y4), (3, .int y3), (0, .ref aM), (1, xv vadL y1), (2, xv vadL y2)]) hx hb dM_indices_235 hl (k := 1) rfl rfl (by decide) rfl (fun ls hl => ?_)
              refine lv_goto (tgt := 95) hx hb dM_indices_238 (by decide) ?_
              exact ih (1, (y6 + 1), y5, y4, y3, y1, y2, 0, (0 : Int32), ws9, wc, wn) _ _ ls (Or.inl ⟨adL, gdL, vadL, rfl, hf, hP, hD, hS, lv_sub hl [0, 2, 3, 4, 5, 6, 7] rfl, hE, hN⟩)
            · rw [if_neg hc] at hf
              refine lv_iload_n hx hb dM_indices_151 rfl (lv_at hl 4 rfl) ?_
              refine lv_if_ne (tgt := 218) hx hb dM_indices_152 (by decide) (fun hc => ?_) (fun hc => ?_)
              · rw [if_neg hc] at hf
                refine lv_iload hx hb dM_indices_218 (lv_at hl 0 rfl) ?_
                refine lv_if_eq (tgt := 235) hx hb dM_indices_220 (by decide) (fun _ => ?_) (fun h => ((by revert h; decide : False)).elim)
                refine lv_iinc (v := (y6 + 1)) (lv' := [(6, .int (y6 + 1)), (7, .int 0), (5, .int y5), (4, .int y4), (3, .int y3), (0, .ref aM), (1, xv vadL y1), (2, xv vadL y2)]) hx hb dM_indices_235 hl (k := 1) rfl rfl (by decide) rfl (fun ls hl => ?_)
                refine lv_goto (tgt := 95) hx hb dM_indices_238 (by decide) ?_
                exact ih (1, (y6 + 1), y5, y4, y3, y1, y2, 0, (0 : Int32), ws9, wc, wn) _ _ ls (Or.inl ⟨adL, gdL, vadL, rfl, hf, hP, hD, hS, lv_sub hl [0, 2, 3, 4, 5, 6, 7] rfl, hE, hN⟩)
              · rw [if_pos hc] at hf
                refine lv_iload hx hb dM_indices_155 (lv_at hl 1 rfl) ?_
                refine xm_aload_n hx hb (xvor _ _) dM_indices_157 rfl (lv_at hl 7 rfl) ?_
                obtain ⟨hg2, hf⟩ := xifn hf
                refine xm_vget (v := .int ((xpi ws9 3) (y2 - 1))) hx hb htx hown hK hP 3 (by decide) hg2 rfl ((hZ.1 (103, "count", "I") (List.mem_of_getElem? (i := 3) rfl)).use rfl) rfl dM_indices_158 ?_
                refine lv_iadd hx hb dM_indices_161 ?_
                refine xm_aload_n hx hb (xvor _ _) dM_indices_162 rfl (lv_at hl 6 rfl) ?_
                refine xm_vget (v := .int ((xpi ws9 3) (y1 - 1))) hx hb htx hown hK hP 3 (by decide) hg1 rfl ((hZ.1 (103, "count", "I") (List.mem_of_getElem? (i := 3) rfl)).use rfl) rfl dM_indices_163 ?_
                refine lv_icmp_gt (tgt := 218) hx hb dM_indices_166 (by decide) (fun hc => ?_) (fun hc => ?_)
                · rw [if_pos hc] at hf
                  refine lv_iload hx hb dM_indices_218 (lv_at hl 0 rfl) ?_
                  refine lv_if_eq (tgt := 235) hx hb dM_indices_220 (by decide) (fun _ => ?_) (fun h => ((by revert h; decide : False)).elim)
                  refine lv_iinc (v := (y6 + 1)) (lv' := [(6, .int (y6 + 1)), (7, .int 0), (5, .int y5), (4, .int y4), (3, .int y3), (0, .ref aM), (1, xv vadL y1), (2, xv vadL y2)]) hx hb dM_indices_235 hl (k := 1) rfl rfl (by decide) rfl (fun ls hl => ?_)
                  refine lv_goto (tgt := 95) hx hb dM_indices_238 (by decide) ?_
                  exact ih (1, (y6 + 1), y5, y4, y3, y1, y2, 0, (0 : Int32), ws9, wc, wn) _ _ ls (Or.inl ⟨adL, gdL, vadL, rfl, hf, hP, hD, hS, lv_sub hl [0, 2, 3, 4, 5, 6, 7] rfl, hE, hN⟩)
                · rw [if_neg hc] at hf
                  refine lv_iconst (v := 1) hx hb dM_indices_169 (by decide) ?_
                  refine lv_istore (lv' := [(7, .int 1), (6, .int y6), (5, .int y5), (4, .int y4), (3, .int y3), (0, .ref aM), (1, xv vadL y1), (2, xv vadL y2)]) hx hb dM_indices_170 hl (by decide) rfl (fun ls hl => ?_)
                  refine lv_iconst (v := 0) hx hb dM_indices_172 (by decide) ?_
                  refine lv_istore (lv' := [(8, .int 0), (7, .int 1), (6, .int y6), (5, .int y5), (4, .int y4), (3, .int y3), (0, .ref aM), (1, xv vadL y1), (2, xv vadL y2)]) hx hb dM_indices_173 hl (by decide) rfl (fun ls hl => ?_)
                  exact ih (2, y6, y5, y4, y3, y1, y2, (0 : Int32), (1 : Int32), ws9, wc, wn) _ _ ls (Or.inr (⟨adL, gdL, vadL, rfl, hf, hP, hD, hS, lv_sub hl [0, 1, 2, 3, 4, 5, 6, 7, 8] rfl, hE, hN⟩))
          · rw [if_pos hc] at hf
            refine lv_aload_n hx hb dM_indices_124 rfl (lv_at hl 4 rfl) ?_
            refine lv_aload_n hx hb dM_indices_125 rfl (lv_at hl 4 rfl) ?_
            refine xm_aload_n hx hb (xvor _ _) dM_indices_126 rfl (lv_at hl 5 rfl) ?_
            refine lv_iload hx hb dM_indices_127 (lv_at hl 0 rfl) ?_
            obtain ⟨o2, hq3, hf⟩ := xbind hf
            have hFc := xm_free hD hS hA
            refine va_callq (va_runV (C := "ValueBenchModel") (As := [xv vadL y1, .int y6]) (rest := [.ref aM]) ⟨hx, hb, hml, hown, htx⟩ (gM_kid l hl9 D cT aK aV H.size n aM adL rd gdL vadL ws9 y1 y6 o2 hq3) ⟨callB_of 2 htx (xw_goodC kw_6_158) rfl rfl rfl (htx _ kw_1_5) (htx _ kw_6_155) ⟨by decide, by decide, by decide +kernel⟩ ⟨Nat.le_of_ble_eq_true rfl, Nat.le_of_ble_eq_true rfl⟩, (htx _ kw_6_157), (htx _ kp_M_kid)⟩ ⟨xPre_blind, va_recv hK hP (ci := 5) rfl (q0 := 0) rfl, (fun U hU hW => ⟨rfl, xPre_of hZ hS hFc hP hD hK U hU hW⟩)⟩ rfl rfl hl.1 rfl (xm_room (Nat.le_of_ble_eq_true rfl)) dM_indices_129 ⟨hm0.1, hm0.2⟩) hS (fun q _ h => hFc q h) hFc (fun r4 u9 t H1 locs ht hvm hr9 hB hz1 hk1 hS => ?_)
            obtain ⟨hP1, hK1, hD1⟩ := hB
            rw [ht] at hP1
            have hP : va_P D xcl (xMw cT aM adL rd gdL vadL ws9 []) H1 := hP1
            have hD : va_D A (xMw cT aM adL rd gdL vadL ws9 []) := hD1.weaken (fun k q _ h => hFc q.1 h)
            generalize H1 = H at hP hS ⊢
            rw [hr9]
            refine W.eq (g2 := F0 m 132 ls [xv vadL o2, .ref aM]) (by first | rfl | (skip; rfl)) ?_
            refine xm_aload_n hx hb (xvor _ _) dM_indices_132 rfl (lv_at hl 6 rfl) ?_
            obtain ⟨o5, hq6, hf⟩ := xbind hf
            have hFc := xm_free hD hS hA
            refine va_calli (va_runV (C := "ValueBenchModel") (As := [xv vadL o2, xv vadL y2]) (rest := []) ⟨hx, hb, hml, hown, htx⟩ (gM_same1 l hl9 D cT aK aV d H.size n aM adL rd gdL vadL ws9 o2 y2 o5 hq6) ⟨callB_of 2 htx (xw_goodC kw_6_174) rfl rfl rfl (htx _ kw_1_5) (htx _ kw_6_171) ⟨by decide, by decide, by decide +kernel⟩ ⟨(by show (16 * d) + 1 ≤ 16 * d + 8; omega), (by show 8 + (5 + 11) + (400 * d) ≤ 400 * d + 147; omega)⟩, (htx _ kw_6_173), (htx _ kp_M_same1)⟩ ⟨xPre_blind, va_recv hK hP (ci := 5) rfl (q0 := 0) rfl, (fun U hU hW => ⟨rfl, xPre_of hZ hS hFc hP hD hK U hU hW⟩)⟩ rfl rfl hl.1 rfl (xm_room (Nat.le_of_ble_eq_true rfl)) dM_indices_133 ⟨hm0.1, hm0.2⟩) hS (fun q _ h => hFc q h) hFc (fun r7 u9 t H1 locs ht hvm hr9 hB hz1 hk1 hS => ?_)
            obtain ⟨hP1, hK1, hD1⟩ := hB
            rw [ht] at hP1
            have hP : va_P D xcl (xMw cT aM adL rd gdL vadL ws9 []) H1 := hP1
            have hD : va_D A (xMw cT aM adL rd gdL vadL ws9 []) := hD1.weaken (fun k q _ h => hFc q.1 h)
            generalize H1 = H at hP hS ⊢
            rw [hr9]
            refine W.eq (g2 := F0 m 136 ls [.int o5]) (by first | rfl | (skip; rfl)) ?_
            refine lv_if_eq (tgt := 143) hx hb dM_indices_136 (by decide) (fun hc => ?_) (fun hc => ?_)
            · rw [if_pos hc] at hf
              refine lv_iconst (v := 0) hx hb dM_indices_143 (by decide) ?_
              refine lv_istore (lv' := [(7, .int 0), (6, .int y6), (5, .int y5), (4, .int y4), (3, .int y3), (0, .ref aM), (1, xv vadL y1), (2, xv vadL y2)]) hx hb dM_indices_144 hl (by decide) rfl (fun ls hl => ?_)
              refine lv_iload hx hb dM_indices_146 (lv_at hl 3 rfl) ?_
              refine lv_if_eq (tgt := 218) hx hb dM_indices_148 (by decide) (fun hc => ?_) (fun hc => ?_)
              · rw [if_pos hc] at hf
                refine lv_iload hx hb dM_indices_218 (lv_at hl 0 rfl) ?_
                refine lv_if_eq (tgt := 235) hx hb dM_indices_220 (by decide) (fun _ => ?_) (fun h => ((by revert h; decide : False)).elim)
                refine lv_iinc (v := (y6 + 1)) (lv' := [(6, .int (y6 + 1)), (7, .int 0), (5, .int y5), (4, .int y4), (3, .int y3), (0, .ref aM), (1, xv vadL y1), (2, xv vadL y2)]) hx hb dM_indices_235 hl (k := 1) rfl rfl (by decide) rfl (fun ls hl => ?_)
                refine lv_goto (tgt := 95) hx hb dM_indices_238 (by decide) ?_
                exact ih (1, (y6 + 1), y5, y4, y3, y1, y2, 0, (0 : Int32), ws9, wc, wn) _ _ ls (Or.inl ⟨adL, gdL, vadL, rfl, hf, hP, hD, hS, lv_sub hl [0, 2, 3, 4, 5, 6, 7] rfl, hE, hN⟩)
              · rw [if_neg hc] at hf
                refine lv_iload_n hx hb dM_indices_151 rfl (lv_at hl 4 rfl) ?_
                refine lv_if_ne (tgt := 218) hx hb dM_indices_152 (by decide) (fun hc => ?_) (fun hc => ?_)
                · rw [if_neg hc] at hf
                  refine lv_iload hx hb dM_indices_218 (lv_at hl 0 rfl) ?_
                  refine lv_if_eq (tgt := 235) hx hb dM_indices_220 (by decide) (fun _ => ?_) (fun h => ((by revert h; decide : False)).elim)
                  refine lv_iinc (v := (y6 + 1)) (lv' := [(6, .int (y6 + 1)), (7, .int 0), (5, .int y5), (4, .int y4), (3, .int y3), (0, .ref aM), (1, xv vadL y1), (2, xv vadL y2)]) hx hb dM_indices_235 hl (k := 1) rfl rfl (by decide) rfl (fun ls hl => ?_)
                  refine lv_goto (tgt := 95) hx hb dM_indices_238 (by decide) ?_
                  exact ih (1, (y6 + 1), y5, y4, y3, y1, y2, 0, (0 : Int32), ws9, wc, wn) _ _ ls (Or.inl ⟨adL, gdL, vadL, rfl, hf, hP, hD, hS, lv_sub hl [0, 2, 3, 4, 5, 6, 7] rfl, hE, hN⟩)
                · rw [if_pos hc] at hf
                  refine lv_iload hx hb dM_indices_155 (lv_at hl 1 rfl) ?_
                  refine xm_aload_n hx hb (xvor _ _) dM_indices_157 rfl (lv_at hl 7 rfl) ?_
                  obtain ⟨hg8, hf⟩ := xifn hf
                  refine xm_vget (v := .int ((xpi ws9 3) (y2 - 1))) hx hb htx hown hK hP 3 (by decide) hg8 rfl ((hZ.1 (103, "count", "I") (List.mem_of_getElem? (i := 3) rfl)).use rfl) rfl dM_indices_158 ?_
                  refine lv_iadd hx hb dM_indices_161 ?_
                  refine xm_aload_n hx hb (xvor _ _) dM_indices_162 rfl (lv_at hl 6 rfl) ?_
                  refine xm_vget (v := .int ((xpi ws9 3) (y1 - 1))) hx hb htx hown hK hP 3 (by decide) hg1 rfl ((hZ.1 (103, "count", "I") (List.mem_of_getElem? (i := 3) rfl)).use rfl) rfl dM_indices_163 ?_
                  refine lv_icmp_gt (tgt := 218) hx hb dM_indices_166 (by decide) (fun hc => ?_) (fun hc => ?_)
                  · rw [if_pos hc] at hf
                    refine lv_iload hx hb dM_indices_218 (lv_at hl 0 rfl) ?_
                    refine lv_if_eq (tgt := 235) hx hb dM_indices_220 (by decide) (fun _ => ?_) (fun h => ((by revert h; decide : False)).elim)
                    refine lv_iinc (v := (y6 + 1)) (lv' := [(6, .int (y6 + 1)), (7, .int 0), (5, .int y5), (4, .int y4), (3, .int y3), (0, .ref aM), (1, xv vadL y1), (2, xv vadL y2)]) hx hb dM_indices_235 hl (k := 1) rfl rfl (by decide) rfl (fun ls hl => ?_)
                    refine lv_goto (tgt := 95) hx hb dM_indices_238 (by decide) ?_
                    exact ih (1, (y6 + 1), y5, y4, y3, y1, y2, 0, (0 : Int32), ws9, wc, wn) _ _ ls (Or.inl ⟨adL, gdL, vadL, rfl, hf, hP, hD, hS, lv_sub hl [0, 2, 3, 4, 5, 6, 7] rfl, hE, hN⟩)
                  · rw [if_neg hc] at hf
                    refine lv_iconst (v := 1) hx hb dM_indices_169 (by decide) ?_
                    refine lv_istore (lv' := [(7, .int 1), (6, .int y6), (5, .int y5), (4, .int y4), (3, .int y3), (0, .ref aM), (1, xv vadL y1), (2, xv vadL y2)]) hx hb dM_indices_170 hl (by decide) rfl (fun ls hl => ?_)
                    refine lv_iconst (v := 0) hx hb dM_indices_172 (by decide) ?_
                    refine lv_istore (lv' := [(8, .int 0), (7, .int 1), (6, .int y6), (5, .int y5), (4, .int y4), (3, .int y3), (0, .ref aM), (1, xv vadL y1), (2, xv vadL y2)]) hx hb dM_indices_173 hl (by decide) rfl (fun ls hl => ?_)
                    exact ih (2, y6, y5, y4, y3, y1, y2, (0 : Int32), (1 : Int32), ws9, wc, wn) _ _ ls (Or.inr (⟨adL, gdL, vadL, rfl, hf, hP, hD, hS, lv_sub hl [0, 1, 2, 3, 4, 5, 6, 7, 8] rfl, hE, hN⟩))
            · rw [if_neg hc] at hf
              refine lv_iconst (v := 1) hx hb dM_indices_139 (by decide) ?_
              refine lv_goto (tgt := 144) hx hb dM_indices_140 (by decide) ?_
              refine lv_istore (lv' := [(7, .int 1), (6, .int y6), (5, .int y5), (4, .int y4), (3, .int y3), (0, .ref aM), (1, xv vadL y1), (2, xv vadL y2)]) hx hb dM_indices_144 hl (by decide) rfl (fun ls hl => ?_)
              refine lv_iload hx hb dM_indices_146 (lv_at hl 3 rfl) ?_
              refine lv_if_eq (tgt := 218) hx hb dM_indices_148 (by decide) (fun hc => ?_) (fun hc => ?_)
              · rw [if_pos hc] at hf
                refine lv_iload hx hb dM_indices_218 (lv_at hl 0 rfl) ?_
                refine lv_if_eq (tgt := 235) hx hb dM_indices_220 (by decide) (fun h => ((by revert h; decide : False)).elim) (fun _ => ?_)
                refine lv_aload_n hx hb dM_indices_223 rfl (lv_at hl 5 rfl) ?_
                refine lv_null hx hb dM_indices_224 ?_
                refine lv_aload_n hx hb dM_indices_225 rfl (lv_at hl 5 rfl) ?_
                refine lv_iload hx hb dM_indices_226 (lv_at hl 1 rfl) ?_
                refine lv_i2l hx hb dM_indices_228 rfl ?_
                obtain ⟨o8, hq9, hf⟩ := xbind hf
                by_cases hk10 : o8.1 = 0
                · rw [if_pos hk10] at hf
                  obtain ⟨hg11, hf⟩ := xifn hf
                  obtain ⟨hm12, hf⟩ := xmoE hf
                  have hFc := xm_free hD hS hA
                  refine va_callq (va_runV (C := "ValueBenchModel") (As := [.long y6.toInt64]) (rest := [.null, .ref aM]) ⟨hx, hb, hml, hown, htx⟩ (gM_number l hl9 D cT aK aV H.size n aM adL rd gdL vadL ws9 y6.toInt64 o8 hq9 hk10) ⟨callB_of 1 htx (xw_goodC kw_6_88) rfl rfl rfl (htx _ kw_1_5) (htx _ kw_6_85) ⟨by decide, by decide, by decide +kernel⟩ ⟨Nat.le_of_ble_eq_true rfl, Nat.le_of_ble_eq_true rfl⟩, (htx _ kw_6_87), (htx _ kp_M_number)⟩ ⟨xPre_blind, va_recv hK hP (ci := 5) rfl (q0 := 0) rfl, (fun U hU hW => ⟨rfl, xPre_of hZ hS hFc hP hD hK U hU hW⟩)⟩ rfl rfl hl.1 rfl (xm_room (Nat.le_of_ble_eq_true rfl)) dM_indices_229 ⟨hm12.1, hm12.2⟩) hS (fun q _ h => hFc q h) hFc (fun r13 u9 t H1 locs ht hvm hr9 hB hz1 hk1 hS => ?_)
                  obtain ⟨hP1, hK1, hD1⟩ := hB
                  rw [ht] at hP1
                  obtain ⟨ad14, gd15, vad16⟩ := u9
                  obtain ⟨hr9, hv17, hn18⟩ := hr9
                  have hP : va_P D xcl (xMw cT aM ad14 rd gd15 vad16 o8.2.2.2.2 []) H1 := hP1
                  have hD : va_D A (xMw cT aM ad14 rd gd15 vad16 o8.2.2.2.2 []) := hD1.weaken (fun k q _ h => hFc q.1 h)
                  generalize H1 = H at hP hS ⊢
                  have hE9 : ∀ p, p < xct st → vad16 p = vad p := fun p h => (hv17 p (Nat.lt_of_lt_of_le h hN)).trans (hE p h)
                  have hE := hE9
                  have hN : xct st ≤ xct o8.2.2.2.2 := Nat.le_trans hN hn18
                  have ev19 : xv vadL y1 = xv vad16 y1 := xvE hv17 (fun h => hg1 (Or.inr h))
                  have ev20 : xv vadL y2 = xv vad16 y2 := xvE hv17 hg11
                  have hl : lv_has ls 9 [(7, .int 1), (6, .int y6), (5, .int y5), (4, .int y4), (3, .int y3), (0, .ref aM), (1, xv vad16 y1), (2, xv vad16 y2)] := by first | exact hl | ((try (rw [← ev19])); (try (rw [← ev20])); exact hl)
                  rw [hr9]
                  refine W.eq (g2 := F0 m 232 ls [xv vad16 o8.2.2.2.1, .null, .ref aM]) (by first | rfl | ((try (rw [ev19])); (try (rw [ev20])); rfl)) ?_
                  obtain ⟨o21, hq22, hf⟩ := xbind hf
                  obtain ⟨hg23, hf⟩ := xifn hf
                  obtain ⟨hg24, hf⟩ := xifn hf
                  obtain ⟨hm25, hf⟩ := xmoE hf
                  have hFc := xm_free hD hS hA
                  refine va_callv (va_runV (C := "ValueBenchModel") (As := [.null, xv vad16 o8.2.2.2.1]) (rest := []) ⟨hx, hb, hml, hown, htx⟩ (gM_wait l hl9 D cT aK aV H.size n aM ad14 rd gd15 vad16 o8.2.2.2.2 0 o8.2.2.2.1 o21 hq22) ⟨callB_of 2 htx (xw_goodC kw_6_112) rfl rfl rfl (htx _ kw_1_5) (htx _ kw_6_109) ⟨by decide, by decide, by decide +kernel⟩ ⟨Nat.le_of_ble_eq_true rfl, Nat.le_of_ble_eq_true rfl⟩, (htx _ kw_6_111), (htx _ kp_M_wait)⟩ ⟨xPre_blind, va_recv hK hP (ci := 5) rfl (q0 := 0) rfl, (fun U hU hW => ⟨rfl, xPre_of hZ hS hFc hP hD hK U hU hW⟩)⟩ rfl rfl hl.1 rfl (xm_room (Nat.le_of_ble_eq_true rfl)) dM_indices_232 ⟨hm25.1, hm25.2⟩) hS (fun q _ h => hFc q h) hFc (fun u9 t H1 locs ht hvm hr9 hB hz1 hk1 hS => ?_)
                  obtain ⟨hP1, hK1, hD1⟩ := hB
                  rw [ht] at hP1
                  obtain ⟨ad27, gd28, vad29⟩ := u9
                  obtain ⟨hv30, hn31⟩ := hr9
                  have hP : va_P D xcl (xMw cT aM ad27 rd gd28 vad29 o21.2.2 []) H1 := hP1
                  have hD : va_D A (xMw cT aM ad27 rd gd28 vad29 o21.2.2 []) := hD1.weaken (fun k q _ h => hFc q.1 h)
                  generalize H1 = H at hP hS ⊢
                  have hE9 : ∀ p, p < xct st → vad29 p = vad p := fun p h => (hv30 p (Nat.lt_of_lt_of_le h hN)).trans (hE p h)
                  have hE := hE9
                  have hN : xct st ≤ xct o21.2.2 := Nat.le_trans hN hn31
                  have ev32 : xv vad16 y1 = xv vad29 y1 := xvE hv30 hg23
                  have ev33 : xv vad16 y2 = xv vad29 y2 := xvE hv30 hg24
                  have hl : lv_has ls 9 [(7, .int 1), (6, .int y6), (5, .int y5), (4, .int y4), (3, .int y3), (0, .ref aM), (1, xv vad29 y1), (2, xv vad29 y2)] := by first | exact hl | ((try (rw [← ev32])); (try (rw [← ev33])); exact hl)
                  refine W.eq (g2 := F0 m 235 ls []) (by first | rfl | ((try (rw [ev32])); (try (rw [ev33])); rfl)) ?_
                  refine lv_iinc (v := (y6 + 1)) (lv' := [(6, .int (y6 + 1)), (7, .int 1), (5, .int y5), (4, .int y4), (3, .int y3), (0, .ref aM), (1, xv vad29 y1), (2, xv vad29 y2)]) hx hb dM_indices_235 hl (k := 1) rfl rfl (by decide) rfl (fun ls hl => ?_)
                  refine lv_goto (tgt := 95) hx hb dM_indices_238 (by decide) ?_
                  exact ih (1, (y6 + 1), y5, y4, y3, y1, y2, 0, (1 : Int32), o21.2.2, ((wc + o8.2.1) + o21.1), ((wn + o8.2.2.1) + o21.2.1)) _ _ ls (Or.inl ⟨ad27, gd28, vad29, rfl, hf, hP, hD, hS, lv_sub hl [0, 2, 3, 4, 5, 6, 7] rfl, hE, hN⟩)
                rw [if_neg hk10] at hf
                by_cases hk34 : o8.1 = 1
                · rw [if_pos hk34] at hf
                  obtain ⟨hg35, hf⟩ := xifn hf
                  obtain ⟨hm36, hf⟩ := xmoE hf
                  obtain rfl := Option.some.inj hf
                  exact absurd (show (1 : Nat) = 0 from hkd) (by decide)
                rw [if_neg hk34] at hf
                exact nomatch hf
              · rw [if_neg hc] at hf
                refine lv_iload_n hx hb dM_indices_151 rfl (lv_at hl 4 rfl) ?_
                refine lv_if_ne (tgt := 218) hx hb dM_indices_152 (by decide) (fun hc => ?_) (fun hc => ?_)
                · rw [if_neg hc] at hf
                  refine lv_iload hx hb dM_indices_218 (lv_at hl 0 rfl) ?_
                  refine lv_if_eq (tgt := 235) hx hb dM_indices_220 (by decide) (fun h => ((by revert h; decide : False)).elim) (fun _ => ?_)
                  refine lv_aload_n hx hb dM_indices_223 rfl (lv_at hl 5 rfl) ?_
                  refine lv_null hx hb dM_indices_224 ?_
                  refine lv_aload_n hx hb dM_indices_225 rfl (lv_at hl 5 rfl) ?_
                  refine lv_iload hx hb dM_indices_226 (lv_at hl 1 rfl) ?_
                  refine lv_i2l hx hb dM_indices_228 rfl ?_
                  obtain ⟨o8, hq9, hf⟩ := xbind hf
                  by_cases hk10 : o8.1 = 0
                  · rw [if_pos hk10] at hf
                    obtain ⟨hg11, hf⟩ := xifn hf
                    obtain ⟨hm12, hf⟩ := xmoE hf
                    have hFc := xm_free hD hS hA
                    refine va_callq (va_runV (C := "ValueBenchModel") (As := [.long y6.toInt64]) (rest := [.null, .ref aM]) ⟨hx, hb, hml, hown, htx⟩ (gM_number l hl9 D cT aK aV H.size n aM adL rd gdL vadL ws9 y6.toInt64 o8 hq9 hk10) ⟨callB_of 1 htx (xw_goodC kw_6_88) rfl rfl rfl (htx _ kw_1_5) (htx _ kw_6_85) ⟨by decide, by decide, by decide +kernel⟩ ⟨Nat.le_of_ble_eq_true rfl, Nat.le_of_ble_eq_true rfl⟩, (htx _ kw_6_87), (htx _ kp_M_number)⟩ ⟨xPre_blind, va_recv hK hP (ci := 5) rfl (q0 := 0) rfl, (fun U hU hW => ⟨rfl, xPre_of hZ hS hFc hP hD hK U hU hW⟩)⟩ rfl rfl hl.1 rfl (xm_room (Nat.le_of_ble_eq_true rfl)) dM_indices_229 ⟨hm12.1, hm12.2⟩) hS (fun q _ h => hFc q h) hFc (fun r13 u9 t H1 locs ht hvm hr9 hB hz1 hk1 hS => ?_)
                    obtain ⟨hP1, hK1, hD1⟩ := hB
                    rw [ht] at hP1
                    obtain ⟨ad14, gd15, vad16⟩ := u9
                    obtain ⟨hr9, hv17, hn18⟩ := hr9
                    have hP : va_P D xcl (xMw cT aM ad14 rd gd15 vad16 o8.2.2.2.2 []) H1 := hP1
                    have hD : va_D A (xMw cT aM ad14 rd gd15 vad16 o8.2.2.2.2 []) := hD1.weaken (fun k q _ h => hFc q.1 h)
                    generalize H1 = H at hP hS ⊢
                    have hE9 : ∀ p, p < xct st → vad16 p = vad p := fun p h => (hv17 p (Nat.lt_of_lt_of_le h hN)).trans (hE p h)
                    have hE := hE9
                    have hN : xct st ≤ xct o8.2.2.2.2 := Nat.le_trans hN hn18
                    have ev19 : xv vadL y1 = xv vad16 y1 := xvE hv17 (fun h => hg1 (Or.inr h))
                    have ev20 : xv vadL y2 = xv vad16 y2 := xvE hv17 hg11
                    have hl : lv_has ls 9 [(7, .int 1), (6, .int y6), (5, .int y5), (4, .int y4), (3, .int y3), (0, .ref aM), (1, xv vad16 y1), (2, xv vad16 y2)] := by first | exact hl | ((try (rw [← ev19])); (try (rw [← ev20])); exact hl)
                    rw [hr9]
                    refine W.eq (g2 := F0 m 232 ls [xv vad16 o8.2.2.2.1, .null, .ref aM]) (by first | rfl | ((try (rw [ev19])); (try (rw [ev20])); rfl)) ?_
                    obtain ⟨o21, hq22, hf⟩ := xbind hf
                    obtain ⟨hg23, hf⟩ := xifn hf
                    obtain ⟨hg24, hf⟩ := xifn hf
                    obtain ⟨hm25, hf⟩ := xmoE hf
                    have hFc := xm_free hD hS hA
                    refine va_callv (va_runV (C := "ValueBenchModel") (As := [.null, xv vad16 o8.2.2.2.1]) (rest := []) ⟨hx, hb, hml, hown, htx⟩ (gM_wait l hl9 D cT aK aV H.size n aM ad14 rd gd15 vad16 o8.2.2.2.2 0 o8.2.2.2.1 o21 hq22) ⟨callB_of 2 htx (xw_goodC kw_6_112) rfl rfl rfl (htx _ kw_1_5) (htx _ kw_6_109) ⟨by decide, by decide, by decide +kernel⟩ ⟨Nat.le_of_ble_eq_true rfl, Nat.le_of_ble_eq_true rfl⟩, (htx _ kw_6_111), (htx _ kp_M_wait)⟩ ⟨xPre_blind, va_recv hK hP (ci := 5) rfl (q0 := 0) rfl, (fun U hU hW => ⟨rfl, xPre_of hZ hS hFc hP hD hK U hU hW⟩)⟩ rfl rfl hl.1 rfl (xm_room (Nat.le_of_ble_eq_true rfl)) dM_indices_232 ⟨hm25.1, hm25.2⟩) hS (fun q _ h => hFc q h) hFc (fun u9 t H1 locs ht hvm hr9 hB hz1 hk1 hS => ?_)
                    obtain ⟨hP1, hK1, hD1⟩ := hB
                    rw [ht] at hP1
                    obtain ⟨ad27, gd28, vad29⟩ := u9
                    obtain ⟨hv30, hn31⟩ := hr9
                    have hP : va_P D xcl (xMw cT aM ad27 rd gd28 vad29 o21.2.2 []) H1 := hP1
                    have hD : va_D A (xMw cT aM ad27 rd gd28 vad29 o21.2.2 []) := hD1.weaken (fun k q _ h => hFc q.1 h)
                    generalize H1 = H at hP hS ⊢
                    have hE9 : ∀ p, p < xct st → vad29 p = vad p := fun p h => (hv30 p (Nat.lt_of_lt_of_le h hN)).trans (hE p h)
                    have hE := hE9
                    have hN : xct st ≤ xct o21.2.2 := Nat.le_trans hN hn31
                    have ev32 : xv vad16 y1 = xv vad29 y1 := xvE hv30 hg23
                    have ev33 : xv vad16 y2 = xv vad29 y2 := xvE hv30 hg24
                    have hl : lv_has ls 9 [(7, .int 1), (6, .int y6), (5, .int y5), (4, .int y4), (3, .int y3), (0, .ref aM), (1, xv vad29 y1), (2, xv vad29 y2)] := by first | exact hl | ((try (rw [← ev32])); (try (rw [← ev33])); exact hl)
                    refine W.eq (g2 := F0 m 235 ls []) (by first | rfl | ((try (rw [ev32])); (try (rw [ev33])); rfl)) ?_
                    refine lv_iinc (v := (y6 + 1)) (lv' := [(6, .int (y6 + 1)), (7, .int 1), (5, .int y5), (4, .int y4), (3, .int y3), (0, .ref aM), (1, xv vad29 y1), (2, xv vad29 y2)]) hx hb dM_indices_235 hl (k := 1) rfl rfl (by decide) rfl (fun ls hl => ?_)
                    refine lv_goto (tgt := 95) hx hb dM_indices_238 (by decide) ?_
                    exact ih (1, (y6 + 1), y5, y4, y3, y1, y2, 0, (1 : Int32), o21.2.2, ((wc + o8.2.1) + o21.1), ((wn + o8.2.2.1) + o21.2.1)) _ _ ls (Or.inl ⟨ad27, gd28, vad29, rfl, hf, hP, hD, hS, lv_sub hl [0, 2, 3, 4, 5, 6, 7] rfl, hE, hN⟩)
                  rw [if_neg hk10] at hf
                  by_cases hk34 : o8.1 = 1
                  · rw [if_pos hk34] at hf
                    obtain ⟨hg35, hf⟩ := xifn hf
                    obtain ⟨hm36, hf⟩ := xmoE hf
                    obtain rfl := Option.some.inj hf
                    exact absurd (show (1 : Nat) = 0 from hkd) (by decide)
                  rw [if_neg hk34] at hf
                  exact nomatch hf
                · rw [if_pos hc] at hf
                  refine lv_iload hx hb dM_indices_155 (lv_at hl 1 rfl) ?_
                  refine xm_aload_n hx hb (xvor _ _) dM_indices_157 rfl (lv_at hl 7 rfl) ?_
                  obtain ⟨hg8, hf⟩ := xifn hf
                  refine xm_vget (v := .int ((xpi ws9 3) (y2 - 1))) hx hb htx hown hK hP 3 (by decide) hg8 rfl ((hZ.1 (103, "count", "I") (List.mem_of_getElem? (i := 3) rfl)).use rfl) rfl dM_indices_158 ?_
                  refine lv_iadd hx hb dM_indices_161 ?_
                  refine xm_aload_n hx hb (xvor _ _) dM_indices_162 rfl (lv_at hl 6 rfl) ?_
                  refine xm_vget (v := .int ((xpi ws9 3) (y1 - 1))) hx hb htx hown hK hP 3 (by decide) hg1 rfl ((hZ.1 (103, "count", "I") (List.mem_of_getElem? (i := 3) rfl)).use rfl) rfl dM_indices_163 ?_
                  refine lv_icmp_gt (tgt := 218) hx hb dM_indices_166 (by decide) (fun hc => ?_) (fun hc => ?_)
                  · rw [if_pos hc] at hf
                    refine lv_iload hx hb dM_indices_218 (lv_at hl 0 rfl) ?_
                    refine lv_if_eq (tgt := 235) hx hb dM_indices_220 (by decide) (fun h => ((by revert h; decide : False)).elim) (fun _ => ?_)
                    refine lv_aload_n hx hb dM_indices_223 rfl (lv_at hl 5 rfl) ?_
                    refine lv_null hx hb dM_indices_224 ?_
                    refine lv_aload_n hx hb dM_indices_225 rfl (lv_at hl 5 rfl) ?_
                    refine lv_iload hx hb dM_indices_226 (lv_at hl 1 rfl) ?_
                    refine lv_i2l hx hb dM_indices_228 rfl ?_
                    obtain ⟨o9, hq10, hf⟩ := xbind hf
                    by_cases hk11 : o9.1 = 0
                    · rw [if_pos hk11] at hf
                      obtain ⟨hm12, hf⟩ := xmoE hf
                      have hFc := xm_free hD hS hA
                      refine va_callq (va_runV (C := "ValueBenchModel") (As := [.long y6.toInt64]) (rest := [.null, .ref aM]) ⟨hx, hb, hml, hown, htx⟩ (gM_number l hl9 D cT aK aV H.size n aM adL rd gdL vadL ws9 y6.toInt64 o9 hq10 hk11) ⟨callB_of 1 htx (xw_goodC kw_6_88) rfl rfl rfl (htx _ kw_1_5) (htx _ kw_6_85) ⟨by decide, by decide, by decide +kernel⟩ ⟨Nat.le_of_ble_eq_true rfl, Nat.le_of_ble_eq_true rfl⟩, (htx _ kw_6_87), (htx _ kp_M_number)⟩ ⟨xPre_blind, va_recv hK hP (ci := 5) rfl (q0 := 0) rfl, (fun U hU hW => ⟨rfl, xPre_of hZ hS hFc hP hD hK U hU hW⟩)⟩ rfl rfl hl.1 rfl (xm_room (Nat.le_of_ble_eq_true rfl)) dM_indices_229 ⟨hm12.1, hm12.2⟩) hS (fun q _ h => hFc q h) hFc (fun r13 u9 t H1 locs ht hvm hr9 hB hz1 hk1 hS => ?_)
                      obtain ⟨hP1, hK1, hD1⟩ := hB
                      rw [ht] at hP1
                      obtain ⟨ad14, gd15, vad16⟩ := u9
                      obtain ⟨hr9, hv17, hn18⟩ := hr9
                      have hP : va_P D xcl (xMw cT aM ad14 rd gd15 vad16 o9.2.2.2.2 []) H1 := hP1
                      have hD : va_D A (xMw cT aM ad14 rd gd15 vad16 o9.2.2.2.2 []) := hD1.weaken (fun k q _ h => hFc q.1 h)
                      generalize H1 = H at hP hS ⊢
                      have hE9 : ∀ p, p < xct st → vad16 p = vad p := fun p h => (hv17 p (Nat.lt_of_lt_of_le h hN)).trans (hE p h)
                      have hE := hE9
                      have hN : xct st ≤ xct o9.2.2.2.2 := Nat.le_trans hN hn18
                      have ev19 : xv vadL y1 = xv vad16 y1 := xvE hv17 (fun h => hg1 (Or.inr h))
                      have ev20 : xv vadL y2 = xv vad16 y2 := xvE hv17 (fun h => hg8 (Or.inr h))
                      have hl : lv_has ls 9 [(7, .int 1), (6, .int y6), (5, .int y5), (4, .int y4), (3, .int y3), (0, .ref aM), (1, xv vad16 y1), (2, xv vad16 y2)] := by first | exact hl | ((try (rw [← ev19])); (try (rw [← ev20])); exact hl)
                      rw [hr9]
                      refine W.eq (g2 := F0 m 232 ls [xv vad16 o9.2.2.2.1, .null, .ref aM]) (by first | rfl | ((try (rw [ev19])); (try (rw [ev20])); rfl)) ?_
                      obtain ⟨o21, hq22, hf⟩ := xbind hf
                      obtain ⟨hg23, hf⟩ := xifn hf
                      obtain ⟨hg24, hf⟩ := xifn hf
                      obtain ⟨hm25, hf⟩ := xmoE hf
                      have hFc := xm_free hD hS hA
                      refine va_callv (va_runV (C := "ValueBenchModel") (As := [.null, xv vad16 o9.2.2.2.1]) (rest := []) ⟨hx, hb, hml, hown, htx⟩ (gM_wait l hl9 D cT aK aV H.size n aM ad14 rd gd15 vad16 o9.2.2.2.2 0 o9.2.2.2.1 o21 hq22) ⟨callB_of 2 htx (xw_goodC kw_6_112) rfl rfl rfl (htx _ kw_1_5) (htx _ kw_6_109) ⟨by decide, by decide, by decide +kernel⟩ ⟨Nat.le_of_ble_eq_true rfl, Nat.le_of_ble_eq_true rfl⟩, (htx _ kw_6_111), (htx _ kp_M_wait)⟩ ⟨xPre_blind, va_recv hK hP (ci := 5) rfl (q0 := 0) rfl, (fun U hU hW => ⟨rfl, xPre_of hZ hS hFc hP hD hK U hU hW⟩)⟩ rfl rfl hl.1 rfl (xm_room (Nat.le_of_ble_eq_true rfl)) dM_indices_232 ⟨hm25.1, hm25.2⟩) hS (fun q _ h => hFc q h) hFc (fun u9 t H1 locs ht hvm hr9 hB hz1 hk1 hS => ?_)
                      obtain ⟨hP1, hK1, hD1⟩ := hB
                      rw [ht] at hP1
                      obtain ⟨ad27, gd28, vad29⟩ := u9
                      obtain ⟨hv30, hn31⟩ := hr9
                      have hP : va_P D xcl (xMw cT aM ad27 rd gd28 vad29 o21.2.2 []) H1 := hP1
                      have hD : va_D A (xMw cT aM ad27 rd gd28 vad29 o21.2.2 []) := hD1.weaken (fun k q _ h => hFc q.1 h)
                      generalize H1 = H at hP hS ⊢
                      have hE9 : ∀ p, p < xct st → vad29 p = vad p := fun p h => (hv30 p (Nat.lt_of_lt_of_le h hN)).trans (hE p h)
                      have hE := hE9
                      have hN : xct st ≤ xct o21.2.2 := Nat.le_trans hN hn31
                      have ev32 : xv vad16 y1 = xv vad29 y1 := xvE hv30 hg23
                      have ev33 : xv vad16 y2 = xv vad29 y2 := xvE hv30 hg24
                      have hl : lv_has ls 9 [(7, .int 1), (6, .int y6), (5, .int y5), (4, .int y4), (3, .int y3), (0, .ref aM), (1, xv vad29 y1), (2, xv vad29 y2)] := by first | exact hl | ((try (rw [← ev32])); (try (rw [← ev33])); exact hl)
                      refine W.eq (g2 := F0 m 235 ls []) (by first | rfl | ((try (rw [ev32])); (try (rw [ev33])); rfl)) ?_
                      refine lv_iinc (v := (y6 + 1)) (lv' := [(6, .int (y6 + 1)), (7, .int 1), (5, .int y5), (4, .int y4), (3, .int y3), (0, .ref aM), (1, xv vad29 y1), (2, xv vad29 y2)]) hx hb dM_indices_235 hl (k := 1) rfl rfl (by decide) rfl (fun ls hl => ?_)
                      refine lv_goto (tgt := 95) hx hb dM_indices_238 (by decide) ?_
                      exact ih (1, (y6 + 1), y5, y4, y3, y1, y2, 0, (1 : Int32), o21.2.2, ((wc + o9.2.1) + o21.1), ((wn + o9.2.2.1) + o21.2.1)) _ _ ls (Or.inl ⟨ad27, gd28, vad29, rfl, hf, hP, hD, hS, lv_sub hl [0, 2, 3, 4, 5, 6, 7] rfl, hE, hN⟩)
                    rw [if_neg hk11] at hf
                    by_cases hk34 : o9.1 = 1
                    · rw [if_pos hk34] at hf
                      obtain ⟨hm35, hf⟩ := xmoE hf
                      obtain rfl := Option.some.inj hf
                      exact absurd (show (1 : Nat) = 0 from hkd) (by decide)
                    rw [if_neg hk34] at hf
                    exact nomatch hf
                  · rw [if_neg hc] at hf
                    refine lv_iconst (v := 1) hx hb dM_indices_169 (by decide) ?_
                    refine lv_istore (lv' := [(7, .int 1), (6, .int y6), (5, .int y5), (4, .int y4), (3, .int y3), (0, .ref aM), (1, xv vadL y1), (2, xv vadL y2)]) hx hb dM_indices_170 hl (by decide) rfl (fun ls hl => ?_)
                    refine lv_iconst (v := 0) hx hb dM_indices_172 (by decide) ?_
                    refine lv_istore (lv' := [(8, .int 0), (7, .int 1), (6, .int y6), (5, .int y5), (4, .int y4), (3, .int y3), (0, .ref aM), (1, xv vadL y1), (2, xv vadL y2)]) hx hb dM_indices_173 hl (by decide) rfl (fun ls hl => ?_)
                    exact ih (2, y6, y5, y4, y3, y1, y2, (0 : Int32), (1 : Int32), ws9, wc, wn) _ _ ls (Or.inr (⟨adL, gdL, vadL, rfl, hf, hP, hD, hS, lv_sub hl [0, 1, 2, 3, 4, 5, 6, 7, 8] rfl, hE, hN⟩))
        · rw [if_neg hc] at hf
          refine lv_aload_n hx hb dM_indices_108 rfl (lv_at hl 4 rfl) ?_
          refine xm_aload_n hx hb (xvor _ _) dM_indices_109 rfl (lv_at hl 5 rfl) ?_
          refine xm_aload_n hx hb (xvor _ _) dM_indices_110 rfl (lv_at hl 6 rfl) ?_
          refine lv_iload hx hb dM_indices_111 (lv_at hl 0 rfl) ?_
          obtain ⟨o2, hq3, hf⟩ := xbind hf
          have hFc := xm_free hD hS hA
          refine va_calli (va_runV (C := "ValueBenchModel") (As := [xv vadL y1, xv vadL y2, .int y6]) (rest := []) ⟨hx, hb, hml, hown, htx⟩ (gM_begins l hl9 D cT aK aV H.size n aM adL rd gdL vadL ws9 y1 y2 y6 o2 hq3) ⟨callB_of 3 htx (xw_goodC kw_7_95) rfl rfl rfl (htx _ kw_1_5) (htx _ kw_7_92) ⟨by decide, by decide, by decide +kernel⟩ ⟨Nat.le_of_ble_eq_true rfl, Nat.le_of_ble_eq_true rfl⟩, (htx _ kw_7_94), (htx _ kp_M_begins)⟩ ⟨xPre_blind, va_recv hK hP (ci := 5) rfl (q0 := 0) rfl, (fun U hU hW => ⟨rfl, xPre_of hZ hS hFc hP hD hK U hU hW⟩)⟩ rfl rfl hl.1 rfl (xm_room (Nat.le_of_ble_eq_true rfl)) dM_indices_113 ⟨hm0.1, hm0.2⟩) hS (fun q _ h => hFc q h) hFc (fun r4 u9 t H1 locs ht hvm hr9 hB hz1 hk1 hS => ?_)
          obtain ⟨hP1, hK1, hD1⟩ := hB
          rw [ht] at hP1
          have hP : va_P D xcl (xMw cT aM adL rd gdL vadL ws9 []) H1 := hP1
          have hD : va_D A (xMw cT aM adL rd gdL vadL ws9 []) := hD1.weaken (fun k q _ h => hFc q.1 h)
          generalize H1 = H at hP hS ⊢
          rw [hr9]
          refine W.eq (g2 := F0 m 116 ls [.int o2]) (by first | rfl | (skip; rfl)) ?_
          refine lv_goto (tgt := 144) hx hb dM_indices_116 (by decide) ?_
          refine lv_istore (lv' := [(7, .int o2), (6, .int y6), (5, .int y5), (4, .int y4), (3, .int y3), (0, .ref aM), (1, xv vadL y1), (2, xv vadL y2)]) hx hb dM_indices_144 hl (by decide) rfl (fun ls hl => ?_)
          refine lv_iload hx hb dM_indices_146 (lv_at hl 3 rfl) ?_
          refine lv_if_eq (tgt := 218) hx hb dM_indices_148 (by decide) (fun hc => ?_) (fun hc => ?_)
          · rw [if_pos hc] at hf
            refine lv_iload hx hb dM_indices_218 (lv_at hl 0 rfl) ?_
            refine lv_if_eq (tgt := 235) hx hb dM_indices_220 (by decide) (fun hc => ?_) (fun hc => ?_)
            · rw [if_pos hc] at hf
              refine lv_iinc (v := (y6 + 1)) (lv' := [(6, .int (y6 + 1)), (7, .int o2), (5, .int y5), (4, .int y4), (3, .int y3), (0, .ref aM), (1, xv vadL y1), (2, xv vadL y2)]) hx hb dM_indices_235 hl (k := 1) rfl rfl (by decide) rfl (fun ls hl => ?_)
              refine lv_goto (tgt := 95) hx hb dM_indices_238 (by decide) ?_
              exact ih (1, (y6 + 1), y5, y4, y3, y1, y2, 0, o2, ws9, wc, wn) _ _ ls (Or.inl ⟨adL, gdL, vadL, rfl, hf, hP, hD, hS, lv_sub hl [0, 2, 3, 4, 5, 6, 7] rfl, hE, hN⟩)
            · rw [if_neg hc] at hf
              refine lv_aload_n hx hb dM_indices_223 rfl (lv_at hl 5 rfl) ?_
              refine lv_null hx hb dM_indices_224 ?_
              refine lv_aload_n hx hb dM_indices_225 rfl (lv_at hl 5 rfl) ?_
              refine lv_iload hx hb dM_indices_226 (lv_at hl 1 rfl) ?_
              refine lv_i2l hx hb dM_indices_228 rfl ?_
              obtain ⟨o5, hq6, hf⟩ := xbind hf
              by_cases hk7 : o5.1 = 0
              · rw [if_pos hk7] at hf
                obtain ⟨hg8, hf⟩ := xifn hf
                obtain ⟨hm9, hf⟩ := xmoE hf
                have hFc := xm_free hD hS hA
                refine va_callq (va_runV (C := "ValueBenchModel") (As := [.long y6.toInt64]) (rest := [.null, .ref aM]) ⟨hx, hb, hml, hown, htx⟩ (gM_number l hl9 D cT aK aV H.size n aM adL rd gdL vadL ws9 y6.toInt64 o5 hq6 hk7) ⟨callB_of 1 htx (xw_goodC kw_6_88) rfl rfl rfl (htx _ kw_1_5) (htx _ kw_6_85) ⟨by decide, by decide, by decide +kernel⟩ ⟨Nat.le_of_ble_eq_true rfl, Nat.le_of_ble_eq_true rfl⟩, (htx _ kw_6_87), (htx _ kp_M_number)⟩ ⟨xPre_blind, va_recv hK hP (ci := 5) rfl (q0 := 0) rfl, (fun U hU hW => ⟨rfl, xPre_of hZ hS hFc hP hD hK U hU hW⟩)⟩ rfl rfl hl.1 rfl (xm_room (Nat.le_of_ble_eq_true rfl)) dM_indices_229 ⟨hm9.1, hm9.2⟩) hS (fun q _ h => hFc q h) hFc (fun r10 u9 t H1 locs ht hvm hr9 hB hz1 hk1 hS => ?_)
                obtain ⟨hP1, hK1, hD1⟩ := hB
                rw [ht] at hP1
                obtain ⟨ad11, gd12, vad13⟩ := u9
                obtain ⟨hr9, hv14, hn15⟩ := hr9
                have hP : va_P D xcl (xMw cT aM ad11 rd gd12 vad13 o5.2.2.2.2 []) H1 := hP1
                have hD : va_D A (xMw cT aM ad11 rd gd12 vad13 o5.2.2.2.2 []) := hD1.weaken (fun k q _ h => hFc q.1 h)
                generalize H1 = H at hP hS ⊢
                have hE9 : ∀ p, p < xct st → vad13 p = vad p := fun p h => (hv14 p (Nat.lt_of_lt_of_le h hN)).trans (hE p h)
                have hE := hE9
                have hN : xct st ≤ xct o5.2.2.2.2 := Nat.le_trans hN hn15
                have ev16 : xv vadL y1 = xv vad13 y1 := xvE hv14 (fun h => hg1 (Or.inr h))
                have ev17 : xv vadL y2 = xv vad13 y2 := xvE hv14 hg8
                have hl : lv_has ls 9 [(7, .int o2), (6, .int y6), (5, .int y5), (4, .int y4), (3, .int y3), (0, .ref aM), (1, xv vad13 y1), (2, xv vad13 y2)] := by first | exact hl | ((try (rw [← ev16])); (try (rw [← ev17])); exact hl)
                rw [hr9]
                refine W.eq (g2 := F0 m 232 ls [xv vad13 o5.2.2.2.1, .null, .ref aM]) (by first | rfl | ((try (rw [ev16])); (try (rw [ev17])); rfl)) ?_
                obtain ⟨o18, hq19, hf⟩ := xbind hf
                obtain ⟨hg20, hf⟩ := xifn hf
                obtain ⟨hg21, hf⟩ := xifn hf
                obtain ⟨hm22, hf⟩ := xmoE hf
                have hFc := xm_free hD hS hA
                refine va_callv (va_runV (C := "ValueBenchModel") (As := [.null, xv vad13 o5.2.2.2.1]) (rest := []) ⟨hx, hb, hml, hown, htx⟩ (gM_wait l hl9 D cT aK aV H.size n aM ad11 rd gd12 vad13 o5.2.2.2.2 0 o5.2.2.2.1 o18 hq19) ⟨callB_of 2 htx (xw_goodC kw_6_112) rfl rfl rfl (htx _ kw_1_5) (htx _ kw_6_109) ⟨by decide, by decide, by decide +kernel⟩ ⟨Nat.le_of_ble_eq_true rfl, Nat.le_of_ble_eq_true rfl⟩, (htx _ kw_6_111), (htx _ kp_M_wait)⟩ ⟨xPre_blind, va_recv hK hP (ci := 5) rfl (q0 := 0) rfl, (fun U hU hW => ⟨rfl, xPre_of hZ hS hFc hP hD hK U hU hW⟩)⟩ rfl rfl hl.1 rfl (xm_room (Nat.le_of_ble_eq_true rfl)) dM_indices_232 ⟨hm22.1, hm22.2⟩) hS (fun q _ h => hFc q h) hFc (fun u9 t H1 locs ht hvm hr9 hB hz1 hk1 hS => ?_)
                obtain ⟨hP1, hK1, hD1⟩ := hB
                rw [ht] at hP1
                obtain ⟨ad24, gd25, vad26⟩ := u9
                obtain ⟨hv27, hn28⟩ := hr9
                have hP : va_P D xcl (xMw cT aM ad24 rd gd25 vad26 o18.2.2 []) H1 := hP1
                have hD : va_D A (xMw cT aM ad24 rd gd25 vad26 o18.2.2 []) := hD1.weaken (fun k q _ h => hFc q.1 h)
                generalize H1 = H at hP hS ⊢
                have hE9 : ∀ p, p < xct st → vad26 p = vad p := fun p h => (hv27 p (Nat.lt_of_lt_of_le h hN)).trans (hE p h)
                have hE := hE9
                have hN : xct st ≤ xct o18.2.2 := Nat.le_trans hN hn28
                have ev29 : xv vad13 y1 = xv vad26 y1 := xvE hv27 hg20
                have ev30 : xv vad13 y2 = xv vad26 y2 := xvE hv27 hg21
                have hl : lv_has ls 9 [(7, .int o2), (6, .int y6), (5, .int y5), (4, .int y4), (3, .int y3), (0, .ref aM), (1, xv vad26 y1), (2, xv vad26 y2)] := by first | exact hl | ((try (rw [← ev29])); (try (rw [← ev30])); exact hl)
                refine W.eq (g2 := F0 m 235 ls []) (by first | rfl | ((try (rw [ev29])); (try (rw [ev30])); rfl)) ?_
                refine lv_iinc (v := (y6 + 1)) (lv' := [(6, .int (y6 + 1)), (7, .int o2), (5, .int y5), (4, .int y4), (3, .int y3), (0, .ref aM), (1, xv vad26 y1), (2, xv vad26 y2)]) hx hb dM_indices_235 hl (k := 1) rfl rfl (by decide) rfl (fun ls hl => ?_)
                refine lv_goto (tgt := 95) hx hb dM_indices_238 (by decide) ?_
                exact ih (1, (y6 + 1), y5, y4, y3, y1, y2, 0, o2, o18.2.2, ((wc + o5.2.1) + o18.1), ((wn + o5.2.2.1) + o18.2.1)) _ _ ls (Or.inl ⟨ad24, gd25, vad26, rfl, hf, hP, hD, hS, lv_sub hl [0, 2, 3, 4, 5, 6, 7] rfl, hE, hN⟩)
              rw [if_neg hk7] at hf
              by_cases hk31 : o5.1 = 1
              · rw [if_pos hk31] at hf
                obtain ⟨hg32, hf⟩ := xifn hf
                obtain ⟨hm33, hf⟩ := xmoE hf
                obtain rfl := Option.some.inj hf
                exact absurd (show (1 : Nat) = 0 from hkd) (by decide)
              rw [if_neg hk31] at hf
              exact nomatch hf
          · rw [if_neg hc] at hf
            refine lv_iload_n hx hb dM_indices_151 rfl (lv_at hl 4 rfl) ?_
            refine lv_if_ne (tgt := 218) hx hb dM_indices_152 (by decide) (fun hc => ?_) (fun hc => ?_)
            · rw [if_neg hc] at hf
              refine lv_iload hx hb dM_indices_218 (lv_at hl 0 rfl) ?_
              refine lv_if_eq (tgt := 235) hx hb dM_indices_220 (by decide) (fun hc => ?_) (fun hc => ?_)
              · rw [if_pos hc] at hf
                refine lv_iinc (v := (y6 + 1)) (lv' := [(6, .int (y6 + 1)), (7, .int o2), (5, .int y5), (4, .int y4), (3, .int y3), (0, .ref aM), (1, xv vadL y1), (2, xv vadL y2)]) hx hb dM_indices_235 hl (k := 1) rfl rfl (by decide) rfl (fun ls hl => ?_)
                refine lv_goto (tgt := 95) hx hb dM_indices_238 (by decide) ?_
                exact ih (1, (y6 + 1), y5, y4, y3, y1, y2, 0, o2, ws9, wc, wn) _ _ ls (Or.inl ⟨adL, gdL, vadL, rfl, hf, hP, hD, hS, lv_sub hl [0, 2, 3, 4, 5, 6, 7] rfl, hE, hN⟩)
              · rw [if_neg hc] at hf
                refine lv_aload_n hx hb dM_indices_223 rfl (lv_at hl 5 rfl) ?_
                refine lv_null hx hb dM_indices_224 ?_
                refine lv_aload_n hx hb dM_indices_225 rfl (lv_at hl 5 rfl) ?_
                refine lv_iload hx hb dM_indices_226 (lv_at hl 1 rfl) ?_
                refine lv_i2l hx hb dM_indices_228 rfl ?_
                obtain ⟨o5, hq6, hf⟩ := xbind hf
                by_cases hk7 : o5.1 = 0
                · rw [if_pos hk7] at hf
                  obtain ⟨hg8, hf⟩ := xifn hf
                  obtain ⟨hm9, hf⟩ := xmoE hf
                  have hFc := xm_free hD hS hA
                  refine va_callq (va_runV (C := "ValueBenchModel") (As := [.long y6.toInt64]) (rest := [.null, .ref aM]) ⟨hx, hb, hml, hown, htx⟩ (gM_number l hl9 D cT aK aV H.size n aM adL rd gdL vadL ws9 y6.toInt64 o5 hq6 hk7) ⟨callB_of 1 htx (xw_goodC kw_6_88) rfl rfl rfl (htx _ kw_1_5) (htx _ kw_6_85) ⟨by decide, by decide, by decide +kernel⟩ ⟨Nat.le_of_ble_eq_true rfl, Nat.le_of_ble_eq_true rfl⟩, (htx _ kw_6_87), (htx _ kp_M_number)⟩ ⟨xPre_blind, va_recv hK hP (ci := 5) rfl (q0 := 0) rfl, (fun U hU hW => ⟨rfl, xPre_of hZ hS hFc hP hD hK U hU hW⟩)⟩ rfl rfl hl.1 rfl (xm_room (Nat.le_of_ble_eq_true rfl)) dM_indices_229 ⟨hm9.1, hm9.2⟩) hS (fun q _ h => hFc q h) hFc (fun r10 u9 t H1 locs ht hvm hr9 hB hz1 hk1 hS => ?_)
                  obtain ⟨hP1, hK1, hD1⟩ := hB
                  rw [ht] at hP1
                  obtain ⟨ad11, gd12, vad13⟩ := u9
                  obtain ⟨hr9, hv14, hn15⟩ := hr9
                  have hP : va_P D xcl (xMw cT aM ad11 rd gd12 vad13 o5.2.2.2.2 []) H1 := hP1
                  have hD : va_D A (xMw cT aM ad11 rd gd12 vad13 o5.2.2.2.2 []) := hD1.weaken (fun k q _ h => hFc q.1 h)
                  generalize H1 = H at hP hS ⊢
                  have hE9 : ∀ p, p < xct st → vad13 p = vad p := fun p h => (hv14 p (Nat.lt_of_lt_of_le h hN)).trans (hE p h)
                  have hE := hE9
                  have hN : xct st ≤ xct o5.2.2.2.2 := Nat.le_trans hN hn15
                  have ev16 : xv vadL y1 = xv vad13 y1 := xvE hv14 (fun h => hg1 (Or.inr h))
                  have ev17 : xv vadL y2 = xv vad13 y2 := xvE hv14 hg8
                  have hl : lv_has ls 9 [(7, .int o2), (6, .int y6), (5, .int y5), (4, .int y4), (3, .int y3), (0, .ref aM), (1, xv vad13 y1), (2, xv vad13 y2)] := by first | exact hl | ((try (rw [← ev16])); (try (rw [← ev17])); exact hl)
                  rw [hr9]
                  refine W.eq (g2 := F0 m 232 ls [xv vad13 o5.2.2.2.1, .null, .ref aM]) (by first | rfl | ((try (rw [ev16])); (try (rw [ev17])); rfl)) ?_
                  obtain ⟨o18, hq19, hf⟩ := xbind hf
                  obtain ⟨hg20, hf⟩ := xifn hf
                  obtain ⟨hg21, hf⟩ := xifn hf
                  obtain ⟨hm22, hf⟩ := xmoE hf
                  have hFc := xm_free hD hS hA
                  refine va_callv (va_runV (C := "ValueBenchModel") (As := [.null, xv vad13 o5.2.2.2.1]) (rest := []) ⟨hx, hb, hml, hown, htx⟩ (gM_wait l hl9 D cT aK aV H.size n aM ad11 rd gd12 vad13 o5.2.2.2.2 0 o5.2.2.2.1 o18 hq19) ⟨callB_of 2 htx (xw_goodC kw_6_112) rfl rfl rfl (htx _ kw_1_5) (htx _ kw_6_109) ⟨by decide, by decide, by decide +kernel⟩ ⟨Nat.le_of_ble_eq_true rfl, Nat.le_of_ble_eq_true rfl⟩, (htx _ kw_6_111), (htx _ kp_M_wait)⟩ ⟨xPre_blind, va_recv hK hP (ci := 5) rfl (q0 := 0) rfl, (fun U hU hW => ⟨rfl, xPre_of hZ hS hFc hP hD hK U hU hW⟩)⟩ rfl rfl hl.1 rfl (xm_room (Nat.le_of_ble_eq_true rfl)) dM_indices_232 ⟨hm22.1, hm22.2⟩) hS (fun q _ h => hFc q h) hFc (fun u9 t H1 locs ht hvm hr9 hB hz1 hk1 hS => ?_)
                  obtain ⟨hP1, hK1, hD1⟩ := hB
                  rw [ht] at hP1
                  obtain ⟨ad24, gd25, vad26⟩ := u9
                  obtain ⟨hv27, hn28⟩ := hr9
                  have hP : va_P D xcl (xMw cT aM ad24 rd gd25 vad26 o18.2.2 []) H1 := hP1
                  have hD : va_D A (xMw cT aM ad24 rd gd25 vad26 o18.2.2 []) := hD1.weaken (fun k q _ h => hFc q.1 h)
                  generalize H1 = H at hP hS ⊢
                  have hE9 : ∀ p, p < xct st → vad26 p = vad p := fun p h => (hv27 p (Nat.lt_of_lt_of_le h hN)).trans (hE p h)
                  have hE := hE9
                  have hN : xct st ≤ xct o18.2.2 := Nat.le_trans hN hn28
                  have ev29 : xv vad13 y1 = xv vad26 y1 := xvE hv27 hg20
                  have ev30 : xv vad13 y2 = xv vad26 y2 := xvE hv27 hg21
                  have hl : lv_has ls 9 [(7, .int o2), (6, .int y6), (5, .int y5), (4, .int y4), (3, .int y3), (0, .ref aM), (1, xv vad26 y1), (2, xv vad26 y2)] := by first | exact hl | ((try (rw [← ev29])); (try (rw [← ev30])); exact hl)
                  refine W.eq (g2 := F0 m 235 ls []) (by first | rfl | ((try (rw [ev29])); (try (rw [ev30])); rfl)) ?_
                  refine lv_iinc (v := (y6 + 1)) (lv' := [(6, .int (y6 + 1)), (7, .int o2), (5, .int y5), (4, .int y4), (3, .int y3), (0, .ref aM), (1, xv vad26 y1), (2, xv vad26 y2)]) hx hb dM_indices_235 hl (k := 1) rfl rfl (by decide) rfl (fun ls hl => ?_)
                  refine lv_goto (tgt := 95) hx hb dM_indices_238 (by decide) ?_
                  exact ih (1, (y6 + 1), y5, y4, y3, y1, y2, 0, o2, o18.2.2, ((wc + o5.2.1) + o18.1), ((wn + o5.2.2.1) + o18.2.1)) _ _ ls (Or.inl ⟨ad24, gd25, vad26, rfl, hf, hP, hD, hS, lv_sub hl [0, 2, 3, 4, 5, 6, 7] rfl, hE, hN⟩)
                rw [if_neg hk7] at hf
                by_cases hk31 : o5.1 = 1
                · rw [if_pos hk31] at hf
                  obtain ⟨hg32, hf⟩ := xifn hf
                  obtain ⟨hm33, hf⟩ := xmoE hf
                  obtain rfl := Option.some.inj hf
                  exact absurd (show (1 : Nat) = 0 from hkd) (by decide)
                rw [if_neg hk31] at hf
                exact nomatch hf
            · rw [if_pos hc] at hf
              refine lv_iload hx hb dM_indices_155 (lv_at hl 1 rfl) ?_
              refine xm_aload_n hx hb (xvor _ _) dM_indices_157 rfl (lv_at hl 7 rfl) ?_
              obtain ⟨hg5, hf⟩ := xifn hf
              refine xm_vget (v := .int ((xpi ws9 3) (y2 - 1))) hx hb htx hown hK hP 3 (by decide) hg5 rfl ((hZ.1 (103, "count", "I") (List.mem_of_getElem? (i := 3) rfl)).use rfl) rfl dM_indices_158 ?_
              refine lv_iadd hx hb dM_indices_161 ?_
              refine xm_aload_n hx hb (xvor _ _) dM_indices_162 rfl (lv_at hl 6 rfl) ?_
              refine xm_vget (v := .int ((xpi ws9 3) (y1 - 1))) hx hb htx hown hK hP 3 (by decide) hg1 rfl ((hZ.1 (103, "count", "I") (List.mem_of_getElem? (i := 3) rfl)).use rfl) rfl dM_indices_163 ?_
              refine lv_icmp_gt (tgt := 218) hx hb dM_indices_166 (by decide) (fun hc => ?_) (fun hc => ?_)
              · rw [if_pos hc] at hf
                refine lv_iload hx hb dM_indices_218 (lv_at hl 0 rfl) ?_
                refine lv_if_eq (tgt := 235) hx hb dM_indices_220 (by decide) (fun hc => ?_) (fun hc => ?_)
                · rw [if_pos hc] at hf
                  refine lv_iinc (v := (y6 + 1)) (lv' := [(6, .int (y6 + 1)), (7, .int o2), (5, .int y5), (4, .int y4), (3, .int y3), (0, .ref aM), (1, xv vadL y1), (2, xv vadL y2)]) hx hb dM_indices_235 hl (k := 1) rfl rfl (by decide) rfl (fun ls hl => ?_)
                  refine lv_goto (tgt := 95) hx hb dM_indices_238 (by decide) ?_
                  exact ih (1, (y6 + 1), y5, y4, y3, y1, y2, 0, o2, ws9, wc, wn) _ _ ls (Or.inl ⟨adL, gdL, vadL, rfl, hf, hP, hD, hS, lv_sub hl [0, 2, 3, 4, 5, 6, 7] rfl, hE, hN⟩)
                · rw [if_neg hc] at hf
                  refine lv_aload_n hx hb dM_indices_223 rfl (lv_at hl 5 rfl) ?_
                  refine lv_null hx hb dM_indices_224 ?_
                  refine lv_aload_n hx hb dM_indices_225 rfl (lv_at hl 5 rfl) ?_
                  refine lv_iload hx hb dM_indices_226 (lv_at hl 1 rfl) ?_
                  refine lv_i2l hx hb dM_indices_228 rfl ?_
                  obtain ⟨o6, hq7, hf⟩ := xbind hf
                  by_cases hk8 : o6.1 = 0
                  · rw [if_pos hk8] at hf
                    obtain ⟨hm9, hf⟩ := xmoE hf
                    have hFc := xm_free hD hS hA
                    refine va_callq (va_runV (C := "ValueBenchModel") (As := [.long y6.toInt64]) (rest := [.null, .ref aM]) ⟨hx, hb, hml, hown, htx⟩ (gM_number l hl9 D cT aK aV H.size n aM adL rd gdL vadL ws9 y6.toInt64 o6 hq7 hk8) ⟨callB_of 1 htx (xw_goodC kw_6_88) rfl rfl rfl (htx _ kw_1_5) (htx _ kw_6_85) ⟨by decide, by decide, by decide +kernel⟩ ⟨Nat.le_of_ble_eq_true rfl, Nat.le_of_ble_eq_true rfl⟩, (htx _ kw_6_87), (htx _ kp_M_number)⟩ ⟨xPre_blind, va_recv hK hP (ci := 5) rfl (q0 := 0) rfl, (fun U hU hW => ⟨rfl, xPre_of hZ hS hFc hP hD hK U hU hW⟩)⟩ rfl rfl hl.1 rfl (xm_room (Nat.le_of_ble_eq_true rfl)) dM_indices_229 ⟨hm9.1, hm9.2⟩) hS (fun q _ h => hFc q h) hFc (fun r10 u9 t H1 locs ht hvm hr9 hB hz1 hk1 hS => ?_)
                    obtain ⟨hP1, hK1, hD1⟩ := hB
                    rw [ht] at hP1
                    obtain ⟨ad11, gd12, vad13⟩ := u9
                    obtain ⟨hr9, hv14, hn15⟩ := hr9
                    have hP : va_P D xcl (xMw cT aM ad11 rd gd12 vad13 o6.2.2.2.2 []) H1 := hP1
                    have hD : va_D A (xMw cT aM ad11 rd gd12 vad13 o6.2.2.2.2 []) := hD1.weaken (fun k q _ h => hFc q.1 h)
                    generalize H1 = H at hP hS ⊢
                    have hE9 : ∀ p, p < xct st → vad13 p = vad p := fun p h => (hv14 p (Nat.lt_of_lt_of_le h hN)).trans (hE p h)
                    have hE := hE9
                    have hN : xct st ≤ xct o6.2.2.2.2 := Nat.le_trans hN hn15
                    have ev16 : xv vadL y1 = xv vad13 y1 := xvE hv14 (fun h => hg1 (Or.inr h))
                    have ev17 : xv vadL y2 = xv vad13 y2 := xvE hv14 (fun h => hg5 (Or.inr h))
                    have hl : lv_has ls 9 [(7, .int o2), (6, .int y6), (5, .int y5), (4, .int y4), (3, .int y3), (0, .ref aM), (1, xv vad13 y1), (2, xv vad13 y2)] := by first | exact hl | ((try (rw [← ev16])); (try (rw [← ev17])); exact hl)
                    rw [hr9]
                    refine W.eq (g2 := F0 m 232 ls [xv vad13 o6.2.2.2.1, .null, .ref aM]) (by first | rfl | ((try (rw [ev16])); (try (rw [ev17])); rfl)) ?_
                    obtain ⟨o18, hq19, hf⟩ := xbind hf
                    obtain ⟨hg20, hf⟩ := xifn hf
                    obtain ⟨hg21, hf⟩ := xifn hf
                    obtain ⟨hm22, hf⟩ := xmoE hf
                    have hFc := xm_free hD hS hA
                    refine va_callv (va_runV (C := "ValueBenchModel") (As := [.null, xv vad13 o6.2.2.2.1]) (rest := []) ⟨hx, hb, hml, hown, htx⟩ (gM_wait l hl9 D cT aK aV H.size n aM ad11 rd gd12 vad13 o6.2.2.2.2 0 o6.2.2.2.1 o18 hq19) ⟨callB_of 2 htx (xw_goodC kw_6_112) rfl rfl rfl (htx _ kw_1_5) (htx _ kw_6_109) ⟨by decide, by decide, by decide +kernel⟩ ⟨Nat.le_of_ble_eq_true rfl, Nat.le_of_ble_eq_true rfl⟩, (htx _ kw_6_111), (htx _ kp_M_wait)⟩ ⟨xPre_blind, va_recv hK hP (ci := 5) rfl (q0 := 0) rfl, (fun U hU hW => ⟨rfl, xPre_of hZ hS hFc hP hD hK U hU hW⟩)⟩ rfl rfl hl.1 rfl (xm_room (Nat.le_of_ble_eq_true rfl)) dM_indices_232 ⟨hm22.1, hm22.2⟩) hS (fun q _ h => hFc q h) hFc (fun u9 t H1 locs ht hvm hr9 hB hz1 hk1 hS => ?_)
                    obtain ⟨hP1, hK1, hD1⟩ := hB
                    rw [ht] at hP1
                    obtain ⟨ad24, gd25, vad26⟩ := u9
                    obtain ⟨hv27, hn28⟩ := hr9
                    have hP : va_P D xcl (xMw cT aM ad24 rd gd25 vad26 o18.2.2 []) H1 := hP1
                    have hD : va_D A (xMw cT aM ad24 rd gd25 vad26 o18.2.2 []) := hD1.weaken (fun k q _ h => hFc q.1 h)
                    generalize H1 = H at hP hS ⊢
                    have hE9 : ∀ p, p < xct st → vad26 p = vad p := fun p h => (hv27 p (Nat.lt_of_lt_of_le h hN)).trans (hE p h)
                    have hE := hE9
                    have hN : xct st ≤ xct o18.2.2 := Nat.le_trans hN hn28
                    have ev29 : xv vad13 y1 = xv vad26 y1 := xvE hv27 hg20
                    have ev30 : xv vad13 y2 = xv vad26 y2 := xvE hv27 hg21
                    have hl : lv_has ls 9 [(7, .int o2), (6, .int y6), (5, .int y5), (4, .int y4), (3, .int y3), (0, .ref aM), (1, xv vad26 y1), (2, xv vad26 y2)] := by first | exact hl | ((try (rw [← ev29])); (try (rw [← ev30])); exact hl)
                    refine W.eq (g2 := F0 m 235 ls []) (by first | rfl | ((try (rw [ev29])); (try (rw [ev30])); rfl)) ?_
                    refine lv_iinc (v := (y6 + 1)) (lv' := [(6, .int (y6 + 1)), (7, .int o2), (5, .int y5), (4, .int y4), (3, .int y3), (0, .ref aM), (1, xv vad26 y1), (2, xv vad26 y2)]) hx hb dM_indices_235 hl (k := 1) rfl rfl (by decide) rfl (fun ls hl => ?_)
                    refine lv_goto (tgt := 95) hx hb dM_indices_238 (by decide) ?_
                    exact ih (1, (y6 + 1), y5, y4, y3, y1, y2, 0, o2, o18.2.2, ((wc + o6.2.1) + o18.1), ((wn + o6.2.2.1) + o18.2.1)) _ _ ls (Or.inl ⟨ad24, gd25, vad26, rfl, hf, hP, hD, hS, lv_sub hl [0, 2, 3, 4, 5, 6, 7] rfl, hE, hN⟩)
                  rw [if_neg hk8] at hf
                  by_cases hk31 : o6.1 = 1
                  · rw [if_pos hk31] at hf
                    obtain ⟨hm32, hf⟩ := xmoE hf
                    obtain rfl := Option.some.inj hf
                    exact absurd (show (1 : Nat) = 0 from hkd) (by decide)
                  rw [if_neg hk31] at hf
                  exact nomatch hf
              · rw [if_neg hc] at hf
                refine lv_iconst (v := 1) hx hb dM_indices_169 (by decide) ?_
                refine lv_istore (lv' := [(7, .int 1), (6, .int y6), (5, .int y5), (4, .int y4), (3, .int y3), (0, .ref aM), (1, xv vadL y1), (2, xv vadL y2)]) hx hb dM_indices_170 hl (by decide) rfl (fun ls hl => ?_)
                refine lv_iconst (v := 0) hx hb dM_indices_172 (by decide) ?_
                refine lv_istore (lv' := [(8, .int 0), (7, .int 1), (6, .int y6), (5, .int y5), (4, .int y4), (3, .int y3), (0, .ref aM), (1, xv vadL y1), (2, xv vadL y2)]) hx hb dM_indices_173 hl (by decide) rfl (fun ls hl => ?_)
                exact ih (2, y6, y5, y4, y3, y1, y2, (0 : Int32), (1 : Int32), ws9, wc, wn) _ _ ls (Or.inr (⟨adL, gdL, vadL, rfl, hf, hP, hD, hS, lv_sub hl [0, 1, 2, 3, 4, 5, 6, 7, 8] rfl, hE, hN⟩))
    · subst hj
      have hf : fM_indices_b d (n + 1) 2 y6 y5 y4 y3 y1 y2 y8 y7 ws9 wc wn = some out := hf
      rw [fM_indices_b, if_neg (by decide)] at hf
      obtain ⟨hP, hD⟩ : xPD D xcl A (xMw cT aM adL rd gdL vadL ws9 []) H := ⟨hP, hD⟩
      have hl : lv_has ls 9 [(8, .int y8), (7, .int y7), (6, .int y6), (5, .int y5), (4, .int y4), (3, .int y3), (0, .ref aM), (1, xv vadL y1), (2, xv vadL y2)] := hl
      refine W.eq (g2 := F0 m 175 ls []) rfl ?_
      show W p l e _ s m _ below meth c H locs wc wn _ _
      obtain ⟨hm0, hf⟩ := xmoE hf
      refine lv_iload hx hb dM_indices_175 (lv_at hl 0 rfl) ?_
      refine xm_aload_n hx hb (xvor _ _) dM_indices_177 rfl (lv_at hl 8 rfl) ?_
      obtain ⟨hg1, hf⟩ := xifn hf
      refine xm_vget (v := .int ((xpi ws9 3) (y2 - 1))) hx hb htx hown hK hP 3 (by decide) hg1 rfl ((hZ.1 (103, "count", "I") (List.mem_of_getElem? (i := 3) rfl)).use rfl) rfl dM_indices_178 ?_
      refine lv_icmp_ge (tgt := 218) hx hb dM_indices_181 (by decide) (fun hc => ?_) (fun hc => ?_)
      · rw [if_pos hc] at hf
        refine lv_iload hx hb dM_indices_218 (lv_at hl 1 rfl) ?_
        refine lv_if_eq (tgt := 235) hx hb dM_indices_220 (by decide) (fun hc => ?_) (fun hc => ?_)
        · rw [if_pos hc] at hf
          refine lv_iinc (v := (y6 + 1)) (lv' := [(6, .int (y6 + 1)), (8, .int y8), (7, .int y7), (5, .int y5), (4, .int y4), (3, .int y3), (0, .ref aM), (1, xv vadL y1), (2, xv vadL y2)]) hx hb dM_indices_235 hl (k := 2) rfl rfl (by decide) rfl (fun ls hl => ?_)
          refine lv_goto (tgt := 95) hx hb dM_indices_238 (by decide) ?_
          exact ih (1, (y6 + 1), y5, y4, y3, y1, y2, y8, y7, ws9, wc, wn) _ _ ls (Or.inl ⟨adL, gdL, vadL, rfl, hf, hP, hD, hS, lv_sub hl [0, 3, 4, 5, 6, 7, 8] rfl, hE, hN⟩)
        · rw [if_neg hc] at hf
          refine lv_aload_n hx hb dM_indices_223 rfl (lv_at hl 6 rfl) ?_
          refine lv_null hx hb dM_indices_224 ?_
          refine lv_aload_n hx hb dM_indices_225 rfl (lv_at hl 6 rfl) ?_
          refine lv_iload hx hb dM_indices_226 (lv_at hl 2 rfl) ?_
          refine lv_i2l hx hb dM_indices_228 rfl ?_
          obtain ⟨o2, hq3, hf⟩ := xbind hf
          by_cases hk4 : o2.1 = 0
          · rw [if_pos hk4] at hf
            obtain ⟨hg5, hf⟩ := xifn hf
            obtain ⟨hm6, hf⟩ := xmoE hf
            have hFc := xm_free hD hS hA
            refine va_callq (va_runV (C := "ValueBenchModel") (As := [.long y6.toInt64]) (rest := [.null, .ref aM]) ⟨hx, hb, hml, hown, htx⟩ (gM_number l hl9 D cT aK aV H.size n aM adL rd gdL vadL ws9 y6.toInt64 o2 hq3 hk4) ⟨callB_of 1 htx (xw_goodC kw_6_88) rfl rfl rfl (htx _ kw_1_5) (htx _ kw_6_85) ⟨by decide, by decide, by decide +kernel⟩ ⟨Nat.le_of_ble_eq_true rfl, Nat.le_of_ble_eq_true rfl⟩, (htx _ kw_6_87), (htx _ kp_M_number)⟩ ⟨xPre_blind, va_recv hK hP (ci := 5) rfl (q0 := 0) rfl, (fun U hU hW => ⟨rfl, xPre_of hZ hS hFc hP hD hK U hU hW⟩)⟩ rfl rfl hl.1 rfl (xm_room (Nat.le_of_ble_eq_true rfl)) dM_indices_229 ⟨hm6.1, hm6.2⟩) hS (fun q _ h => hFc q h) hFc (fun r7 u9 t H1 locs ht hvm hr9 hB hz1 hk1 hS => ?_)
            obtain ⟨hP1, hK1, hD1⟩ := hB
            rw [ht] at hP1
            obtain ⟨ad8, gd9, vad10⟩ := u9
            obtain ⟨hr9, hv11, hn12⟩ := hr9
            have hP : va_P D xcl (xMw cT aM ad8 rd gd9 vad10 o2.2.2.2.2 []) H1 := hP1
            have hD : va_D A (xMw cT aM ad8 rd gd9 vad10 o2.2.2.2.2 []) := hD1.weaken (fun k q _ h => hFc q.1 h)
            generalize H1 = H at hP hS ⊢
            have hE9 : ∀ p, p < xct st → vad10 p = vad p := fun p h => (hv11 p (Nat.lt_of_lt_of_le h hN)).trans (hE p h)
            have hE := hE9
            have hN : xct st ≤ xct o2.2.2.2.2 := Nat.le_trans hN hn12
            have ev13 : xv vadL y1 = xv vad10 y1 := xvE hv11 hg5
            have ev14 : xv vadL y2 = xv vad10 y2 := xvE hv11 (fun h => hg1 (Or.inr h))
            have hl : lv_has ls 9 [(8, .int y8), (7, .int y7), (6, .int y6), (5, .int y5), (4, .int y4), (3, .int y3), (0, .ref aM), (1, xv vad10 y1), (2, xv vad10 y2)] := by first | exact hl | ((try (rw [← ev13])); (try (rw [← ev14])); exact hl)
            rw [hr9]
            refine W.eq (g2 := F0 m 232 ls [xv vad10 o2.2.2.2.1, .null, .ref aM]) (by first | rfl | ((try (rw [ev13])); (try (rw [ev14])); rfl)) ?_
            obtain ⟨o15, hq16, hf⟩ := xbind hf
            obtain ⟨hg17, hf⟩ := xifn hf
            obtain ⟨hg18, hf⟩ := xifn hf
            obtain ⟨hm19, hf⟩ := xmoE hf
            have hFc := xm_free hD hS hA
            refine va_callv (va_runV (C := "ValueBenchModel") (As := [.null, xv vad10 o2.2.2.2.1]) (rest := []) ⟨hx, hb, hml, hown, htx⟩ (gM_wait l hl9 D cT aK aV H.size n aM ad8 rd gd9 vad10 o2.2.2.2.2 0 o2.2.2.2.1 o15 hq16) ⟨callB_of 2 htx (xw_goodC kw_6_112) rfl rfl rfl (htx _ kw_1_5) (htx _ kw_6_109) ⟨by decide, by decide, by decide +kernel⟩ ⟨Nat.le_of_ble_eq_true rfl, Nat.le_of_ble_eq_true rfl⟩, (htx _ kw_6_111), (htx _ kp_M_wait)⟩ ⟨xPre_blind, va_recv hK hP (ci := 5) rfl (q0 := 0) rfl, (fun U hU hW => ⟨rfl, xPre_of hZ hS hFc hP hD hK U hU hW⟩)⟩ rfl rfl hl.1 rfl (xm_room (Nat.le_of_ble_eq_true rfl)) dM_indices_232 ⟨hm19.1, hm19.2⟩) hS (fun q _ h => hFc q h) hFc (fun u9 t H1 locs ht hvm hr9 hB hz1 hk1 hS => ?_)
            obtain ⟨hP1, hK1, hD1⟩ := hB
            rw [ht] at hP1
            obtain ⟨ad21, gd22, vad23⟩ := u9
            obtain ⟨hv24, hn25⟩ := hr9
            have hP : va_P D xcl (xMw cT aM ad21 rd gd22 vad23 o15.2.2 []) H1 := hP1
            have hD : va_D A (xMw cT aM ad21 rd gd22 vad23 o15.2.2 []) := hD1.weaken (fun k q _ h => hFc q.1 h)
            generalize H1 = H at hP hS ⊢
            have hE9 : ∀ p, p < xct st → vad23 p = vad p := fun p h => (hv24 p (Nat.lt_of_lt_of_le h hN)).trans (hE p h)
            have hE := hE9
            have hN : xct st ≤ xct o15.2.2 := Nat.le_trans hN hn25
            have ev26 : xv vad10 y1 = xv vad23 y1 := xvE hv24 hg17
            have ev27 : xv vad10 y2 = xv vad23 y2 := xvE hv24 hg18
            have hl : lv_has ls 9 [(8, .int y8), (7, .int y7), (6, .int y6), (5, .int y5), (4, .int y4), (3, .int y3), (0, .ref aM), (1, xv vad23 y1), (2, xv vad23 y2)] := by first | exact hl | ((try (rw [← ev26])); (try (rw [← ev27])); exact hl)
            refine W.eq (g2 := F0 m 235 ls []) (by first | rfl | ((try (rw [ev26])); (try (rw [ev27])); rfl)) ?_
            refine lv_iinc (v := (y6 + 1)) (lv' := [(6, .int (y6 + 1)), (8, .int y8), (7, .int y7), (5, .int y5), (4, .int y4), (3, .int y3), (0, .ref aM), (1, xv vad23 y1), (2, xv vad23 y2)]) hx hb dM_indices_235 hl (k := 2) rfl rfl (by decide) rfl (fun ls hl => ?_)
            refine lv_goto (tgt := 95) hx hb dM_indices_238 (by decide) ?_
            exact ih (1, (y6 + 1), y5, y4, y3, y1, y2, y8, y7, o15.2.2, ((wc + o2.2.1) + o15.1), ((wn + o2.2.2.1) + o15.2.1)) _ _ ls (Or.inl ⟨ad21, gd22, vad23, rfl, hf, hP, hD, hS, lv_sub hl [0, 3, 4, 5, 6, 7, 8] rfl, hE, hN⟩)
          rw [if_neg hk4] at hf
          by_cases hk28 : o2.1 = 1
          · rw [if_pos hk28] at hf
            obtain ⟨hg29, hf⟩ := xifn hf
            obtain ⟨hm30, hf⟩ := xmoE hf
            obtain rfl := Option.some.inj hf
            exact absurd (show (1 : Nat) = 0 from hkd) (by decide)
          rw [if_neg hk28] at hf
          exact nomatch hf
      · rw [if_neg hc] at hf
        refine lv_iload hx hb dM_indices_184 (lv_at hl 1 rfl) ?_
        refine lv_if_eq (tgt := 218) hx hb dM_indices_186 (by decide) (fun hc => ?_) (fun hc => ?_)
        · rw [if_pos hc] at hf
          refine lv_iload hx hb dM_indices_218 (lv_at hl 1 rfl) ?_
          refine lv_if_eq (tgt := 235) hx hb dM_indices_220 (by decide) (fun hc => ?_) (fun hc => ?_)
          · rw [if_pos hc] at hf
            refine lv_iinc (v := (y6 + 1)) (lv' := [(6, .int (y6 + 1)), (8, .int y8), (7, .int y7), (5, .int y5), (4, .int y4), (3, .int y3), (0, .ref aM), (1, xv vadL y1), (2, xv vadL y2)]) hx hb dM_indices_235 hl (k := 2) rfl rfl (by decide) rfl (fun ls hl => ?_)
            refine lv_goto (tgt := 95) hx hb dM_indices_238 (by decide) ?_
            exact ih (1, (y6 + 1), y5, y4, y3, y1, y2, y8, y7, ws9, wc, wn) _ _ ls (Or.inl ⟨adL, gdL, vadL, rfl, hf, hP, hD, hS, lv_sub hl [0, 3, 4, 5, 6, 7, 8] rfl, hE, hN⟩)
          · rw [if_neg hc] at hf
            refine lv_aload_n hx hb dM_indices_223 rfl (lv_at hl 6 rfl) ?_
            refine lv_null hx hb dM_indices_224 ?_
            refine lv_aload_n hx hb dM_indices_225 rfl (lv_at hl 6 rfl) ?_
            refine lv_iload hx hb dM_indices_226 (lv_at hl 2 rfl) ?_
            refine lv_i2l hx hb dM_indices_228 rfl ?_
            obtain ⟨o2, hq3, hf⟩ := xbind hf
            by_cases hk4 : o2.1 = 0
            · rw [if_pos hk4] at hf
              obtain ⟨hg5, hf⟩ := xifn hf
              obtain ⟨hm6, hf⟩ := xmoE hf
              have hFc := xm_free hD hS hA
              refine va_callq (va_runV (C := "ValueBenchModel") (As := [.long y6.toInt64]) (rest := [.null, .ref aM]) ⟨hx, hb, hml, hown, htx⟩ (gM_number l hl9 D cT aK aV H.size n aM adL rd gdL vadL ws9 y6.toInt64 o2 hq3 hk4) ⟨callB_of 1 htx (xw_goodC kw_6_88) rfl rfl rfl (htx _ kw_1_5) (htx _ kw_6_85) ⟨by decide, by decide, by decide +kernel⟩ ⟨Nat.le_of_ble_eq_true rfl, Nat.le_of_ble_eq_true rfl⟩, (htx _ kw_6_87), (htx _ kp_M_number)⟩ ⟨xPre_blind, va_recv hK hP (ci := 5) rfl (q0 := 0) rfl, (fun U hU hW => ⟨rfl, xPre_of hZ hS hFc hP hD hK U hU hW⟩)⟩ rfl rfl hl.1 rfl (xm_room (Nat.le_of_ble_eq_true rfl)) dM_indices_229 ⟨hm6.1, hm6.2⟩) hS (fun q _ h => hFc q h) hFc (fun r7 u9 t H1 locs ht hvm hr9 hB hz1 hk1 hS => ?_)
              obtain ⟨hP1, hK1, hD1⟩ := hB
              rw [ht] at hP1
              obtain ⟨ad8, gd9, vad10⟩ := u9
              obtain ⟨hr9, hv11, hn12⟩ := hr9
              have hP : va_P D xcl (xMw cT aM ad8 rd gd9 vad10 o2.2.2.2.2 []) H1 := hP1
              have hD : va_D A (xMw cT aM ad8 rd gd9 vad10 o2.2.2.2.2 []) := hD1.weaken (fun k q _ h => hFc q.1 h)
              generalize H1 = H at hP hS ⊢
              have hE9 : ∀ p, p < xct st → vad10 p = vad p := fun p h => (hv11 p (Nat.lt_of_lt_of_le h hN)).trans (hE p h)
              have hE := hE9
              have hN : xct st ≤ xct o2.2.2.2.2 := Nat.le_trans hN hn12
              have ev13 : xv vadL y1 = xv vad10 y1 := xvE hv11 hg5
              have ev14 : xv vadL y2 = xv vad10 y2 := xvE hv11 (fun h => hg1 (Or.inr h))
              have hl : lv_has ls 9 [(8, .int y8), (7, .int y7), (6, .int y6), (5, .int y5), (4, .int y4), (3, .int y3), (0, .ref aM), (1, xv vad10 y1), (2, xv vad10 y2)] := by first | exact hl | ((try (rw [← ev13])); (try (rw [← ev14])); exact hl)
              rw [hr9]
              refine W.eq (g2 := F0 m 232 ls [xv vad10 o2.2.2.2.1, .null, .ref aM]) (by first | rfl | ((try (rw [ev13])); (try (rw [ev14])); rfl)) ?_
              obtain ⟨o15, hq16, hf⟩ := xbind hf
              obtain ⟨hg17, hf⟩ := xifn hf
              obtain ⟨hg18, hf⟩ := xifn hf
              obtain ⟨hm19, hf⟩ := xmoE hf
              have hFc := xm_free hD hS hA
              refine va_callv (va_runV (C := "ValueBenchModel") (As := [.null, xv vad10 o2.2.2.2.1]) (rest := []) ⟨hx, hb, hml, hown, htx⟩ (gM_wait l hl9 D cT aK aV H.size n aM ad8 rd gd9 vad10 o2.2.2.2.2 0 o2.2.2.2.1 o15 hq16) ⟨callB_of 2 htx (xw_goodC kw_6_112) rfl rfl rfl (htx _ kw_1_5) (htx _ kw_6_109) ⟨by decide, by decide, by decide +kernel⟩ ⟨Nat.le_of_ble_eq_true rfl, Nat.le_of_ble_eq_true rfl⟩, (htx _ kw_6_111), (htx _ kp_M_wait)⟩ ⟨xPre_blind, va_recv hK hP (ci := 5) rfl (q0 := 0) rfl, (fun U hU hW => ⟨rfl, xPre_of hZ hS hFc hP hD hK U hU hW⟩)⟩ rfl rfl hl.1 rfl (xm_room (Nat.le_of_ble_eq_true rfl)) dM_indices_232 ⟨hm19.1, hm19.2⟩) hS (fun q _ h => hFc q h) hFc (fun u9 t H1 locs ht hvm hr9 hB hz1 hk1 hS => ?_)
              obtain ⟨hP1, hK1, hD1⟩ := hB
              rw [ht] at hP1
              obtain ⟨ad21, gd22, vad23⟩ := u9
              obtain ⟨hv24, hn25⟩ := hr9
              have hP : va_P D xcl (xMw cT aM ad21 rd gd22 vad23 o15.2.2 []) H1 := hP1
              have hD : va_D A (xMw cT aM ad21 rd gd22 vad23 o15.2.2 []) := hD1.weaken (fun k q _ h => hFc q.1 h)
              generalize H1 = H at hP hS ⊢
              have hE9 : ∀ p, p < xct st → vad23 p = vad p := fun p h => (hv24 p (Nat.lt_of_lt_of_le h hN)).trans (hE p h)
              have hE := hE9
              have hN : xct st ≤ xct o15.2.2 := Nat.le_trans hN hn25
              have ev26 : xv vad10 y1 = xv vad23 y1 := xvE hv24 hg17
              have ev27 : xv vad10 y2 = xv vad23 y2 := xvE hv24 hg18
              have hl : lv_has ls 9 [(8, .int y8), (7, .int y7), (6, .int y6), (5, .int y5), (4, .int y4), (3, .int y3), (0, .ref aM), (1, xv vad23 y1), (2, xv vad23 y2)] := by first | exact hl | ((try (rw [← ev26])); (try (rw [← ev27])); exact hl)
              refine W.eq (g2 := F0 m 235 ls []) (by first | rfl | ((try (rw [ev26])); (try (rw [ev27])); rfl)) ?_
              refine lv_iinc (v := (y6 + 1)) (lv' := [(6, .int (y6 + 1)), (8, .int y8), (7, .int y7), (5, .int y5), (4, .int y4), (3, .int y3), (0, .ref aM), (1, xv vad23 y1), (2, xv vad23 y2)]) hx hb dM_indices_235 hl (k := 2) rfl rfl (by decide) rfl (fun ls hl => ?_)
              refine lv_goto (tgt := 95) hx hb dM_indices_238 (by decide) ?_
              exact ih (1, (y6 + 1), y5, y4, y3, y1, y2, y8, y7, o15.2.2, ((wc + o2.2.1) + o15.1), ((wn + o2.2.2.1) + o15.2.1)) _ _ ls (Or.inl ⟨ad21, gd22, vad23, rfl, hf, hP, hD, hS, lv_sub hl [0, 3, 4, 5, 6, 7, 8] rfl, hE, hN⟩)
            rw [if_neg hk4] at hf
            by_cases hk28 : o2.1 = 1
            · rw [if_pos hk28] at hf
              obtain ⟨hg29, hf⟩ := xifn hf
              obtain ⟨hm30, hf⟩ := xmoE hf
              obtain rfl := Option.some.inj hf
              exact absurd (show (1 : Nat) = 0 from hkd) (by decide)
            rw [if_neg hk28] at hf
            exact nomatch hf
        · rw [if_neg hc] at hf
          refine lv_aload_n hx hb dM_indices_189 rfl (lv_at hl 6 rfl) ?_
          refine lv_aload_n hx hb dM_indices_190 rfl (lv_at hl 6 rfl) ?_
          refine xm_aload_n hx hb (xvor _ _) dM_indices_191 rfl (lv_at hl 7 rfl) ?_
          refine lv_iload hx hb dM_indices_192 (lv_at hl 2 rfl) ?_
          refine lv_iload hx hb dM_indices_194 (lv_at hl 0 rfl) ?_
          refine lv_iadd hx hb dM_indices_196 ?_
          obtain ⟨o2, hq3, hf⟩ := xbind hf
          have hFc := xm_free hD hS hA
          refine va_callq (va_runV (C := "ValueBenchModel") (As := [xv vadL y1, .int (y6 + y8)]) (rest := [.ref aM]) ⟨hx, hb, hml, hown, htx⟩ (gM_kid l hl9 D cT aK aV H.size n aM adL rd gdL vadL ws9 y1 (y6 + y8) o2 hq3) ⟨callB_of 2 htx (xw_goodC kw_6_158) rfl rfl rfl (htx _ kw_1_5) (htx _ kw_6_155) ⟨by decide, by decide, by decide +kernel⟩ ⟨Nat.le_of_ble_eq_true rfl, Nat.le_of_ble_eq_true rfl⟩, (htx _ kw_6_157), (htx _ kp_M_kid)⟩ ⟨xPre_blind, va_recv hK hP (ci := 5) rfl (q0 := 0) rfl, (fun U hU hW => ⟨rfl, xPre_of hZ hS hFc hP hD hK U hU hW⟩)⟩ rfl rfl hl.1 rfl (xm_room (Nat.le_of_ble_eq_true rfl)) dM_indices_197 ⟨hm0.1, hm0.2⟩) hS (fun q _ h => hFc q h) hFc (fun r4 u9 t H1 locs ht hvm hr9 hB hz1 hk1 hS => ?_)
          obtain ⟨hP1, hK1, hD1⟩ := hB
          rw [ht] at hP1
          have hP : va_P D xcl (xMw cT aM adL rd gdL vadL ws9 []) H1 := hP1
          have hD : va_D A (xMw cT aM adL rd gdL vadL ws9 []) := hD1.weaken (fun k q _ h => hFc q.1 h)
          generalize H1 = H at hP hS ⊢
          rw [hr9]
          refine W.eq (g2 := F0 m 200 ls [xv vadL o2, .ref aM]) (by first | rfl | (skip; rfl)) ?_
          refine lv_aload_n hx hb dM_indices_200 rfl (lv_at hl 6 rfl) ?_
          refine xm_aload_n hx hb (xvor _ _) dM_indices_201 rfl (lv_at hl 8 rfl) ?_
          refine lv_iload hx hb dM_indices_202 (lv_at hl 0 rfl) ?_
          obtain ⟨o5, hq6, hf⟩ := xbind hf
          have hFc := xm_free hD hS hA
          refine va_callq (va_runV (C := "ValueBenchModel") (As := [xv vadL y2, .int y8]) (rest := [xv vadL o2, .ref aM]) ⟨hx, hb, hml, hown, htx⟩ (gM_kid l hl9 D cT aK aV H.size n aM adL rd gdL vadL ws9 y2 y8 o5 hq6) ⟨callB_of 2 htx (xw_goodC kw_6_158) rfl rfl rfl (htx _ kw_1_5) (htx _ kw_6_155) ⟨by decide, by decide, by decide +kernel⟩ ⟨Nat.le_of_ble_eq_true rfl, Nat.le_of_ble_eq_true rfl⟩, (htx _ kw_6_157), (htx _ kp_M_kid)⟩ ⟨xPre_blind, va_recv hK hP (ci := 5) rfl (q0 := 0) rfl, (fun U hU hW => ⟨rfl, xPre_of hZ hS hFc hP hD hK U hU hW⟩)⟩ rfl rfl hl.1 rfl (xm_room (by simp [xvcat, xrscat, xcI, xcL, xcR, xcN])) dM_indices_204 ⟨hm0.1, hm0.2⟩) hS (fun q _ h => hFc q h) hFc (fun r7 u9 t H1 locs ht hvm hr9 hB hz1 hk1 hS => ?_)
          obtain ⟨hP1, hK1, hD1⟩ := hB
          rw [ht] at hP1
          have hP : va_P D xcl (xMw cT aM adL rd gdL vadL ws9 []) H1 := hP1
          have hD : va_D A (xMw cT aM adL rd gdL vadL ws9 []) := hD1.weaken (fun k q _ h => hFc q.1 h)
          generalize H1 = H at hP hS ⊢
          rw [hr9]
          refine W.eq (g2 := F0 m 207 ls [xv vadL o5, xv vadL o2, .ref aM]) (by first | rfl | (skip; rfl)) ?_
          obtain ⟨o8, hq9, hf⟩ := xbind hf
          have hFc := xm_free hD hS hA
          refine va_calli (va_runV (C := "ValueBenchModel") (As := [xv vadL o2, xv vadL o5]) (rest := []) ⟨hx, hb, hml, hown, htx⟩ (gM_same1 l hl9 D cT aK aV d H.size n aM adL rd gdL vadL ws9 o2 o5 o8 hq9) ⟨callB_of 2 htx (xw_goodC kw_6_174) rfl rfl rfl (htx _ kw_1_5) (htx _ kw_6_171) ⟨by decide, by decide, by decide +kernel⟩ ⟨(by show (16 * d) + 1 ≤ 16 * d + 8; omega), (by show 8 + (5 + 11) + (400 * d) ≤ 400 * d + 147; omega)⟩, (htx _ kw_6_173), (htx _ kp_M_same1)⟩ ⟨xPre_blind, va_recv hK hP (ci := 5) rfl (q0 := 0) rfl, (fun U hU hW => ⟨rfl, xPre_of hZ hS hFc hP hD hK U hU hW⟩)⟩ rfl rfl hl.1 rfl (xm_room (Nat.le_of_ble_eq_true rfl)) dM_indices_207 ⟨hm0.1, hm0.2⟩) hS (fun q _ h => hFc q h) hFc (fun r10 u9 t H1 locs ht hvm hr9 hB hz1 hk1 hS => ?_)
          obtain ⟨hP1, hK1, hD1⟩ := hB
          rw [ht] at hP1
          have hP : va_P D xcl (xMw cT aM adL rd gdL vadL ws9 []) H1 := hP1
          have hD : va_D A (xMw cT aM adL rd gdL vadL ws9 []) := hD1.weaken (fun k q _ h => hFc q.1 h)
          generalize H1 = H at hP hS ⊢
          rw [hr9]
          refine W.eq (g2 := F0 m 210 ls [.int o8]) (by first | rfl | (skip; rfl)) ?_
          refine lv_istore (lv' := [(7, .int o8), (8, .int y8), (6, .int y6), (5, .int y5), (4, .int y4), (3, .int y3), (0, .ref aM), (1, xv vadL y1), (2, xv vadL y2)]) hx hb dM_indices_210 hl (by decide) rfl (fun ls hl => ?_)
          refine lv_iinc (v := (y8 + 1)) (lv' := [(8, .int (y8 + 1)), (7, .int o8), (6, .int y6), (5, .int y5), (4, .int y4), (3, .int y3), (0, .ref aM), (1, xv vadL y1), (2, xv vadL y2)]) hx hb dM_indices_212 hl (k := 1) rfl rfl (by decide) rfl (fun ls hl => ?_)
          refine lv_goto (tgt := 175) hx hb dM_indices_215 (by decide) ?_
          exact ih (2, y6, y5, y4, y3, y1, y2, (y8 + 1), o8, ws9, wc, wn) _ _ ls (Or.inr (⟨adL, gdL, vadL, rfl, hf, hP, hD, hS, lv_sub hl [0, 1, 2, 3, 4, 5, 6, 7, 8] rfl, hE, hN⟩))
  refine xm_aload_n hx hb (xvor _ _) dM_indices_0 rfl (lv_at hl 1 rfl) ?_
  obtain ⟨hg1, hf⟩ := xifn hf
  refine xm_vget (v := .int ((xpi st 0) (c0 - 1))) hx hb htx hown hK hP 0 (by decide) hg1 rfl ((hZ.1 (93, "kind", "I") (List.mem_of_getElem? (i := 0) rfl)).use rfl) rfl dM_indices_1 ?_
  refine lv_if_ne (tgt := 9) hx hb dM_indices_4 (by decide) (fun hc => ?_) (fun hc => ?_)
  · rw [if_neg hc] at hf
    refine xm_aload_n hx hb (xvor _ _) dM_indices_9 rfl (lv_at hl 1 rfl) ?_
    refine xm_vget (v := .int ((xpi st 0) (c0 - 1))) hx hb htx hown hK hP 0 (by decide) hg1 rfl ((hZ.1 (93, "kind", "I") (List.mem_of_getElem? (i := 0) rfl)).use rfl) rfl dM_indices_10 ?_
    refine lv_iconst (v := 4) hx hb dM_indices_13 (by decide) ?_
    refine lv_icmp_ne (tgt := 29) hx hb dM_indices_14 (by decide) (fun hc => ?_) (fun hc => ?_)
    · rw [if_neg hc] at hf
      refine lv_iconst (v := 0) hx hb dM_indices_29 (by decide) ?_
      refine lv_istore_n (lv' := [(3, .int 0), (0, .ref aM), (1, xv vad c0), (2, xv vad c1)]) hx hb dM_indices_30 rfl hl (by decide) (by simp only [List.filter, xvcat, xrscat, xcI, xcL, xcR, xcN]; rfl) (fun ls hl => ?_)
      refine lv_iload_n hx hb dM_indices_31 rfl (lv_at hl 0 rfl) ?_
      refine lv_if_ne (tgt := 49) hx hb dM_indices_32 (by decide) (fun h => ((by revert h; decide : False)).elim) (fun _ => ?_)
      refine xm_aload_n hx hb (xvor _ _) dM_indices_35 rfl (lv_at hl 2 rfl) ?_
      refine xm_vget (v := .int ((xpi st 0) (c0 - 1))) hx hb htx hown hK hP 0 (by decide) hg1 rfl ((hZ.1 (93, "kind", "I") (List.mem_of_getElem? (i := 0) rfl)).use rfl) rfl dM_indices_36 ?_
      refine lv_iconst (v := 5) hx hb dM_indices_39 (by decide) ?_
      refine lv_icmp_eq (tgt := 49) hx hb dM_indices_40 (by decide) (fun hc => ?_) (fun hc => ?_)
      · rw [if_pos hc] at hf
        refine xm_aload_n hx hb (xvor _ _) dM_indices_49 rfl (lv_at hl 3 rfl) ?_
        obtain ⟨hg2, hf⟩ := xifn hf
        refine xm_vget (v := .int ((xpi st 0) (c1 - 1))) hx hb htx hown hK hP 0 (by decide) hg2 rfl ((hZ.1 (93, "kind", "I") (List.mem_of_getElem? (i := 0) rfl)).use rfl) rfl dM_indices_50 ?_
        refine lv_iconst (v := 5) hx hb dM_indices_53 (by decide) ?_
        refine lv_icmp_ne (tgt := 61) hx hb dM_indices_54 (by decide) (fun hc => ?_) (fun hc => ?_)
        · rw [if_neg hc] at hf
          refine lv_iconst (v := 0) hx hb dM_indices_61 (by decide) ?_
          refine lv_istore (lv' := [(4, .int 0), (3, .int 0), (0, .ref aM), (1, xv vad c0), (2, xv vad c1)]) hx hb dM_indices_62 hl (by decide) rfl (fun ls hl => ?_)
          refine lv_iload_n hx hb dM_indices_64 rfl (lv_at hl 1 rfl) ?_
          refine lv_if_ne (tgt := 73) hx hb dM_indices_65 (by decide) (fun h => ((by revert h; decide : False)).elim) (fun _ => ?_)
          refine lv_iload hx hb dM_indices_68 (lv_at hl 0 rfl) ?_
          refine lv_if_eq (tgt := 86) hx hb dM_indices_70 (by decide) (fun _ => ?_) (fun h => ((by revert h; decide : False)).elim)
          refine lv_aload_n hx hb dM_indices_86 rfl (lv_at hl 2 rfl) ?_
          refine xm_get (v := .int (xsi st 12)) hx hb htx hown hK hP 12 (by decide) rfl (htx _ kw_5_99) rfl dM_indices_87 ?_
          refine lv_istore (lv' := [(5, .int (xsi st 12)), (4, .int 0), (3, .int 0), (0, .ref aM), (1, xv vad c0), (2, xv vad c1)]) hx hb dM_indices_90 hl (by decide) rfl (fun ls hl => ?_)
          refine lv_iconst (v := 0) hx hb dM_indices_92 (by decide) ?_
          refine lv_istore (lv' := [(6, .int 0), (5, .int (xsi st 12)), (4, .int 0), (3, .int 0), (0, .ref aM), (1, xv vad c0), (2, xv vad c1)]) hx hb dM_indices_93 hl (by decide) rfl (fun ls hl => ?_)
          exact key n (1, (0 : Int32), (xsi st 12), (0 : Int32), (0 : Int32), c0, c1, 0, 0, st, 0, 0) _ _ ls (Or.inl ⟨ad, gd, vad, rfl, hf, hP, hD, hS, lv_sub hl [0, 1, 2, 3, 4, 5, 6] rfl, hE, hN⟩)
        · rw [if_pos hc] at hf
          refine lv_iconst (v := 1) hx hb dM_indices_57 (by decide) ?_
          refine lv_goto (tgt := 62) hx hb dM_indices_58 (by decide) ?_
          refine lv_istore (lv' := [(4, .int 1), (3, .int 0), (0, .ref aM), (1, xv vad c0), (2, xv vad c1)]) hx hb dM_indices_62 hl (by decide) rfl (fun ls hl => ?_)
          refine lv_iload_n hx hb dM_indices_64 rfl (lv_at hl 1 rfl) ?_
          refine lv_if_ne (tgt := 73) hx hb dM_indices_65 (by decide) (fun h => ((by revert h; decide : False)).elim) (fun _ => ?_)
          refine lv_iload hx hb dM_indices_68 (lv_at hl 0 rfl) ?_
          refine lv_if_eq (tgt := 86) hx hb dM_indices_70 (by decide) (fun h => ((by revert h; decide : False)).elim) (fun _ => ?_)
          refine xm_aload_n hx hb (xvor _ _) dM_indices_73 rfl (lv_at hl 4 rfl) ?_
          refine xm_vget (v := .int ((xpi st 3) (c1 - 1))) hx hb htx hown hK hP 3 (by decide) hg2 rfl ((hZ.1 (103, "count", "I") (List.mem_of_getElem? (i := 3) rfl)).use rfl) rfl dM_indices_74 ?_
          refine lv_if_ne (tgt := 86) hx hb dM_indices_77 (by decide) (fun hc => ?_) (fun hc => ?_)
          · rw [if_neg hc] at hf
            refine lv_aload_n hx hb dM_indices_86 rfl (lv_at hl 2 rfl) ?_
            refine xm_get (v := .int (xsi st 12)) hx hb htx hown hK hP 12 (by decide) rfl (htx _ kw_5_99) rfl dM_indices_87 ?_
            refine lv_istore (lv' := [(5, .int (xsi st 12)), (4, .int 1), (3, .int 0), (0, .ref aM), (1, xv vad c0), (2, xv vad c1)]) hx hb dM_indices_90 hl (by decide) rfl (fun ls hl => ?_)
            refine lv_iconst (v := 0) hx hb dM_indices_92 (by decide) ?_
            refine lv_istore (lv' := [(6, .int 0), (5, .int (xsi st 12)), (4, .int 1), (3, .int 0), (0, .ref aM), (1, xv vad c0), (2, xv vad c1)]) hx hb dM_indices_93 hl (by decide) rfl (fun ls hl => ?_)
            exact key n (1, (0 : Int32), (xsi st 12), (1 : Int32), (0 : Int32), c0, c1, 0, 0, st, 0, 0) _ _ ls (Or.inl ⟨ad, gd, vad, rfl, hf, hP, hD, hS, lv_sub hl [0, 1, 2, 3, 4, 5, 6] rfl, hE, hN⟩)
          · rw [if_pos hc] at hf
            refine lv_aload_n hx hb dM_indices_80 rfl (lv_at hl 2 rfl) ?_
            refine lv_iconst (v := 0) hx hb dM_indices_81 (by decide) ?_
            obtain ⟨o3, hq4, hf⟩ := xbind hf
            have hl := lv_sub (l' := [(4, .int 1), (3, .int 0), (0, .ref aM)]) hl [0, 1, 2] rfl
            obtain ⟨hm5, hf⟩ := xmoE hf
            have hFc := xm_free hD hS hA
            refine va_callq (va_runV (C := "ValueBenchModel") (As := [.int 0]) (rest := []) ⟨hx, hb, hml, hown, htx⟩ (gM_fresh l hl9 D cT aK aV s.heap.size n aM ad rd gd vad st (0 : Int32) o3 hq4) ⟨callB_of 1 htx (xw_goodC kw_6_16) rfl rfl rfl (htx _ kw_1_5) (htx _ kw_6_13) ⟨by decide, by decide, by decide +kernel⟩ ⟨Nat.le_of_ble_eq_true rfl, Nat.le_of_ble_eq_true rfl⟩, (htx _ kw_6_15), (htx _ kp_M_fresh)⟩ ⟨xPre_blind, va_recv hK hP (ci := 5) rfl (q0 := 0) rfl, (fun U hU hW => ⟨rfl, xPre_of hZ hS hFc hP hD hK U hU hW⟩)⟩ rfl rfl hl.1 rfl (xm_room (Nat.le_of_ble_eq_true rfl)) dM_indices_82 ⟨hm5.1, hm5.2⟩) hS (fun q _ h => hFc q h) hFc (fun r6 u9 t H1 locs ht hvm hr9 hB hz1 hk1 hS => ?_)
            obtain ⟨hP1, hK1, hD1⟩ := hB
            rw [ht] at hP1
            obtain ⟨ad7, gd8, vad9⟩ := u9
            obtain ⟨hr9, hv10, hn11⟩ := hr9
            have hP : va_P D xcl (xMw cT aM ad7 rd gd8 vad9 o3.2.2.2 []) H1 := hP1
            have hD : va_D A (xMw cT aM ad7 rd gd8 vad9 o3.2.2.2 []) := hD1.weaken (fun k q _ h => hFc q.1 h)
            generalize H1 = H at hP hS ⊢
            have hE9 : ∀ p, p < xct st → vad9 p = vad p := fun p h => (hv10 p (Nat.lt_of_lt_of_le h hN)).trans (hE p h)
            have hE := hE9
            have hN : xct st ≤ xct o3.2.2.2 := Nat.le_trans hN hn11
            rw [hr9]
            refine W.eq (g2 := F0 m 85 ls [xv vad9 o3.2.2.1]) (by first | rfl | (skip; rfl)) ?_
            obtain rfl := Option.some.inj hf
            exact W.aret (v := xv vad9 o3.2.2.1) hx hb hr (Or.inl ⟨_, rfl⟩) (xvor _ _) (fun t ht hW => ⟨⟨xca vad9 o3.2.2.1, (ad7, gd8, vad9), rfl, ⟨rfl, hE, hN⟩, by rw [ht]; exact hP, va_K.moved hW.alike hK, hD⟩, hS.F ht⟩) hS.2.2 dM_indices_85
      · rw [if_neg hc] at hf
        refine lv_aload_n hx hb dM_indices_43 rfl (lv_at hl 1 rfl) ?_
        refine lv_iconst (v := 1) hx hb dM_indices_44 (by decide) ?_
        obtain ⟨o2, hq3, hf⟩ := xbind hf
        have hl := lv_sub (l' := [(3, .int 0), (0, .ref aM)]) hl [0, 1] rfl
        by_cases hk4 : o2.1 = 1
        · rw [if_pos hk4] at hf
          obtain ⟨hm5, hf⟩ := xmoE hf
          obtain rfl := Option.some.inj hf
          exact absurd (show (1 : Nat) = 0 from hkd) (by decide)
        rw [if_neg hk4] at hf
        exact nomatch hf
    · rw [if_pos hc] at hf
      refine xm_aload_n hx hb (xvor _ _) dM_indices_17 rfl (lv_at hl 2 rfl) ?_
      obtain ⟨hg2, hf⟩ := xifn hf
      refine xm_vget (v := .int ((xpi st 0) (c1 - 1))) hx hb htx hown hK hP 0 (by decide) hg2 rfl ((hZ.1 (93, "kind", "I") (List.mem_of_getElem? (i := 0) rfl)).use rfl) rfl dM_indices_18 ?_
      refine lv_iconst (v := 4) hx hb dM_indices_21 (by decide) ?_
      refine lv_icmp_ne (tgt := 29) hx hb dM_indices_22 (by decide) (fun hc => ?_) (fun hc => ?_)
      · rw [if_neg hc] at hf
        refine lv_iconst (v := 0) hx hb dM_indices_29 (by decide) ?_
        refine lv_istore_n (lv' := [(3, .int 0), (0, .ref aM), (1, xv vad c0), (2, xv vad c1)]) hx hb dM_indices_30 rfl hl (by decide) (by simp only [List.filter, xvcat, xrscat, xcI, xcL, xcR, xcN]; rfl) (fun ls hl => ?_)
        refine lv_iload_n hx hb dM_indices_31 rfl (lv_at hl 0 rfl) ?_
        refine lv_if_ne (tgt := 49) hx hb dM_indices_32 (by decide) (fun h => ((by revert h; decide : False)).elim) (fun _ => ?_)
        refine xm_aload_n hx hb (xvor _ _) dM_indices_35 rfl (lv_at hl 2 rfl) ?_
        refine xm_vget (v := .int ((xpi st 0) (c0 - 1))) hx hb htx hown hK hP 0 (by decide) hg1 rfl ((hZ.1 (93, "kind", "I") (List.mem_of_getElem? (i := 0) rfl)).use rfl) rfl dM_indices_36 ?_
        refine lv_iconst (v := 5) hx hb dM_indices_39 (by decide) ?_
        refine lv_icmp_eq (tgt := 49) hx hb dM_indices_40 (by decide) (fun hc => ?_) (fun hc => ?_)
        · rw [if_pos hc] at hf
          refine xm_aload_n hx hb (xvor _ _) dM_indices_49 rfl (lv_at hl 3 rfl) ?_
          refine xm_vget (v := .int ((xpi st 0) (c1 - 1))) hx hb htx hown hK hP 0 (by decide) hg2 rfl ((hZ.1 (93, "kind", "I") (List.mem_of_getElem? (i := 0) rfl)).use rfl) rfl dM_indices_50 ?_
          refine lv_iconst (v := 5) hx hb dM_indices_53 (by decide) ?_
          refine lv_icmp_ne (tgt := 61) hx hb dM_indices_54 (by decide) (fun hc => ?_) (fun hc => ?_)
          · rw [if_neg hc] at hf
            refine lv_iconst (v := 0) hx hb dM_indices_61 (by decide) ?_
            refine lv_istore (lv' := [(4, .int 0), (3, .int 0), (0, .ref aM), (1, xv vad c0), (2, xv vad c1)]) hx hb dM_indices_62 hl (by decide) rfl (fun ls hl => ?_)
            refine lv_iload_n hx hb dM_indices_64 rfl (lv_at hl 1 rfl) ?_
            refine lv_if_ne (tgt := 73) hx hb dM_indices_65 (by decide) (fun h => ((by revert h; decide : False)).elim) (fun _ => ?_)
            refine lv_iload hx hb dM_indices_68 (lv_at hl 0 rfl) ?_
            refine lv_if_eq (tgt := 86) hx hb dM_indices_70 (by decide) (fun _ => ?_) (fun h => ((by revert h; decide : False)).elim)
            refine lv_aload_n hx hb dM_indices_86 rfl (lv_at hl 2 rfl) ?_
            refine xm_get (v := .int (xsi st 12)) hx hb htx hown hK hP 12 (by decide) rfl (htx _ kw_5_99) rfl dM_indices_87 ?_
            refine lv_istore (lv' := [(5, .int (xsi st 12)), (4, .int 0), (3, .int 0), (0, .ref aM), (1, xv vad c0), (2, xv vad c1)]) hx hb dM_indices_90 hl (by decide) rfl (fun ls hl => ?_)
            refine lv_iconst (v := 0) hx hb dM_indices_92 (by decide) ?_
            refine lv_istore (lv' := [(6, .int 0), (5, .int (xsi st 12)), (4, .int 0), (3, .int 0), (0, .ref aM), (1, xv vad c0), (2, xv vad c1)]) hx hb dM_indices_93 hl (by decide) rfl (fun ls hl => ?_)
            exact key n (1, (0 : Int32), (xsi st 12), (0 : Int32), (0 : Int32), c0, c1, 0, 0, st, 0, 0) _ _ ls (Or.inl ⟨ad, gd, vad, rfl, hf, hP, hD, hS, lv_sub hl [0, 1, 2, 3, 4, 5, 6] rfl, hE, hN⟩)
          · rw [if_pos hc] at hf
            refine lv_iconst (v := 1) hx hb dM_indices_57 (by decide) ?_
            refine lv_goto (tgt := 62) hx hb dM_indices_58 (by decide) ?_
            refine lv_istore (lv' := [(4, .int 1), (3, .int 0), (0, .ref aM), (1, xv vad c0), (2, xv vad c1)]) hx hb dM_indices_62 hl (by decide) rfl (fun ls hl => ?_)
            refine lv_iload_n hx hb dM_indices_64 rfl (lv_at hl 1 rfl) ?_
            refine lv_if_ne (tgt := 73) hx hb dM_indices_65 (by decide) (fun h => ((by revert h; decide : False)).elim) (fun _ => ?_)
            refine lv_iload hx hb dM_indices_68 (lv_at hl 0 rfl) ?_
            refine lv_if_eq (tgt := 86) hx hb dM_indices_70 (by decide) (fun h => ((by revert h; decide : False)).elim) (fun _ => ?_)
            refine xm_aload_n hx hb (xvor _ _) dM_indices_73 rfl (lv_at hl 4 rfl) ?_
            refine xm_vget (v := .int ((xpi st 3) (c1 - 1))) hx hb htx hown hK hP 3 (by decide) hg2 rfl ((hZ.1 (103, "count", "I") (List.mem_of_getElem? (i := 3) rfl)).use rfl) rfl dM_indices_74 ?_
            refine lv_if_ne (tgt := 86) hx hb dM_indices_77 (by decide) (fun hc => ?_) (fun hc => ?_)
            · rw [if_neg hc] at hf
              refine lv_aload_n hx hb dM_indices_86 rfl (lv_at hl 2 rfl) ?_
              refine xm_get (v := .int (xsi st 12)) hx hb htx hown hK hP 12 (by decide) rfl (htx _ kw_5_99) rfl dM_indices_87 ?_
              refine lv_istore (lv' := [(5, .int (xsi st 12)), (4, .int 1), (3, .int 0), (0, .ref aM), (1, xv vad c0), (2, xv vad c1)]) hx hb dM_indices_90 hl (by decide) rfl (fun ls hl => ?_)
              refine lv_iconst (v := 0) hx hb dM_indices_92 (by decide) ?_
              refine lv_istore (lv' := [(6, .int 0), (5, .int (xsi st 12)), (4, .int 1), (3, .int 0), (0, .ref aM), (1, xv vad c0), (2, xv vad c1)]) hx hb dM_indices_93 hl (by decide) rfl (fun ls hl => ?_)
              exact key n (1, (0 : Int32), (xsi st 12), (1 : Int32), (0 : Int32), c0, c1, 0, 0, st, 0, 0) _ _ ls (Or.inl ⟨ad, gd, vad, rfl, hf, hP, hD, hS, lv_sub hl [0, 1, 2, 3, 4, 5, 6] rfl, hE, hN⟩)
            · rw [if_pos hc] at hf
              refine lv_aload_n hx hb dM_indices_80 rfl (lv_at hl 2 rfl) ?_
              refine lv_iconst (v := 0) hx hb dM_indices_81 (by decide) ?_
              obtain ⟨o3, hq4, hf⟩ := xbind hf
              have hl := lv_sub (l' := [(4, .int 1), (3, .int 0), (0, .ref aM)]) hl [0, 1, 2] rfl
              obtain ⟨hm5, hf⟩ := xmoE hf
              have hFc := xm_free hD hS hA
              refine va_callq (va_runV (C := "ValueBenchModel") (As := [.int 0]) (rest := []) ⟨hx, hb, hml, hown, htx⟩ (gM_fresh l hl9 D cT aK aV s.heap.size n aM ad rd gd vad st (0 : Int32) o3 hq4) ⟨callB_of 1 htx (xw_goodC kw_6_16) rfl rfl rfl (htx _ kw_1_5) (htx _ kw_6_13) ⟨by decide, by decide, by decide +kernel⟩ ⟨Nat.le_of_ble_eq_true rfl, Nat.le_of_ble_eq_true rfl⟩, (htx _ kw_6_15), (htx _ kp_M_fresh)⟩ ⟨xPre_blind, va_recv hK hP (ci := 5) rfl (q0 := 0) rfl, (fun U hU hW => ⟨rfl, xPre_of hZ hS hFc hP hD hK U hU hW⟩)⟩ rfl rfl hl.1 rfl (xm_room (Nat.le_of_ble_eq_true rfl)) dM_indices_82 ⟨hm5.1, hm5.2⟩) hS (fun q _ h => hFc q h) hFc (fun r6 u9 t H1 locs ht hvm hr9 hB hz1 hk1 hS => ?_)
              obtain ⟨hP1, hK1, hD1⟩ := hB
              rw [ht] at hP1
              obtain ⟨ad7, gd8, vad9⟩ := u9
              obtain ⟨hr9, hv10, hn11⟩ := hr9
              have hP : va_P D xcl (xMw cT aM ad7 rd gd8 vad9 o3.2.2.2 []) H1 := hP1
              have hD : va_D A (xMw cT aM ad7 rd gd8 vad9 o3.2.2.2 []) := hD1.weaken (fun k q _ h => hFc q.1 h)
              generalize H1 = H at hP hS ⊢
              have hE9 : ∀ p, p < xct st → vad9 p = vad p := fun p h => (hv10 p (Nat.lt_of_lt_of_le h hN)).trans (hE p h)
              have hE := hE9
              have hN : xct st ≤ xct o3.2.2.2 := Nat.le_trans hN hn11
              rw [hr9]
              refine W.eq (g2 := F0 m 85 ls [xv vad9 o3.2.2.1]) (by first | rfl | (skip; rfl)) ?_
              obtain rfl := Option.some.inj hf
              exact W.aret (v := xv vad9 o3.2.2.1) hx hb hr (Or.inl ⟨_, rfl⟩) (xvor _ _) (fun t ht hW => ⟨⟨xca vad9 o3.2.2.1, (ad7, gd8, vad9), rfl, ⟨rfl, hE, hN⟩, by rw [ht]; exact hP, va_K.moved hW.alike hK, hD⟩, hS.F ht⟩) hS.2.2 dM_indices_85
        · rw [if_neg hc] at hf
          refine lv_aload_n hx hb dM_indices_43 rfl (lv_at hl 1 rfl) ?_
          refine lv_iconst (v := 1) hx hb dM_indices_44 (by decide) ?_
          obtain ⟨o3, hq4, hf⟩ := xbind hf
          have hl := lv_sub (l' := [(3, .int 0), (0, .ref aM)]) hl [0, 1] rfl
          by_cases hk5 : o3.1 = 1
          · rw [if_pos hk5] at hf
            obtain ⟨hm6, hf⟩ := xmoE hf
            obtain rfl := Option.some.inj hf
            exact absurd (show (1 : Nat) = 0 from hkd) (by decide)
          rw [if_neg hk5] at hf
          exact nomatch hf
      · rw [if_pos hc] at hf
        refine lv_iconst (v := 1) hx hb dM_indices_25 (by decide) ?_
        refine lv_goto (tgt := 30) hx hb dM_indices_26 (by decide) ?_
        refine lv_istore_n (lv' := [(3, .int 1), (0, .ref aM), (1, xv vad c0), (2, xv vad c1)]) hx hb dM_indices_30 rfl hl (by decide) (by simp only [List.filter, xvcat, xrscat, xcI, xcL, xcR, xcN]; rfl) (fun ls hl => ?_)
        refine lv_iload_n hx hb dM_indices_31 rfl (lv_at hl 0 rfl) ?_
        refine lv_if_ne (tgt := 49) hx hb dM_indices_32 (by decide) (fun _ => ?_) (fun h => ((by revert h; decide : False)).elim)
        refine xm_aload_n hx hb (xvor _ _) dM_indices_49 rfl (lv_at hl 3 rfl) ?_
        refine xm_vget (v := .int ((xpi st 0) (c1 - 1))) hx hb htx hown hK hP 0 (by decide) hg2 rfl ((hZ.1 (93, "kind", "I") (List.mem_of_getElem? (i := 0) rfl)).use rfl) rfl dM_indices_50 ?_
        refine lv_iconst (v := 5) hx hb dM_indices_53 (by decide) ?_
        refine lv_icmp_ne (tgt := 61) hx hb dM_indices_54 (by decide) (fun hc => ?_) (fun hc => ?_)
        · rw [if_neg hc] at hf
          refine lv_iconst (v := 0) hx hb dM_indices_61 (by decide) ?_
          refine lv_istore (lv' := [(4, .int 0), (3, .int 1), (0, .ref aM), (1, xv vad c0), (2, xv vad c1)]) hx hb dM_indices_62 hl (by decide) rfl (fun ls hl => ?_)
          refine lv_iload_n hx hb dM_indices_64 rfl (lv_at hl 1 rfl) ?_
          refine lv_if_ne (tgt := 73) hx hb dM_indices_65 (by decide) (fun _ => ?_) (fun h => ((by revert h; decide : False)).elim)
          refine xm_aload_n hx hb (xvor _ _) dM_indices_73 rfl (lv_at hl 4 rfl) ?_
          refine xm_vget (v := .int ((xpi st 3) (c1 - 1))) hx hb htx hown hK hP 3 (by decide) hg2 rfl ((hZ.1 (103, "count", "I") (List.mem_of_getElem? (i := 3) rfl)).use rfl) rfl dM_indices_74 ?_
          refine lv_if_ne (tgt := 86) hx hb dM_indices_77 (by decide) (fun hc => ?_) (fun hc => ?_)
          · rw [if_neg hc] at hf
            refine lv_aload_n hx hb dM_indices_86 rfl (lv_at hl 2 rfl) ?_
            refine xm_get (v := .int (xsi st 12)) hx hb htx hown hK hP 12 (by decide) rfl (htx _ kw_5_99) rfl dM_indices_87 ?_
            refine lv_istore (lv' := [(5, .int (xsi st 12)), (4, .int 0), (3, .int 1), (0, .ref aM), (1, xv vad c0), (2, xv vad c1)]) hx hb dM_indices_90 hl (by decide) rfl (fun ls hl => ?_)
            refine lv_iconst (v := 0) hx hb dM_indices_92 (by decide) ?_
            refine lv_istore (lv' := [(6, .int 0), (5, .int (xsi st 12)), (4, .int 0), (3, .int 1), (0, .ref aM), (1, xv vad c0), (2, xv vad c1)]) hx hb dM_indices_93 hl (by decide) rfl (fun ls hl => ?_)
            exact key n (1, (0 : Int32), (xsi st 12), (0 : Int32), (1 : Int32), c0, c1, 0, 0, st, 0, 0) _ _ ls (Or.inl ⟨ad, gd, vad, rfl, hf, hP, hD, hS, lv_sub hl [0, 1, 2, 3, 4, 5, 6] rfl, hE, hN⟩)
          · rw [if_pos hc] at hf
            refine lv_aload_n hx hb dM_indices_80 rfl (lv_at hl 2 rfl) ?_
            refine lv_iconst (v := 0) hx hb dM_indices_81 (by decide) ?_
            obtain ⟨o3, hq4, hf⟩ := xbind hf
            have hl := lv_sub (l' := [(4, .int 0), (3, .int 1), (0, .ref aM)]) hl [0, 1, 2] rfl
            obtain ⟨hm5, hf⟩ := xmoE hf
            have hFc := xm_free hD hS hA
            refine va_callq (va_runV (C := "ValueBenchModel") (As := [.int 0]) (rest := []) ⟨hx, hb, hml, hown, htx⟩ (gM_fresh l hl9 D cT aK aV s.heap.size n aM ad rd gd vad st (0 : Int32) o3 hq4) ⟨callB_of 1 htx (xw_goodC kw_6_16) rfl rfl rfl (htx _ kw_1_5) (htx _ kw_6_13) ⟨by decide, by decide, by decide +kernel⟩ ⟨Nat.le_of_ble_eq_true rfl, Nat.le_of_ble_eq_true rfl⟩, (htx _ kw_6_15), (htx _ kp_M_fresh)⟩ ⟨xPre_blind, va_recv hK hP (ci := 5) rfl (q0 := 0) rfl, (fun U hU hW => ⟨rfl, xPre_of hZ hS hFc hP hD hK U hU hW⟩)⟩ rfl rfl hl.1 rfl (xm_room (Nat.le_of_ble_eq_true rfl)) dM_indices_82 ⟨hm5.1, hm5.2⟩) hS (fun q _ h => hFc q h) hFc (fun r6 u9 t H1 locs ht hvm hr9 hB hz1 hk1 hS => ?_)
            obtain ⟨hP1, hK1, hD1⟩ := hB
            rw [ht] at hP1
            obtain ⟨ad7, gd8, vad9⟩ := u9
            obtain ⟨hr9, hv10, hn11⟩ := hr9
            have hP : va_P D xcl (xMw cT aM ad7 rd gd8 vad9 o3.2.2.2 []) H1 := hP1
            have hD : va_D A (xMw cT aM ad7 rd gd8 vad9 o3.2.2.2 []) := hD1.weaken (fun k q _ h => hFc q.1 h)
            generalize H1 = H at hP hS ⊢
            have hE9 : ∀ p, p < xct st → vad9 p = vad p := fun p h => (hv10 p (Nat.lt_of_lt_of_le h hN)).trans (hE p h)
            have hE := hE9
            have hN : xct st ≤ xct o3.2.2.2 := Nat.le_trans hN hn11
            rw [hr9]
            refine W.eq (g2 := F0 m 85 ls [xv vad9 o3.2.2.1]) (by first | rfl | (skip; rfl)) ?_
            obtain rfl := Option.some.inj hf
            exact W.aret (v := xv vad9 o3.2.2.1) hx hb hr (Or.inl ⟨_, rfl⟩) (xvor _ _) (fun t ht hW => ⟨⟨xca vad9 o3.2.2.1, (ad7, gd8, vad9), rfl, ⟨rfl, hE, hN⟩, by rw [ht]; exact hP, va_K.moved hW.alike hK, hD⟩, hS.F ht⟩) hS.2.2 dM_indices_85
        · rw [if_pos hc] at hf
          refine lv_iconst (v := 1) hx hb dM_indices_57 (by decide) ?_
          refine lv_goto (tgt := 62) hx hb dM_indices_58 (by decide) ?_
          refine lv_istore (lv' := [(4, .int 1), (3, .int 1), (0, .ref aM), (1, xv vad c0), (2, xv vad c1)]) hx hb dM_indices_62 hl (by decide) rfl (fun ls hl => ?_)
          refine lv_iload_n hx hb dM_indices_64 rfl (lv_at hl 1 rfl) ?_
          refine lv_if_ne (tgt := 73) hx hb dM_indices_65 (by decide) (fun _ => ?_) (fun h => ((by revert h; decide : False)).elim)
          refine xm_aload_n hx hb (xvor _ _) dM_indices_73 rfl (lv_at hl 4 rfl) ?_
          refine xm_vget (v := .int ((xpi st 3) (c1 - 1))) hx hb htx hown hK hP 3 (by decide) hg2 rfl ((hZ.1 (103, "count", "I") (List.mem_of_getElem? (i := 3) rfl)).use rfl) rfl dM_indices_74 ?_
          refine lv_if_ne (tgt := 86) hx hb dM_indices_77 (by decide) (fun hc => ?_) (fun hc => ?_)
          · rw [if_neg hc] at hf
            refine lv_aload_n hx hb dM_indices_86 rfl (lv_at hl 2 rfl) ?_
            refine xm_get (v := .int (xsi st 12)) hx hb htx hown hK hP 12 (by decide) rfl (htx _ kw_5_99) rfl dM_indices_87 ?_
            refine lv_istore (lv' := [(5, .int (xsi st 12)), (4, .int 1), (3, .int 1), (0, .ref aM), (1, xv vad c0), (2, xv vad c1)]) hx hb dM_indices_90 hl (by decide) rfl (fun ls hl => ?_)
            refine lv_iconst (v := 0) hx hb dM_indices_92 (by decide) ?_
            refine lv_istore (lv' := [(6, .int 0), (5, .int (xsi st 12)), (4, .int 1), (3, .int 1), (0, .ref aM), (1, xv vad c0), (2, xv vad c1)]) hx hb dM_indices_93 hl (by decide) rfl (fun ls hl => ?_)
            exact key n (1, (0 : Int32), (xsi st 12), (1 : Int32), (1 : Int32), c0, c1, 0, 0, st, 0, 0) _ _ ls (Or.inl ⟨ad, gd, vad, rfl, hf, hP, hD, hS, lv_sub hl [0, 1, 2, 3, 4, 5, 6] rfl, hE, hN⟩)
          · rw [if_pos hc] at hf
            refine lv_aload_n hx hb dM_indices_80 rfl (lv_at hl 2 rfl) ?_
            refine lv_iconst (v := 0) hx hb dM_indices_81 (by decide) ?_
            obtain ⟨o3, hq4, hf⟩ := xbind hf
            have hl := lv_sub (l' := [(4, .int 1), (3, .int 1), (0, .ref aM)]) hl [0, 1, 2] rfl
            obtain ⟨hm5, hf⟩ := xmoE hf
            have hFc := xm_free hD hS hA
            refine va_callq (va_runV (C := "ValueBenchModel") (As := [.int 0]) (rest := []) ⟨hx, hb, hml, hown, htx⟩ (gM_fresh l hl9 D cT aK aV s.heap.size n aM ad rd gd vad st (0 : Int32) o3 hq4) ⟨callB_of 1 htx (xw_goodC kw_6_16) rfl rfl rfl (htx _ kw_1_5) (htx _ kw_6_13) ⟨by decide, by decide, by decide +kernel⟩ ⟨Nat.le_of_ble_eq_true rfl, Nat.le_of_ble_eq_true rfl⟩, (htx _ kw_6_15), (htx _ kp_M_fresh)⟩ ⟨xPre_blind, va_recv hK hP (ci := 5) rfl (q0 := 0) rfl, (fun U hU hW => ⟨rfl, xPre_of hZ hS hFc hP hD hK U hU hW⟩)⟩ rfl rfl hl.1 rfl (xm_room (Nat.le_of_ble_eq_true rfl)) dM_indices_82 ⟨hm5.1, hm5.2⟩) hS (fun q _ h => hFc q h) hFc (fun r6 u9 t H1 locs ht hvm hr9 hB hz1 hk1 hS => ?_)
            obtain ⟨hP1, hK1, hD1⟩ := hB
            rw [ht] at hP1
            obtain ⟨ad7, gd8, vad9⟩ := u9
            obtain ⟨hr9, hv10, hn11⟩ := hr9
            have hP : va_P D xcl (xMw cT aM ad7 rd gd8 vad9 o3.2.2.2 []) H1 := hP1
            have hD : va_D A (xMw cT aM ad7 rd gd8 vad9 o3.2.2.2 []) := hD1.weaken (fun k q _ h => hFc q.1 h)
            generalize H1 = H at hP hS ⊢
            have hE9 : ∀ p, p < xct st → vad9 p = vad p := fun p h => (hv10 p (Nat.lt_of_lt_of_le h hN)).trans (hE p h)
            have hE := hE9
            have hN : xct st ≤ xct o3.2.2.2 := Nat.le_trans hN hn11
            rw [hr9]
            refine W.eq (g2 := F0 m 85 ls [xv vad9 o3.2.2.1]) (by first | rfl | (skip; rfl)) ?_
            obtain rfl := Option.some.inj hf
            exact W.aret (v := xv vad9 o3.2.2.1) hx hb hr (Or.inl ⟨_, rfl⟩) (xvor _ _) (fun t ht hW => ⟨⟨xca vad9 o3.2.2.1, (ad7, gd8, vad9), rfl, ⟨rfl, hE, hN⟩, by rw [ht]; exact hP, va_K.moved hW.alike hK, hD⟩, hS.F ht⟩) hS.2.2 dM_indices_85
  · rw [if_pos hc] at hf
    refine xm_aload_n hx hb (xvor _ _) dM_indices_7 rfl (lv_at hl 1 rfl) ?_
    obtain rfl := Option.some.inj hf
    exact W.aret (v := xv vad c0) hx hb hr (Or.inl ⟨_, rfl⟩) (xvor _ _) (fun t ht hW => ⟨⟨xca vad c0, (ad, gd, vad), rfl, ⟨rfl, hE, hN⟩, by rw [ht]; exact hP, va_K.moved hW.alike hK, hD⟩, hS.F ht⟩) hS.2.2 dM_indices_8
