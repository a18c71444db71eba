set_option maxHeartbeats 400000000 in
set_option maxRecDepth 100000 in
theorem gM_at_1 (l : Launch) (hl9 : l.stackTraces = false) (D : va_G) (cT : Nat → ClassId) (aK aV : Nat → Nat) (sz d n : Nat) (aM : Nat) (ad rd gd vad : Nat → Nat) (st : xS) (c0 : Nat) (c1 : Nat) (out : Nat × Nat × Nat × Nat × xS) (hf : fM_at d n st c0 c1 = some out) (hkd : out.1 = 1) : xMetY l yM_at wyM_at (16 * d + 9) out.2.1 out.2.2.1 (400 * d + 175) D cT aK aV sz [.ref aM, xv vad c0, xv vad c1] (xMw cT aM ad rd gd vad st []) "java/lang/ArithmeticException" (fun u => xE vad st out.2.2.2.2 u) (fun A u t => xB D xcl cT A (xMw cT aM u.1 rd u.2.1 u.2.2 out.2.2.2.2 []) t) := by
  refine vx_ofW (cc := prog_13_method_75_code) (maxL := 5) (ret := (some (.object "ValueBenchModel$V"))) (by decide) rfl ?_
  intro p e s m args below meth c s₁ B hml hne hv
  obtain ⟨rfl, hsz, hZ, hP, hK, hD0⟩ := hv
  have hx := B.exec
  have hb := B.bytes
  have hr := B.returns
  have hts := atoms_spec (ws := wyM_at) B.pre
  have htx := fun w h => hts w (List.mem_cons_of_mem _ h)
  have hown : s.vm.findClass "ValueBenchModel" = some m.cls := findClass_of_methodNamed B.named
  have hlocks := B.notSynchronized
  subst hsz
  have hD := hD0.self (sz := s.heap.size)
  generalize hAe : va_A (xMw cT aM ad rd gd vad st []) s.heap.size = A at hD hZ ⊢
  have hA : ∀ q : Nat, s.heap.size ≤ q → A q := fun q h => by rw [← hAe]; exact Or.inr h
  have hS : va_S A s.heap s.heap [] := va_S.rf
  have hl := lv_entry ([.ref aM, xv vad c0, xv vad c1]) (n := 5) (by simp [lg_sl, xvcat, xrscat, xcI, xcL, xcR, xcN])
  rw [show lv_args 0 [.ref aM, xv vad c0, xv vad c1] = [(0, .ref aM), (1, xv vad c0), (2, xv vad c1)] from by simp [lv_args, xvcat, xrscat, xcI, xcL, xcR, xcN]] at hl
  rw [lg_entry_eq]
  generalize (lg_sl ([.ref aM, xv vad c0, xv vad c1]) ++ List.replicate (5 - (lg_sl ([.ref aM, xv vad c0, xv vad c1])).length) Slot.unset).toArray = ls at hl ⊢
  have hl : lv_has ls 5 [(0, .ref aM), (1, xv vad c0), (2, xv vad c1)] := hl
  have hE : ∀ p, p < xct st → vad p = vad p := fun _ _ => rfl
  have hN : xct st ≤ xct st := Nat.le_refl _
  unfold fM_at at hf
  refine xm_aload_n hx hb (xvor _ _) dM_at_0 rfl (lv_at hl 1 rfl) ?_
  obtain ⟨hg1, hf⟩ := xifn hf
  refine xm_vget (v := .int ((xpi st 0) (c0 - 1))) hx hb htx hown hK hP 0 (by decide) hg1 rfl ((hZ.1 (93, "kind", "I") (List.mem_of_getElem? (i := 0) rfl)).use rfl) rfl dM_at_1 ?_
  refine lv_if_ne (tgt := 32) hx hb dM_at_4 (by decide) (fun hc => ?_) (fun hc => ?_)
  · rw [if_neg hc] at hf
    refine xm_aload_n hx hb (xvor _ _) dM_at_32 rfl (lv_at hl 1 rfl) ?_
    refine xm_vget (v := .int ((xpi st 0) (c0 - 1))) hx hb htx hown hK hP 0 (by decide) hg1 rfl ((hZ.1 (93, "kind", "I") (List.mem_of_getElem? (i := 0) rfl)).use rfl) rfl dM_at_33 ?_
    refine lv_bipush (v := 6) hx hb dM_at_36 (by decide) ?_
    refine lv_icmp_ne (tgt := 75) hx hb dM_at_38 (by decide) (fun hc => ?_) (fun hc => ?_)
    · rw [if_neg hc] at hf
      refine xm_aload_n hx hb (xvor _ _) dM_at_75 rfl (lv_at hl 1 rfl) ?_
      refine xm_vget (v := .int ((xpi st 0) (c0 - 1))) hx hb htx hown hK hP 0 (by decide) hg1 rfl ((hZ.1 (93, "kind", "I") (List.mem_of_getElem? (i := 0) rfl)).use rfl) rfl dM_at_76 ?_
      refine lv_iconst (v := 5) hx hb dM_at_79 (by decide) ?_
      refine lv_icmp_eq (tgt := 89) hx hb dM_at_80 (by decide) (fun hc => ?_) (fun hc => ?_)
      · rw [if_pos hc] at hf
        refine xm_aload_n hx hb (xvor _ _) dM_at_89 rfl (lv_at hl 2 rfl) ?_
        obtain ⟨hg2, hf⟩ := xifn hf
        refine xm_vget (v := .int ((xpi st 0) (c1 - 1))) hx hb htx hown hK hP 0 (by decide) hg2 rfl ((hZ.1 (93, "kind", "I") (List.mem_of_getElem? (i := 0) rfl)).use rfl) rfl dM_at_90 ?_
        refine lv_iconst (v := 5) hx hb dM_at_93 (by decide) ?_
        refine lv_icmp_ne (tgt := 104) hx hb dM_at_94 (by decide) (fun hc => ?_) (fun hc => ?_)
        · rw [if_neg hc] at hf
          refine xm_aload_n hx hb (xvor _ _) dM_at_104 rfl (lv_at hl 2 rfl) ?_
          refine xm_vget (v := .int ((xpi st 0) (c1 - 1))) hx hb htx hown hK hP 0 (by decide) hg2 rfl ((hZ.1 (93, "kind", "I") (List.mem_of_getElem? (i := 0) rfl)).use rfl) rfl dM_at_105 ?_
          refine lv_iconst (v := 3) hx hb dM_at_108 (by decide) ?_
          refine lv_icmp_eq (tgt := 118) hx hb dM_at_109 (by decide) (fun hc => ?_) (fun hc => ?_)
          · rw [if_pos hc] at hf
            refine xm_aload_n hx hb (xvor _ _) dM_at_118 rfl (lv_at hl 2 rfl) ?_
            refine xm_vget (v := .long ((xpl st) (c1 - 1))) hx hb htx hown hK hP 1 (by decide) hg2 rfl ((hZ.1 (96, "n", "J") (List.mem_of_getElem? (i := 1) rfl)).use rfl) rfl dM_at_119 ?_
            refine lv_lconst (v := 0) hx hb dM_at_122 (by decide) ?_
            refine W.lcmp hx hb dM_at_123 ?_
            refine lv_if_ge (tgt := 140) hx hb dM_at_124 (by decide) (fun hc => ?_) (fun hc => ?_)
            · rw [if_pos hc] at hf
              refine xm_aload_n hx hb (xvor _ _) dM_at_140 rfl (lv_at hl 2 rfl) ?_
              refine xm_vget (v := .long ((xpl st) (c1 - 1))) hx hb htx hown hK hP 1 (by decide) hg2 rfl ((hZ.1 (96, "n", "J") (List.mem_of_getElem? (i := 1) rfl)).use rfl) rfl dM_at_141 ?_
              refine lv_lstore_n (lv' := [(3, .long ((xpl st) (c1 - 1))), (0, .ref aM), (1, xv vad c0), (2, xv vad c1)]) hx hb dM_at_144 rfl hl (by decide) (by simp only [List.filter, xvcat, xrscat, xcI, xcL, xcR, xcN]; rfl) (fun ls hl => ?_)
              refine lv_lload_n hx hb dM_at_145 rfl (lv_at hl 0 rfl) ?_
              refine lv_lconst (v := 0) hx hb dM_at_146 (by decide) ?_
              refine W.lcmp hx hb dM_at_147 ?_
              refine lv_if_lt (tgt := 161) hx hb dM_at_148 (by decide) (fun hc => ?_) (fun hc => ?_)
              · rw [if_pos hc] at hf
                refine lv_aload_n hx hb dM_at_161 rfl (lv_at hl 1 rfl) ?_
                refine lv_iconst (v := 0) hx hb dM_at_162 (by decide) ?_
                obtain ⟨o3, hq4, hf⟩ := xbind hf
                have hl := lv_sub (l' := [(3, .long ((xpl st) (c1 - 1))), (0, .ref aM)]) hl [0, 1] rfl
                obtain ⟨hm5, hf⟩ := xmoE hf
                have hFc := xm_free hD hS hA
                refine va_callq (va_runV (C := "ValueBenchModel") (As := [.int 0]) (rest := []) ⟨hx, hb, hml, hown, htx⟩ (gM_fresh l hl9 D cT aK aV s.heap.size n aM ad rd gd vad st (0 : Int32) o3 hq4) ⟨callB_of 1 htx (xw_goodC kw_6_16) rfl rfl rfl (htx _ kw_1_5) (htx _ kw_6_13) ⟨by decide, by decide, by decide +kernel⟩ ⟨Nat.le_of_ble_eq_true rfl, Nat.le_of_ble_eq_true rfl⟩, (htx _ kw_6_15), (htx _ kp_M_fresh)⟩ ⟨xPre_blind, va_recv hK hP (ci := 5) rfl (q0 := 0) rfl, (fun U hU hW => ⟨rfl, xPre_of hZ hS hFc hP hD hK U hU hW⟩)⟩ rfl rfl hl.1 rfl (xm_room (Nat.le_of_ble_eq_true rfl)) dM_at_163 ⟨hm5.1, hm5.2⟩) hS (fun q _ h => hFc q h) hFc (fun r6 u9 t H1 locs ht hvm hr9 hB hz1 hk1 hS => ?_)
                obtain ⟨hP1, hK1, hD1⟩ := hB
                rw [ht] at hP1
                obtain ⟨ad7, gd8, vad9⟩ := u9
                obtain ⟨hr9, hv10, hn11⟩ := hr9
                have hP : va_P D xcl (xMw cT aM ad7 rd gd8 vad9 o3.2.2.2 []) H1 := hP1
                have hD : va_D A (xMw cT aM ad7 rd gd8 vad9 o3.2.2.2 []) := hD1.weaken (fun k q _ h => hFc q.1 h)
                generalize H1 = H at hP hS ⊢
                have hE9 : ∀ p, p < xct st → vad9 p = vad p := fun p h => (hv10 p (Nat.lt_of_lt_of_le h hN)).trans (hE p h)
                have hE := hE9
                have hN : xct st ≤ xct o3.2.2.2 := Nat.le_trans hN hn11
                rw [hr9]
                refine W.eq (g2 := F0 m 166 ls [xv vad9 o3.2.2.1]) (by first | rfl | (skip; rfl)) ?_
                refine lv_goto (tgt := 176) hx hb dM_at_166 (by decide) ?_
                obtain rfl := Option.some.inj hf
                exact absurd (show (0 : Nat) = 1 from hkd) (by decide)
              · rw [if_neg hc] at hf
                refine lv_lload_n hx hb dM_at_151 rfl (lv_at hl 0 rfl) ?_
                refine xm_aload_n hx hb (xvor _ _) dM_at_152 rfl (lv_at hl 2 rfl) ?_
                refine xm_vget (v := .int ((xpi st 3) (c0 - 1))) hx hb htx hown hK hP 3 (by decide) hg1 rfl ((hZ.1 (103, "count", "I") (List.mem_of_getElem? (i := 3) rfl)).use rfl) rfl dM_at_153 ?_
                refine lv_i2l hx hb dM_at_156 rfl ?_
                refine W.lcmp hx hb dM_at_157 ?_
                refine lv_if_lt (tgt := 169) hx hb dM_at_158 (by decide) (fun hc => ?_) (fun hc => ?_)
                · rw [if_pos hc] at hf
                  refine lv_aload_n hx hb dM_at_169 rfl (lv_at hl 1 rfl) ?_
                  refine xm_aload_n hx hb (xvor _ _) dM_at_170 rfl (lv_at hl 2 rfl) ?_
                  refine lv_lload_n hx hb dM_at_171 rfl (lv_at hl 0 rfl) ?_
                  refine lv_l2i hx hb dM_at_172 rfl ?_
                  obtain ⟨o3, hq4, hf⟩ := xbind hf
                  have hl := lv_sub (l' := [(3, .long ((xpl st) (c1 - 1))), (0, .ref aM)]) hl [0, 1] rfl
                  have hFc := xm_free hD hS hA
                  refine va_callq (va_runV (C := "ValueBenchModel") (As := [xv vad c0, .int ((xpl st) (c1 - 1)).toInt32]) (rest := []) ⟨hx, hb, hml, hown, htx⟩ (gM_kid l hl9 D cT aK aV s.heap.size n aM ad rd gd vad st c0 (((xpl st) (c1 - 1)).toInt32) o3 hq4) ⟨callB_of 2 htx (xw_goodC kw_6_158) rfl rfl rfl (htx _ kw_1_5) (htx _ kw_6_155) ⟨by decide, by decide, by decide +kernel⟩ ⟨Nat.le_of_ble_eq_true rfl, Nat.le_of_ble_eq_true rfl⟩, (htx _ kw_6_157), (htx _ kp_M_kid)⟩ ⟨xPre_blind, va_recv hK hP (ci := 5) rfl (q0 := 0) rfl, (fun U hU hW => ⟨rfl, xPre_of hZ hS hFc hP hD hK U hU hW⟩)⟩ rfl rfl hl.1 rfl (xm_room (Nat.le_of_ble_eq_true rfl)) dM_at_173 ⟨Nat.zero_le _, Nat.zero_le _⟩) hS (fun q _ h => hFc q h) hFc (fun r5 u9 t H1 locs ht hvm hr9 hB hz1 hk1 hS => ?_)
                  obtain ⟨hP1, hK1, hD1⟩ := hB
                  rw [ht] at hP1
                  have hP : va_P D xcl (xMw cT aM ad rd gd vad st []) H1 := hP1
                  have hD : va_D A (xMw cT aM ad rd gd vad st []) := hD1.weaken (fun k q _ h => hFc q.1 h)
                  generalize H1 = H at hP hS ⊢
                  rw [hr9]
                  refine W.eq (g2 := F0 m 176 ls [xv vad o3]) (by first | rfl | (skip; rfl)) ?_
                  obtain rfl := Option.some.inj hf
                  exact absurd (show (0 : Nat) = 1 from hkd) (by decide)
                · rw [if_neg hc] at hf
                  refine lv_aload_n hx hb dM_at_161 rfl (lv_at hl 1 rfl) ?_
                  refine lv_iconst (v := 0) hx hb dM_at_162 (by decide) ?_
                  obtain ⟨o3, hq4, hf⟩ := xbind hf
                  have hl := lv_sub (l' := [(3, .long ((xpl st) (c1 - 1))), (0, .ref aM)]) hl [0, 1] rfl
                  obtain ⟨hm5, hf⟩ := xmoE hf
                  have hFc := xm_free hD hS hA
                  refine va_callq (va_runV (C := "ValueBenchModel") (As := [.int 0]) (rest := []) ⟨hx, hb, hml, hown, htx⟩ (gM_fresh l hl9 D cT aK aV s.heap.size n aM ad rd gd vad st (0 : Int32) o3 hq4) ⟨callB_of 1 htx (xw_goodC kw_6_16) rfl rfl rfl (htx _ kw_1_5) (htx _ kw_6_13) ⟨by decide, by decide, by decide +kernel⟩ ⟨Nat.le_of_ble_eq_true rfl, Nat.le_of_ble_eq_true rfl⟩, (htx _ kw_6_15), (htx _ kp_M_fresh)⟩ ⟨xPre_blind, va_recv hK hP (ci := 5) rfl (q0 := 0) rfl, (fun U hU hW => ⟨rfl, xPre_of hZ hS hFc hP hD hK U hU hW⟩)⟩ rfl rfl hl.1 rfl (xm_room (Nat.le_of_ble_eq_true rfl)) dM_at_163 ⟨hm5.1, hm5.2⟩) hS (fun q _ h => hFc q h) hFc (fun r6 u9 t H1 locs ht hvm hr9 hB hz1 hk1 hS => ?_)
                  obtain ⟨hP1, hK1, hD1⟩ := hB
                  rw [ht] at hP1
                  obtain ⟨ad7, gd8, vad9⟩ := u9
                  obtain ⟨hr9, hv10, hn11⟩ := hr9
                  have hP : va_P D xcl (xMw cT aM ad7 rd gd8 vad9 o3.2.2.2 []) H1 := hP1
                  have hD : va_D A (xMw cT aM ad7 rd gd8 vad9 o3.2.2.2 []) := hD1.weaken (fun k q _ h => hFc q.1 h)
                  generalize H1 = H at hP hS ⊢
                  have hE9 : ∀ p, p < xct st → vad9 p = vad p := fun p h => (hv10 p (Nat.lt_of_lt_of_le h hN)).trans (hE p h)
                  have hE := hE9
                  have hN : xct st ≤ xct o3.2.2.2 := Nat.le_trans hN hn11
                  rw [hr9]
                  refine W.eq (g2 := F0 m 166 ls [xv vad9 o3.2.2.1]) (by first | rfl | (skip; rfl)) ?_
                  refine lv_goto (tgt := 176) hx hb dM_at_166 (by decide) ?_
                  obtain rfl := Option.some.inj hf
                  exact absurd (show (0 : Nat) = 1 from hkd) (by decide)
            · rw [if_neg hc] at hf
              refine xm_aload_n hx hb (xvor _ _) dM_at_127 rfl (lv_at hl 2 rfl) ?_
              refine xm_vget (v := .long ((xpl st) (c1 - 1))) hx hb htx hown hK hP 1 (by decide) hg2 rfl ((hZ.1 (96, "n", "J") (List.mem_of_getElem? (i := 1) rfl)).use rfl) rfl dM_at_128 ?_
              refine xm_aload_n hx hb (xvor _ _) dM_at_131 rfl (lv_at hl 1 rfl) ?_
              refine xm_vget (v := .int ((xpi st 3) (c0 - 1))) hx hb htx hown hK hP 3 (by decide) hg1 rfl ((hZ.1 (103, "count", "I") (List.mem_of_getElem? (i := 3) rfl)).use rfl) rfl dM_at_132 ?_
              refine lv_i2l hx hb dM_at_135 rfl ?_
              refine lv_ladd hx hb dM_at_136 ?_
              refine lv_goto (tgt := 144) hx hb dM_at_137 (by decide) ?_
              refine lv_lstore_n (lv' := [(3, .long (((xpl st) (c1 - 1)) + ((xpi st 3) (c0 - 1)).toInt64)), (0, .ref aM), (1, xv vad c0), (2, xv vad c1)]) hx hb dM_at_144 rfl hl (by decide) (by simp only [List.filter, xvcat, xrscat, xcI, xcL, xcR, xcN]; rfl) (fun ls hl => ?_)
              refine lv_lload_n hx hb dM_at_145 rfl (lv_at hl 0 rfl) ?_
              refine lv_lconst (v := 0) hx hb dM_at_146 (by decide) ?_
              refine W.lcmp hx hb dM_at_147 ?_
              refine lv_if_lt (tgt := 161) hx hb dM_at_148 (by decide) (fun hc => ?_) (fun hc => ?_)
              · rw [if_pos hc] at hf
                refine lv_aload_n hx hb dM_at_161 rfl (lv_at hl 1 rfl) ?_
                refine lv_iconst (v := 0) hx hb dM_at_162 (by decide) ?_
                obtain ⟨o3, hq4, hf⟩ := xbind hf
                have hl := lv_sub (l' := [(3, .long (((xpl st) (c1 - 1)) + ((xpi st 3) (c0 - 1)).toInt64)), (0, .ref aM)]) hl [0, 1] rfl
                obtain ⟨hm5, hf⟩ := xmoE hf
                have hFc := xm_free hD hS hA
                refine va_callq (va_runV (C := "ValueBenchModel") (As := [.int 0]) (rest := []) ⟨hx, hb, hml, hown, htx⟩ (gM_fresh l hl9 D cT aK aV s.heap.size n aM ad rd gd vad st (0 : Int32) o3 hq4) ⟨callB_of 1 htx (xw_goodC kw_6_16) rfl rfl rfl (htx _ kw_1_5) (htx _ kw_6_13) ⟨by decide, by decide, by decide +kernel⟩ ⟨Nat.le_of_ble_eq_true rfl, Nat.le_of_ble_eq_true rfl⟩, (htx _ kw_6_15), (htx _ kp_M_fresh)⟩ ⟨xPre_blind, va_recv hK hP (ci := 5) rfl (q0 := 0) rfl, (fun U hU hW => ⟨rfl, xPre_of hZ hS hFc hP hD hK U hU hW⟩)⟩ rfl rfl hl.1 rfl (xm_room (Nat.le_of_ble_eq_true rfl)) dM_at_163 ⟨hm5.1, hm5.2⟩) hS (fun q _ h => hFc q h) hFc (fun r6 u9 t H1 locs ht hvm hr9 hB hz1 hk1 hS => ?_)
                obtain ⟨hP1, hK1, hD1⟩ := hB
                rw [ht] at hP1
                obtain ⟨ad7, gd8, vad9⟩ := u9
                obtain ⟨hr9, hv10, hn11⟩ := hr9
                have hP : va_P D xcl (xMw cT aM ad7 rd gd8 vad9 o3.2.2.2 []) H1 := hP1
                have hD : va_D A (xMw cT aM ad7 rd gd8 vad9 o3.2.2.2 []) := hD1.weaken (fun k q _ h => hFc q.1 h)
                generalize H1 = H at hP hS ⊢
                have hE9 : ∀ p, p < xct st → vad9 p = vad p := fun p h => (hv10 p (Nat.lt_of_lt_of_le h hN)).trans (hE p h)
                have hE := hE9
                have hN : xct st ≤ xct o3.2.2.2 := Nat.le_trans hN hn11
                rw [hr9]
                refine W.eq (g2 := F0 m 166 ls [xv vad9 o3.2.2.1]) (by first | rfl | (skip; rfl)) ?_
                refine lv_goto (tgt := 176) hx hb dM_at_166 (by decide) ?_
                obtain rfl := Option.some.inj hf
                exact absurd (show (0 : Nat) = 1 from hkd) (by decide)
              · rw [if_neg hc] at hf
                refine lv_lload_n hx hb dM_at_151 rfl (lv_at hl 0 rfl) ?_
                refine xm_aload_n hx hb (xvor _ _) dM_at_152 rfl (lv_at hl 2 rfl) ?_
                refine xm_vget (v := .int ((xpi st 3) (c0 - 1))) hx hb htx hown hK hP 3 (by decide) hg1 rfl ((hZ.1 (103, "count", "I") (List.mem_of_getElem? (i := 3) rfl)).use rfl) rfl dM_at_153 ?_
                refine lv_i2l hx hb dM_at_156 rfl ?_
                refine W.lcmp hx hb dM_at_157 ?_
                refine lv_if_lt (tgt := 169) hx hb dM_at_158 (by decide) (fun hc => ?_) (fun hc => ?_)
                · rw [if_pos hc] at hf
                  refine lv_aload_n hx hb dM_at_169 rfl (lv_at hl 1 rfl) ?_
                  refine xm_aload_n hx hb (xvor _ _) dM_at_170 rfl (lv_at hl 2 rfl) ?_
                  refine lv_lload_n hx hb dM_at_171 rfl (lv_at hl 0 rfl) ?_
                  refine lv_l2i hx hb dM_at_172 rfl ?_
                  obtain ⟨o3, hq4, hf⟩ := xbind hf
                  have hl := lv_sub (l' := [(3, .long (((xpl st) (c1 - 1)) + ((xpi st 3) (c0 - 1)).toInt64)), (0, .ref aM)]) hl [0, 1] rfl
                  have hFc := xm_free hD hS hA
                  refine va_callq (va_runV (C := "ValueBenchModel") (As := [xv vad c0, .int (((xpl st) (c1 - 1)) + ((xpi st 3) (c0 - 1)).toInt64).toInt32]) (rest := []) ⟨hx, hb, hml, hown, htx⟩ (gM_kid l hl9 D cT aK aV s.heap.size n aM ad rd gd vad st c0 ((((xpl st) (c1 - 1)) + ((xpi st 3) (c0 - 1)).toInt64).toInt32) o3 hq4) ⟨callB_of 2 htx (xw_goodC kw_6_158) rfl rfl rfl (htx _ kw_1_5) (htx _ kw_6_155) ⟨by decide, by decide, by decide +kernel⟩ ⟨Nat.le_of_ble_eq_true rfl, Nat.le_of_ble_eq_true rfl⟩, (htx _ kw_6_157), (htx _ kp_M_kid)⟩ ⟨xPre_blind, va_recv hK hP (ci := 5) rfl (q0 := 0) rfl, (fun U hU hW => ⟨rfl, xPre_of hZ hS hFc hP hD hK U hU hW⟩)⟩ rfl rfl hl.1 rfl (xm_room (Nat.le_of_ble_eq_true rfl)) dM_at_173 ⟨Nat.zero_le _, Nat.zero_le _⟩) hS (fun q _ h => hFc q h) hFc (fun r5 u9 t H1 locs ht hvm hr9 hB hz1 hk1 hS => ?_)
                  obtain ⟨hP1, hK1, hD1⟩ := hB
                  rw [ht] at hP1
                  have hP : va_P D xcl (xMw cT aM ad rd gd vad st []) H1 := hP1
                  have hD : va_D A (xMw cT aM ad rd gd vad st []) := hD1.weaken (fun k q _ h => hFc q.1 h)
                  generalize H1 = H at hP hS ⊢
                  rw [hr9]
                  refine W.eq (g2 := F0 m 176 ls [xv vad o3]) (by first | rfl | (skip; rfl)) ?_
                  obtain rfl := Option.some.inj hf
                  exact absurd (show (0 : Nat) = 1 from hkd) (by decide)
                · rw [if_neg hc] at hf
                  refine lv_aload_n hx hb dM_at_161 rfl (lv_at hl 1 rfl) ?_
                  refine lv_iconst (v := 0) hx hb dM_at_162 (by decide) ?_
                  obtain ⟨o3, hq4, hf⟩ := xbind hf
                  have hl := lv_sub (l' := [(3, .long (((xpl st) (c1 - 1)) + ((xpi st 3) (c0 - 1)).toInt64)), (0, .ref aM)]) hl [0, 1] rfl
                  obtain ⟨hm5, hf⟩ := xmoE hf
                  have hFc := xm_free hD hS hA
                  refine va_callq (va_runV (C := "ValueBenchModel") (As := [.int 0]) (rest := []) ⟨hx, hb, hml, hown, htx⟩ (gM_fresh l hl9 D cT aK aV s.heap.size n aM ad rd gd vad st (0 : Int32) o3 hq4) ⟨callB_of 1 htx (xw_goodC kw_6_16) rfl rfl rfl (htx _ kw_1_5) (htx _ kw_6_13) ⟨by decide, by decide, by decide +kernel⟩ ⟨Nat.le_of_ble_eq_true rfl, Nat.le_of_ble_eq_true rfl⟩, (htx _ kw_6_15), (htx _ kp_M_fresh)⟩ ⟨xPre_blind, va_recv hK hP (ci := 5) rfl (q0 := 0) rfl, (fun U hU hW => ⟨rfl, xPre_of hZ hS hFc hP hD hK U hU hW⟩)⟩ rfl rfl hl.1 rfl (xm_room (Nat.le_of_ble_eq_true rfl)) dM_at_163 ⟨hm5.1, hm5.2⟩) hS (fun q _ h => hFc q h) hFc (fun r6 u9 t H1 locs ht hvm hr9 hB hz1 hk1 hS => ?_)
                  obtain ⟨hP1, hK1, hD1⟩ := hB
                  rw [ht] at hP1
                  obtain ⟨ad7, gd8, vad9⟩ := u9
                  obtain ⟨hr9, hv10, hn11⟩ := hr9
                  have hP : va_P D xcl (xMw cT aM ad7 rd gd8 vad9 o3.2.2.2 []) H1 := hP1
                  have hD : va_D A (xMw cT aM ad7 rd gd8 vad9 o3.2.2.2 []) := hD1.weaken (fun k q _ h => hFc q.1 h)
                  generalize H1 = H at hP hS ⊢
                  have hE9 : ∀ p, p < xct st → vad9 p = vad p := fun p h => (hv10 p (Nat.lt_of_lt_of_le h hN)).trans (hE p h)
                  have hE := hE9
                  have hN : xct st ≤ xct o3.2.2.2 := Nat.le_trans hN hn11
                  rw [hr9]
                  refine W.eq (g2 := F0 m 166 ls [xv vad9 o3.2.2.1]) (by first | rfl | (skip; rfl)) ?_
                  refine lv_goto (tgt := 176) hx hb dM_at_166 (by decide) ?_
                  obtain rfl := Option.some.inj hf
                  exact absurd (show (0 : Nat) = 1 from hkd) (by decide)
          · rw [if_neg hc] at hf
            refine lv_aload_n hx hb dM_at_112 rfl (lv_at hl 0 rfl) ?_
            refine lv_iconst (v := 1) hx hb dM_at_113 (by decide) ?_
            obtain ⟨o3, hq4, hf⟩ := xbind hf
            have hl := lv_sub (l' := [(0, .ref aM)]) hl [0] rfl
            by_cases hk5 : o3.1 = 1
            · rw [if_pos hk5] at hf
              obtain ⟨hm6, hf⟩ := xmoE hf
              have hFc := xm_free hD hS hA
              refine xx_thr (vx_runV (C := "ValueBenchModel") (As := [.int 1]) (rest := []) ⟨hx, hb, hml, hown, htx⟩ (gM_refuse_1 l hl9 D cT aK aV s.heap.size n aM ad rd gd vad st (1 : Int32) o3 hq4 hk5) ⟨callB_of 1 htx (xw_goodC kw_6_93) rfl rfl rfl (htx _ kw_1_5) (htx _ kw_6_90) ⟨by decide, by decide, by decide +kernel⟩ ⟨Nat.le_of_ble_eq_true rfl, Nat.le_of_ble_eq_true rfl⟩, (htx _ kw_6_92), (htx _ kp_M_refuse)⟩ ⟨xPre_blind, va_recv hK hP (ci := 5) rfl (q0 := 0) rfl, (fun U hU hW => ⟨rfl, xPre_of hZ hS hFc hP hD hK U hU hW⟩)⟩ rfl rfl hl.1 rfl (xm_room (Nat.le_of_ble_eq_true rfl)) dM_at_114 ⟨hm6.1, hm6.2⟩) hS hFc (fun q _ h => hFc q h) (fun E ce q9 u9 t H1 locs ht hvm hr9 hB hz1 hk1 hS hce hcv hcl => ?_)
              obtain ⟨rfl, hP1, hK1, hD1⟩ := hB
              rw [ht] at hP1
              obtain ⟨ad8, gd9, vad10⟩ := u9
              obtain ⟨hv11, hn12⟩ := hr9
              have hP : va_P D xcl (xMw cT aM ad8 rd gd9 vad10 o3.2.2.2.2 []) H1 := hP1
              have hD : va_D A (xMw cT aM ad8 rd gd9 vad10 o3.2.2.2.2 []) := hD1.weaken (fun k q _ h => hFc q.1 h)
              generalize H1 = H at hP hS hce ⊢
              have hE9 : ∀ p, p < xct st → vad10 p = vad p := fun p h => (hv11 p (Nat.lt_of_lt_of_le h hN)).trans (hE p h)
              have hE := hE9
              have hN : xct st ≤ xct o3.2.2.2.2 := Nat.le_trans hN hn12
              obtain rfl := Option.some.inj hf
              exact vx_out (E := "java/lang/ArithmeticException") (fun x h => (hne x h).elim) hlocks hce hcv hcl (fun t ht ha => ⟨(ad8, gd9, vad10), ⟨hE, hN⟩, ⟨rfl, by rw [ht]; exact hP, va_K.moved ha hK, hD⟩, hS.F ht⟩) hS.2.2 (Nat.le_refl _) (Nat.le_refl _)
            rw [if_neg hk5] at hf
            exact nomatch hf
        · rw [if_pos hc] at hf
          refine lv_aload_n hx hb dM_at_97 rfl (lv_at hl 0 rfl) ?_
          refine xm_aload_n hx hb (xvor _ _) dM_at_98 rfl (lv_at hl 1 rfl) ?_
          refine xm_aload_n hx hb (xvor _ _) dM_at_99 rfl (lv_at hl 2 rfl) ?_
          obtain ⟨o3, hq4, hf⟩ := xbind hf
          have hl := lv_sub (l' := [(0, .ref aM)]) hl [0] rfl
          by_cases hk5 : o3.1 = 0
          · rw [if_pos hk5] at hf
            obtain ⟨hm6, hf⟩ := xmoE hf
            have hFc := xm_free hD hS hA
            refine va_callq (va_runV (C := "ValueBenchModel") (As := [xv vad c0, xv vad c1]) (rest := []) ⟨hx, hb, hml, hown, htx⟩ (gM_indices l hl9 D cT aK aV s.heap.size d n aM ad rd gd vad st c0 c1 o3 hq4 hk5) ⟨callB_of 2 htx (xw_goodC kw_7_103) rfl rfl rfl (htx _ kw_1_5) (htx _ kw_7_100) ⟨by decide, by decide, by decide +kernel⟩ ⟨(by show (16 * d + 8) + 1 ≤ 16 * d + 9; omega), (by show 8 + (9 + 11) + (400 * d + 147) ≤ 400 * d + 175; omega)⟩, (htx _ kw_7_102), (htx _ kp_M_indices)⟩ ⟨xPre_blind, va_recv hK hP (ci := 5) rfl (q0 := 0) rfl, (fun U hU hW => ⟨rfl, xPre_of hZ hS hFc hP hD hK U hU hW⟩)⟩ rfl rfl hl.1 rfl (xm_room (Nat.le_of_ble_eq_true rfl)) dM_at_100 ⟨hm6.1, hm6.2⟩) hS (fun q _ h => hFc q h) hFc (fun r7 u9 t H1 locs ht hvm hr9 hB hz1 hk1 hS => ?_)
            obtain ⟨hP1, hK1, hD1⟩ := hB
            rw [ht] at hP1
            obtain ⟨ad8, gd9, vad10⟩ := u9
            obtain ⟨hr9, hv11, hn12⟩ := hr9
            have hP : va_P D xcl (xMw cT aM ad8 rd gd9 vad10 o3.2.2.2.2 []) H1 := hP1
            have hD : va_D A (xMw cT aM ad8 rd gd9 vad10 o3.2.2.2.2 []) := hD1.weaken (fun k q _ h => hFc q.1 h)
            generalize H1 = H at hP hS ⊢
            have hE9 : ∀ p, p < xct st → vad10 p = vad p := fun p h => (hv11 p (Nat.lt_of_lt_of_le h hN)).trans (hE p h)
            have hE := hE9
            have hN : xct st ≤ xct o3.2.2.2.2 := Nat.le_trans hN hn12
            rw [hr9]
            refine W.eq (g2 := F0 m 103 ls [xv vad10 o3.2.2.2.1]) (by first | rfl | (skip; rfl)) ?_
            obtain rfl := Option.some.inj hf
            exact absurd (show (0 : Nat) = 1 from hkd) (by decide)
          rw [if_neg hk5] at hf
          by_cases hk13 : o3.1 = 1
          · rw [if_pos hk13] at hf
            obtain ⟨hm14, hf⟩ := xmoE hf
            have hFc := xm_free hD hS hA
            refine xx_thr (vx_runV (C := "ValueBenchModel") (As := [xv vad c0, xv vad c1]) (rest := []) ⟨hx, hb, hml, hown, htx⟩ (gM_indices_1 l hl9 D cT aK aV s.heap.size d n aM ad rd gd vad st c0 c1 o3 hq4 hk13) ⟨callB_of 2 htx (xw_goodC kw_7_103) rfl rfl rfl (htx _ kw_1_5) (htx _ kw_7_100) ⟨by decide, by decide, by decide +kernel⟩ ⟨(by show (16 * d + 8) + 1 ≤ 16 * d + 9; omega), (by show 8 + (9 + 11) + (400 * d + 147) ≤ 400 * d + 175; omega)⟩, (htx _ kw_7_102), (htx _ kp_M_indices)⟩ ⟨xPre_blind, va_recv hK hP (ci := 5) rfl (q0 := 0) rfl, (fun U hU hW => ⟨rfl, xPre_of hZ hS hFc hP hD hK U hU hW⟩)⟩ rfl rfl hl.1 rfl (xm_room (Nat.le_of_ble_eq_true rfl)) dM_at_100 ⟨hm14.1, hm14.2⟩) hS hFc (fun q _ h => hFc q h) (fun E ce q9 u9 t H1 locs ht hvm hr9 hB hz1 hk1 hS hce hcv hcl => ?_)
            obtain ⟨rfl, hP1, hK1, hD1⟩ := hB
            rw [ht] at hP1
            obtain ⟨ad16, gd17, vad18⟩ := u9
            obtain ⟨hv19, hn20⟩ := hr9
            have hP : va_P D xcl (xMw cT aM ad16 rd gd17 vad18 o3.2.2.2.2 []) H1 := hP1
            have hD : va_D A (xMw cT aM ad16 rd gd17 vad18 o3.2.2.2.2 []) := hD1.weaken (fun k q _ h => hFc q.1 h)
            generalize H1 = H at hP hS hce ⊢
            have hE9 : ∀ p, p < xct st → vad18 p = vad p := fun p h => (hv19 p (Nat.lt_of_lt_of_le h hN)).trans (hE p h)
            have hE := hE9
            have hN : xct st ≤ xct o3.2.2.2.2 := Nat.le_trans hN hn20
            obtain rfl := Option.some.inj hf
            exact vx_out (E := "java/lang/ArithmeticException") (fun x h => (hne x h).elim) hlocks hce hcv hcl (fun t ht ha => ⟨(ad16, gd17, vad18), ⟨hE, hN⟩, ⟨rfl, by rw [ht]; exact hP, va_K.moved ha hK, hD⟩, hS.F ht⟩) hS.2.2 (Nat.le_refl _) (Nat.le_refl _)
          rw [if_neg hk13] at hf
          by_cases hk21 : o3.1 = 2
          · rw [if_pos hk21] at hf
            obtain ⟨hm22, hf⟩ := xmoE hf
            obtain rfl := Option.some.inj hf
            exact absurd (show (2 : Nat) = 1 from hkd) (by decide)
          rw [if_neg hk21] at hf
          exact nomatch hf
      · rw [if_neg hc] at hf
        refine lv_aload_n hx hb dM_at_83 rfl (lv_at hl 0 rfl) ?_
        refine lv_iconst (v := 1) hx hb dM_at_84 (by decide) ?_
        obtain ⟨o2, hq3, hf⟩ := xbind hf
        have hl := lv_sub (l' := [(0, .ref aM)]) hl [0] rfl
        by_cases hk4 : o2.1 = 1
        · rw [if_pos hk4] at hf
          obtain ⟨hm5, hf⟩ := xmoE hf
          have hFc := xm_free hD hS hA
          refine xx_thr (vx_runV (C := "ValueBenchModel") (As := [.int 1]) (rest := []) ⟨hx, hb, hml, hown, htx⟩ (gM_refuse_1 l hl9 D cT aK aV s.heap.size n aM ad rd gd vad st (1 : Int32) o2 hq3 hk4) ⟨callB_of 1 htx (xw_goodC kw_6_93) rfl rfl rfl (htx _ kw_1_5) (htx _ kw_6_90) ⟨by decide, by decide, by decide +kernel⟩ ⟨Nat.le_of_ble_eq_true rfl, Nat.le_of_ble_eq_true rfl⟩, (htx _ kw_6_92), (htx _ kp_M_refuse)⟩ ⟨xPre_blind, va_recv hK hP (ci := 5) rfl (q0 := 0) rfl, (fun U hU hW => ⟨rfl, xPre_of hZ hS hFc hP hD hK U hU hW⟩)⟩ rfl rfl hl.1 rfl (xm_room (Nat.le_of_ble_eq_true rfl)) dM_at_85 ⟨hm5.1, hm5.2⟩) hS hFc (fun q _ h => hFc q h) (fun E ce q9 u9 t H1 locs ht hvm hr9 hB hz1 hk1 hS hce hcv hcl => ?_)
          obtain ⟨rfl, hP1, hK1, hD1⟩ := hB
          rw [ht] at hP1
          obtain ⟨ad7, gd8, vad9⟩ := u9
          obtain ⟨hv10, hn11⟩ := hr9
          have hP : va_P D xcl (xMw cT aM ad7 rd gd8 vad9 o2.2.2.2.2 []) H1 := hP1
          have hD : va_D A (xMw cT aM ad7 rd gd8 vad9 o2.2.2.2.2 []) := hD1.weaken (fun k q _ h => hFc q.1 h)
          generalize H1 = H at hP hS hce ⊢
          have hE9 : ∀ p, p < xct st → vad9 p = vad p := fun p h => (hv10 p (Nat.lt_of_lt_of_le h hN)).trans (hE p h)
          have hE := hE9
          have hN : xct st ≤ xct o2.2.2.2.2 := Nat.le_trans hN hn11
          obtain rfl := Option.some.inj hf
          exact vx_out (E := "java/lang/ArithmeticException") (fun x h => (hne x h).elim) hlocks hce hcv hcl (fun t ht ha => ⟨(ad7, gd8, vad9), ⟨hE, hN⟩, ⟨rfl, by rw [ht]; exact hP, va_K.moved ha hK, hD⟩, hS.F ht⟩) hS.2.2 (Nat.le_refl _) (Nat.le_refl _)
        rw [if_neg hk4] at hf
        exact nomatch hf
    · rw [if_pos hc] at hf
      refine xm_aload_n hx hb (xvor _ _) dM_at_41 rfl (lv_at hl 2 rfl) ?_
      obtain ⟨hg2, hf⟩ := xifn hf
      refine xm_vget (v := .int ((xpi st 0) (c1 - 1))) hx hb htx hown hK hP 0 (by decide) hg2 rfl ((hZ.1 (93, "kind", "I") (List.mem_of_getElem? (i := 0) rfl)).use rfl) rfl dM_at_42 ?_
      refine lv_iconst (v := 4) hx hb dM_at_45 (by decide) ?_
      refine lv_icmp_ne (tgt := 75) hx hb dM_at_46 (by decide) (fun hc => ?_) (fun hc => ?_)
      · rw [if_neg hc] at hf
        refine xm_aload_n hx hb (xvor _ _) dM_at_75 rfl (lv_at hl 1 rfl) ?_
        refine xm_vget (v := .int ((xpi st 0) (c0 - 1))) hx hb htx hown hK hP 0 (by decide) hg1 rfl ((hZ.1 (93, "kind", "I") (List.mem_of_getElem? (i := 0) rfl)).use rfl) rfl dM_at_76 ?_
        refine lv_iconst (v := 5) hx hb dM_at_79 (by decide) ?_
        refine lv_icmp_eq (tgt := 89) hx hb dM_at_80 (by decide) (fun hc => ?_) (fun hc => ?_)
        · rw [if_pos hc] at hf
          refine xm_aload_n hx hb (xvor _ _) dM_at_89 rfl (lv_at hl 2 rfl) ?_
          refine xm_vget (v := .int ((xpi st 0) (c1 - 1))) hx hb htx hown hK hP 0 (by decide) hg2 rfl ((hZ.1 (93, "kind", "I") (List.mem_of_getElem? (i := 0) rfl)).use rfl) rfl dM_at_90 ?_
          refine lv_iconst (v := 5) hx hb dM_at_93 (by decide) ?_
          refine lv_icmp_ne (tgt := 104) hx hb dM_at_94 (by decide) (fun hc => ?_) (fun hc => ?_)
          · rw [if_neg hc] at hf
            refine xm_aload_n hx hb (xvor _ _) dM_at_104 rfl (lv_at hl 2 rfl) ?_
            refine xm_vget (v := .int ((xpi st 0) (c1 - 1))) hx hb htx hown hK hP 0 (by decide) hg2 rfl ((hZ.1 (93, "kind", "I") (List.mem_of_getElem? (i := 0) rfl)).use rfl) rfl dM_at_105 ?_
            refine lv_iconst (v := 3) hx hb dM_at_108 (by decide) ?_
            refine lv_icmp_eq (tgt := 118) hx hb dM_at_109 (by decide) (fun hc => ?_) (fun hc => ?_)
            · rw [if_pos hc] at hf
              refine xm_aload_n hx hb (xvor _ _) dM_at_118 rfl (lv_at hl 2 rfl) ?_
              refine xm_vget (v := .long ((xpl st) (c1 - 1))) hx hb htx hown hK hP 1 (by decide) hg2 rfl ((hZ.1 (96, "n", "J") (List.mem_of_getElem? (i := 1) rfl)).use rfl) rfl dM_at_119 ?_
              refine lv_lconst (v := 0) hx hb dM_at_122 (by decide) ?_
              refine W.lcmp hx hb dM_at_123 ?_
              refine lv_if_ge (tgt := 140) hx hb dM_at_124 (by decide) (fun hc => ?_) (fun hc => ?_)
              · rw [if_pos hc] at hf
                refine xm_aload_n hx hb (xvor _ _) dM_at_140 rfl (lv_at hl 2 rfl) ?_
                refine xm_vget (v := .long ((xpl st) (c1 - 1))) hx hb htx hown hK hP 1 (by decide) hg2 rfl ((hZ.1 (96, "n", "J") (List.mem_of_getElem? (i := 1) rfl)).use rfl) rfl dM_at_141 ?_
                refine lv_lstore_n (lv' := [(3, .long ((xpl st) (c1 - 1))), (0, .ref aM), (1, xv vad c0), (2, xv vad c1)]) hx hb dM_at_144 rfl hl (by decide) (by simp only [List.filter, xvcat, xrscat, xcI, xcL, xcR, xcN]; rfl) (fun ls hl => ?_)
                refine lv_lload_n hx hb dM_at_145 rfl (lv_at hl 0 rfl) ?_
                refine lv_lconst (v := 0) hx hb dM_at_146 (by decide) ?_
                refine W.lcmp hx hb dM_at_147 ?_
                refine lv_if_lt (tgt := 161) hx hb dM_at_148 (by decide) (fun hc => ?_) (fun hc => ?_)
                · rw [if_pos hc] at hf
                  refine lv_aload_n hx hb dM_at_161 rfl (lv_at hl 1 rfl) ?_
                  refine lv_iconst (v := 0) hx hb dM_at_162 (by decide) ?_
                  obtain ⟨o3, hq4, hf⟩ := xbind hf
                  have hl := lv_sub (l' := [(3, .long ((xpl st) (c1 - 1))), (0, .ref aM)]) hl [0, 1] rfl
                  obtain ⟨hm5, hf⟩ := xmoE hf
                  have hFc := xm_free hD hS hA
                  refine va_callq (va_runV (C := "ValueBenchModel") (As := [.int 0]) (rest := []) ⟨hx, hb, hml, hown, htx⟩ (gM_fresh l hl9 D cT aK aV s.heap.size n aM ad rd gd vad st (0 : Int32) o3 hq4) ⟨callB_of 1 htx (xw_goodC kw_6_16) rfl rfl rfl (htx _ kw_1_5) (htx _ kw_6_13) ⟨by decide, by decide, by decide +kernel⟩ ⟨Nat.le_of_ble_eq_true rfl, Nat.le_of_ble_eq_true rfl⟩, (htx _ kw_6_15), (htx _ kp_M_fresh)⟩ ⟨xPre_blind, va_recv hK hP (ci := 5) rfl (q0 := 0) rfl, (fun U hU hW => ⟨rfl, xPre_of hZ hS hFc hP hD hK U hU hW⟩)⟩ rfl rfl hl.1 rfl (xm_room (Nat.le_of_ble_eq_true rfl)) dM_at_163 ⟨hm5.1, hm5.2⟩) hS (fun q _ h => hFc q h) hFc (fun r6 u9 t H1 locs ht hvm hr9 hB hz1 hk1 hS => ?_)
                  obtain ⟨hP1, hK1, hD1⟩ := hB
                  rw [ht] at hP1
                  obtain ⟨ad7, gd8, vad9⟩ := u9
                  obtain ⟨hr9, hv10, hn11⟩ := hr9
                  have hP : va_P D xcl (xMw cT aM ad7 rd gd8 vad9 o3.2.2.2 []) H1 := hP1
                  have hD : va_D A (xMw cT aM ad7 rd gd8 vad9 o3.2.2.2 []) := hD1.weaken (fun k q _ h => hFc q.1 h)
                  generalize H1 = H at hP hS ⊢
                  have hE9 : ∀ p, p < xct st → vad9 p = vad p := fun p h => (hv10 p (Nat.lt_of_lt_of_le h hN)).trans (hE p h)
                  have hE := hE9
                  have hN : xct st ≤ xct o3.2.2.2 := Nat.le_trans hN hn11
                  rw [hr9]
                  refine W.eq (g2 := F0 m 166 ls [xv vad9 o3.2.2.1]) (by first | rfl | (skip; rfl)) ?_
                  refine lv_goto (tgt := 176) hx hb dM_at_166 (by decide) ?_
                  obtain rfl := Option.some.inj hf
                  exact absurd (show (0 : Nat) = 1 from hkd) (by decide)
                · rw [if_neg hc] at hf
                  refine lv_lload_n hx hb dM_at_151 rfl (lv_at hl 0 rfl) ?_
                  refine xm_aload_n hx hb (xvor _ _) dM_at_152 rfl (lv_at hl 2 rfl) ?_
                  refine xm_vget (v := .int ((xpi st 3) (c0 - 1))) hx hb htx hown hK hP 3 (by decide) hg1 rfl ((hZ.1 (103, "count", "I") (List.mem_of_getElem? (i := 3) rfl)).use rfl) rfl dM_at_153 ?_
                  refine lv_i2l hx hb dM_at_156 rfl ?_
                  refine W.lcmp hx hb dM_at_157 ?_
                  refine lv_if_lt (tgt := 169) hx hb dM_at_158 (by decide) (fun hc => ?_) (fun hc => ?_)
                  · rw [if_pos hc] at hf
                    refine lv_aload_n hx hb dM_at_169 rfl (lv_at hl 1 rfl) ?_
                    refine xm_aload_n hx hb (xvor _ _) dM_at_170 rfl (lv_at hl 2 rfl) ?_
                    refine lv_lload_n hx hb dM_at_171 rfl (lv_at hl 0 rfl) ?_
                    refine lv_l2i hx hb dM_at_172 rfl ?_
                    obtain ⟨o3, hq4, hf⟩ := xbind hf
                    have hl := lv_sub (l' := [(3, .long ((xpl st) (c1 - 1))), (0, .ref aM)]) hl [0, 1] rfl
                    have hFc := xm_free hD hS hA
                    refine va_callq (va_runV (C := "ValueBenchModel") (As := [xv vad c0, .int ((xpl st) (c1 - 1)).toInt32]) (rest := []) ⟨hx, hb, hml, hown, htx⟩ (gM_kid l hl9 D cT aK aV s.heap.size n aM ad rd gd vad st c0 (((xpl st) (c1 - 1)).toInt32) o3 hq4) ⟨callB_of 2 htx (xw_goodC kw_6_158) rfl rfl rfl (htx _ kw_1_5) (htx _ kw_6_155) ⟨by decide, by decide, by decide +kernel⟩ ⟨Nat.le_of_ble_eq_true rfl, Nat.le_of_ble_eq_true rfl⟩, (htx _ kw_6_157), (htx _ kp_M_kid)⟩ ⟨xPre_blind, va_recv hK hP (ci := 5) rfl (q0 := 0) rfl, (fun U hU hW => ⟨rfl, xPre_of hZ hS hFc hP hD hK U hU hW⟩)⟩ rfl rfl hl.1 rfl (xm_room (Nat.le_of_ble_eq_true rfl)) dM_at_173 ⟨Nat.zero_le _, Nat.zero_le _⟩) hS (fun q _ h => hFc q h) hFc (fun r5 u9 t H1 locs ht hvm hr9 hB hz1 hk1 hS => ?_)
                    obtain ⟨hP1, hK1, hD1⟩ := hB
                    rw [ht] at hP1
                    have hP : va_P D xcl (xMw cT aM ad rd gd vad st []) H1 := hP1
                    have hD : va_D A (xMw cT aM ad rd gd vad st []) := hD1.weaken (fun k q _ h => hFc q.1 h)
                    generalize H1 = H at hP hS ⊢
                    rw [hr9]
                    refine W.eq (g2 := F0 m 176 ls [xv vad o3]) (by first | rfl | (skip; rfl)) ?_
                    obtain rfl := Option.some.inj hf
                    exact absurd (show (0 : Nat) = 1 from hkd) (by decide)
                  · rw [if_neg hc] at hf
                    refine lv_aload_n hx hb dM_at_161 rfl (lv_at hl 1 rfl) ?_
                    refine lv_iconst (v := 0) hx hb dM_at_162 (by decide) ?_
                    obtain ⟨o3, hq4, hf⟩ := xbind hf
                    have hl := lv_sub (l' := [(3, .long ((xpl st) (c1 - 1))), (0, .ref aM)]) hl [0, 1] rfl
                    obtain ⟨hm5, hf⟩ := xmoE hf
                    have hFc := xm_free hD hS hA
                    refine va_callq (va_runV (C := "ValueBenchModel") (As := [.int 0]) (rest := []) ⟨hx, hb, hml, hown, htx⟩ (gM_fresh l hl9 D cT aK aV s.heap.size n aM ad rd gd vad st (0 : Int32) o3 hq4) ⟨callB_of 1 htx (xw_goodC kw_6_16) rfl rfl rfl (htx _ kw_1_5) (htx _ kw_6_13) ⟨by decide, by decide, by decide +kernel⟩ ⟨Nat.le_of_ble_eq_true rfl, Nat.le_of_ble_eq_true rfl⟩, (htx _ kw_6_15), (htx _ kp_M_fresh)⟩ ⟨xPre_blind, va_recv hK hP (ci := 5) rfl (q0 := 0) rfl, (fun U hU hW => ⟨rfl, xPre_of hZ hS hFc hP hD hK U hU hW⟩)⟩ rfl rfl hl.1 rfl (xm_room (Nat.le_of_ble_eq_true rfl)) dM_at_163 ⟨hm5.1, hm5.2⟩) hS (fun q _ h => hFc q h) hFc (fun r6 u9 t H1 locs ht hvm hr9 hB hz1 hk1 hS => ?_)
                    obtain ⟨hP1, hK1, hD1⟩ := hB
                    rw [ht] at hP1
                    obtain ⟨ad7, gd8, vad9⟩ := u9
                    obtain ⟨hr9, hv10, hn11⟩ := hr9
                    have hP : va_P D xcl (xMw cT aM ad7 rd gd8 vad9 o3.2.2.2 []) H1 := hP1
                    have hD : va_D A (xMw cT aM ad7 rd gd8 vad9 o3.2.2.2 []) := hD1.weaken (fun k q _ h => hFc q.1 h)
                    generalize H1 = H at hP hS ⊢
                    have hE9 : ∀ p, p < xct st → vad9 p = vad p := fun p h => (hv10 p (Nat.lt_of_lt_of_le h hN)).trans (hE p h)
                    have hE := hE9
                    have hN : xct st ≤ xct o3.2.2.2 := Nat.le_trans hN hn11
                    rw [hr9]
                    refine W.eq (g2 := F0 m 166 ls [xv vad9 o3.2.2.1]) (by first | rfl | (skip; rfl)) ?_
                    refine lv_goto (tgt := 176) hx hb dM_at_166 (by decide) ?_
                    obtain rfl := Option.some.inj hf
                    exact absurd (show (0 : Nat) = 1 from hkd) (by decide)
              · rw [if_neg hc] at hf
                refine xm_aload_n hx hb (xvor _ _) dM_at_127 rfl (lv_at hl 2 rfl) ?_
                refine xm_vget (v := .long ((xpl st) (c1 - 1))) hx hb htx hown hK hP 1 (by decide) hg2 rfl ((hZ.1 (96, "n", "J") (List.mem_of_getElem? (i := 1) rfl)).use rfl) rfl dM_at_128 ?_
                refine xm_aload_n hx hb (xvor _ _) dM_at_131 rfl (lv_at hl 1 rfl) ?_
                refine xm_vget (v := .int ((xpi st 3) (c0 - 1))) hx hb htx hown hK hP 3 (by decide) hg1 rfl ((hZ.1 (103, "count", "I") (List.mem_of_getElem? (i := 3) rfl)).use rfl) rfl dM_at_132 ?_
                refine lv_i2l hx hb dM_at_135 rfl ?_
                refine lv_ladd hx hb dM_at_136 ?_
                refine lv_goto (tgt := 144) hx hb dM_at_137 (by decide) ?_
                refine lv_lstore_n (lv' := [(3, .long (((xpl st) (c1 - 1)) + ((xpi st 3) (c0 - 1)).toInt64)), (0, .ref aM), (1, xv vad c0), (2, xv vad c1)]) hx hb dM_at_144 rfl hl (by decide) (by simp only [List.filter, xvcat, xrscat, xcI, xcL, xcR, xcN]; rfl) (fun ls hl => ?_)
                refine lv_lload_n hx hb dM_at_145 rfl (lv_at hl 0 rfl) ?_
                refine lv_lconst (v := 0) hx hb dM_at_146 (by decide) ?_
                refine W.lcmp hx hb dM_at_147 ?_
                refine lv_if_lt (tgt := 161) hx hb dM_at_148 (by decide) (fun hc => ?_) (fun hc => ?_)
                · rw [if_pos hc] at hf
                  refine lv_aload_n hx hb dM_at_161 rfl (lv_at hl 1 rfl) ?_
                  refine lv_iconst (v := 0) hx hb dM_at_162 (by decide) ?_
                  obtain ⟨o3, hq4, hf⟩ := xbind hf
                  have hl := lv_sub (l' := [(3, .long (((xpl st) (c1 - 1)) + ((xpi st 3) (c0 - 1)).toInt64)), (0, .ref aM)]) hl [0, 1] rfl
                  obtain ⟨hm5, hf⟩ := xmoE hf
                  have hFc := xm_free hD hS hA
                  refine va_callq (va_runV (C := "ValueBenchModel") (As := [.int 0]) (rest := []) ⟨hx, hb, hml, hown, htx⟩ (gM_fresh l hl9 D cT aK aV s.heap.size n aM ad rd gd vad st (0 : Int32) o3 hq4) ⟨callB_of 1 htx (xw_goodC kw_6_16) rfl rfl rfl (htx _ kw_1_5) (htx _ kw_6_13) ⟨by decide, by decide, by decide +kernel⟩ ⟨Nat.le_of_ble_eq_true rfl, Nat.le_of_ble_eq_true rfl⟩, (htx _ kw_6_15), (htx _ kp_M_fresh)⟩ ⟨xPre_blind, va_recv hK hP (ci := 5) rfl (q0 := 0) rfl, (fun U hU hW => ⟨rfl, xPre_of hZ hS hFc hP hD hK U hU hW⟩)⟩ rfl rfl hl.1 rfl (xm_room (Nat.le_of_ble_eq_true rfl)) dM_at_163 ⟨hm5.1, hm5.2⟩) hS (fun q _ h => hFc q h) hFc (fun r6 u9 t H1 locs ht hvm hr9 hB hz1 hk1 hS => ?_)
                  obtain ⟨hP1, hK1, hD1⟩ := hB
                  rw [ht] at hP1
                  obtain ⟨ad7, gd8, vad9⟩ := u9
                  obtain ⟨hr9, hv10, hn11⟩ := hr9
                  have hP : va_P D xcl (xMw cT aM ad7 rd gd8 vad9 o3.2.2.2 []) H1 := hP1
                  have hD : va_D A (xMw cT aM ad7 rd gd8 vad9 o3.2.2.2 []) := hD1.weaken (fun k q _ h => hFc q.1 h)
                  generalize H1 = H at hP hS ⊢
                  have hE9 : ∀ p, p < xct st → vad9 p = vad p := fun p h => (hv10 p (Nat.lt_of_lt_of_le h hN)).trans (hE p h)
                  have hE := hE9
                  have hN : xct st ≤ xct o3.2.2.2 := Nat.le_trans hN hn11
                  rw [hr9]
                  refine W.eq (g2 := F0 m 166 ls [xv vad9 o3.2.2.1]) (by first | rfl | (skip; rfl)) ?_
                  refine lv_goto (tgt := 176) hx hb dM_at_166 (by decide) ?_
                  obtain rfl := Option.some.inj hf
                  exact absurd (show (0 : Nat) = 1 from hkd) (by decide)
                · rw [if_neg hc] at hf
                  refine lv_lload_n hx hb dM_at_151 rfl (lv_at hl 0 rfl) ?_
                  refine xm_aload_n hx hb (xvor _ _) dM_at_152 rfl (lv_at hl 2 rfl) ?_
                  refine xm_vget (v := .int ((xpi st 3) (c0 - 1))) hx hb htx hown hK hP 3 (by decide) hg1 rfl ((hZ.1 (103, "count", "I") (List.mem_of_getElem? (i := 3) rfl)).use rfl) rfl dM_at_153 ?_
                  refine lv_i2l hx hb dM_at_156 rfl ?_
                  refine W.lcmp hx hb dM_at_157 ?_
                  refine lv_if_lt (tgt := 169) hx hb dM_at_158 (by decide) (fun hc => ?_) (fun hc => ?_)
                  · rw [if_pos hc] at hf
                    refine lv_aload_n hx hb dM_at_169 rfl (lv_at hl 1 rfl) ?_
                    refine xm_aload_n hx hb (xvor _ _) dM_at_170 rfl (lv_at hl 2 rfl) ?_
                    refine lv_lload_n hx hb dM_at_171 rfl (lv_at hl 0 rfl) ?_
                    refine lv_l2i hx hb dM_at_172 rfl ?_
                    obtain ⟨o3, hq4, hf⟩ := xbind hf
                    have hl := lv_sub (l' := [(3, .long (((xpl st) (c1 - 1)) + ((xpi st 3) (c0 - 1)).toInt64)), (0, .ref aM)]) hl [0, 1] rfl
                    have hFc := xm_free hD hS hA
                    refine va_callq (va_runV (C := "ValueBenchModel") (As := [xv vad c0, .int (((xpl st) (c1 - 1)) + ((xpi st 3) (c0 - 1)).toInt64).toInt32]) (rest := []) ⟨hx, hb, hml, hown, htx⟩ (gM_kid l hl9 D cT aK aV s.heap.size n aM ad rd gd vad st c0 ((((xpl st) (c1 - 1)) + ((xpi st 3) (c0 - 1)).toInt64).toInt32) o3 hq4) ⟨callB_of 2 htx (xw_goodC kw_6_158) rfl rfl rfl (htx _ kw_1_5) (htx _ kw_6_155) ⟨by decide, by decide, by decide +kernel⟩ ⟨Nat.le_of_ble_eq_true rfl, Nat.le_of_ble_eq_true rfl⟩, (htx _ kw_6_157), (htx _ kp_M_kid)⟩ ⟨xPre_blind, va_recv hK hP (ci := 5) rfl (q0 := 0) rfl, (fun U hU hW => ⟨rfl, xPre_of hZ hS hFc hP hD hK U hU hW⟩)⟩ rfl rfl hl.1 rfl (xm_room (Nat.le_of_ble_eq_true rfl)) dM_at_173 ⟨Nat.zero_le _, Nat.zero_le _⟩) hS (fun q _ h => hFc q h) hFc (fun r5 u9 t H1 locs ht hvm hr9 hB hz1 hk1 hS => ?_)
                    obtain ⟨hP1, hK1, hD1⟩ := hB
                    rw [ht] at hP1
                    have hP : va_P D xcl (xMw cT aM ad rd gd vad st []) H1 := hP1
                    have hD : va_D A (xMw cT aM ad rd gd vad st []) := hD1.weaken (fun k q _ h => hFc q.1 h)
                    generalize H1 = H at hP hS ⊢
                    rw [hr9]
                    refine W.eq (g2 := F0 m 176 ls [xv vad o3]) (by first | rfl | (skip; rfl)) ?_
                    obtain rfl := Option.some.inj hf
                    exact absurd (show (0 : Nat) = 1 from hkd) (by decide)
                  · rw [if_neg hc] at hf
                    refine lv_aload_n hx hb dM_at_161 rfl (lv_at hl 1 rfl) ?_
                    refine lv_iconst (v := 0) hx hb dM_at_162 (by decide) ?_
                    obtain ⟨o3, hq4, hf⟩ := xbind hf
                    have hl := lv_sub (l' := [(3, .long (((xpl st) (c1 - 1)) + ((xpi st 3) (c0 - 1)).toInt64)), (0, .ref aM)]) hl [0, 1] rfl
                    obtain ⟨hm5, hf⟩ := xmoE hf
                    have hFc := xm_free hD hS hA
                    refine va_callq (va_runV (C := "ValueBenchModel") (As := [.int 0]) (rest := []) ⟨hx, hb, hml, hown, htx⟩ (gM_fresh l hl9 D cT aK aV s.heap.size n aM ad rd gd vad st (0 : Int32) o3 hq4) ⟨callB_of 1 htx (xw_goodC kw_6_16) rfl rfl rfl (htx _ kw_1_5) (htx _ kw_6_13) ⟨by decide, by decide, by decide +kernel⟩ ⟨Nat.le_of_ble_eq_true rfl, Nat.le_of_ble_eq_true rfl⟩, (htx _ kw_6_15), (htx _ kp_M_fresh)⟩ ⟨xPre_blind, va_recv hK hP (ci := 5) rfl (q0 := 0) rfl, (fun U hU hW => ⟨rfl, xPre_of hZ hS hFc hP hD hK U hU hW⟩)⟩ rfl rfl hl.1 rfl (xm_room (Nat.le_of_ble_eq_true rfl)) dM_at_163 ⟨hm5.1, hm5.2⟩) hS (fun q _ h => hFc q h) hFc (fun r6 u9 t H1 locs ht hvm hr9 hB hz1 hk1 hS => ?_)
                    obtain ⟨hP1, hK1, hD1⟩ := hB
                    rw [ht] at hP1
                    obtain ⟨ad7, gd8, vad9⟩ := u9
                    obtain ⟨hr9, hv10, hn11⟩ := hr9
                    have hP : va_P D xcl (xMw cT aM ad7 rd gd8 vad9 o3.2.2.2 []) H1 := hP1
                    have hD : va_D A (xMw cT aM ad7 rd gd8 vad9 o3.2.2.2 []) := hD1.weaken (fun k q _ h => hFc q.1 h)
                    generalize H1 = H at hP hS ⊢
                    have hE9 : ∀ p, p < xct st → vad9 p = vad p := fun p h => (hv10 p (Nat.lt_of_lt_of_le h hN)).trans (hE p h)
                    have hE := hE9
                    have hN : xct st ≤ xct o3.2.2.2 := Nat.le_trans hN hn11
                    rw [hr9]
                    refine W.eq (g2 := F0 m 166 ls [xv vad9 o3.2.2.1]) (by first | rfl | (skip; rfl)) ?_
                    refine lv_goto (tgt := 176) hx hb dM_at_166 (by decide) ?_
                    obtain rfl := Option.some.inj hf
                    exact absurd (show (0 : Nat) = 1 from hkd) (by decide)
            · rw [if_neg hc] at hf
              refine lv_aload_n hx hb dM_at_112 rfl (lv_at hl 0 rfl) ?_
              refine lv_iconst (v := 1) hx hb dM_at_113 (by decide) ?_
              obtain ⟨o3, hq4, hf⟩ := xbind hf
              have hl := lv_sub (l' := [(0, .ref aM)]) hl [0] rfl
              by_cases hk5 : o3.1 = 1
              · rw [if_pos hk5] at hf
                obtain ⟨hm6, hf⟩ := xmoE hf
                have hFc := xm_free hD hS hA
                refine xx_thr (vx_runV (C := "ValueBenchModel") (As := [.int 1]) (rest := []) ⟨hx, hb, hml, hown, htx⟩ (gM_refuse_1 l hl9 D cT aK aV s.heap.size n aM ad rd gd vad st (1 : Int32) o3 hq4 hk5) ⟨callB_of 1 htx (xw_goodC kw_6_93) rfl rfl rfl (htx _ kw_1_5) (htx _ kw_6_90) ⟨by decide, by decide, by decide +kernel⟩ ⟨Nat.le_of_ble_eq_true rfl, Nat.le_of_ble_eq_true rfl⟩, (htx _ kw_6_92), (htx _ kp_M_refuse)⟩ ⟨xPre_blind, va_recv hK hP (ci := 5) rfl (q0 := 0) rfl, (fun U hU hW => ⟨rfl, xPre_of hZ hS hFc hP hD hK U hU hW⟩)⟩ rfl rfl hl.1 rfl (xm_room (Nat.le_of_ble_eq_true rfl)) dM_at_114 ⟨hm6.1, hm6.2⟩) hS hFc (fun q _ h => hFc q h) (fun E ce q9 u9 t H1 locs ht hvm hr9 hB hz1 hk1 hS hce hcv hcl => ?_)
                obtain ⟨rfl, hP1, hK1, hD1⟩ := hB
                rw [ht] at hP1
                obtain ⟨ad8, gd9, vad10⟩ := u9
                obtain ⟨hv11, hn12⟩ := hr9
                have hP : va_P D xcl (xMw cT aM ad8 rd gd9 vad10 o3.2.2.2.2 []) H1 := hP1
                have hD : va_D A (xMw cT aM ad8 rd gd9 vad10 o3.2.2.2.2 []) := hD1.weaken (fun k q _ h => hFc q.1 h)
                generalize H1 = H at hP hS hce ⊢
                have hE9 : ∀ p, p < xct st → vad10 p = vad p := fun p h => (hv11 p (Nat.lt_of_lt_of_le h hN)).trans (hE p h)
                have hE := hE9
                have hN : xct st ≤ xct o3.2.2.2.2 := Nat.le_trans hN hn12
                obtain rfl := Option.some.inj hf
                exact vx_out (E := "java/lang/ArithmeticException") (fun x h => (hne x h).elim) hlocks hce hcv hcl (fun t ht ha => ⟨(ad8, gd9, vad10), ⟨hE, hN⟩, ⟨rfl, by rw [ht]; exact hP, va_K.moved ha hK, hD⟩, hS.F ht⟩) hS.2.2 (Nat.le_refl _) (Nat.le_refl _)
              rw [if_neg hk5] at hf
              exact nomatch hf
          · rw [if_pos hc] at hf
            refine lv_aload_n hx hb dM_at_97 rfl (lv_at hl 0 rfl) ?_
            refine xm_aload_n hx hb (xvor _ _) dM_at_98 rfl (lv_at hl 1 rfl) ?_
            refine xm_aload_n hx hb (xvor _ _) dM_at_99 rfl (lv_at hl 2 rfl) ?_
            obtain ⟨o3, hq4, hf⟩ := xbind hf
            have hl := lv_sub (l' := [(0, .ref aM)]) hl [0] rfl
            by_cases hk5 : o3.1 = 0
            · rw [if_pos hk5] at hf
              obtain ⟨hm6, hf⟩ := xmoE hf
              have hFc := xm_free hD hS hA
              refine va_callq (va_runV (C := "ValueBenchModel") (As := [xv vad c0, xv vad c1]) (rest := []) ⟨hx, hb, hml, hown, htx⟩ (gM_indices l hl9 D cT aK aV s.heap.size d n aM ad rd gd vad st c0 c1 o3 hq4 hk5) ⟨callB_of 2 htx (xw_goodC kw_7_103) rfl rfl rfl (htx _ kw_1_5) (htx _ kw_7_100) ⟨by decide, by decide, by decide +kernel⟩ ⟨(by show (16 * d + 8) + 1 ≤ 16 * d + 9; omega), (by show 8 + (9 + 11) + (400 * d + 147) ≤ 400 * d + 175; omega)⟩, (htx _ kw_7_102), (htx _ kp_M_indices)⟩ ⟨xPre_blind, va_recv hK hP (ci := 5) rfl (q0 := 0) rfl, (fun U hU hW => ⟨rfl, xPre_of hZ hS hFc hP hD hK U hU hW⟩)⟩ rfl rfl hl.1 rfl (xm_room (Nat.le_of_ble_eq_true rfl)) dM_at_100 ⟨hm6.1, hm6.2⟩) hS (fun q _ h => hFc q h) hFc (fun r7 u9 t H1 locs ht hvm hr9 hB hz1 hk1 hS => ?_)
              obtain ⟨hP1, hK1, hD1⟩ := hB
              rw [ht] at hP1
              obtain ⟨ad8, gd9, vad10⟩ := u9
              obtain ⟨hr9, hv11, hn12⟩ := hr9
              have hP : va_P D xcl (xMw cT aM ad8 rd gd9 vad10 o3.2.2.2.2 []) H1 := hP1
              have hD : va_D A (xMw cT aM ad8 rd gd9 vad10 o3.2.2.2.2 []) := hD1.weaken (fun k q _ h => hFc q.1 h)
              generalize H1 = H at hP hS ⊢
              have hE9 : ∀ p, p < xct st → vad10 p = vad p := fun p h => (hv11 p (Nat.lt_of_lt_of_le h hN)).trans (hE p h)
              have hE := hE9
              have hN : xct st ≤ xct o3.2.2.2.2 := Nat.le_trans hN hn12
              rw [hr9]
              refine W.eq (g2 := F0 m 103 ls [xv vad10 o3.2.2.2.1]) (by first | rfl | (skip; rfl)) ?_
              obtain rfl := Option.some.inj hf
              exact absurd (show (0 : Nat) = 1 from hkd) (by decide)
            rw [if_neg hk5] at hf
            by_cases hk13 : o3.1 = 1
            · rw [if_pos hk13] at hf
              obtain ⟨hm14, hf⟩ := xmoE hf
              have hFc := xm_free hD hS hA
              refine xx_thr (vx_runV (C := "ValueBenchModel") (As := [xv vad c0, xv vad c1]) (rest := []) ⟨hx, hb, hml, hown, htx⟩ (gM_indices_1 l hl9 D cT aK aV s.heap.size d n aM ad rd gd vad st c0 c1 o3 hq4 hk13) ⟨callB_of 2 htx (xw_goodC kw_7_103) rfl rfl rfl (htx _ kw_1_5) (htx _ kw_7_100) ⟨by decide, by decide, by decide +kernel⟩ ⟨(by show (16 * d + 8) + 1 ≤ 16 * d + 9; omega), (by show 8 + (9 + 11) + (400 * d + 147) ≤ 400 * d + 175; omega)⟩, (htx _ kw_7_102), (htx _ kp_M_indices)⟩ ⟨xPre_blind, va_recv hK hP (ci := 5) rfl (q0 := 0) rfl, (fun U hU hW => ⟨rfl, xPre_of hZ hS hFc hP hD hK U hU hW⟩)⟩ rfl rfl hl.1 rfl (xm_room (Nat.le_of_ble_eq_true rfl)) dM_at_100 ⟨hm14.1, hm14.2⟩) hS hFc (fun q _ h => hFc q h) (fun E ce q9 u9 t H1 locs ht hvm hr9 hB hz1 hk1 hS hce hcv hcl => ?_)
              obtain ⟨rfl, hP1, hK1, hD1⟩ := hB
              rw [ht] at hP1
              obtain ⟨ad16, gd17, vad18⟩ := u9
              obtain ⟨hv19, hn20⟩ := hr9
              have hP : va_P D xcl (xMw cT aM ad16 rd gd17 vad18 o3.2.2.2.2 []) H1 := hP1
              have hD : va_D A (xMw cT aM ad16 rd gd17 vad18 o3.2.2.2.2 []) := hD1.weaken (fun k q _ h => hFc q.1 h)
              generalize H1 = H at hP hS hce ⊢
              have hE9 : ∀ p, p < xct st → vad18 p = vad p := fun p h => (hv19 p (Nat.lt_of_lt_of_le h hN)).trans (hE p h)
              have hE := hE9
              have hN : xct st ≤ xct o3.2.2.2.2 := Nat.le_trans hN hn20
              obtain rfl := Option.some.inj hf
              exact vx_out (E := "java/lang/ArithmeticException") (fun x h => (hne x h).elim) hlocks hce hcv hcl (fun t ht ha => ⟨(ad16, gd17, vad18), ⟨hE, hN⟩, ⟨rfl, by rw [ht]; exact hP, va_K.moved ha hK, hD⟩, hS.F ht⟩) hS.2.2 (Nat.le_refl _) (Nat.le_refl _)
            rw [if_neg hk13] at hf
            by_cases hk21 : o3.1 = 2
            · rw [if_pos hk21] at hf
              obtain ⟨hm22, hf⟩ := xmoE hf
              obtain rfl := Option.some.inj hf
              exact absurd (show (2 : Nat) = 1 from hkd) (by decide)
            rw [if_neg hk21] at hf
            exact nomatch hf
        · rw [if_neg hc] at hf
          refine lv_aload_n hx hb dM_at_83 rfl (lv_at hl 0 rfl) ?_
          refine lv_iconst (v := 1) hx hb dM_at_84 (by decide) ?_
          obtain ⟨o3, hq4, hf⟩ := xbind hf
          have hl := lv_sub (l' := [(0, .ref aM)]) hl [0] rfl
          by_cases hk5 : o3.1 = 1
          · rw [if_pos hk5] at hf
            obtain ⟨hm6, hf⟩ := xmoE hf
            have hFc := xm_free hD hS hA
            refine xx_thr (vx_runV (C := "ValueBenchModel") (As := [.int 1]) (rest := []) ⟨hx, hb, hml, hown, htx⟩ (gM_refuse_1 l hl9 D cT aK aV s.heap.size n aM ad rd gd vad st (1 : Int32) o3 hq4 hk5) ⟨callB_of 1 htx (xw_goodC kw_6_93) rfl rfl rfl (htx _ kw_1_5) (htx _ kw_6_90) ⟨by decide, by decide, by decide +kernel⟩ ⟨Nat.le_of_ble_eq_true rfl, Nat.le_of_ble_eq_true rfl⟩, (htx _ kw_6_92), (htx _ kp_M_refuse)⟩ ⟨xPre_blind, va_recv hK hP (ci := 5) rfl (q0 := 0) rfl, (fun U hU hW => ⟨rfl, xPre_of hZ hS hFc hP hD hK U hU hW⟩)⟩ rfl rfl hl.1 rfl (xm_room (Nat.le_of_ble_eq_true rfl)) dM_at_85 ⟨hm6.1, hm6.2⟩) hS hFc (fun q _ h => hFc q h) (fun E ce q9 u9 t H1 locs ht hvm hr9 hB hz1 hk1 hS hce hcv hcl => ?_)
            obtain ⟨rfl, hP1, hK1, hD1⟩ := hB
            rw [ht] at hP1
            obtain ⟨ad8, gd9, vad10⟩ := u9
            obtain ⟨hv11, hn12⟩ := hr9
            have hP : va_P D xcl (xMw cT aM ad8 rd gd9 vad10 o3.2.2.2.2 []) H1 := hP1
            have hD : va_D A (xMw cT aM ad8 rd gd9 vad10 o3.2.2.2.2 []) := hD1.weaken (fun k q _ h => hFc q.1 h)
            generalize H1 = H at hP hS hce ⊢
            have hE9 : ∀ p, p < xct st → vad10 p = vad p := fun p h => (hv11 p (Nat.lt_of_lt_of_le h hN)).trans (hE p h)
            have hE := hE9
            have hN : xct st ≤ xct o3.2.2.2.2 := Nat.le_trans hN hn12
            obtain rfl := Option.some.inj hf
            exact vx_out (E := "java/lang/ArithmeticException") (fun x h => (hne x h).elim) hlocks hce hcv hcl (fun t ht ha => ⟨(ad8, gd9, vad10), ⟨hE, hN⟩, ⟨rfl, by rw [ht]; exact hP, va_K.moved ha hK, hD⟩, hS.F ht⟩) hS.2.2 (Nat.le_refl _) (Nat.le_refl _)
          rw [if_neg hk5] at hf
          exact nomatch hf
      · rw [if_pos hc] at hf
        refine lv_aload_n hx hb dM_at_49 rfl (lv_at hl 0 rfl) ?_
        refine xm_aload_n hx hb (xvor _ _) dM_at_50 rfl (lv_at hl 1 rfl) ?_
        refine xm_aload_n hx hb (xvor _ _) dM_at_51 rfl (lv_at hl 2 rfl) ?_
        obtain ⟨o3, hq4, hf⟩ := xbind hf
        have hl := lv_sub (l' := [(0, .ref aM), (1, xv vad c0)]) hl [0, 1] rfl
        have hFc := xm_free hD hS hA
        refine va_calli (va_runV (C := "ValueBenchModel") (As := [xv vad c0, xv vad c1]) (rest := []) ⟨hx, hb, hml, hown, htx⟩ (gM_place l hl9 D cT aK aV s.heap.size n aM ad rd gd vad st c0 c1 o3 hq4) ⟨callB_of 2 htx (xw_goodC kw_6_178) rfl rfl rfl (htx _ kw_1_5) (htx _ kw_6_175) ⟨by decide, by decide, by decide +kernel⟩ ⟨Nat.le_of_ble_eq_true rfl, Nat.le_of_ble_eq_true rfl⟩, (htx _ kw_6_177), (htx _ kp_M_place)⟩ ⟨xPre_blind, va_recv hK hP (ci := 5) rfl (q0 := 0) rfl, (fun U hU hW => ⟨rfl, xPre_of hZ hS hFc hP hD hK U hU hW⟩)⟩ rfl rfl hl.1 rfl (xm_room (Nat.le_of_ble_eq_true rfl)) dM_at_52 ⟨Nat.zero_le _, Nat.zero_le _⟩) hS (fun q _ h => hFc q h) hFc (fun r5 u9 t H1 locs ht hvm hr9 hB hz1 hk1 hS => ?_)
        obtain ⟨hP1, hK1, hD1⟩ := hB
        rw [ht] at hP1
        have hP : va_P D xcl (xMw cT aM ad rd gd vad st []) H1 := hP1
        have hD : va_D A (xMw cT aM ad rd gd vad st []) := hD1.weaken (fun k q _ h => hFc q.1 h)
        generalize H1 = H at hP hS ⊢
        rw [hr9]
        refine W.eq (g2 := F0 m 55 ls [.int o3]) (by first | rfl | (skip; rfl)) ?_
        refine lv_istore_n (lv' := [(3, .int o3), (0, .ref aM), (1, xv vad c0)]) hx hb dM_at_55 rfl hl (by decide) rfl (fun ls hl => ?_)
        refine lv_iload_n hx hb dM_at_56 rfl (lv_at hl 0 rfl) ?_
        refine lv_if_ge (tgt := 68) hx hb dM_at_57 (by decide) (fun hc => ?_) (fun hc => ?_)
        · rw [if_pos hc] at hf
          refine lv_aload_n hx hb dM_at_68 rfl (lv_at hl 1 rfl) ?_
          refine xm_aload_n hx hb (xvor _ _) dM_at_69 rfl (lv_at hl 2 rfl) ?_
          refine lv_iload_n hx hb dM_at_70 rfl (lv_at hl 0 rfl) ?_
          obtain ⟨o6, hq7, hf⟩ := xbind hf
          have hl := lv_sub (l' := [(3, .int o3), (0, .ref aM)]) hl [0, 1] rfl
          have hFc := xm_free hD hS hA
          refine va_callq (va_runV (C := "ValueBenchModel") (As := [xv vad c0, .int o3]) (rest := []) ⟨hx, hb, hml, hown, htx⟩ (gM_kid l hl9 D cT aK aV H.size n aM ad rd gd vad st c0 o3 o6 hq7) ⟨callB_of 2 htx (xw_goodC kw_6_158) rfl rfl rfl (htx _ kw_1_5) (htx _ kw_6_155) ⟨by decide, by decide, by decide +kernel⟩ ⟨Nat.le_of_ble_eq_true rfl, Nat.le_of_ble_eq_true rfl⟩, (htx _ kw_6_157), (htx _ kp_M_kid)⟩ ⟨xPre_blind, va_recv hK hP (ci := 5) rfl (q0 := 0) rfl, (fun U hU hW => ⟨rfl, xPre_of hZ hS hFc hP hD hK U hU hW⟩)⟩ rfl rfl hl.1 rfl (xm_room (Nat.le_of_ble_eq_true rfl)) dM_at_71 ⟨Nat.zero_le _, Nat.zero_le _⟩) hS (fun q _ h => hFc q h) hFc (fun r8 u9 t H1 locs ht hvm hr9 hB hz1 hk1 hS => ?_)
          obtain ⟨hP1, hK1, hD1⟩ := hB
          rw [ht] at hP1
          have hP : va_P D xcl (xMw cT aM ad rd gd vad st []) H1 := hP1
          have hD : va_D A (xMw cT aM ad rd gd vad st []) := hD1.weaken (fun k q _ h => hFc q.1 h)
          generalize H1 = H at hP hS ⊢
          rw [hr9]
          refine W.eq (g2 := F0 m 74 ls [xv vad o6]) (by first | rfl | (skip; rfl)) ?_
          obtain rfl := Option.some.inj hf
          exact absurd (show (0 : Nat) = 1 from hkd) (by decide)
        · rw [if_neg hc] at hf
          refine lv_aload_n hx hb dM_at_60 rfl (lv_at hl 1 rfl) ?_
          refine lv_iconst (v := 0) hx hb dM_at_61 (by decide) ?_
          obtain ⟨o6, hq7, hf⟩ := xbind hf
          have hl := lv_sub (l' := [(3, .int o3), (0, .ref aM)]) hl [0, 1] rfl
          obtain ⟨hm8, hf⟩ := xmoE hf
          have hFc := xm_free hD hS hA
          refine va_callq (va_runV (C := "ValueBenchModel") (As := [.int 0]) (rest := []) ⟨hx, hb, hml, hown, htx⟩ (gM_fresh l hl9 D cT aK aV H.size n aM ad rd gd vad st (0 : Int32) o6 hq7) ⟨callB_of 1 htx (xw_goodC kw_6_16) rfl rfl rfl (htx _ kw_1_5) (htx _ kw_6_13) ⟨by decide, by decide, by decide +kernel⟩ ⟨Nat.le_of_ble_eq_true rfl, Nat.le_of_ble_eq_true rfl⟩, (htx _ kw_6_15), (htx _ kp_M_fresh)⟩ ⟨xPre_blind, va_recv hK hP (ci := 5) rfl (q0 := 0) rfl, (fun U hU hW => ⟨rfl, xPre_of hZ hS hFc hP hD hK U hU hW⟩)⟩ rfl rfl hl.1 rfl (xm_room (Nat.le_of_ble_eq_true rfl)) dM_at_62 ⟨hm8.1, hm8.2⟩) hS (fun q _ h => hFc q h) hFc (fun r9 u9 t H1 locs ht hvm hr9 hB hz1 hk1 hS => ?_)
          obtain ⟨hP1, hK1, hD1⟩ := hB
          rw [ht] at hP1
          obtain ⟨ad10, gd11, vad12⟩ := u9
          obtain ⟨hr9, hv13, hn14⟩ := hr9
          have hP : va_P D xcl (xMw cT aM ad10 rd gd11 vad12 o6.2.2.2 []) H1 := hP1
          have hD : va_D A (xMw cT aM ad10 rd gd11 vad12 o6.2.2.2 []) := hD1.weaken (fun k q _ h => hFc q.1 h)
          generalize H1 = H at hP hS ⊢
          have hE9 : ∀ p, p < xct st → vad12 p = vad p := fun p h => (hv13 p (Nat.lt_of_lt_of_le h hN)).trans (hE p h)
          have hE := hE9
          have hN : xct st ≤ xct o6.2.2.2 := Nat.le_trans hN hn14
          rw [hr9]
          refine W.eq (g2 := F0 m 65 ls [xv vad12 o6.2.2.1]) (by first | rfl | (skip; rfl)) ?_
          refine lv_goto (tgt := 74) hx hb dM_at_65 (by decide) ?_
          obtain rfl := Option.some.inj hf
          exact absurd (show (0 : Nat) = 1 from hkd) (by decide)
  · rw [if_pos hc] at hf
    refine xm_aload_n hx hb (xvor _ _) dM_at_7 rfl (lv_at hl 2 rfl) ?_
    obtain ⟨hg2, hf⟩ := xifn hf
    refine xm_vget (v := .int ((xpi st 0) (c1 - 1))) hx hb htx hown hK hP 0 (by decide) hg2 rfl ((hZ.1 (93, "kind", "I") (List.mem_of_getElem? (i := 0) rfl)).use rfl) rfl dM_at_8 ?_
    refine lv_if_eq (tgt := 30) hx hb dM_at_11 (by decide) (fun hc => ?_) (fun hc => ?_)
    · rw [if_pos hc] at hf
      refine xm_aload_n hx hb (xvor _ _) dM_at_30 rfl (lv_at hl 1 rfl) ?_
      obtain rfl := Option.some.inj hf
      exact absurd (show (0 : Nat) = 1 from hkd) (by decide)
    · rw [if_neg hc] at hf
      refine xm_aload_n hx hb (xvor _ _) dM_at_14 rfl (lv_at hl 2 rfl) ?_
      refine xm_vget (v := .int ((xpi st 0) (c1 - 1))) hx hb htx hown hK hP 0 (by decide) hg2 rfl ((hZ.1 (93, "kind", "I") (List.mem_of_getElem? (i := 0) rfl)).use rfl) rfl dM_at_15 ?_
      refine lv_iconst (v := 3) hx hb dM_at_18 (by decide) ?_
      refine lv_icmp_eq (tgt := 30) hx hb dM_at_19 (by decide) (fun hc => ?_) (fun hc => ?_)
      · rw [if_pos hc] at hf
        refine xm_aload_n hx hb (xvor _ _) dM_at_30 rfl (lv_at hl 1 rfl) ?_
        obtain rfl := Option.some.inj hf
        exact absurd (show (0 : Nat) = 1 from hkd) (by decide)
      · rw [if_neg hc] at hf
        refine xm_aload_n hx hb (xvor _ _) dM_at_22 rfl (lv_at hl 2 rfl) ?_
        refine xm_vget (v := .int ((xpi st 0) (c1 - 1))) hx hb htx hown hK hP 0 (by decide) hg2 rfl ((hZ.1 (93, "kind", "I") (List.mem_of_getElem? (i := 0) rfl)).use rfl) rfl dM_at_23 ?_
        refine lv_iconst (v := 4) hx hb dM_at_26 (by decide) ?_
        refine lv_icmp_ne (tgt := 32) hx hb dM_at_27 (by decide) (fun hc => ?_) (fun hc => ?_)
        · rw [if_neg hc] at hf
          refine xm_aload_n hx hb (xvor _ _) dM_at_32 rfl (lv_at hl 1 rfl) ?_
          refine xm_vget (v := .int ((xpi st 0) (c0 - 1))) hx hb htx hown hK hP 0 (by decide) hg1 rfl ((hZ.1 (93, "kind", "I") (List.mem_of_getElem? (i := 0) rfl)).use rfl) rfl dM_at_33 ?_
          refine lv_bipush (v := 6) hx hb dM_at_36 (by decide) ?_
          refine lv_icmp_ne (tgt := 75) hx hb dM_at_38 (by decide) (fun hc => ?_) (fun hc => ?_)
          · rw [if_neg hc] at hf
            refine xm_aload_n hx hb (xvor _ _) dM_at_75 rfl (lv_at hl 1 rfl) ?_
            refine xm_vget (v := .int ((xpi st 0) (c0 - 1))) hx hb htx hown hK hP 0 (by decide) hg1 rfl ((hZ.1 (93, "kind", "I") (List.mem_of_getElem? (i := 0) rfl)).use rfl) rfl dM_at_76 ?_
            refine lv_iconst (v := 5) hx hb dM_at_79 (by decide) ?_
            refine lv_icmp_eq (tgt := 89) hx hb dM_at_80 (by decide) (fun hc => ?_) (fun hc => ?_)
            · rw [if_pos hc] at hf
              refine xm_aload_n hx hb (xvor _ _) dM_at_89 rfl (lv_at hl 2 rfl) ?_
              refine xm_vget (v := .int ((xpi st 0) (c1 - 1))) hx hb htx hown hK hP 0 (by decide) hg2 rfl ((hZ.1 (93, "kind", "I") (List.mem_of_getElem? (i := 0) rfl)).use rfl) rfl dM_at_90 ?_
              refine lv_iconst (v := 5) hx hb dM_at_93 (by decide) ?_
              refine lv_icmp_ne (tgt := 104) hx hb dM_at_94 (by decide) (fun hc => ?_) (fun hc => ?_)
              · rw [if_neg hc] at hf
                refine xm_aload_n hx hb (xvor _ _) dM_at_104 rfl (lv_at hl 2 rfl) ?_
                refine xm_vget (v := .int ((xpi st 0) (c1 - 1))) hx hb htx hown hK hP 0 (by decide) hg2 rfl ((hZ.1 (93, "kind", "I") (List.mem_of_getElem? (i := 0) rfl)).use rfl) rfl dM_at_105 ?_
                refine lv_iconst (v := 3) hx hb dM_at_108 (by decide) ?_
                refine lv_icmp_eq (tgt := 118) hx hb dM_at_109 (by decide) (fun hc => ?_) (fun hc => ?_)
                · rw [if_pos hc] at hf
                  refine xm_aload_n hx hb (xvor _ _) dM_at_118 rfl (lv_at hl 2 rfl) ?_
                  refine xm_vget (v := .long ((xpl st) (c1 - 1))) hx hb htx hown hK hP 1 (by decide) hg2 rfl ((hZ.1 (96, "n", "J") (List.mem_of_getElem? (i := 1) rfl)).use rfl) rfl dM_at_119 ?_
                  refine lv_lconst (v := 0) hx hb dM_at_122 (by decide) ?_
                  refine W.lcmp hx hb dM_at_123 ?_
                  refine lv_if_ge (tgt := 140) hx hb dM_at_124 (by decide) (fun hc => ?_) (fun hc => ?_)
                  · rw [if_pos hc] at hf
                    refine xm_aload_n hx hb (xvor _ _) dM_at_140 rfl (lv_at hl 2 rfl) ?_
                    refine xm_vget (v := .long ((xpl st) (c1 - 1))) hx hb htx hown hK hP 1 (by decide) hg2 rfl ((hZ.1 (96, "n", "J") (List.mem_of_getElem? (i := 1) rfl)).use rfl) rfl dM_at_141 ?_
                    refine lv_lstore_n (lv' := [(3, .long ((xpl st) (c1 - 1))), (0, .ref aM), (1, xv vad c0), (2, xv vad c1)]) hx hb dM_at_144 rfl hl (by decide) (by simp only [List.filter, xvcat, xrscat, xcI, xcL, xcR, xcN]; rfl) (fun ls hl => ?_)
                    refine lv_lload_n hx hb dM_at_145 rfl (lv_at hl 0 rfl) ?_
                    refine lv_lconst (v := 0) hx hb dM_at_146 (by decide) ?_
                    refine W.lcmp hx hb dM_at_147 ?_
                    refine lv_if_lt (tgt := 161) hx hb dM_at_148 (by decide) (fun hc => ?_) (fun hc => ?_)
                    · rw [if_pos hc] at hf
                      refine lv_aload_n hx hb dM_at_161 rfl (lv_at hl 1 rfl) ?_
                      refine lv_iconst (v := 0) hx hb dM_at_162 (by decide) ?_
                      obtain ⟨o3, hq4, hf⟩ := xbind hf
                      have hl := lv_sub (l' := [(3, .long ((xpl st) (c1 - 1))), (0, .ref aM)]) hl [0, 1] rfl
                      obtain ⟨hm5, hf⟩ := xmoE hf
                      have hFc := xm_free hD hS hA
                      refine va_callq (va_runV (C := "ValueBenchModel") (As := [.int 0]) (rest := []) ⟨hx, hb, hml, hown, htx⟩ (gM_fresh l hl9 D cT aK aV s.heap.size n aM ad rd gd vad st (0 : Int32) o3 hq4) ⟨callB_of 1 htx (xw_goodC kw_6_16) rfl rfl rfl (htx _ kw_1_5) (htx _ kw_6_13) ⟨by decide, by decide, by decide +kernel⟩ ⟨Nat.le_of_ble_eq_true rfl, Nat.le_of_ble_eq_true rfl⟩, (htx _ kw_6_15), (htx _ kp_M_fresh)⟩ ⟨xPre_blind, va_recv hK hP (ci := 5) rfl (q0 := 0) rfl, (fun U hU hW => ⟨rfl, xPre_of hZ hS hFc hP hD hK U hU hW⟩)⟩ rfl rfl hl.1 rfl (xm_room (Nat.le_of_ble_eq_true rfl)) dM_at_163 ⟨hm5.1, hm5.2⟩) hS (fun q _ h => hFc q h) hFc (fun r6 u9 t H1 locs ht hvm hr9 hB hz1 hk1 hS => ?_)
                      obtain ⟨hP1, hK1, hD1⟩ := hB
                      rw [ht] at hP1
                      obtain ⟨ad7, gd8, vad9⟩ := u9
                      obtain ⟨hr9, hv10, hn11⟩ := hr9
                      have hP : va_P D xcl (xMw cT aM ad7 rd gd8 vad9 o3.2.2.2 []) H1 := hP1
                      have hD : va_D A (xMw cT aM ad7 rd gd8 vad9 o3.2.2.2 []) := hD1.weaken (fun k q _ h => hFc q.1 h)
                      generalize H1 = H at hP hS ⊢
                      have hE9 : ∀ p, p < xct st → vad9 p = vad p := fun p h => (hv10 p (Nat.lt_of_lt_of_le h hN)).trans (hE p h)
                      have hE := hE9
                      have hN : xct st ≤ xct o3.2.2.2 := Nat.le_trans hN hn11
                      rw [hr9]
                      refine W.eq (g2 := F0 m 166 ls [xv vad9 o3.2.2.1]) (by first | rfl | (skip; rfl)) ?_
                      refine lv_goto (tgt := 176) hx hb dM_at_166 (by decide) ?_
                      obtain rfl := Option.some.inj hf
                      exact absurd (show (0 : Nat) = 1 from hkd) (by decide)
                    · rw [if_neg hc] at hf
                      refine lv_lload_n hx hb dM_at_151 rfl (lv_at hl 0 rfl) ?_
                      refine xm_aload_n hx hb (xvor _ _) dM_at_152 rfl (lv_at hl 2 rfl) ?_
                      refine xm_vget (v := .int ((xpi st 3) (c0 - 1))) hx hb htx hown hK hP 3 (by decide) hg1 rfl ((hZ.1 (103, "count", "I") (List.mem_of_getElem? (i := 3) rfl)).use rfl) rfl dM_at_153 ?_
                      refine lv_i2l hx hb dM_at_156 rfl ?_
                      refine W.lcmp hx hb dM_at_157 ?_
                      refine lv_if_lt (tgt := 169) hx hb dM_at_158 (by decide) (fun hc => ?_) (fun hc => ?_)
                      · rw [if_pos hc] at hf
                        refine lv_aload_n hx hb dM_at_169 rfl (lv_at hl 1 rfl) ?_
                        refine xm_aload_n hx hb (xvor _ _) dM_at_170 rfl (lv_at hl 2 rfl) ?_
                        refine lv_lload_n hx hb dM_at_171 rfl (lv_at hl 0 rfl) ?_
                        refine lv_l2i hx hb dM_at_172 rfl ?_
                        obtain ⟨o3, hq4, hf⟩ := xbind hf
                        have hl := lv_sub (l' := [(3, .long ((xpl st) (c1 - 1))), (0, .ref aM)]) hl [0, 1] rfl
                        have hFc := xm_free hD hS hA
                        refine va_callq (va_runV (C := "ValueBenchModel") (As := [xv vad c0, .int ((xpl st) (c1 - 1)).toInt32]) (rest := []) ⟨hx, hb, hml, hown, htx⟩ (gM_kid l hl9 D cT aK aV s.heap.size n aM ad rd gd vad st c0 (((xpl st) (c1 - 1)).toInt32) o3 hq4) ⟨callB_of 2 htx (xw_goodC kw_6_158) rfl rfl rfl (htx _ kw_1_5) (htx _ kw_6_155) ⟨by decide, by decide, by decide +kernel⟩ ⟨Nat.le_of_ble_eq_true rfl, Nat.le_of_ble_eq_true rfl⟩, (htx _ kw_6_157), (htx _ kp_M_kid)⟩ ⟨xPre_blind, va_recv hK hP (ci := 5) rfl (q0 := 0) rfl, (fun U hU hW => ⟨rfl, xPre_of hZ hS hFc hP hD hK U hU hW⟩)⟩ rfl rfl hl.1 rfl (xm_room (Nat.le_of_ble_eq_true rfl)) dM_at_173 ⟨Nat.zero_le _, Nat.zero_le _⟩) hS (fun q _ h => hFc q h) hFc (fun r5 u9 t H1 locs ht hvm hr9 hB hz1 hk1 hS => ?_)
                        obtain ⟨hP1, hK1, hD1⟩ := hB
                        rw [ht] at hP1
                        have hP : va_P D xcl (xMw cT aM ad rd gd vad st []) H1 := hP1
                        have hD : va_D A (xMw cT aM ad rd gd vad st []) := hD1.weaken (fun k q _ h => hFc q.1 h)
                        generalize H1 = H at hP hS ⊢
                        rw [hr9]
                        refine W.eq (g2 := F0 m 176 ls [xv vad o3]) (by first | rfl | (skip; rfl)) ?_
                        obtain rfl := Option.some.inj hf
                        exact absurd (show (0 : Nat) = 1 from hkd) (by decide)
                      · rw [if_neg hc] at hf
                        refine lv_aload_n hx hb dM_at_161 rfl (lv_at hl 1 rfl) ?_
                        refine lv_iconst (v := 0) hx hb dM_at_162 (by decide) ?_
                        obtain ⟨o3, hq4, hf⟩ := xbind hf
                        have hl := lv_sub (l' := [(3, .long ((xpl st) (c1 - 1))), (0, .ref aM)]) hl [0, 1] rfl
                        obtain ⟨hm5, hf⟩ := xmoE hf
                        have hFc := xm_free hD hS hA
                        refine va_callq (va_runV (C := "ValueBenchModel") (As := [.int 0]) (rest := []) ⟨hx, hb, hml, hown, htx⟩ (gM_fresh l hl9 D cT aK aV s.heap.size n aM ad rd gd vad st (0 : Int32) o3 hq4) ⟨callB_of 1 htx (xw_goodC kw_6_16) rfl rfl rfl (htx _ kw_1_5) (htx _ kw_6_13) ⟨by decide, by decide, by decide +kernel⟩ ⟨Nat.le_of_ble_eq_true rfl, Nat.le_of_ble_eq_true rfl⟩, (htx _ kw_6_15), (htx _ kp_M_fresh)⟩ ⟨xPre_blind, va_recv hK hP (ci := 5) rfl (q0 := 0) rfl, (fun U hU hW => ⟨rfl, xPre_of hZ hS hFc hP hD hK U hU hW⟩)⟩ rfl rfl hl.1 rfl (xm_room (Nat.le_of_ble_eq_true rfl)) dM_at_163 ⟨hm5.1, hm5.2⟩) hS (fun q _ h => hFc q h) hFc (fun r6 u9 t H1 locs ht hvm hr9 hB hz1 hk1 hS => ?_)
                        obtain ⟨hP1, hK1, hD1⟩ := hB
                        rw [ht] at hP1
                        obtain ⟨ad7, gd8, vad9⟩ := u9
                        obtain ⟨hr9, hv10, hn11⟩ := hr9
                        have hP : va_P D xcl (xMw cT aM ad7 rd gd8 vad9 o3.2.2.2 []) H1 := hP1
                        have hD : va_D A (xMw cT aM ad7 rd gd8 vad9 o3.2.2.2 []) := hD1.weaken (fun k q _ h => hFc q.1 h)
                        generalize H1 = H at hP hS ⊢
                        have hE9 : ∀ p, p < xct st → vad9 p = vad p := fun p h => (hv10 p (Nat.lt_of_lt_of_le h hN)).trans (hE p h)
                        have hE := hE9
                        have hN : xct st ≤ xct o3.2.2.2 := Nat.le_trans hN hn11
                        rw [hr9]
                        refine W.eq (g2 := F0 m 166 ls [xv vad9 o3.2.2.1]) (by first | rfl | (skip; rfl)) ?_
                        refine lv_goto (tgt := 176) hx hb dM_at_166 (by decide) ?_
                        obtain rfl := Option.some.inj hf
                        exact absurd (show (0 : Nat) = 1 from hkd) (by decide)
                  · rw [if_neg hc] at hf
                    refine xm_aload_n hx hb (xvor _ _) dM_at_127 rfl (lv_at hl 2 rfl) ?_
                    refine xm_vget (v := .long ((xpl st) (c1 - 1))) hx hb htx hown hK hP 1 (by decide) hg2 rfl ((hZ.1 (96, "n", "J") (List.mem_of_getElem? (i := 1) rfl)).use rfl) rfl dM_at_128 ?_
                    refine xm_aload_n hx hb (xvor _ _) dM_at_131 rfl (lv_at hl 1 rfl) ?_
                    refine xm_vget (v := .int ((xpi st 3) (c0 - 1))) hx hb htx hown hK hP 3 (by decide) hg1 rfl ((hZ.1 (103, "count", "I") (List.mem_of_getElem? (i := 3) rfl)).use rfl) rfl dM_at_132 ?_
                    refine lv_i2l hx hb dM_at_135 rfl ?_
                    refine lv_ladd hx hb dM_at_136 ?_
                    refine lv_goto (tgt := 144) hx hb dM_at_137 (by decide) ?_
                    refine lv_lstore_n (lv' := [(3, .long (((xpl st) (c1 - 1)) + ((xpi st 3) (c0 - 1)).toInt64)), (0, .ref aM), (1, xv vad c0), (2, xv vad c1)]) hx hb dM_at_144 rfl hl (by decide) (by simp only [List.filter, xvcat, xrscat, xcI, xcL, xcR, xcN]; rfl) (fun ls hl => ?_)
                    refine lv_lload_n hx hb dM_at_145 rfl (lv_at hl 0 rfl) ?_
                    refine lv_lconst (v := 0) hx hb dM_at_146 (by decide) ?_
                    refine W.lcmp hx hb dM_at_147 ?_
                    refine lv_if_lt (tgt := 161) hx hb dM_at_148 (by decide) (fun hc => ?_) (fun hc => ?_)
                    · rw [if_pos hc] at hf
                      refine lv_aload_n hx hb dM_at_161 rfl (lv_at hl 1 rfl) ?_
                      refine lv_iconst (v := 0) hx hb dM_at_162 (by decide) ?_
                      obtain ⟨o3, hq4, hf⟩ := xbind hf
                      have hl := lv_sub (l' := [(3, .long (((xpl st) (c1 - 1)) + ((xpi st 3) (c0 - 1)).toInt64)), (0, .ref aM)]) hl [0, 1] rfl
                      obtain ⟨hm5, hf⟩ := xmoE hf
                      have hFc := xm_free hD hS hA
                      refine va_callq (va_runV (C := "ValueBenchModel") (As := [.int 0]) (rest := []) ⟨hx, hb, hml, hown, htx⟩ (gM_fresh l hl9 D cT aK aV s.heap.size n aM ad rd gd vad st (0 : Int32) o3 hq4) ⟨callB_of 1 htx (xw_goodC kw_6_16) rfl rfl rfl (htx _ kw_1_5) (htx _ kw_6_13) ⟨by decide, by decide, by decide +kernel⟩ ⟨Nat.le_of_ble_eq_true rfl, Nat.le_of_ble_eq_true rfl⟩, (htx _ kw_6_15), (htx _ kp_M_fresh)⟩ ⟨xPre_blind, va_recv hK hP (ci := 5) rfl (q0 := 0) rfl, (fun U hU hW => ⟨rfl, xPre_of hZ hS hFc hP hD hK U hU hW⟩)⟩ rfl rfl hl.1 rfl (xm_room (Nat.le_of_ble_eq_true rfl)) dM_at_163 ⟨hm5.1, hm5.2⟩) hS (fun q _ h => hFc q h) hFc (fun r6 u9 t H1 locs ht hvm hr9 hB hz1 hk1 hS => ?_)
                      obtain ⟨hP1, hK1, hD1⟩ := hB
                      rw [ht] at hP1
                      obtain ⟨ad7, gd8, vad9⟩ := u9
                      obtain ⟨hr9, hv10, hn11⟩ := hr9
                      have hP : va_P D xcl (xMw cT aM ad7 rd gd8 vad9 o3.2.2.2 []) H1 := hP1
                      have hD : va_D A (xMw cT aM ad7 rd gd8 vad9 o3.2.2.2 []) := hD1.weaken (fun k q _ h => hFc q.1 h)
                      generalize H1 = H at hP hS ⊢
                      have hE9 : ∀ p, p < xct st → vad9 p = vad p := fun p h => (hv10 p (Nat.lt_of_lt_of_le h hN)).trans (hE p h)
                      have hE := hE9
                      have hN : xct st ≤ xct o3.2.2.2 := Nat.le_trans hN hn11
                      rw [hr9]
                      refine W.eq (g2 := F0 m 166 ls [xv vad9 o3.2.2.1]) (by first | rfl | (skip; rfl)) ?_
                      refine lv_goto (tgt := 176) hx hb dM_at_166 (by decide) ?_
                      obtain rfl := Option.some.inj hf
                      exact absurd (show (0 : Nat) = 1 from hkd) (by decide)
                    · rw [if_neg hc] at hf
                      refine lv_lload_n hx hb dM_at_151 rfl (lv_at hl 0 rfl) ?_
                      refine xm_aload_n hx hb (xvor _ _) dM_at_152 rfl (lv_at hl 2 rfl) ?_
                      refine xm_vget (v := .int ((xpi st 3) (c0 - 1))) hx hb htx hown hK hP 3 (by decide) hg1 rfl ((hZ.1 (103, "count", "I") (List.mem_of_getElem? (i := 3) rfl)).use rfl) rfl dM_at_153 ?_
                      refine lv_i2l hx hb dM_at_156 rfl ?_
                      refine W.lcmp hx hb dM_at_157 ?_
                      refine lv_if_lt (tgt := 169) hx hb dM_at_158 (by decide) (fun hc => ?_) (fun hc => ?_)
                      · rw [if_pos hc] at hf
                        refine lv_aload_n hx hb dM_at_169 rfl (lv_at hl 1 rfl) ?_
                        refine xm_aload_n hx hb (xvor _ _) dM_at_170 rfl (lv_at hl 2 rfl) ?_
                        refine lv_lload_n hx hb dM_at_171 rfl (lv_at hl 0 rfl) ?_
                        refine lv_l2i hx hb dM_at_172 rfl ?_
                        obtain ⟨o3, hq4, hf⟩ := xbind hf
                        have hl := lv_sub (l' := [(3, .long (((xpl st) (c1 - 1)) + ((xpi st 3) (c0 - 1)).toInt64)), (0, .ref aM)]) hl [0, 1] rfl
                        have hFc := xm_free hD hS hA
                        refine va_callq (va_runV (C := "ValueBenchModel") (As := [xv vad c0, .int (((xpl st) (c1 - 1)) + ((xpi st 3) (c0 - 1)).toInt64).toInt32]) (rest := []) ⟨hx, hb, hml, hown, htx⟩ (gM_kid l hl9 D cT aK aV s.heap.size n aM ad rd gd vad st c0 ((((xpl st) (c1 - 1)) + ((xpi st 3) (c0 - 1)).toInt64).toInt32) o3 hq4) ⟨callB_of 2 htx (xw_goodC kw_6_158) rfl rfl rfl (htx _ kw_1_5) (htx _ kw_6_155) ⟨by decide, by decide, by decide +kernel⟩ ⟨Nat.le_of_ble_eq_true rfl, Nat.le_of_ble_eq_true rfl⟩, (htx _ kw_6_157), (htx _ kp_M_kid)⟩ ⟨xPre_blind, va_recv hK hP (ci := 5) rfl (q0 := 0) rfl, (fun U hU hW => ⟨rfl, xPre_of hZ hS hFc hP hD hK U hU hW⟩)⟩ rfl rfl hl.1 rfl (xm_room (Nat.le_of_ble_eq_true rfl)) dM_at_173 ⟨Nat.zero_le _, Nat.zero_le _⟩) hS (fun q _ h => hFc q h) hFc (fun r5 u9 t H1 locs ht hvm hr9 hB hz1 hk1 hS => ?_)
                        obtain ⟨hP1, hK1, hD1⟩ := hB
                        rw [ht] at hP1
                        have hP : va_P D xcl (xMw cT aM ad rd gd vad st []) H1 := hP1
                        have hD : va_D A (xMw cT aM ad rd gd vad st []) := hD1.weaken (fun k q _ h => hFc q.1 h)
                        generalize H1 = H at hP hS ⊢
                        rw [hr9]
                        refine W.eq (g2 := F0 m 176 ls [xv vad o3]) (by first | rfl | (skip; rfl)) ?_
                        obtain rfl := Option.some.inj hf
                        exact absurd (show (0 : Nat) = 1 from hkd) (by decide)
                      · rw [if_neg hc] at hf
                        refine lv_aload_n hx hb dM_at_161 rfl (lv_at hl 1 rfl) ?_
                        refine lv_iconst (v := 0) hx hb dM_at_162 (by decide) ?_
                        obtain ⟨o3, hq4, hf⟩ := xbind hf
                        have hl := lv_sub (l' := [(3, .long (((xpl st) (c1 - 1)) + ((xpi st 3) (c0 - 1)).toInt64)), (0, .ref aM)]) hl [0, 1] rfl
                        obtain ⟨hm5, hf⟩ := xmoE hf
                        have hFc := xm_free hD hS hA
                        refine va_callq (va_runV (C := "ValueBenchModel") (As := [.int 0]) (rest := []) ⟨hx, hb, hml, hown, htx⟩ (gM_fresh l hl9 D cT aK aV s.heap.size n aM ad rd gd vad st (0 : Int32) o3 hq4) ⟨callB_of 1 htx (xw_goodC kw_6_16) rfl rfl rfl (htx _ kw_1_5) (htx _ kw_6_13) ⟨by decide, by decide, by decide +kernel⟩ ⟨Nat.le_of_ble_eq_true rfl, Nat.le_of_ble_eq_true rfl⟩, (htx _ kw_6_15), (htx _ kp_M_fresh)⟩ ⟨xPre_blind, va_recv hK hP (ci := 5) rfl (q0 := 0) rfl, (fun U hU hW => ⟨rfl, xPre_of hZ hS hFc hP hD hK U hU hW⟩)⟩ rfl rfl hl.1 rfl (xm_room (Nat.le_of_ble_eq_true rfl)) dM_at_163 ⟨hm5.1, hm5.2⟩) hS (fun q _ h => hFc q h) hFc (fun r6 u9 t H1 locs ht hvm hr9 hB hz1 hk1 hS => ?_)
                        obtain ⟨hP1, hK1, hD1⟩ := hB
                        rw [ht] at hP1
                        obtain ⟨ad7, gd8, vad9⟩ := u9
                        obtain ⟨hr9, hv10, hn11⟩ := hr9
                        have hP : va_P D xcl (xMw cT aM ad7 rd gd8 vad9 o3.2.2.2 []) H1 := hP1
                        have hD : va_D A (xMw cT aM ad7 rd gd8 vad9 o3.2.2.2 []) := hD1.weaken (fun k q _ h => hFc q.1 h)
                        generalize H1 = H at hP hS ⊢
                        have hE9 : ∀ p, p < xct st → vad9 p = vad p := fun p h => (hv10 p (Nat.lt_of_lt_of_le h hN)).trans (hE p h)
                        have hE := hE9
                        have hN : xct st ≤ xct o3.2.2.2 := Nat.le_trans hN hn11
                        rw [hr9]
                        refine W.eq (g2 := F0 m 166 ls [xv vad9 o3.2.2.1]) (by first | rfl | (skip; rfl)) ?_
                        refine lv_goto (tgt := 176) hx hb dM_at_166 (by decide) ?_
                        obtain rfl := Option.some.inj hf
                        exact absurd (show (0 : Nat) = 1 from hkd) (by decide)
                · rw [if_neg hc] at hf
                  refine lv_aload_n hx hb dM_at_112 rfl (lv_at hl 0 rfl) ?_
                  refine lv_iconst (v := 1) hx hb dM_at_113 (by decide) ?_
                  obtain ⟨o3, hq4, hf⟩ := xbind hf
                  have hl := lv_sub (l' := [(0, .ref aM)]) hl [0] rfl
                  by_cases hk5 : o3.1 = 1
                  · rw [if_pos hk5] at hf
                    obtain ⟨hm6, hf⟩ := xmoE hf
                    have hFc := xm_free hD hS hA
                    refine xx_thr (vx_runV (C := "ValueBenchModel") (As := [.int 1]) (rest := []) ⟨hx, hb, hml, hown, htx⟩ (gM_refuse_1 l hl9 D cT aK aV s.heap.size n aM ad rd gd vad st (1 : Int32) o3 hq4 hk5) ⟨callB_of 1 htx (xw_goodC kw_6_93) rfl rfl rfl (htx _ kw_1_5) (htx _ kw_6_90) ⟨by decide, by decide, by decide +kernel⟩ ⟨Nat.le_of_ble_eq_true rfl, Nat.le_of_ble_eq_true rfl⟩, (htx _ kw_6_92), (htx _ kp_M_refuse)⟩ ⟨xPre_blind, va_recv hK hP (ci := 5) rfl (q0 := 0) rfl, (fun U hU hW => ⟨rfl, xPre_of hZ hS hFc hP hD hK U hU hW⟩)⟩ rfl rfl hl.1 rfl (xm_room (Nat.le_of_ble_eq_true rfl)) dM_at_114 ⟨hm6.1, hm6.2⟩) hS hFc (fun q _ h => hFc q h) (fun E ce q9 u9 t H1 locs ht hvm hr9 hB hz1 hk1 hS hce hcv hcl => ?_)
                    obtain ⟨rfl, hP1, hK1, hD1⟩ := hB
                    rw [ht] at hP1
                    obtain ⟨ad8, gd9, vad10⟩ := u9
                    obtain ⟨hv11, hn12⟩ := hr9
                    have hP : va_P D xcl (xMw cT aM ad8 rd gd9 vad10 o3.2.2.2.2 []) H1 := hP1
                    have hD : va_D A (xMw cT aM ad8 rd gd9 vad10 o3.2.2.2.2 []) := hD1.weaken (fun k q _ h => hFc q.1 h)
                    generalize H1 = H at hP hS hce ⊢
                    have hE9 : ∀ p, p < xct st → vad10 p = vad p := fun p h => (hv11 p (Nat.lt_of_lt_of_le h hN)).trans (hE p h)
                    have hE := hE9
                    have hN : xct st ≤ xct o3.2.2.2.2 := Nat.le_trans hN hn12
                    obtain rfl := Option.some.inj hf
                    exact vx_out (E := "java/lang/ArithmeticException") (fun x h => (hne x h).elim) hlocks hce hcv hcl (fun t ht ha => ⟨(ad8, gd9, vad10), ⟨hE, hN⟩, ⟨rfl, by rw [ht]; exact hP, va_K.moved ha hK, hD⟩, hS.F ht⟩) hS.2.2 (Nat.le_refl _) (Nat.le_refl _)
                  rw [if_neg hk5] at hf
                  exact nomatch hf
              · rw [if_pos hc] at hf
                refine lv_aload_n hx hb dM_at_97 rfl (lv_at hl 0 rfl) ?_
                refine xm_aload_n hx hb (xvor _ _) dM_at_98 rfl (lv_at hl 1 rfl) ?_
                refine xm_aload_n hx hb (xvor _ _) dM_at_99 rfl (lv_at hl 2 rfl) ?_
                obtain ⟨o3, hq4, hf⟩ := xbind hf
                have hl := lv_sub (l' := [(0, .ref aM)]) hl [0] rfl
                by_cases hk5 : o3.1 = 0
                · rw [if_pos hk5] at hf
                  obtain ⟨hm6, hf⟩ := xmoE hf
                  have hFc := xm_free hD hS hA
                  refine va_callq (va_runV (C := "ValueBenchModel") (As := [xv vad c0, xv vad c1]) (rest := []) ⟨hx, hb, hml, hown, htx⟩ (gM_indices l hl9 D cT aK aV s.heap.size d n aM ad rd gd vad st c0 c1 o3 hq4 hk5) ⟨callB_of 2 htx (xw_goodC kw_7_103) rfl rfl rfl (htx _ kw_1_5) (htx _ kw_7_100) ⟨by decide, by decide, by decide +kernel⟩ ⟨(by show (16 * d + 8) + 1 ≤ 16 * d + 9; omega), (by show 8 + (9 + 11) + (400 * d + 147) ≤ 400 * d + 175; omega)⟩, (htx _ kw_7_102), (htx _ kp_M_indices)⟩ ⟨xPre_blind, va_recv hK hP (ci := 5) rfl (q0 := 0) rfl, (fun U hU hW => ⟨rfl, xPre_of hZ hS hFc hP hD hK U hU hW⟩)⟩ rfl rfl hl.1 rfl (xm_room (Nat.le_of_ble_eq_true rfl)) dM_at_100 ⟨hm6.1, hm6.2⟩) hS (fun q _ h => hFc q h) hFc (fun r7 u9 t H1 locs ht hvm hr9 hB hz1 hk1 hS => ?_)
                  obtain ⟨hP1, hK1, hD1⟩ := hB
                  rw [ht] at hP1
                  obtain ⟨ad8, gd9, vad10⟩ := u9
                  obtain ⟨hr9, hv11, hn12⟩ := hr9
                  have hP : va_P D xcl (xMw cT aM ad8 rd gd9 vad10 o3.2.2.2.2 []) H1 := hP1
                  have hD : va_D A (xMw cT aM ad8 rd gd9 vad10 o3.2.2.2.2 []) := hD1.weaken (fun k q _ h => hFc q.1 h)
                  generalize H1 = H at hP hS ⊢
                  have hE9 : ∀ p, p < xct st → vad10 p = vad p := fun p h => (hv11 p (Nat.lt_of_lt_of_le h hN)).trans (hE p h)
                  have hE := hE9
                  have hN : xct st ≤ xct o3.2.2.2.2 := Nat.le_trans hN hn12
                  rw [hr9]
                  refine W.eq (g2 := F0 m 103 ls [xv vad10 o3.2.2.2.1]) (by first | rfl | (skip; rfl)) ?_
                  obtain rfl := Option.some.inj hf
                  exact absurd (show (0 : Nat) = 1 from hkd) (by decide)
                rw [if_neg hk5] at hf
                by_cases hk13 : o3.1 = 1
                · rw [if_pos hk13] at hf
                  obtain ⟨hm14, hf⟩ := xmoE hf
                  have hFc := xm_free hD hS hA
                  refine xx_thr (vx_runV (C := "ValueBenchModel") (As := [xv vad c0, xv vad c1]) (rest := []) ⟨hx, hb, hml, hown, htx⟩ (gM_indices_1 l hl9 D cT aK aV s.heap.size d n aM ad rd gd vad st c0 c1 o3 hq4 hk13) ⟨callB_of 2 htx (xw_goodC kw_7_103) rfl rfl rfl (htx _ kw_1_5) (htx _ kw_7_100) ⟨by decide, by decide, by decide +kernel⟩ ⟨(by show (16 * d + 8) + 1 ≤ 16 * d + 9; omega), (by show 8 + (9 + 11) + (400 * d + 147) ≤ 400 * d + 175; omega)⟩, (htx _ kw_7_102), (htx _ kp_M_indices)⟩ ⟨xPre_blind, va_recv hK hP (ci := 5) rfl (q0 := 0) rfl, (fun U hU hW => ⟨rfl, xPre_of hZ hS hFc hP hD hK U hU hW⟩)⟩ rfl rfl hl.1 rfl (xm_room (Nat.le_of_ble_eq_true rfl)) dM_at_100 ⟨hm14.1, hm14.2⟩) hS hFc (fun q _ h => hFc q h) (fun E ce q9 u9 t H1 locs ht hvm hr9 hB hz1 hk1 hS hce hcv hcl => ?_)
                  obtain ⟨rfl, hP1, hK1, hD1⟩ := hB
                  rw [ht] at hP1
                  obtain ⟨ad16, gd17, vad18⟩ := u9
                  obtain ⟨hv19, hn20⟩ := hr9
                  have hP : va_P D xcl (xMw cT aM ad16 rd gd17 vad18 o3.2.2.2.2 []) H1 := hP1
                  have hD : va_D A (xMw cT aM ad16 rd gd17 vad18 o3.2.2.2.2 []) := hD1.weaken (fun k q _ h => hFc q.1 h)
                  generalize H1 = H at hP hS hce ⊢
                  have hE9 : ∀ p, p < xct st → vad18 p = vad p := fun p h => (hv19 p (Nat.lt_of_lt_of_le h hN)).trans (hE p h)
                  have hE := hE9
                  have hN : xct st ≤ xct o3.2.2.2.2 := Nat.le_trans hN hn20
                  obtain rfl := Option.some.inj hf
                  exact vx_out (E := "java/lang/ArithmeticException") (fun x h => (hne x h).elim) hlocks hce hcv hcl (fun t ht ha => ⟨(ad16, gd17, vad18), ⟨hE, hN⟩, ⟨rfl, by rw [ht]; exact hP, va_K.moved ha hK, hD⟩, hS.F ht⟩) hS.2.2 (Nat.le_refl _) (Nat.le_refl _)
                rw [if_neg hk13] at hf
                by_cases hk21 : o3.1 = 2
                · rw [if_pos hk21] at hf
                  obtain ⟨hm22, hf⟩ := xmoE hf
                  obtain rfl := Option.some.inj hf
                  exact absurd (show (2 : Nat) = 1 from hkd) (by decide)
                rw [if_neg hk21] at hf
                exact nomatch hf
            · rw [if_neg hc] at hf
              refine lv_aload_n hx hb dM_at_83 rfl (lv_at hl 0 rfl) ?_
              refine lv_iconst (v := 1) hx hb dM_at_84 (by decide) ?_
              obtain ⟨o3, hq4, hf⟩ := xbind hf
              have hl := lv_sub (l' := [(0, .ref aM)]) hl [0] rfl
              by_cases hk5 : o3.1 = 1
              · rw [if_pos hk5] at hf
                obtain ⟨hm6, hf⟩ := xmoE hf
                have hFc := xm_free hD hS hA
                refine xx_thr (vx_runV (C := "ValueBenchModel") (As := [.int 1]) (rest := []) ⟨hx, hb, hml, hown, htx⟩ (gM_refuse_1 l hl9 D cT aK aV s.heap.size n aM ad rd gd vad st (1 : Int32) o3 hq4 hk5) ⟨callB_of 1 htx (xw_goodC kw_6_93) rfl rfl rfl (htx _ kw_1_5) (htx _ kw_6_90) ⟨by decide, by decide, by decide +kernel⟩ ⟨Nat.le_of_ble_eq_true rfl, Nat.le_of_ble_eq_true rfl⟩, (htx _ kw_6_92), (htx _ kp_M_refuse)⟩ ⟨xPre_blind, va_recv hK hP (ci := 5) rfl (q0 := 0) rfl, (fun U hU hW => ⟨rfl, xPre_of hZ hS hFc hP hD hK U hU hW⟩)⟩ rfl rfl hl.1 rfl (xm_room (Nat.le_of_ble_eq_true rfl)) dM_at_85 ⟨hm6.1, hm6.2⟩) hS hFc (fun q _ h => hFc q h) (fun E ce q9 u9 t H1 locs ht hvm hr9 hB hz1 hk1 hS hce hcv hcl => ?_)
                obtain ⟨rfl, hP1, hK1, hD1⟩ := hB
                rw [ht] at hP1
                obtain ⟨ad8, gd9, vad10⟩ := u9
                obtain ⟨hv11, hn12⟩ := hr9
                have hP : va_P D xcl (xMw cT aM ad8 rd gd9 vad10 o3.2.2.2.2 []) H1 := hP1
                have hD : va_D A (xMw cT aM ad8 rd gd9 vad10 o3.2.2.2.2 []) := hD1.weaken (fun k q _ h => hFc q.1 h)
                generalize H1 = H at hP hS hce ⊢
                have hE9 : ∀ p, p < xct st → vad10 p = vad p := fun p h => (hv11 p (Nat.lt_of_lt_of_le h hN)).trans (hE p h)
                have hE := hE9
                have hN : xct st ≤ xct o3.2.2.2.2 := Nat.le_trans hN hn12
                obtain rfl := Option.some.inj hf
                exact vx_out (E := "java/lang/ArithmeticException") (fun x h => (hne x h).elim) hlocks hce hcv hcl (fun t ht ha => ⟨(ad8, gd9, vad10), ⟨hE, hN⟩, ⟨rfl, by rw [ht]; exact hP, va_K.moved ha hK, hD⟩, hS.F ht⟩) hS.2.2 (Nat.le_refl _) (Nat.le_refl _)
              rw [if_neg hk5] at hf
              exact nomatch hf
          · rw [if_pos hc] at hf
            refine xm_aload_n hx hb (xvor _ _) dM_at_41 rfl (lv_at hl 2 rfl) ?_
            refine xm_vget (v := .int ((xpi st 0) (c1 - 1))) hx hb htx hown hK hP 0 (by decide) hg2 rfl ((hZ.1 (93, "kind", "I") (List.mem_of_getElem? (i := 0) rfl)).use rfl) rfl dM_at_42 ?_
            refine lv_iconst (v := 4) hx hb dM_at_45 (by decide) ?_
            refine lv_icmp_ne (tgt := 75) hx hb dM_at_46 (by decide) (fun hc => ?_) (fun hc => ?_)
            · rw [if_neg hc] at hf
              refine xm_aload_n hx hb (xvor _ _) dM_at_75 rfl (lv_at hl 1 rfl) ?_
              refine xm_vget (v := .int ((xpi st 0) (c0 - 1))) hx hb htx hown hK hP 0 (by decide) hg1 rfl ((hZ.1 (93, "kind", "I") (List.mem_of_getElem? (i := 0) rfl)).use rfl) rfl dM_at_76 ?_
              refine lv_iconst (v := 5) hx hb dM_at_79 (by decide) ?_
              refine lv_icmp_eq (tgt := 89) hx hb dM_at_80 (by decide) (fun hc => ?_) (fun hc => ?_)
              · rw [if_pos hc] at hf
                refine xm_aload_n hx hb (xvor _ _) dM_at_89 rfl (lv_at hl 2 rfl) ?_
                refine xm_vget (v := .int ((xpi st 0) (c1 - 1))) hx hb htx hown hK hP 0 (by decide) hg2 rfl ((hZ.1 (93, "kind", "I") (List.mem_of_getElem? (i := 0) rfl)).use rfl) rfl dM_at_90 ?_
                refine lv_iconst (v := 5) hx hb dM_at_93 (by decide) ?_
                refine lv_icmp_ne (tgt := 104) hx hb dM_at_94 (by decide) (fun hc => ?_) (fun hc => ?_)
                · rw [if_neg hc] at hf
                  refine xm_aload_n hx hb (xvor _ _) dM_at_104 rfl (lv_at hl 2 rfl) ?_
                  refine xm_vget (v := .int ((xpi st 0) (c1 - 1))) hx hb htx hown hK hP 0 (by decide) hg2 rfl ((hZ.1 (93, "kind", "I") (List.mem_of_getElem? (i := 0) rfl)).use rfl) rfl dM_at_105 ?_
                  refine lv_iconst (v := 3) hx hb dM_at_108 (by decide) ?_
                  refine lv_icmp_eq (tgt := 118) hx hb dM_at_109 (by decide) (fun hc => ?_) (fun hc => ?_)
                  · rw [if_pos hc] at hf
                    refine xm_aload_n hx hb (xvor _ _) dM_at_118 rfl (lv_at hl 2 rfl) ?_
                    refine xm_vget (v := .long ((xpl st) (c1 - 1))) hx hb htx hown hK hP 1 (by decide) hg2 rfl ((hZ.1 (96, "n", "J") (List.mem_of_getElem? (i := 1) rfl)).use rfl) rfl dM_at_119 ?_
                    refine lv_lconst (v := 0) hx hb dM_at_122 (by decide) ?_
                    refine W.lcmp hx hb dM_at_123 ?_
                    refine lv_if_ge (tgt := 140) hx hb dM_at_124 (by decide) (fun hc => ?_) (fun hc => ?_)
                    · rw [if_pos hc] at hf
                      refine xm_aload_n hx hb (xvor _ _) dM_at_140 rfl (lv_at hl 2 rfl) ?_
                      refine xm_vget (v := .long ((xpl st) (c1 - 1))) hx hb htx hown hK hP 1 (by decide) hg2 rfl ((hZ.1 (96, "n", "J") (List.mem_of_getElem? (i := 1) rfl)).use rfl) rfl dM_at_141 ?_
                      refine lv_lstore_n (lv' := [(3, .long ((xpl st) (c1 - 1))), (0, .ref aM), (1, xv vad c0), (2, xv vad c1)]) hx hb dM_at_144 rfl hl (by decide) (by simp only [List.filter, xvcat, xrscat, xcI, xcL, xcR, xcN]; rfl) (fun ls hl => ?_)
                      refine lv_lload_n hx hb dM_at_145 rfl (lv_at hl 0 rfl) ?_
                      refine lv_lconst (v := 0) hx hb dM_at_146 (by decide) ?_
                      refine W.lcmp hx hb dM_at_147 ?_
                      refine lv_if_lt (tgt := 161) hx hb dM_at_148 (by decide) (fun hc => ?_) (fun hc => ?_)
                      · rw [if_pos hc] at hf
                        refine lv_aload_n hx hb dM_at_161 rfl (lv_at hl 1 rfl) ?_
                        refine lv_iconst (v := 0) hx hb dM_at_162 (by decide) ?_
                        obtain ⟨o3, hq4, hf⟩ := xbind hf
                        have hl := lv_sub (l' := [(3, .long ((xpl st) (c1 - 1))), (0, .ref aM)]) hl [0, 1] rfl
                        obtain ⟨hm5, hf⟩ := xmoE hf
                        have hFc := xm_free hD hS hA
                        refine va_callq (va_runV (C := "ValueBenchModel") (As := [.int 0]) (rest := []) ⟨hx, hb, hml, hown, htx⟩ (gM_fresh l hl9 D cT aK aV s.heap.size n aM ad rd gd vad st (0 : Int32) o3 hq4) ⟨callB_of 1 htx (xw_goodC kw_6_16) rfl rfl rfl (htx _ kw_1_5) (htx _ kw_6_13) ⟨by decide, by decide, by decide +kernel⟩ ⟨Nat.le_of_ble_eq_true rfl, Nat.le_of_ble_eq_true rfl⟩, (htx _ kw_6_15), (htx _ kp_M_fresh)⟩ ⟨xPre_blind, va_recv hK hP (ci := 5) rfl (q0 := 0) rfl, (fun U hU hW => ⟨rfl, xPre_of hZ hS hFc hP hD hK U hU hW⟩)⟩ rfl rfl hl.1 rfl (xm_room (Nat.le_of_ble_eq_true rfl)) dM_at_163 ⟨hm5.1, hm5.2⟩) hS (fun q _ h => hFc q h) hFc (fun r6 u9 t H1 locs ht hvm hr9 hB hz1 hk1 hS => ?_)
                        obtain ⟨hP1, hK1, hD1⟩ := hB
                        rw [ht] at hP1
                        obtain ⟨ad7, gd8, vad9⟩ := u9
                        obtain ⟨hr9, hv10, hn11⟩ := hr9
                        have hP : va_P D xcl (xMw cT aM ad7 rd gd8 vad9 o3.2.2.2 []) H1 := hP1
                        have hD : va_D A (xMw cT aM ad7 rd gd8 vad9 o3.2.2.2 []) := hD1.weaken (fun k q _ h => hFc q.1 h)
                        generalize H1 = H at hP hS ⊢
                        have hE9 : ∀ p, p < xct st → vad9 p = vad p := fun p h => (hv10 p (Nat.lt_of_lt_of_le h hN)).trans (hE p h)
                        have hE := hE9
                        have hN : xct st ≤ xct o3.2.2.2 := Nat.le_trans hN hn11
                        rw [hr9]
                        refine W.eq (g2 := F0 m 166 ls [xv vad9 o3.2.2.1]) (by first | rfl | (skip; rfl)) ?_
                        refine lv_goto (tgt := 176) hx hb dM_at_166 (by decide) ?_
                        obtain rfl := Option.some.inj hf
                        exact absurd (show (0 : Nat) = 1 from hkd) (by decide)
                      · rw [if_neg hc] at hf
                        refine lv_lload_n hx hb dM_at_151 rfl (lv_at hl 0 rfl) ?_
                        refine xm_aload_n hx hb (xvor _ _) dM_at_152 rfl (lv_at hl 2 rfl) ?_
                        refine xm_vget (v := .int ((xpi st 3) (c0 - 1))) hx hb htx hown hK hP 3 (by decide) hg1 rfl ((hZ.1 (103, "count", "I") (List.mem_of_getElem? (i := 3) rfl)).use rfl) rfl dM_at_153 ?_
                        refine lv_i2l hx hb dM_at_156 rfl ?_
                        refine W.lcmp hx hb dM_at_157 ?_
                        refine lv_if_lt (tgt := 169) hx hb dM_at_158 (by decide) (fun hc => ?_) (fun hc => ?_)
                        · rw [if_pos hc] at hf
                          refine lv_aload_n hx hb dM_at_169 rfl (lv_at hl 1 rfl) ?_
                          refine xm_aload_n hx hb (xvor _ _) dM_at_170 rfl (lv_at hl 2 rfl) ?_
                          refine lv_lload_n hx hb dM_at_171 rfl (lv_at hl 0 rfl) ?_
                          refine lv_l2i hx hb dM_at_172 rfl ?_
                          obtain ⟨o3, hq4, hf⟩ := xbind hf
                          have hl := lv_sub (l' := [(3, .long ((xpl st) (c1 - 1))), (0, .ref aM)]) hl [0, 1] rfl
                          have hFc := xm_free hD hS hA
                          refine va_callq (va_runV (C := "ValueBenchModel") (As := [xv vad c0, .int ((xpl st) (c1 - 1)).toInt32]) (rest := []) ⟨hx, hb, hml, hown, htx⟩ (gM_kid l hl9 D cT aK aV s.heap.size n aM ad rd gd vad st c0 (((xpl st) (c1 - 1)).toInt32) o3 hq4) ⟨callB_of 2 htx (xw_goodC kw_6_158) rfl rfl rfl (htx _ kw_1_5) (htx _ kw_6_155) ⟨by decide, by decide, by decide +kernel⟩ ⟨Nat.le_of_ble_eq_true rfl, Nat.le_of_ble_eq_true rfl⟩, (htx _ kw_6_157), (htx _ kp_M_kid)⟩ ⟨xPre_blind, va_recv hK hP (ci := 5) rfl (q0 := 0) rfl, (fun U hU hW => ⟨rfl, xPre_of hZ hS hFc hP hD hK U hU hW⟩)⟩ rfl rfl hl.1 rfl (xm_room (Nat.le_of_ble_eq_true rfl)) dM_at_173 ⟨Nat.zero_le _, Nat.zero_le _⟩) hS (fun q _ h => hFc q h) hFc (fun r5 u9 t H1 locs ht hvm hr9 hB hz1 hk1 hS => ?_)
                          obtain ⟨hP1, hK1, hD1⟩ := hB
                          rw [ht] at hP1
                          have hP : va_P D xcl (xMw cT aM ad rd gd vad st []) H1 := hP1
                          have hD : va_D A (xMw cT aM ad rd gd vad st []) := hD1.weaken (fun k q _ h => hFc q.1 h)
                          generalize H1 = H at hP hS ⊢
                          rw [hr9]
                          refine W.eq (g2 := F0 m 176 ls [xv vad o3]) (by first | rfl | (skip; rfl)) ?_
                          obtain rfl := Option.some.inj hf
                          exact absurd (show (0 : Nat) = 1 from hkd) (by decide)
                        · rw [if_neg hc] at hf
                          refine lv_aload_n hx hb dM_at_161 rfl (lv_at hl 1 rfl) ?_
                          refine lv_iconst (v := 0) hx hb dM_at_162 (by decide) ?_
                          obtain ⟨o3, hq4, hf⟩ := xbind hf
                          have hl := lv_sub (l' := [(3, .long ((xpl st) (c1 - 1))), (0, .ref aM)]) hl [0, 1] rfl
                          obtain ⟨hm5, hf⟩ := xmoE hf
                          have hFc := xm_free hD hS hA
                          refine va_callq (va_runV (C := "ValueBenchModel") (As := [.int 0]) (rest := []) ⟨hx, hb, hml, hown, htx⟩ (gM_fresh l hl9 D cT aK aV s.heap.size n aM ad rd gd vad st (0 : Int32) o3 hq4) ⟨callB_of 1 htx (xw_goodC kw_6_16) rfl rfl rfl (htx _ kw_1_5) (htx _ kw_6_13) ⟨by decide, by decide, by decide +kernel⟩ ⟨Nat.le_of_ble_eq_true rfl, Nat.le_of_ble_eq_true rfl⟩, (htx _ kw_6_15), (htx _ kp_M_fresh)⟩ ⟨xPre_blind, va_recv hK hP (ci := 5) rfl (q0 := 0) rfl, (fun U hU hW => ⟨rfl, xPre_of hZ hS hFc hP hD hK U hU hW⟩)⟩ rfl rfl hl.1 rfl (xm_room (Nat.le_of_ble_eq_true rfl)) dM_at_163 ⟨hm5.1, hm5.2⟩) hS (fun q _ h => hFc q h) hFc (fun r6 u9 t H1 locs ht hvm hr9 hB hz1 hk1 hS => ?_)
                          obtain ⟨hP1, hK1, hD1⟩ := hB
                          rw [ht] at hP1
                          obtain ⟨ad7, gd8, vad9⟩ := u9
                          obtain ⟨hr9, hv10, hn11⟩ := hr9
                          have hP : va_P D xcl (xMw cT aM ad7 rd gd8 vad9 o3.2.2.2 []) H1 := hP1
                          have hD : va_D A (xMw cT aM ad7 rd gd8 vad9 o3.2.2.2 []) := hD1.weaken (fun k q _ h => hFc q.1 h)
                          generalize H1 = H at hP hS ⊢
                          have hE9 : ∀ p, p < xct st → vad9 p = vad p := fun p h => (hv10 p (Nat.lt_of_lt_of_le h hN)).trans (hE p h)
                          have hE := hE9
                          have hN : xct st ≤ xct o3.2.2.2 := Nat.le_trans hN hn11
                          rw [hr9]
                          refine W.eq (g2 := F0 m 166 ls [xv vad9 o3.2.2.1]) (by first | rfl | (skip; rfl)) ?_
                          refine lv_goto (tgt := 176) hx hb dM_at_166 (by decide) ?_
                          obtain rfl := Option.some.inj hf
                          exact absurd (show (0 : Nat) = 1 from hkd) (by decide)
                    · rw [if_neg hc] at hf
                      refine xm_aload_n hx hb (xvor _ _) dM_at_127 rfl (lv_at hl 2 rfl) ?_
                      refine xm_vget (v := .long ((xpl st) (c1 - 1))) hx hb htx hown hK hP 1 (by decide) hg2 rfl ((hZ.1 (96, "n", "J") (List.mem_of_getElem? (i := 1) rfl)).use rfl) rfl dM_at_128 ?_
                      refine xm_aload_n hx hb (xvor _ _) dM_at_131 rfl (lv_at hl 1 rfl) ?_
                      refine xm_vget (v := .int ((xpi st 3) (c0 - 1))) hx hb htx hown hK hP 3 (by decide) hg1 rfl ((hZ.1 (103, "count", "I") (List.mem_of_getElem? (i := 3) rfl)).use rfl) rfl dM_at_132 ?_
                      refine lv_i2l hx hb dM_at_135 rfl ?_
                      refine lv_ladd hx hb dM_at_136 ?_
                      refine lv_goto (tgt := 144) hx hb dM_at_137 (by decide) ?_
                      refine lv_lstore_n (lv' := [(3, .long (((xpl st) (c1 - 1)) + ((xpi st 3) (c0 - 1)).toInt64)), (0, .ref aM), (1, xv vad c0), (2, xv vad c1)]) hx hb dM_at_144 rfl hl (by decide) (by simp only [List.filter, xvcat, xrscat, xcI, xcL, xcR, xcN]; rfl) (fun ls hl => ?_)
                      refine lv_lload_n hx hb dM_at_145 rfl (lv_at hl 0 rfl) ?_
                      refine lv_lconst (v := 0) hx hb dM_at_146 (by decide) ?_
                      refine W.lcmp hx hb dM_at_147 ?_
                      refine lv_if_lt (tgt := 161) hx hb dM_at_148 (by decide) (fun hc => ?_) (fun hc => ?_)
                      · rw [if_pos hc] at hf
                        refine lv_aload_n hx hb dM_at_161 rfl (lv_at hl 1 rfl) ?_
                        refine lv_iconst (v := 0) hx hb dM_at_162 (by decide) ?_
                        obtain ⟨o3, hq4, hf⟩ := xbind hf
                        have hl := lv_sub (l' := [(3, .long (((xpl st) (c1 - 1)) + ((xpi st 3) (c0 - 1)).toInt64)), (0, .ref aM)]) hl [0, 1] rfl
                        obtain ⟨hm5, hf⟩ := xmoE hf
                        have hFc := xm_free hD hS hA
                        refine va_callq (va_runV (C := "ValueBenchModel") (As := [.int 0]) (rest := []) ⟨hx, hb, hml, hown, htx⟩ (gM_fresh l hl9 D cT aK aV s.heap.size n aM ad rd gd vad st (0 : Int32) o3 hq4) ⟨callB_of 1 htx (xw_goodC kw_6_16) rfl rfl rfl (htx _ kw_1_5) (htx _ kw_6_13) ⟨by decide, by decide, by decide +kernel⟩ ⟨Nat.le_of_ble_eq_true rfl, Nat.le_of_ble_eq_true rfl⟩, (htx _ kw_6_15), (htx _ kp_M_fresh)⟩ ⟨xPre_blind, va_recv hK hP (ci := 5) rfl (q0 := 0) rfl, (fun U hU hW => ⟨rfl, xPre_of hZ hS hFc hP hD hK U hU hW⟩)⟩ rfl rfl hl.1 rfl (xm_room (Nat.le_of_ble_eq_true rfl)) dM_at_163 ⟨hm5.1, hm5.2⟩) hS (fun q _ h => hFc q h) hFc (fun r6 u9 t H1 locs ht hvm hr9 hB hz1 hk1 hS => ?_)
                        obtain ⟨hP1, hK1, hD1⟩ := hB
                        rw [ht] at hP1
                        obtain ⟨ad7, gd8, vad9⟩ := u9
                        obtain ⟨hr9, hv10, hn11⟩ := hr9
                        have hP : va_P D xcl (xMw cT aM ad7 rd gd8 vad9 o3.2.2.2 []) H1 := hP1
                        have hD : va_D A (xMw cT aM ad7 rd gd8 vad9 o3.2.2.2 []) := hD1.weaken (fun k q _ h => hFc q.1 h)
                        generalize H1 = H at hP hS ⊢
                        have hE9 : ∀ p, p < xct st → vad9 p = vad p := fun p h => (hv10 p (Nat.lt_of_lt_of_le h hN)).trans (hE p h)
                        have hE := hE9
                        have hN : xct st ≤ xct o3.2.2.2 := Nat.le_trans hN hn11
                        rw [hr9]
                        refine W.eq (g2 := F0 m 166 ls [xv vad9 o3.2.2.1]) (by first | rfl | (skip; rfl)) ?_
                        refine lv_goto (tgt := 176) hx hb dM_at_166 (by decide) ?_
                        obtain rfl := Option.some.inj hf
                        exact absurd (show (0 : Nat) = 1 from hkd) (by decide)
                      · rw [if_neg hc] at hf
                        refine lv_lload_n hx hb dM_at_151 rfl (lv_at hl 0 rfl) ?_
                        refine xm_aload_n hx hb (xvor _ _) dM_at_152 rfl (lv_at hl 2 rfl) ?_
                        refine xm_vget (v := .int ((xpi st 3) (c0 - 1))) hx hb htx hown hK hP 3 (by decide) hg1 rfl ((hZ.1 (103, "count", "I") (List.mem_of_getElem? (i := 3) rfl)).use rfl) rfl dM_at_153 ?_
                        refine lv_i2l hx hb dM_at_156 rfl ?_
                        refine W.lcmp hx hb dM_at_157 ?_
                        refine lv_if_lt (tgt := 169) hx hb dM_at_158 (by decide) (fun hc => ?_) (fun hc => ?_)
                        · rw [if_pos hc] at hf
                          refine lv_aload_n hx hb dM_at_169 rfl (lv_at hl 1 rfl) ?_
                          refine xm_aload_n hx hb (xvor _ _) dM_at_170 rfl (lv_at hl 2 rfl) ?_
                          refine lv_lload_n hx hb dM_at_171 rfl (lv_at hl 0 rfl) ?_
                          refine lv_l2i hx hb dM_at_172 rfl ?_
                          obtain ⟨o3, hq4, hf⟩ := xbind hf
                          have hl := lv_sub (l' := [(3, .long (((xpl st) (c1 - 1)) + ((xpi st 3) (c0 - 1)).toInt64)), (0, .ref aM)]) hl [0, 1] rfl
                          have hFc := xm_free hD hS hA
                          refine va_callq (va_runV (C := "ValueBenchModel") (As := [xv vad c0, .int (((xpl st) (c1 - 1)) + ((xpi st 3) (c0 - 1)).toInt64).toInt32]) (rest := []) ⟨hx, hb, hml, hown, htx⟩ (gM_kid l hl9 D cT aK aV s.heap.size n aM ad rd gd vad st c0 ((((xpl st) (c1 - 1)) + ((xpi st 3) (c0 - 1)).toInt64).toInt32) o3 hq4) ⟨callB_of 2 htx (xw_goodC kw_6_158) rfl rfl rfl (htx _ kw_1_5) (htx _ kw_6_155) ⟨by decide, by decide, by decide +kernel⟩ ⟨Nat.le_of_ble_eq_true rfl, Nat.le_of_ble_eq_true rfl⟩, (htx _ kw_6_157), (htx _ kp_M_kid)⟩ ⟨xPre_blind, va_recv hK hP (ci := 5) rfl (q0 := 0) rfl, (fun U hU hW => ⟨rfl, xPre_of hZ hS hFc hP hD hK U hU hW⟩)⟩ rfl rfl hl.1 rfl (xm_room (Nat.le_of_ble_eq_true rfl)) dM_at_173 ⟨Nat.zero_le _, Nat.zero_le _⟩) hS (fun q _ h => hFc q h) hFc (fun r5 u9 t H1 locs ht hvm hr9 hB hz1 hk1 hS => ?_)
                          obtain ⟨hP1, hK1, hD1⟩ := hB
                          rw [ht] at hP1
                          have hP : va_P D xcl (xMw cT aM ad rd gd vad st []) H1 := hP1
                          have hD : va_D A (xMw cT aM ad rd gd vad st []) := hD1.weaken (fun k q _ h => hFc q.1 h)
                          generalize H1 = H at hP hS ⊢
                          rw [hr9]
                          refine W.eq (g2 := F0 m 176 ls [xv vad o3]) (by first | rfl | (skip; rfl)) ?_
                          obtain rfl := Option.some.inj hf
                          exact absurd (show (0 : Nat) = 1 from hkd) (by decide)
                        · rw [if_neg hc] at hf
                          refine lv_aload_n hx hb dM_at_161 rfl (lv_at hl 1 rfl) ?_
                          refine lv_iconst (v := 0) hx hb dM_at_162 (by decide) ?_
                          obtain ⟨o3, hq4, hf⟩ := xbind hf
                          have hl := lv_sub (l' := [(3, .long (((xpl st) (c1 - 1)) + ((xpi st 3) (c0 - 1)).toInt64)), (0, .ref aM)]) hl [0, 1] rfl
                          obtain ⟨hm5, hf⟩ := xmoE hf
                          have hFc := xm_free hD hS hA
                          refine va_callq (va_runV (C := "ValueBenchModel") (As := [.int 0]) (rest := []) ⟨hx, hb, hml, hown, htx⟩ (gM_fresh l hl9 D cT aK aV s.heap.size n aM ad rd gd vad st (0 : Int32) o3 hq4) ⟨callB_of 1 htx (xw_goodC kw_6_16) rfl rfl rfl (htx _ kw_1_5) (htx _ kw_6_13) ⟨by decide, by decide, by decide +kernel⟩ ⟨Nat.le_of_ble_eq_true rfl, Nat.le_of_ble_eq_true rfl⟩, (htx _ kw_6_15), (htx _ kp_M_fresh)⟩ ⟨xPre_blind, va_recv hK hP (ci := 5) rfl (q0 := 0) rfl, (fun U hU hW => ⟨rfl, xPre_of hZ hS hFc hP hD hK U hU hW⟩)⟩ rfl rfl hl.1 rfl (xm_room (Nat.le_of_ble_eq_true rfl)) dM_at_163 ⟨hm5.1, hm5.2⟩) hS (fun q _ h => hFc q h) hFc (fun r6 u9 t H1 locs ht hvm hr9 hB hz1 hk1 hS => ?_)
                          obtain ⟨hP1, hK1, hD1⟩ := hB
                          rw [ht] at hP1
                          obtain ⟨ad7, gd8, vad9⟩ := u9
                          obtain ⟨hr9, hv10, hn11⟩ := hr9
                          have hP : va_P D xcl (xMw cT aM ad7 rd gd8 vad9 o3.2.2.2 []) H1 := hP1
                          have hD : va_D A (xMw cT aM ad7 rd gd8 vad9 o3.2.2.2 []) := hD1.weaken (fun k q _ h => hFc q.1 h)
                          generalize H1 = H at hP hS ⊢
                          have hE9 : ∀ p, p < xct st → vad9 p = vad p := fun p h => (hv10 p (Nat.lt_of_lt_of_le h hN)).trans (hE p h)
                          have hE := hE9
                          have hN : xct st ≤ xct o3.2.2.2 := Nat.le_trans hN hn11
                          rw [hr9]
                          refine W.eq (g2 := F0 m 166 ls [xv vad9 o3.2.2.1]) (by first | rfl | (skip; rfl)) ?_
                          refine lv_goto (tgt := 176) hx hb dM_at_166 (by decide) ?_
                          obtain rfl := Option.some.inj hf
                          exact absurd (show (0 : Nat) = 1 from hkd) (by decide)
                  · rw [if_neg hc] at hf
                    refine lv_aload_n hx hb dM_at_112 rfl (lv_at hl 0 rfl) ?_
                    refine lv_iconst (v := 1) hx hb dM_at_113 (by decide) ?_
                    obtain ⟨o3, hq4, hf⟩ := xbind hf
                    have hl := lv_sub (l' := [(0, .ref aM)]) hl [0] rfl
                    by_cases hk5 : o3.1 = 1
                    · rw [if_pos hk5] at hf
                      obtain ⟨hm6, hf⟩ := xmoE hf
                      have hFc := xm_free hD hS hA
                      refine xx_thr (vx_runV (C := "ValueBenchModel") (As := [.int 1]) (rest := []) ⟨hx, hb, hml, hown, htx⟩ (gM_refuse_1 l hl9 D cT aK aV s.heap.size n aM ad rd gd vad st (1 : Int32) o3 hq4 hk5) ⟨callB_of 1 htx (xw_goodC kw_6_93) rfl rfl rfl (htx _ kw_1_5) (htx _ kw_6_90) ⟨by decide, by decide, by decide +kernel⟩ ⟨Nat.le_of_ble_eq_true rfl, Nat.le_of_ble_eq_true rfl⟩, (htx _ kw_6_92), (htx _ kp_M_refuse)⟩ ⟨xPre_blind, va_recv hK hP (ci := 5) rfl (q0 := 0) rfl, (fun U hU hW => ⟨rfl, xPre_of hZ hS hFc hP hD hK U hU hW⟩)⟩ rfl rfl hl.1 rfl (xm_room (Nat.le_of_ble_eq_true rfl)) dM_at_114 ⟨hm6.1, hm6.2⟩) hS hFc (fun q _ h => hFc q h) (fun E ce q9 u9 t H1 locs ht hvm hr9 hB hz1 hk1 hS hce hcv hcl => ?_)
                      obtain ⟨rfl, hP1, hK1, hD1⟩ := hB
                      rw [ht] at hP1
                      obtain ⟨ad8, gd9, vad10⟩ := u9
                      obtain ⟨hv11, hn12⟩ := hr9
                      have hP : va_P D xcl (xMw cT aM ad8 rd gd9 vad10 o3.2.2.2.2 []) H1 := hP1
                      have hD : va_D A (xMw cT aM ad8 rd gd9 vad10 o3.2.2.2.2 []) := hD1.weaken (fun k q _ h => hFc q.1 h)
                      generalize H1 = H at hP hS hce ⊢
                      have hE9 : ∀ p, p < xct st → vad10 p = vad p := fun p h => (hv11 p (Nat.lt_of_lt_of_le h hN)).trans (hE p h)
                      have hE := hE9
                      have hN : xct st ≤ xct o3.2.2.2.2 := Nat.le_trans hN hn12
                      obtain rfl := Option.some.inj hf
                      exact vx_out (E := "java/lang/ArithmeticException") (fun x h => (hne x h).elim) hlocks hce hcv hcl (fun t ht ha => ⟨(ad8, gd9, vad10), ⟨hE, hN⟩, ⟨rfl, by rw [ht]; exact hP, va_K.moved ha hK, hD⟩, hS.F ht⟩) hS.2.2 (Nat.le_refl _) (Nat.le_refl _)
                    rw [if_neg hk5] at hf
                    exact nomatch hf
                · rw [if_pos hc] at hf
                  refine lv_aload_n hx hb dM_at_97 rfl (lv_at hl 0 rfl) ?_
                  refine xm_aload_n hx hb (xvor _ _) dM_at_98 rfl (lv_at hl 1 rfl) ?_
                  refine xm_aload_n hx hb (xvor _ _) dM_at_99 rfl (lv_at hl 2 rfl) ?_
                  obtain ⟨o3, hq4, hf⟩ := xbind hf
                  have hl := lv_sub (l' := [(0, .ref aM)]) hl [0] rfl
                  by_cases hk5 : o3.1 = 0
                  · rw [if_pos hk5] at hf
                    obtain ⟨hm6, hf⟩ := xmoE hf
                    have hFc := xm_free hD hS hA
                    refine va_callq (va_runV (C := "ValueBenchModel") (As := [xv vad c0, xv vad c1]) (rest := []) ⟨hx, hb, hml, hown, htx⟩ (gM_indices l hl9 D cT aK aV s.heap.size d n aM ad rd gd vad st c0 c1 o3 hq4 hk5) ⟨callB_of 2 htx (xw_goodC kw_7_103) rfl rfl rfl (htx _ kw_1_5) (htx _ kw_7_100) ⟨by decide, by decide, by decide +kernel⟩ ⟨(by show (16 * d + 8) + 1 ≤ 16 * d + 9; omega), (by show 8 + (9 + 11) + (400 * d + 147) ≤ 400 * d + 175; omega)⟩, (htx _ kw_7_102), (htx _ kp_M_indices)⟩ ⟨xPre_blind, va_recv hK hP (ci := 5) rfl (q0 := 0) rfl, (fun U hU hW => ⟨rfl, xPre_of hZ hS hFc hP hD hK U hU hW⟩)⟩ rfl rfl hl.1 rfl (xm_room (Nat.le_of_ble_eq_true rfl)) dM_at_100 ⟨hm6.1, hm6.2⟩) hS (fun q _ h => hFc q h) hFc (fun r7 u9 t H1 locs ht hvm hr9 hB hz1 hk1 hS => ?_)
                    obtain ⟨hP1, hK1, hD1⟩ := hB
                    rw [ht] at hP1
                    obtain ⟨ad8, gd9, vad10⟩ := u9
                    obtain ⟨hr9, hv11, hn12⟩ := hr9
                    have hP : va_P D xcl (xMw cT aM ad8 rd gd9 vad10 o3.2.2.2.2 []) H1 := hP1
                    have hD : va_D A (xMw cT aM ad8 rd gd9 vad10 o3.2.2.2.2 []) := hD1.weaken (fun k q _ h => hFc q.1 h)
                    generalize H1 = H at hP hS ⊢
                    have hE9 : ∀ p, p < xct st → vad10 p = vad p := fun p h => (hv11 p (Nat.lt_of_lt_of_le h hN)).trans (hE p h)
                    have hE := hE9
                    have hN : xct st ≤ xct o3.2.2.2.2 := Nat.le_trans hN hn12
                    rw [hr9]
                    refine W.eq (g2 := F0 m 103 ls [xv vad10 o3.2.2.2.1]) (by first | rfl | (skip; rfl)) ?_
                    obtain rfl := Option.some.inj hf
                    exact absurd (show (0 : Nat) = 1 from hkd) (by decide)
                  rw [if_neg hk5] at hf
                  by_cases hk13 : o3.1 = 1
                  · rw [if_pos hk13] at hf
                    obtain ⟨hm14, hf⟩ := xmoE hf
                    have hFc := xm_free hD hS hA
                    refine xx_thr (vx_runV (C := "ValueBenchModel") (As := [xv vad c0, xv vad c1]) (rest := []) ⟨hx, hb, hml, hown, htx⟩ (gM_indices_1 l hl9 D cT aK aV s.heap.size d n aM ad rd gd vad st c0 c1 o3 hq4 hk13) ⟨callB_of 2 htx (xw_goodC kw_7_103) rfl rfl rfl (htx _ kw_1_5) (htx _ kw_7_100) ⟨by decide, by decide, by decide +kernel⟩ ⟨(by show (16 * d + 8) + 1 ≤ 16 * d + 9; omega), (by show 8 + (9 + 11) + (400 * d + 147) ≤ 400 * d + 175; omega)⟩, (htx _ kw_7_102), (htx _ kp_M_indices)⟩ ⟨xPre_blind, va_recv hK hP (ci := 5) rfl (q0 := 0) rfl, (fun U hU hW => ⟨rfl, xPre_of hZ hS hFc hP hD hK U hU hW⟩)⟩ rfl rfl hl.1 rfl (xm_room (Nat.le_of_ble_eq_true rfl)) dM_at_100 ⟨hm14.1, hm14.2⟩) hS hFc (fun q _ h => hFc q h) (fun E ce q9 u9 t H1 locs ht hvm hr9 hB hz1 hk1 hS hce hcv hcl => ?_)
                    obtain ⟨rfl, hP1, hK1, hD1⟩ := hB
                    rw [ht] at hP1
                    obtain ⟨ad16, gd17, vad18⟩ := u9
                    obtain ⟨hv19, hn20⟩ := hr9
                    have hP : va_P D xcl (xMw cT aM ad16 rd gd17 vad18 o3.2.2.2.2 []) H1 := hP1
                    have hD : va_D A (xMw cT aM ad16 rd gd17 vad18 o3.2.2.2.2 []) := hD1.weaken (fun k q _ h => hFc q.1 h)
                    generalize H1 = H at hP hS hce ⊢
                    have hE9 : ∀ p, p < xct st → vad18 p = vad p := fun p h => (hv19 p (Nat.lt_of_lt_of_le h hN)).trans (hE p h)
                    have hE := hE9
                    have hN : xct st ≤ xct o3.2.2.2.2 := Nat.le_trans hN hn20
                    obtain rfl := Option.some.inj hf
                    exact vx_out (E := "java/lang/ArithmeticException") (fun x h => (hne x h).elim) hlocks hce hcv hcl (fun t ht ha => ⟨(ad16, gd17, vad18), ⟨hE, hN⟩, ⟨rfl, by rw [ht]; exact hP, va_K.moved ha hK, hD⟩, hS.F ht⟩) hS.2.2 (Nat.le_refl _) (Nat.le_refl _)
                  rw [if_neg hk13] at hf
                  by_cases hk21 : o3.1 = 2
                  · rw [if_pos hk21] at hf
                    obtain ⟨hm22, hf⟩ := xmoE hf
                    obtain rfl := Option.some.inj hf
                    exact absurd (show (2 : Nat) = 1 from hkd) (by decide)
                  rw [if_neg hk21] at hf
                  exact nomatch hf
              · rw [if_neg hc] at hf
                refine lv_aload_n hx hb dM_at_83 rfl (lv_at hl 0 rfl) ?_
                refine lv_iconst (v := 1) hx hb dM_at_84 (by decide) ?_
                obtain ⟨o3, hq4, hf⟩ := xbind hf
                have hl := lv_sub (l' := [(0, .ref aM)]) hl [0] rfl
                by_cases hk5 : o3.1 = 1
                · rw [if_pos hk5] at hf
                  obtain ⟨hm6, hf⟩ := xmoE hf
                  have hFc := xm_free hD hS hA
                  refine xx_thr (vx_runV (C := "ValueBenchModel") (As := [.int 1]) (rest := []) ⟨hx, hb, hml, hown, htx⟩ (gM_refuse_1 l hl9 D cT aK aV s.heap.size n aM ad rd gd vad st (1 : Int32) o3 hq4 hk5) ⟨callB_of 1 htx (xw_goodC kw_6_93) rfl rfl rfl (htx _ kw_1_5) (htx _ kw_6_90) ⟨by decide, by decide, by decide +kernel⟩ ⟨Nat.le_of_ble_eq_true rfl, Nat.le_of_ble_eq_true rfl⟩, (htx _ kw_6_92), (htx _ kp_M_refuse)⟩ ⟨xPre_blind, va_recv hK hP (ci := 5) rfl (q0 := 0) rfl, (fun U hU hW => ⟨rfl, xPre_of hZ hS hFc hP hD hK U hU hW⟩)⟩ rfl rfl hl.1 rfl (xm_room (Nat.le_of_ble_eq_true rfl)) dM_at_85 ⟨hm6.1, hm6.2⟩) hS hFc (fun q _ h => hFc q h) (fun E ce q9 u9 t H1 locs ht hvm hr9 hB hz1 hk1 hS hce hcv hcl => ?_)
                  obtain ⟨rfl, hP1, hK1, hD1⟩ := hB
                  rw [ht] at hP1
                  obtain ⟨ad8, gd9, vad10⟩ := u9
                  obtain ⟨hv11, hn12⟩ := hr9
                  have hP : va_P D xcl (xMw cT aM ad8 rd gd9 vad10 o3.2.2.2.2 []) H1 := hP1
                  have hD : va_D A (xMw cT aM ad8 rd gd9 vad10 o3.2.2.2.2 []) := hD1.weaken (fun k q _ h => hFc q.1 h)
                  generalize H1 = H at hP hS hce ⊢
                  have hE9 : ∀ p, p < xct st → vad10 p = vad p := fun p h => (hv11 p (Nat.lt_of_lt_of_le h hN)).trans (hE p h)
                  have hE := hE9
                  have hN : xct st ≤ xct o3.2.2.2.2 := Nat.le_trans hN hn12
                  obtain rfl := Option.some.inj hf
                  exact vx_out (E := "java/lang/ArithmeticException") (fun x h => (hne x h).elim) hlocks hce hcv hcl (fun t ht ha => ⟨(ad8, gd9, vad10), ⟨hE, hN⟩, ⟨rfl, by rw [ht]; exact hP, va_K.moved ha hK, hD⟩, hS.F ht⟩) hS.2.2 (Nat.le_refl _) (Nat.le_refl _)
                rw [if_neg hk5] at hf
                exact nomatch hf
            · rw [if_pos hc] at hf
              refine lv_aload_n hx hb dM_at_49 rfl (lv_at hl 0 rfl) ?_
              refine xm_aload_n hx hb (xvor _ _) dM_at_50 rfl (lv_at hl 1 rfl) ?_
              refine xm_aload_n hx hb (xvor _ _) dM_at_51 rfl (lv_at hl 2 rfl) ?_
              obtain ⟨o3, hq4, hf⟩ := xbind hf
              have hl := lv_sub (l' := [(0, .ref aM), (1, xv vad c0)]) hl [0, 1] rfl
              have hFc := xm_free hD hS hA
              refine va_calli (va_runV (C := "ValueBenchModel") (As := [xv vad c0, xv vad c1]) (rest := []) ⟨hx, hb, hml, hown, htx⟩ (gM_place l hl9 D cT aK aV s.heap.size n aM ad rd gd vad st c0 c1 o3 hq4) ⟨callB_of 2 htx (xw_goodC kw_6_178) rfl rfl rfl (htx _ kw_1_5) (htx _ kw_6_175) ⟨by decide, by decide, by decide +kernel⟩ ⟨Nat.le_of_ble_eq_true rfl, Nat.le_of_ble_eq_true rfl⟩, (htx _ kw_6_177), (htx _ kp_M_place)⟩ ⟨xPre_blind, va_recv hK hP (ci := 5) rfl (q0 := 0) rfl, (fun U hU hW => ⟨rfl, xPre_of hZ hS hFc hP hD hK U hU hW⟩)⟩ rfl rfl hl.1 rfl (xm_room (Nat.le_of_ble_eq_true rfl)) dM_at_52 ⟨Nat.zero_le _, Nat.zero_le _⟩) hS (fun q _ h => hFc q h) hFc (fun r5 u9 t H1 locs ht hvm hr9 hB hz1 hk1 hS => ?_)
              obtain ⟨hP1, hK1, hD1⟩ := hB
              rw [ht] at hP1
              have hP : va_P D xcl (xMw cT aM ad rd gd vad st []) H1 := hP1
              have hD : va_D A (xMw cT aM ad rd gd vad st []) := hD1.weaken (fun k q _ h => hFc q.1 h)
              generalize H1 = H at hP hS ⊢
              rw [hr9]
              refine W.eq (g2 := F0 m 55 ls [.int o3]) (by first | rfl | (skip; rfl)) ?_
              refine lv_istore_n (lv' := [(3, .int o3), (0, .ref aM), (1, xv vad c0)]) hx hb dM_at_55 rfl hl (by decide) rfl (fun ls hl => ?_)
              refine lv_iload_n hx hb dM_at_56 rfl (lv_at hl 0 rfl) ?_
              refine lv_if_ge (tgt := 68) hx hb dM_at_57 (by decide) (fun hc => ?_) (fun hc => ?_)
              · rw [if_pos hc] at hf
                refine lv_aload_n hx hb dM_at_68 rfl (lv_at hl 1 rfl) ?_
                refine xm_aload_n hx hb (xvor _ _) dM_at_69 rfl (lv_at hl 2 rfl) ?_
                refine lv_iload_n hx hb dM_at_70 rfl (lv_at hl 0 rfl) ?_
                obtain ⟨o6, hq7, hf⟩ := xbind hf
                have hl := lv_sub (l' := [(3, .int o3), (0, .ref aM)]) hl [0, 1] rfl
                have hFc := xm_free hD hS hA
                refine va_callq (va_runV (C := "ValueBenchModel") (As := [xv vad c0, .int o3]) (rest := []) ⟨hx, hb, hml, hown, htx⟩ (gM_kid l hl9 D cT aK aV H.size n aM ad rd gd vad st c0 o3 o6 hq7) ⟨callB_of 2 htx (xw_goodC kw_6_158) rfl rfl rfl (htx _ kw_1_5) (htx _ kw_6_155) ⟨by decide, by decide, by decide +kernel⟩ ⟨Nat.le_of_ble_eq_true rfl, Nat.le_of_ble_eq_true rfl⟩, (htx _ kw_6_157), (htx _ kp_M_kid)⟩ ⟨xPre_blind, va_recv hK hP (ci := 5) rfl (q0 := 0) rfl, (fun U hU hW => ⟨rfl, xPre_of hZ hS hFc hP hD hK U hU hW⟩)⟩ rfl rfl hl.1 rfl (xm_room (Nat.le_of_ble_eq_true rfl)) dM_at_71 ⟨Nat.zero_le _, Nat.zero_le _⟩) hS (fun q _ h => hFc q h) hFc (fun r8 u9 t H1 locs ht hvm hr9 hB hz1 hk1 hS => ?_)
                obtain ⟨hP1, hK1, hD1⟩ := hB
                rw [ht] at hP1
                have hP : va_P D xcl (xMw cT aM ad rd gd vad st []) H1 := hP1
                have hD : va_D A (xMw cT aM ad rd gd vad st []) := hD1.weaken (fun k q _ h => hFc q.1 h)
                generalize H1 = H at hP hS ⊢
                rw [hr9]
                refine W.eq (g2 := F0 m 74 ls [xv vad o6]) (by first | rfl | (skip; rfl)) ?_
                obtain rfl := Option.some.inj hf
                exact absurd (show (0 : Nat) = 1 from hkd) (by decide)
              · rw [if_neg hc] at hf
                refine lv_aload_n hx hb dM_at_60 rfl (lv_at hl 1 rfl) ?_
                refine lv_iconst (v := 0) hx hb dM_at_61 (by decide) ?_
                obtain ⟨o6, hq7, hf⟩ := xbind hf
                have hl := lv_sub (l' := [(3, .int o3), (0, .ref aM)]) hl [0, 1] rfl
                obtain ⟨hm8, hf⟩ := xmoE hf
                have hFc := xm_free hD hS hA
                refine va_callq (va_runV (C := "ValueBenchModel") (As := [.int 0]) (rest := []) ⟨hx, hb, hml, hown, htx⟩ (gM_fresh l hl9 D cT aK aV H.size n aM ad rd gd vad st (0 : Int32) o6 hq7) ⟨callB_of 1 htx (xw_goodC kw_6_16) rfl rfl rfl (htx _ kw_1_5) (htx _ kw_6_13) ⟨by decide, by decide, by decide +kernel⟩ ⟨Nat.le_of_ble_eq_true rfl, Nat.le_of_ble_eq_true rfl⟩, (htx _ kw_6_15), (htx _ kp_M_fresh)⟩ ⟨xPre_blind, va_recv hK hP (ci := 5) rfl (q0 := 0) rfl, (fun U hU hW => ⟨rfl, xPre_of hZ hS hFc hP hD hK U hU hW⟩)⟩ rfl rfl hl.1 rfl (xm_room (Nat.le_of_ble_eq_true rfl)) dM_at_62 ⟨hm8.1, hm8.2⟩) hS (fun q _ h => hFc q h) hFc (fun r9 u9 t H1 locs ht hvm hr9 hB hz1 hk1 hS => ?_)
                obtain ⟨hP1, hK1, hD1⟩ := hB
                rw [ht] at hP1
                obtain ⟨ad10, gd11, vad12⟩ := u9
                obtain ⟨hr9, hv13, hn14⟩ := hr9
                have hP : va_P D xcl (xMw cT aM ad10 rd gd11 vad12 o6.2.2.2 []) H1 := hP1
                have hD : va_D A (xMw cT aM ad10 rd gd11 vad12 o6.2.2.2 []) := hD1.weaken (fun k q _ h => hFc q.1 h)
                generalize H1 = H at hP hS ⊢
                have hE9 : ∀ p, p < xct st → vad12 p = vad p := fun p h => (hv13 p (Nat.lt_of_lt_of_le h hN)).trans (hE p h)
                have hE := hE9
                have hN : xct st ≤ xct o6.2.2.2 := Nat.le_trans hN hn14
                rw [hr9]
                refine W.eq (g2 := F0 m 65 ls [xv vad12 o6.2.2.1]) (by first | rfl | (skip; rfl)) ?_
                refine lv_goto (tgt := 74) hx hb dM_at_65 (by decide) ?_
                obtain rfl := Option.some.inj hf
                exact absurd (show (0 : Nat) = 1 from hkd) (by decide)
        · rw [if_pos hc] at hf
          refine xm_aload_n hx hb (xvor _ _) dM_at_30 rfl (lv_at hl 1 rfl) ?_
          obtain rfl := Option.some.inj hf
          exact absurd (show (0 : Nat) = 1 from hkd) (by decide)
set_option maxHeartbeats 400000000 in
set_option maxRecDepth 100000 in
theorem gM_at_2 (l : Launch) (hl9 : l.stackTraces = false) (D : va_G) (cT : Nat → ClassId) (aK aV : Nat → Nat) (sz d n : Nat) (aM : Nat) (ad rd gd vad : Nat → Nat) (st : xS) (c0 : Nat) (c1 : Nat) (out : Nat × Nat × Nat × Nat × xS) (hf : fM_at d n st c0 c1 = some out) (hkd : out.1 = 2) : xMetY l yM_at wyM_at (16 * d + 9) out.2.1 out.2.2.1 (400 * d + 175) D cT aK aV sz [.ref aM, xv vad c0, xv vad c1] (xMw cT aM ad rd gd vad st []) "java/lang/IndexOutOfBoundsException" (fun u => xE vad st out.2.2.2.2 u) (fun A u t => xB D xcl cT A (xMw cT aM u.1 rd u.2.1 u.2.2 out.2.2.2.2 []) t) := by
  refine vx_ofW (cc := prog_13_method_75_code) (maxL := 5) (ret := (some (.object "ValueBenchModel$V"))) (by decide) rfl ?_
  intro p e s m args below meth c s₁ B hml hne hv
  obtain ⟨rfl, hsz, hZ, hP, hK, hD0⟩ := hv
  have hx := B.exec
  have hb := B.bytes
  have hr := B.returns
  have hts := atoms_spec (ws := wyM_at) B.pre
  have htx := fun w h => hts w (List.mem_cons_of_mem _ h)
  have hown : s.vm.findClass "ValueBenchModel" = some m.cls := findClass_of_methodNamed B.named
  have hlocks := B.notSynchronized
  subst hsz
  have hD := hD0.self (sz := s.heap.size)
  generalize hAe : va_A (xMw cT aM ad rd gd vad st []) s.heap.size = A at hD hZ ⊢
  have hA : ∀ q : Nat, s.heap.size ≤ q → A q := fun q h => by rw [← hAe]; exact Or.inr h
  have hS : va_S A s.heap s.heap [] := va_S.rf
  have hl := lv_entry ([.ref aM, xv vad c0, xv vad c1]) (n := 5) (by simp [lg_sl, xvcat, xrscat, xcI, xcL, xcR, xcN])
  rw [show lv_args 0 [.ref aM, xv vad c0, xv vad c1] = [(0, .ref aM), (1, xv vad c0), (2, xv vad c1)] from by simp [lv_args, xvcat, xrscat, xcI, xcL, xcR, xcN]] at hl
  rw [lg_entry_eq]
  generalize (lg_sl ([.ref aM, xv vad c0, xv vad c1]) ++ List.replicate (5 - (lg_sl ([.ref aM, xv vad c0, xv vad c1])).length) Slot.unset).toArray = ls at hl ⊢
  have hl : lv_has ls 5 [(0, .ref aM), (1, xv vad c0), (2, xv vad c1)] := hl
  have hE : ∀ p, p < xct st → vad p = vad p := fun _ _ => rfl
  have hN : xct st ≤ xct st := Nat.le_refl _
  unfold fM_at at hf
  refine xm_aload_n hx hb (xvor _ _) dM_at_0 rfl (lv_at hl 1 rfl) ?_
  obtain ⟨hg1, hf⟩ := xifn hf
  refine xm_vget (v := .int ((xpi st 0) (c0 - 1))) hx hb htx hown hK hP 0 (by decide) hg1 rfl ((hZ.1 (93, "kind", "I") (List.mem_of_getElem? (i := 0) rfl)).use rfl) rfl dM_at_1 ?_
  refine lv_if_ne (tgt := 32) hx hb dM_at_4 (by decide) (fun hc => ?_) (fun hc => ?_)
  · rw [if_neg hc] at hf
    refine xm_aload_n hx hb (xvor _ _) dM_at_32 rfl (lv_at hl 1 rfl) ?_
    refine xm_vget (v := .int ((xpi st 0) (c0 - 1))) hx hb htx hown hK hP 0 (by decide) hg1 rfl ((hZ.1 (93, "kind", "I") (List.mem_of_getElem? (i := 0) rfl)).use rfl) rfl dM_at_33 ?_
    refine lv_bipush (v := 6) hx hb dM_at_36 (by decide) ?_
    refine lv_icmp_ne (tgt := 75) hx hb dM_at_38 (by decide) (fun hc => ?_) (fun hc => ?_)
    · rw [if_neg hc] at hf
      refine xm_aload_n hx hb (xvor _ _) dM_at_75 rfl (lv_at hl 1 rfl) ?_
      refine xm_vget (v := .int ((xpi st 0) (c0 - 1))) hx hb htx hown hK hP 0 (by decide) hg1 rfl ((hZ.1 (93, "kind", "I") (List.mem_of_getElem? (i := 0) rfl)).use rfl) rfl dM_at_76 ?_
      refine lv_iconst (v := 5) hx hb dM_at_79 (by decide) ?_
      refine lv_icmp_eq (tgt := 89) hx hb dM_at_80 (by decide) (fun hc => ?_) (fun hc => ?_)
      · rw [if_pos hc] at hf
        refine xm_aload_n hx hb (xvor _ _) dM_at_89 rfl (lv_at hl 2 rfl) ?_
        obtain ⟨hg2, hf⟩ := xifn hf
        refine xm_vget (v := .int ((xpi st 0) (c1 - 1))) hx hb htx hown hK hP 0 (by decide) hg2 rfl ((hZ.1 (93, "kind", "I") (List.mem_of_getElem? (i := 0) rfl)).use rfl) rfl dM_at_90 ?_
        refine lv_iconst (v := 5) hx hb dM_at_93 (by decide) ?_
        refine lv_icmp_ne (tgt := 104) hx hb dM_at_94 (by decide) (fun hc => ?_) (fun hc => ?_)
        · rw [if_neg hc] at hf
          refine xm_aload_n hx hb (xvor _ _) dM_at_104 rfl (lv_at hl 2 rfl) ?_
          refine xm_vget (v := .int ((xpi st 0) (c1 - 1))) hx hb htx hown hK hP 0 (by decide) hg2 rfl ((hZ.1 (93, "kind", "I") (List.mem_of_getElem? (i := 0) rfl)).use rfl) rfl dM_at_105 ?_
          refine lv_iconst (v := 3) hx hb dM_at_108 (by decide) ?_
          refine lv_icmp_eq (tgt := 118) hx hb dM_at_109 (by decide) (fun hc => ?_) (fun hc => ?_)
          · rw [if_pos hc] at hf
            refine xm_aload_n hx hb (xvor _ _) dM_at_118 rfl (lv_at hl 2 rfl) ?_
            refine xm_vget (v := .long ((xpl st) (c1 - 1))) hx hb htx hown hK hP 1 (by decide) hg2 rfl ((hZ.1 (96, "n", "J") (List.mem_of_getElem? (i := 1) rfl)).use rfl) rfl dM_at_119 ?_
            refine lv_lconst (v := 0) hx hb dM_at_122 (by decide) ?_
            refine W.lcmp hx hb dM_at_123 ?_
            refine lv_if_ge (tgt := 140) hx hb dM_at_124 (by decide) (fun hc => ?_) (fun hc => ?_)
            · rw [if_pos hc] at hf
              refine xm_aload_n hx hb (xvor _ _) dM_at_140 rfl (lv_at hl 2 rfl) ?_
              refine xm_vget (v := .long ((xpl st) (c1 - 1))) hx hb htx hown hK hP 1 (by decide) hg2 rfl ((hZ.1 (96, "n", "J") (List.mem_of_getElem? (i := 1) rfl)).use rfl) rfl dM_at_141 ?_
              refine lv_lstore_n (lv' := [(3, .long ((xpl st) (c1 - 1))), (0, .ref aM), (1, xv vad c0), (2, xv vad c1)]) hx hb dM_at_144 rfl hl (by decide) (by simp only [List.filter, xvcat, xrscat, xcI, xcL, xcR, xcN]; rfl) (fun ls hl => ?_)
              refine lv_lload_n hx hb dM_at_145 rfl (lv_at hl 0 rfl) ?_
              refine lv_lconst (v := 0) hx hb dM_at_146 (by decide) ?_
              refine W.lcmp hx hb dM_at_147 ?_
              refine lv_if_lt (tgt := 161) hx hb dM_at_148 (by decide) (fun hc => ?_) (fun hc => ?_)
              · rw [if_pos hc] at hf
                refine lv_aload_n hx hb dM_at_161 rfl (lv_at hl 1 rfl) ?_
                refine lv_iconst (v := 0) hx hb dM_at_162 (by decide) ?_
                obtain ⟨o3, hq4, hf⟩ := xbind hf
                have hl := lv_sub (l' := [(3, .long ((xpl st) (c1 - 1))), (0, .ref aM)]) hl [0, 1] rfl
                obtain ⟨hm5, hf⟩ := xmoE hf
                have hFc := xm_free hD hS hA
                refine va_callq (va_runV (C := "ValueBenchModel") (As := [.int 0]) (rest := []) ⟨hx, hb, hml, hown, htx⟩ (gM_fresh l hl9 D cT aK aV s.heap.size n aM ad rd gd vad st (0 : Int32) o3 hq4) ⟨callB_of 1 htx (xw_goodC kw_6_16) rfl rfl rfl (htx _ kw_1_5) (htx _ kw_6_13) ⟨by decide, by decide, by decide +kernel⟩ ⟨Nat.le_of_ble_eq_true rfl, Nat.le_of_ble_eq_true rfl⟩, (htx _ kw_6_15), (htx _ kp_M_fresh)⟩ ⟨xPre_blind, va_recv hK hP (ci := 5) rfl (q0 := 0) rfl, (fun U hU hW => ⟨rfl, xPre_of hZ hS hFc hP hD hK U hU hW⟩)⟩ rfl rfl hl.1 rfl (xm_room (Nat.le_of_ble_eq_true rfl)) dM_at_163 ⟨hm5.1, hm5.2⟩) hS (fun q _ h => hFc q h) hFc (fun r6 u9 t H1 locs ht hvm hr9 hB hz1 hk1 hS => ?_)
                obtain ⟨hP1, hK1, hD1⟩ := hB
                rw [ht] at hP1
                obtain ⟨ad7, gd8, vad9⟩ := u9
                obtain ⟨hr9, hv10, hn11⟩ := hr9
                have hP : va_P D xcl (xMw cT aM ad7 rd gd8 vad9 o3.2.2.2 []) H1 := hP1
                have hD : va_D A (xMw cT aM ad7 rd gd8 vad9 o3.2.2.2 []) := hD1.weaken (fun k q _ h => hFc q.1 h)
                generalize H1 = H at hP hS ⊢
                have hE9 : ∀ p, p < xct st → vad9 p = vad p := fun p h => (hv10 p (Nat.lt_of_lt_of_le h hN)).trans (hE p h)
                have hE := hE9
                have hN : xct st ≤ xct o3.2.2.2 := Nat.le_trans hN hn11
                rw [hr9]
                refine W.eq (g2 := F0 m 166 ls [xv vad9 o3.2.2.1]) (by first | rfl | (skip; rfl)) ?_
                refine lv_goto (tgt := 176) hx hb dM_at_166 (by decide) ?_
                obtain rfl := Option.some.inj hf
                exact absurd (show (0 : Nat) = 2 from hkd) (by decide)
              · rw [if_neg hc] at hf
                refine lv_lload_n hx hb dM_at_151 rfl (lv_at hl 0 rfl) ?_
                refine xm_aload_n hx hb (xvor _ _) dM_at_152 rfl (lv_at hl 2 rfl) ?_
                refine xm_vget (v := .int ((xpi st 3) (c0 - 1))) hx hb htx hown hK hP 3 (by decide) hg1 rfl ((hZ.1 (103, "count", "I") (List.mem_of_getElem? (i := 3) rfl)).use rfl) rfl dM_at_153 ?_
                refine lv_i2l hx hb dM_at_156 rfl ?_
                refine W.lcmp hx hb dM_at_157 ?_
                refine lv_if_lt (tgt := 169) hx hb dM_at_158 (by decide) (fun hc => ?_) (fun hc => ?_)
                · rw [if_pos hc] at hf
                  refine lv_aload_n hx hb dM_at_169 rfl (lv_at hl 1 rfl) ?_
                  refine xm_aload_n hx hb (xvor _ _) dM_at_170 rfl (lv_at hl 2 rfl) ?_
                  refine lv_lload_n hx hb dM_at_171 rfl (lv_at hl 0 rfl) ?_
                  refine lv_l2i hx hb dM_at_172 rfl ?_
                  obtain ⟨o3, hq4, hf⟩ := xbind hf
                  have hl := lv_sub (l' := [(3, .long ((xpl st) (c1 - 1))), (0, .ref aM)]) hl [0, 1] rfl
                  have hFc := xm_free hD hS hA
                  refine va_callq (va_runV (C := "ValueBenchModel") (As := [xv vad c0, .int ((xpl st) (c1 - 1)).toInt32]) (rest := []) ⟨hx, hb, hml, hown, htx⟩ (gM_kid l hl9 D cT aK aV s.heap.size n aM ad rd gd vad st c0 (((xpl st) (c1 - 1)).toInt32) o3 hq4) ⟨callB_of 2 htx (xw_goodC kw_6_158) rfl rfl rfl (htx _ kw_1_5) (htx _ kw_6_155) ⟨by decide, by decide, by decide +kernel⟩ ⟨Nat.le_of_ble_eq_true rfl, Nat.le_of_ble_eq_true rfl⟩, (htx _ kw_6_157), (htx _ kp_M_kid)⟩ ⟨xPre_blind, va_recv hK hP (ci := 5) rfl (q0 := 0) rfl, (fun U hU hW => ⟨rfl, xPre_of hZ hS hFc hP hD hK U hU hW⟩)⟩ rfl rfl hl.1 rfl (xm_room (Nat.le_of_ble_eq_true rfl)) dM_at_173 ⟨Nat.zero_le _, Nat.zero_le _⟩) hS (fun q _ h => hFc q h) hFc (fun r5 u9 t H1 locs ht hvm hr9 hB hz1 hk1 hS => ?_)
                  obtain ⟨hP1, hK1, hD1⟩ := hB
                  rw [ht] at hP1
                  have hP : va_P D xcl (xMw cT aM ad rd gd vad st []) H1 := hP1
                  have hD : va_D A (xMw cT aM ad rd gd vad st []) := hD1.weaken (fun k q _ h => hFc q.1 h)
                  generalize H1 = H at hP hS ⊢
                  rw [hr9]
                  refine W.eq (g2 := F0 m 176 ls [xv vad o3]) (by first | rfl | (skip; rfl)) ?_
                  obtain rfl := Option.some.inj hf
                  exact absurd (show (0 : Nat) = 2 from hkd) (by decide)
                · rw [if_neg hc] at hf
                  refine lv_aload_n hx hb dM_at_161 rfl (lv_at hl 1 rfl) ?_
                  refine lv_iconst (v := 0) hx hb dM_at_162 (by decide) ?_
                  obtain ⟨o3, hq4, hf⟩ := xbind hf
                  have hl := lv_sub (l' := [(3, .long ((xpl st) (c1 - 1))), (0, .ref aM)]) hl [0, 1] rfl
                  obtain ⟨hm5, hf⟩ := xmoE hf
                  have hFc := xm_free hD hS hA
                  refine va_callq (va_runV (C := "ValueBenchModel") (As := [.int 0]) (rest := []) ⟨hx, hb, hml, hown, htx⟩ (gM_fresh l hl9 D cT aK aV s.heap.size n aM ad rd gd vad st (0 : Int32) o3 hq4) ⟨callB_of 1 htx (xw_goodC kw_6_16) rfl rfl rfl (htx _ kw_1_5) (htx _ kw_6_13) ⟨by decide, by decide, by decide +kernel⟩ ⟨Nat.le_of_ble_eq_true rfl, Nat.le_of_ble_eq_true rfl⟩, (htx _ kw_6_15), (htx _ kp_M_fresh)⟩ ⟨xPre_blind, va_recv hK hP (ci := 5) rfl (q0 := 0) rfl, (fun U hU hW => ⟨rfl, xPre_of hZ hS hFc hP hD hK U hU hW⟩)⟩ rfl rfl hl.1 rfl (xm_room (Nat.le_of_ble_eq_true rfl)) dM_at_163 ⟨hm5.1, hm5.2⟩) hS (fun q _ h => hFc q h) hFc (fun r6 u9 t H1 locs ht hvm hr9 hB hz1 hk1 hS => ?_)
                  obtain ⟨hP1, hK1, hD1⟩ := hB
                  rw [ht] at hP1
                  obtain ⟨ad7, gd8, vad9⟩ := u9
                  obtain ⟨hr9, hv10, hn11⟩ := hr9
                  have hP : va_P D xcl (xMw cT aM ad7 rd gd8 vad9 o3.2.2.2 []) H1 := hP1
                  have hD : va_D A (xMw cT aM ad7 rd gd8 vad9 o3.2.2.2 []) := hD1.weaken (fun k q _ h => hFc q.1 h)
                  generalize H1 = H at hP hS ⊢
                  have hE9 : ∀ p, p < xct st → vad9 p = vad p := fun p h => (hv10 p (Nat.lt_of_lt_of_le h hN)).trans (hE p h)
                  have hE := hE9
                  have hN : xct st ≤ xct o3.2.2.2 := Nat.le_trans hN hn11
                  rw [hr9]
                  refine W.eq (g2 := F0 m 166 ls [xv vad9 o3.2.2.1]) (by first | rfl | (skip; rfl)) ?_
                  refine lv_goto (tgt := 176) hx hb dM_at_166 (by decide) ?_
                  obtain rfl := Option.some.inj hf
                  exact absurd (show (0 : Nat) = 2 from hkd) (by decide)
            · rw [if_neg hc] at hf
              refine xm_aload_n hx hb (xvor _ _) dM_at_127 rfl (lv_at hl 2 rfl) ?_
              refine xm_vget (v := .long ((xpl st) (c1 - 1))) hx hb htx hown hK hP 1 (by decide) hg2 rfl ((hZ.1 (96, "n", "J") (List.mem_of_getElem? (i := 1) rfl)).use rfl) rfl dM_at_128 ?_
              refine xm_aload_n hx hb (xvor _ _) dM_at_131 rfl (lv_at hl 1 rfl) ?_
              refine xm_vget (v := .int ((xpi st 3) (c0 - 1))) hx hb htx hown hK hP 3 (by decide) hg1 rfl ((hZ.1 (103, "count", "I") (List.mem_of_getElem? (i := 3) rfl)).use rfl) rfl dM_at_132 ?_
              refine lv_i2l hx hb dM_at_135 rfl ?_
              refine lv_ladd hx hb dM_at_136 ?_
              refine lv_goto (tgt := 144) hx hb dM_at_137 (by decide) ?_
              refine lv_lstore_n (lv' := [(3, .long (((xpl st) (c1 - 1)) + ((xpi st 3) (c0 - 1)).toInt64)), (0, .ref aM), (1, xv vad c0), (2, xv vad c1)]) hx hb dM_at_144 rfl hl (by decide) (by simp only [List.filter, xvcat, xrscat, xcI, xcL, xcR, xcN]; rfl) (fun ls hl => ?_)
              refine lv_lload_n hx hb dM_at_145 rfl (lv_at hl 0 rfl) ?_
              refine lv_lconst (v := 0) hx hb dM_at_146 (by decide) ?_
              refine W.lcmp hx hb dM_at_147 ?_
              refine lv_if_lt (tgt := 161) hx hb dM_at_148 (by decide) (fun hc => ?_) (fun hc => ?_)
              · rw [if_pos hc] at hf
                refine lv_aload_n hx hb dM_at_161 rfl (lv_at hl 1 rfl) ?_
                refine lv_iconst (v := 0) hx hb dM_at_162 (by decide) ?_
                obtain ⟨o3, hq4, hf⟩ := xbind hf
                have hl := lv_sub (l' := [(3, .long (((xpl st) (c1 - 1)) + ((xpi st 3) (c0 - 1)).toInt64)), (0, .ref aM)]) hl [0, 1] rfl
                obtain ⟨hm5, hf⟩ := xmoE hf
                have hFc := xm_free hD hS hA
                refine va_callq (va_runV (C := "ValueBenchModel") (As := [.int 0]) (rest := []) ⟨hx, hb, hml, hown, htx⟩ (gM_fresh l hl9 D cT aK aV s.heap.size n aM ad rd gd vad st (0 : Int32) o3 hq4) ⟨callB_of 1 htx (xw_goodC kw_6_16) rfl rfl rfl (htx _ kw_1_5) (htx _ kw_6_13) ⟨by decide, by decide, by decide +kernel⟩ ⟨Nat.le_of_ble_eq_true rfl, Nat.le_of_ble_eq_true rfl⟩, (htx _ kw_6_15), (htx _ kp_M_fresh)⟩ ⟨xPre_blind, va_recv hK hP (ci := 5) rfl (q0 := 0) rfl, (fun U hU hW => ⟨rfl, xPre_of hZ hS hFc hP hD hK U hU hW⟩)⟩ rfl rfl hl.1 rfl (xm_room (Nat.le_of_ble_eq_true rfl)) dM_at_163 ⟨hm5.1, hm5.2⟩) hS (fun q _ h => hFc q h) hFc (fun r6 u9 t H1 locs ht hvm hr9 hB hz1 hk1 hS => ?_)
                obtain ⟨hP1, hK1, hD1⟩ := hB
                rw [ht] at hP1
                obtain ⟨ad7, gd8, vad9⟩ := u9
                obtain ⟨hr9, hv10, hn11⟩ := hr9
                have hP : va_P D xcl (xMw cT aM ad7 rd gd8 vad9 o3.2.2.2 []) H1 := hP1
                have hD : va_D A (xMw cT aM ad7 rd gd8 vad9 o3.2.2.2 []) := hD1.weaken (fun k q _ h => hFc q.1 h)
                generalize H1 = H at hP hS ⊢
                have hE9 : ∀ p, p < xct st → vad9 p = vad p := fun p h => (hv10 p (Nat.lt_of_lt_of_le h hN)).trans (hE p h)
                have hE := hE9
                have hN : xct st ≤ xct o3.2.2.2 := Nat.le_trans hN hn11
                rw [hr9]
                refine W.eq (g2 := F0 m 166 ls [xv vad9 o3.2.2.1]) (by first | rfl | (skip; rfl)) ?_
                refine lv_goto (tgt := 176) hx hb dM_at_166 (by decide) ?_
                obtain rfl := Option.some.inj hf
                exact absurd (show (0 : Nat) = 2 from hkd) (by decide)
              · rw [if_neg hc] at hf
                refine lv_lload_n hx hb dM_at_151 rfl (lv_at hl 0 rfl) ?_
                refine xm_aload_n hx hb (xvor _ _) dM_at_152 rfl (lv_at hl 2 rfl) ?_
                refine xm_vget (v := .int ((xpi st 3) (c0 - 1))) hx hb htx hown hK hP 3 (by decide) hg1 rfl ((hZ.1 (103, "count", "I") (List.mem_of_getElem? (i := 3) rfl)).use rfl) rfl dM_at_153 ?_
                refine lv_i2l hx hb dM_at_156 rfl ?_
                refine W.lcmp hx hb dM_at_157 ?_
                refine lv_if_lt (tgt := 169) hx hb dM_at_158 (by decide) (fun hc => ?_) (fun hc => ?_)
                · rw [if_pos hc] at hf
                  refine lv_aload_n hx hb dM_at_169 rfl (lv_at hl 1 rfl) ?_
                  refine xm_aload_n hx hb (xvor _ _) dM_at_170 rfl (lv_at hl 2 rfl) ?_
                  refine lv_lload_n hx hb dM_at_171 rfl (lv_at hl 0 rfl) ?_
                  refine lv_l2i hx hb dM_at_172 rfl ?_
                  obtain ⟨o3, hq4, hf⟩ := xbind hf
                  have hl := lv_sub (l' := [(3, .long (((xpl st) (c1 - 1)) + ((xpi st 3) (c0 - 1)).toInt64)), (0, .ref aM)]) hl [0, 1] rfl
                  have hFc := xm_free hD hS hA
                  refine va_callq (va_runV (C := "ValueBenchModel") (As := [xv vad c0, .int (((xpl st) (c1 - 1)) + ((xpi st 3) (c0 - 1)).toInt64).toInt32]) (rest := []) ⟨hx, hb, hml, hown, htx⟩ (gM_kid l hl9 D cT aK aV s.heap.size n aM ad rd gd vad st c0 ((((xpl st) (c1 - 1)) + ((xpi st 3) (c0 - 1)).toInt64).toInt32) o3 hq4) ⟨callB_of 2 htx (xw_goodC kw_6_158) rfl rfl rfl (htx _ kw_1_5) (htx _ kw_6_155) ⟨by decide, by decide, by decide +kernel⟩ ⟨Nat.le_of_ble_eq_true rfl, Nat.le_of_ble_eq_true rfl⟩, (htx _ kw_6_157), (htx _ kp_M_kid)⟩ ⟨xPre_blind, va_recv hK hP (ci := 5) rfl (q0 := 0) rfl, (fun U hU hW => ⟨rfl, xPre_of hZ hS hFc hP hD hK U hU hW⟩)⟩ rfl rfl hl.1 rfl (xm_room (Nat.le_of_ble_eq_true rfl)) dM_at_173 ⟨Nat.zero_le _, Nat.zero_le _⟩) hS (fun q _ h => hFc q h) hFc (fun r5 u9 t H1 locs ht hvm hr9 hB hz1 hk1 hS => ?_)
                  obtain ⟨hP1, hK1, hD1⟩ := hB
                  rw [ht] at hP1
                  have hP : va_P D xcl (xMw cT aM ad rd gd vad st []) H1 := hP1
                  have hD : va_D A (xMw cT aM ad rd gd vad st []) := hD1.weaken (fun k q _ h => hFc q.1 h)
                  generalize H1 = H at hP hS ⊢
                  rw [hr9]
                  refine W.eq (g2 := F0 m 176 ls [xv vad o3]) (by first | rfl | (skip; rfl)) ?_
                  obtain rfl := Option.some.inj hf
                  exact absurd (show (0 : Nat) = 2 from hkd) (by decide)
                · rw [if_neg hc] at hf
                  refine lv_aload_n hx hb dM_at_161 rfl (lv_at hl 1 rfl) ?_
                  refine lv_iconst (v := 0) hx hb dM_at_162 (by decide) ?_
                  obtain ⟨o3, hq4, hf⟩ := xbind hf
                  have hl := lv_sub (l' := [(3, .long (((xpl st) (c1 - 1)) + ((xpi st 3) (c0 - 1)).toInt64)), (0, .ref aM)]) hl [0, 1] rfl
                  obtain ⟨hm5, hf⟩ := xmoE hf
                  have hFc := xm_free hD hS hA
                  refine va_callq (va_runV (C := "ValueBenchModel") (As := [.int 0]) (rest := []) ⟨hx, hb, hml, hown, htx⟩ (gM_fresh l hl9 D cT aK aV s.heap.size n aM ad rd gd vad st (0 : Int32) o3 hq4) ⟨callB_of 1 htx (xw_goodC kw_6_16) rfl rfl rfl (htx _ kw_1_5) (htx _ kw_6_13) ⟨by decide, by decide, by decide +kernel⟩ ⟨Nat.le_of_ble_eq_true rfl, Nat.le_of_ble_eq_true rfl⟩, (htx _ kw_6_15), (htx _ kp_M_fresh)⟩ ⟨xPre_blind, va_recv hK hP (ci := 5) rfl (q0 := 0) rfl, (fun U hU hW => ⟨rfl, xPre_of hZ hS hFc hP hD hK U hU hW⟩)⟩ rfl rfl hl.1 rfl (xm_room (Nat.le_of_ble_eq_true rfl)) dM_at_163 ⟨hm5.1, hm5.2⟩) hS (fun q _ h => hFc q h) hFc (fun r6 u9 t H1 locs ht hvm hr9 hB hz1 hk1 hS => ?_)
                  obtain ⟨hP1, hK1, hD1⟩ := hB
                  rw [ht] at hP1
                  obtain ⟨ad7, gd8, vad9⟩ := u9
                  obtain ⟨hr9, hv10, hn11⟩ := hr9
                  have hP : va_P D xcl (xMw cT aM ad7 rd gd8 vad9 o3.2.2.2 []) H1 := hP1
                  have hD : va_D A (xMw cT aM ad7 rd gd8 vad9 o3.2.2.2 []) := hD1.weaken (fun k q _ h => hFc q.1 h)
                  generalize H1 = H at hP hS ⊢
                  have hE9 : ∀ p, p < xct st → vad9 p = vad p := fun p h => (hv10 p (Nat.lt_of_lt_of_le h hN)).trans (hE p h)
                  have hE := hE9
                  have hN : xct st ≤ xct o3.2.2.2 := Nat.le_trans hN hn11
                  rw [hr9]
                  refine W.eq (g2 := F0 m 166 ls [xv vad9 o3.2.2.1]) (by first | rfl | (skip; rfl)) ?_
                  refine lv_goto (tgt := 176) hx hb dM_at_166 (by decide) ?_
                  obtain rfl := Option.some.inj hf
                  exact absurd (show (0 : Nat) = 2 from hkd) (by decide)
          · rw [if_neg hc] at hf
            refine lv_aload_n hx hb dM_at_112 rfl (lv_at hl 0 rfl) ?_
            refine lv_iconst (v := 1) hx hb dM_at_113 (by decide) ?_
            obtain ⟨o3, hq4, hf⟩ := xbind hf
            have hl := lv_sub (l' := [(0, .ref aM)]) hl [0] rfl
            by_cases hk5 : o3.1 = 1
            · rw [if_pos hk5] at hf
              obtain ⟨hm6, hf⟩ := xmoE hf
              obtain rfl := Option.some.inj hf
              exact absurd (show (1 : Nat) = 2 from hkd) (by decide)
            rw [if_neg hk5] at hf
            exact nomatch hf
        · rw [if_pos hc] at hf
          refine lv_aload_n hx hb dM_at_97 rfl (lv_at hl 0 rfl) ?_
          refine xm_aload_n hx hb (xvor _ _) dM_at_98 rfl (lv_at hl 1 rfl) ?_
          refine xm_aload_n hx hb (xvor _ _) dM_at_99 rfl (lv_at hl 2 rfl) ?_
          obtain ⟨o3, hq4, hf⟩ := xbind hf
          have hl := lv_sub (l' := [(0, .ref aM)]) hl [0] rfl
          by_cases hk5 : o3.1 = 0
          · rw [if_pos hk5] at hf
            obtain ⟨hm6, hf⟩ := xmoE hf
            have hFc := xm_free hD hS hA
            refine va_callq (va_runV (C := "ValueBenchModel") (As := [xv vad c0, xv vad c1]) (rest := []) ⟨hx, hb, hml, hown, htx⟩ (gM_indices l hl9 D cT aK aV s.heap.size d n aM ad rd gd vad st c0 c1 o3 hq4 hk5) ⟨callB_of 2 htx (xw_goodC kw_7_103) rfl rfl rfl (htx _ kw_1_5) (htx _ kw_7_100) ⟨by decide, by decide, by decide +kernel⟩ ⟨(by show (16 * d + 8) + 1 ≤ 16 * d + 9; omega), (by show 8 + (9 + 11) + (400 * d + 147) ≤ 400 * d + 175; omega)⟩, (htx _ kw_7_102), (htx _ kp_M_indices)⟩ ⟨xPre_blind, va_recv hK hP (ci := 5) rfl (q0 := 0) rfl, (fun U hU hW => ⟨rfl, xPre_of hZ hS hFc hP hD hK U hU hW⟩)⟩ rfl rfl hl.1 rfl (xm_room (Nat.le_of_ble_eq_true rfl)) dM_at_100 ⟨hm6.1, hm6.2⟩) hS (fun q _ h => hFc q h) hFc (fun r7 u9 t H1 locs ht hvm hr9 hB hz1 hk1 hS => ?_)
            obtain ⟨hP1, hK1, hD1⟩ := hB
            rw [ht] at hP1
            obtain ⟨ad8, gd9, vad10⟩ := u9
            obtain ⟨hr9, hv11, hn12⟩ := hr9
            have hP : va_P D xcl (xMw cT aM ad8 rd gd9 vad10 o3.2.2.2.2 []) H1 := hP1
            have hD : va_D A (xMw cT aM ad8 rd gd9 vad10 o3.2.2.2.2 []) := hD1.weaken (fun k q _ h => hFc q.1 h)
            generalize H1 = H at hP hS ⊢
            have hE9 : ∀ p, p < xct st → vad10 p = vad p := fun p h => (hv11 p (Nat.lt_of_lt_of_le h hN)).trans (hE p h)
            have hE := hE9
            have hN : xct st ≤ xct o3.2.2.2.2 := Nat.le_trans hN hn12
            rw [hr9]
            refine W.eq (g2 := F0 m 103 ls [xv vad10 o3.2.2.2.1]) (by first | rfl | (skip; rfl)) ?_
            obtain rfl := Option.some.inj hf
            exact absurd (show (0 : Nat) = 2 from hkd) (by decide)
          rw [if_neg hk5] at hf
          by_cases hk13 : o3.1 = 1
          · rw [if_pos hk13] at hf
            obtain ⟨hm14, hf⟩ := xmoE hf
            obtain rfl := Option.some.inj hf
            exact absurd (show (1 : Nat) = 2 from hkd) (by decide)
          rw [if_neg hk13] at hf
          by_cases hk21 : o3.1 = 2
          · rw [if_pos hk21] at hf
            obtain ⟨hm22, hf⟩ := xmoE hf
            have hFc := xm_free hD hS hA
            refine xx_thr (vx_runV (C := "ValueBenchModel") (As := [xv vad c0, xv vad c1]) (rest := []) ⟨hx, hb, hml, hown, htx⟩ (gM_indices_2 l hl9 D cT aK aV s.heap.size d n aM ad rd gd vad st c0 c1 o3 hq4 hk21) ⟨callB_of 2 htx (xw_goodC kw_7_103) rfl rfl rfl (htx _ kw_1_5) (htx _ kw_7_100) ⟨by decide, by decide, by decide +kernel⟩ ⟨(by show (16 * d + 8) + 1 ≤ 16 * d + 9; omega), (by show 8 + (9 + 11) + (400 * d + 147) ≤ 400 * d + 175; omega)⟩, (htx _ kw_7_102), (htx _ kp_M_indices)⟩ ⟨xPre_blind, va_recv hK hP (ci := 5) rfl (q0 := 0) rfl, (fun U hU hW => ⟨rfl, xPre_of hZ hS hFc hP hD hK U hU hW⟩)⟩ rfl rfl hl.1 rfl (xm_room (Nat.le_of_ble_eq_true rfl)) dM_at_100 ⟨hm22.1, hm22.2⟩) hS hFc (fun q _ h => hFc q h) (fun E ce q9 u9 t H1 locs ht hvm hr9 hB hz1 hk1 hS hce hcv hcl => ?_)
            obtain ⟨rfl, hP1, hK1, hD1⟩ := hB
            rw [ht] at hP1
            obtain ⟨ad24, gd25, vad26⟩ := u9
            obtain ⟨hv27, hn28⟩ := hr9
            have hP : va_P D xcl (xMw cT aM ad24 rd gd25 vad26 o3.2.2.2.2 []) H1 := hP1
            have hD : va_D A (xMw cT aM ad24 rd gd25 vad26 o3.2.2.2.2 []) := hD1.weaken (fun k q _ h => hFc q.1 h)
            generalize H1 = H at hP hS hce ⊢
            have hE9 : ∀ p, p < xct st → vad26 p = vad p := fun p h => (hv27 p (Nat.lt_of_lt_of_le h hN)).trans (hE p h)
            have hE := hE9
            have hN : xct st ≤ xct o3.2.2.2.2 := Nat.le_trans hN hn28
            obtain rfl := Option.some.inj hf
            exact vx_out (E := "java/lang/IndexOutOfBoundsException") (fun x h => (hne x h).elim) hlocks hce hcv hcl (fun t ht ha => ⟨(ad24, gd25, vad26), ⟨hE, hN⟩, ⟨rfl, by rw [ht]; exact hP, va_K.moved ha hK, hD⟩, hS.F ht⟩) hS.2.2 (Nat.le_refl _) (Nat.le_refl _)
          rw [if_neg hk21] at hf
          exact nomatch hf
      · rw [if_neg hc] at hf
        refine lv_aload_n hx hb dM_at_83 rfl (lv_at hl 0 rfl) ?_
        refine lv_iconst (v := 1) hx hb dM_at_84 (by decide) ?_
        obtain ⟨o2, hq3, hf⟩ := xbind hf
        have hl := lv_sub (l' := [(0, .ref aM)]) hl [0] rfl
        by_cases hk4 : o2.1 = 1
        · rw [if_pos hk4] at hf
          obtain ⟨hm5, hf⟩ := xmoE hf
          obtain rfl := Option.some.inj hf
          exact absurd (show (1 : Nat) = 2 from hkd) (by decide)
        rw [if_neg hk4] at hf
        exact nomatch hf
    · rw [if_pos hc] at hf
      refine xm_aload_n hx hb (xvor _ _) dM_at_41 rfl (lv_at hl 2 rfl) ?_
      obtain ⟨hg2, hf⟩ := xifn hf
      refine xm_vget (v := .int ((xpi st 0) (c1 - 1))) hx hb htx hown hK hP 0 (by decide) hg2 rfl ((hZ.1 (93, "kind", "I") (List.mem_of_getElem? (i := 0) rfl)).use rfl) rfl dM_at_42 ?_
      refine lv_iconst (v := 4) hx hb dM_at_45 (by decide) ?_
      refine lv_icmp_ne (tgt := 75) hx hb dM_at_46 (by decide) (fun hc => ?_) (fun hc => ?_)
      · rw [if_neg hc] at hf
        refine xm_aload_n hx hb (xvor _ _) dM_at_75 rfl (lv_at hl 1 rfl) ?_
        refine xm_vget (v := .int ((xpi st 0) (c0 - 1))) hx hb htx hown hK hP 0 (by decide) hg1 rfl ((hZ.1 (93, "kind", "I") (List.mem_of_getElem? (i := 0) rfl)).use rfl) rfl dM_at_76 ?_
        refine lv_iconst (v := 5) hx hb dM_at_79 (by decide) ?_
        refine lv_icmp_eq (tgt := 89) hx hb dM_at_80 (by decide) (fun hc => ?_) (fun hc => ?_)
        · rw [if_pos hc] at hf
          refine xm_aload_n hx hb (xvor _ _) dM_at_89 rfl (lv_at hl 2 rfl) ?_
          refine xm_vget (v := .int ((xpi st 0) (c1 - 1))) hx hb htx hown hK hP 0 (by decide) hg2 rfl ((hZ.1 (93, "kind", "I") (List.mem_of_getElem? (i := 0) rfl)).use rfl) rfl dM_at_90 ?_
          refine lv_iconst (v := 5) hx hb dM_at_93 (by decide) ?_
          refine lv_icmp_ne (tgt := 104) hx hb dM_at_94 (by decide) (fun hc => ?_) (fun hc => ?_)
          · rw [if_neg hc] at hf
            refine xm_aload_n hx hb (xvor _ _) dM_at_104 rfl (lv_at hl 2 rfl) ?_
            refine xm_vget (v := .int ((xpi st 0) (c1 - 1))) hx hb htx hown hK hP 0 (by decide) hg2 rfl ((hZ.1 (93, "kind", "I") (List.mem_of_getElem? (i := 0) rfl)).use rfl) rfl dM_at_105 ?_
            refine lv_iconst (v := 3) hx hb dM_at_108 (by decide) ?_
            refine lv_icmp_eq (tgt := 118) hx hb dM_at_109 (by decide) (fun hc => ?_) (fun hc => ?_)
            · rw [if_pos hc] at hf
              refine xm_aload_n hx hb (xvor _ _) dM_at_118 rfl (lv_at hl 2 rfl) ?_
              refine xm_vget (v := .long ((xpl st) (c1 - 1))) hx hb htx hown hK hP 1 (by decide) hg2 rfl ((hZ.1 (96, "n", "J") (List.mem_of_getElem? (i := 1) rfl)).use rfl) rfl dM_at_119 ?_
              refine lv_lconst (v := 0) hx hb dM_at_122 (by decide) ?_
              refine W.lcmp hx hb dM_at_123 ?_
              refine lv_if_ge (tgt := 140) hx hb dM_at_124 (by decide) (fun hc => ?_) (fun hc => ?_)
              · rw [if_pos hc] at hf
                refine xm_aload_n hx hb (xvor _ _) dM_at_140 rfl (lv_at hl 2 rfl) ?_
                refine xm_vget (v := .long ((xpl st) (c1 - 1))) hx hb htx hown hK hP 1 (by decide) hg2 rfl ((hZ.1 (96, "n", "J") (List.mem_of_getElem? (i := 1) rfl)).use rfl) rfl dM_at_141 ?_
                refine lv_lstore_n (lv' := [(3, .long ((xpl st) (c1 - 1))), (0, .ref aM), (1, xv vad c0), (2, xv vad c1)]) hx hb dM_at_144 rfl hl (by decide) (by simp only [List.filter, xvcat, xrscat, xcI, xcL, xcR, xcN]; rfl) (fun ls hl => ?_)
                refine lv_lload_n hx hb dM_at_145 rfl (lv_at hl 0 rfl) ?_
                refine lv_lconst (v := 0) hx hb dM_at_146 (by decide) ?_
                refine W.lcmp hx hb dM_at_147 ?_
                refine lv_if_lt (tgt := 161) hx hb dM_at_148 (by decide) (fun hc => ?_) (fun hc => ?_)
                · rw [if_pos hc] at hf
                  refine lv_aload_n hx hb dM_at_161 rfl (lv_at hl 1 rfl) ?_
                  refine lv_iconst (v := 0) hx hb dM_at_162 (by decide) ?_
                  obtain ⟨o3, hq4, hf⟩ := xbind hf
                  have hl := lv_sub (l' := [(3, .long ((xpl st) (c1 - 1))), (0, .ref aM)]) hl [0, 1] rfl
                  obtain ⟨hm5, hf⟩ := xmoE hf
                  have hFc := xm_free hD hS hA
                  refine va_callq (va_runV (C := "ValueBenchModel") (As := [.int 0]) (rest := []) ⟨hx, hb, hml, hown, htx⟩ (gM_fresh l hl9 D cT aK aV s.heap.size n aM ad rd gd vad st (0 : Int32) o3 hq4) ⟨callB_of 1 htx (xw_goodC kw_6_16) rfl rfl rfl (htx _ kw_1_5) (htx _ kw_6_13) ⟨by decide, by decide, by decide +kernel⟩ ⟨Nat.le_of_ble_eq_true rfl, Nat.le_of_ble_eq_true rfl⟩, (htx _ kw_6_15), (htx _ kp_M_fresh)⟩ ⟨xPre_blind, va_recv hK hP (ci := 5) rfl (q0 := 0) rfl, (fun U hU hW => ⟨rfl, xPre_of hZ hS hFc hP hD hK U hU hW⟩)⟩ rfl rfl hl.1 rfl (xm_room (Nat.le_of_ble_eq_true rfl)) dM_at_163 ⟨hm5.1, hm5.2⟩) hS (fun q _ h => hFc q h) hFc (fun r6 u9 t H1 locs ht hvm hr9 hB hz1 hk1 hS => ?_)
                  obtain ⟨hP1, hK1, hD1⟩ := hB
                  rw [ht] at hP1
                  obtain ⟨ad7, gd8, vad9⟩ := u9
                  obtain ⟨hr9, hv10, hn11⟩ := hr9
                  have hP : va_P D xcl (xMw cT aM ad7 rd gd8 vad9 o3.2.2.2 []) H1 := hP1
                  have hD : va_D A (xMw cT aM ad7 rd gd8 vad9 o3.2.2.2 []) := hD1.weaken (fun k q _ h => hFc q.1 h)
                  generalize H1 = H at hP hS ⊢
                  have hE9 : ∀ p, p < xct st → vad9 p = vad p := fun p h => (hv10 p (Nat.lt_of_lt_of_le h hN)).trans (hE p h)
                  have hE := hE9
                  have hN : xct st ≤ xct o3.2.2.2 := Nat.le_trans hN hn11
                  rw [hr9]
                  refine W.eq (g2 := F0 m 166 ls [xv vad9 o3.2.2.1]) (by first | rfl | (skip; rfl)) ?_
                  refine lv_goto (tgt := 176) hx hb dM_at_166 (by decide) ?_
                  obtain rfl := Option.some.inj hf
                  exact absurd (show (0 : Nat) = 2 from hkd) (by decide)
                · rw [if_neg hc] at hf
                  refine lv_lload_n hx hb dM_at_151 rfl (lv_at hl 0 rfl) ?_
                  refine xm_aload_n hx hb (xvor _ _) dM_at_152 rfl (lv_at hl 2 rfl) ?_
                  refine xm_vget (v := .int ((xpi st 3) (c0 - 1))) hx hb htx hown hK hP 3 (by decide) hg1 rfl ((hZ.1 (103, "count", "I") (List.mem_of_getElem? (i := 3) rfl)).use rfl) rfl dM_at_153 ?_
                  refine lv_i2l hx hb dM_at_156 rfl ?_
                  refine W.lcmp hx hb dM_at_157 ?_
                  refine lv_if_lt (tgt := 169) hx hb dM_at_158 (by decide) (fun hc => ?_) (fun hc => ?_)
                  · rw [if_pos hc] at hf
                    refine lv_aload_n hx hb dM_at_169 rfl (lv_at hl 1 rfl) ?_
                    refine xm_aload_n hx hb (xvor _ _) dM_at_170 rfl (lv_at hl 2 rfl) ?_
                    refine lv_lload_n hx hb dM_at_171 rfl (lv_at hl 0 rfl) ?_
                    refine lv_l2i hx hb dM_at_172 rfl ?_
                    obtain ⟨o3, hq4, hf⟩ := xbind hf
                    have hl := lv_sub (l' := [(3, .long ((xpl st) (c1 - 1))), (0, .ref aM)]) hl [0, 1] rfl
                    have hFc := xm_free hD hS hA
                    refine va_callq (va_runV (C := "ValueBenchModel") (As := [xv vad c0, .int ((xpl st) (c1 - 1)).toInt32]) (rest := []) ⟨hx, hb, hml, hown, htx⟩ (gM_kid l hl9 D cT aK aV s.heap.size n aM ad rd gd vad st c0 (((xpl st) (c1 - 1)).toInt32) o3 hq4) ⟨callB_of 2 htx (xw_goodC kw_6_158) rfl rfl rfl (htx _ kw_1_5) (htx _ kw_6_155) ⟨by decide, by decide, by decide +kernel⟩ ⟨Nat.le_of_ble_eq_true rfl, Nat.le_of_ble_eq_true rfl⟩, (htx _ kw_6_157), (htx _ kp_M_kid)⟩ ⟨xPre_blind, va_recv hK hP (ci := 5) rfl (q0 := 0) rfl, (fun U hU hW => ⟨rfl, xPre_of hZ hS hFc hP hD hK U hU hW⟩)⟩ rfl rfl hl.1 rfl (xm_room (Nat.le_of_ble_eq_true rfl)) dM_at_173 ⟨Nat.zero_le _, Nat.zero_le _⟩) hS (fun q _ h => hFc q h) hFc (fun r5 u9 t H1 locs ht hvm hr9 hB hz1 hk1 hS => ?_)
                    obtain ⟨hP1, hK1, hD1⟩ := hB
                    rw [ht] at hP1
                    have hP : va_P D xcl (xMw cT aM ad rd gd vad st []) H1 := hP1
                    have hD : va_D A (xMw cT aM ad rd gd vad st []) := hD1.weaken (fun k q _ h => hFc q.1 h)
                    generalize H1 = H at hP hS ⊢
                    rw [hr9]
                    refine W.eq (g2 := F0 m 176 ls [xv vad o3]) (by first | rfl | (skip; rfl)) ?_
                    obtain rfl := Option.some.inj hf
                    exact absurd (show (0 : Nat) = 2 from hkd) (by decide)
                  · rw [if_neg hc] at hf
                    refine lv_aload_n hx hb dM_at_161 rfl (lv_at hl 1 rfl) ?_
                    refine lv_iconst (v := 0) hx hb dM_at_162 (by decide) ?_
                    obtain ⟨o3, hq4, hf⟩ := xbind hf
                    have hl := lv_sub (l' := [(3, .long ((xpl st) (c1 - 1))), (0, .ref aM)]) hl [0, 1] rfl
                    obtain ⟨hm5, hf⟩ := xmoE hf
                    have hFc := xm_free hD hS hA
                    refine va_callq (va_runV (C := "ValueBenchModel") (As := [.int 0]) (rest := []) ⟨hx, hb, hml, hown, htx⟩ (gM_fresh l hl9 D cT aK aV s.heap.size n aM ad rd gd vad st (0 : Int32) o3 hq4) ⟨callB_of 1 htx (xw_goodC kw_6_16) rfl rfl rfl (htx _ kw_1_5) (htx _ kw_6_13) ⟨by decide, by decide, by decide +kernel⟩ ⟨Nat.le_of_ble_eq_true rfl, Nat.le_of_ble_eq_true rfl⟩, (htx _ kw_6_15), (htx _ kp_M_fresh)⟩ ⟨xPre_blind, va_recv hK hP (ci := 5) rfl (q0 := 0) rfl, (fun U hU hW => ⟨rfl, xPre_of hZ hS hFc hP hD hK U hU hW⟩)⟩ rfl rfl hl.1 rfl (xm_room (Nat.le_of_ble_eq_true rfl)) dM_at_163 ⟨hm5.1, hm5.2⟩) hS (fun q _ h => hFc q h) hFc (fun r6 u9 t H1 locs ht hvm hr9 hB hz1 hk1 hS => ?_)
                    obtain ⟨hP1, hK1, hD1⟩ := hB
                    rw [ht] at hP1
                    obtain ⟨ad7, gd8, vad9⟩ := u9
                    obtain ⟨hr9, hv10, hn11⟩ := hr9
                    have hP : va_P D xcl (xMw cT aM ad7 rd gd8 vad9 o3.2.2.2 []) H1 := hP1
                    have hD : va_D A (xMw cT aM ad7 rd gd8 vad9 o3.2.2.2 []) := hD1.weaken (fun k q _ h => hFc q.1 h)
                    generalize H1 = H at hP hS ⊢
                    have hE9 : ∀ p, p < xct st → vad9 p = vad p := fun p h => (hv10 p (Nat.lt_of_lt_of_le h hN)).trans (hE p h)
                    have hE := hE9
                    have hN : xct st ≤ xct o3.2.2.2 := Nat.le_trans hN hn11
                    rw [hr9]
                    refine W.eq (g2 := F0 m 166 ls [xv vad9 o3.2.2.1]) (by first | rfl | (skip; rfl)) ?_
                    refine lv_goto (tgt := 176) hx hb dM_at_166 (by decide) ?_
                    obtain rfl := Option.some.inj hf
                    exact absurd (show (0 : Nat) = 2 from hkd) (by decide)
              · rw [if_neg hc] at hf
                refine xm_aload_n hx hb (xvor _ _) dM_at_127 rfl (lv_at hl 2 rfl) ?_
                refine xm_vget (v := .long ((xpl st) (c1 - 1))) hx hb htx hown hK hP 1 (by decide) hg2 rfl ((hZ.1 (96, "n", "J") (List.mem_of_getElem? (i := 1) rfl)).use rfl) rfl dM_at_128 ?_
                refine xm_aload_n hx hb (xvor _ _) dM_at_131 rfl (lv_at hl 1 rfl) ?_
                refine xm_vget (v := .int ((xpi st 3) (c0 - 1))) hx hb htx hown hK hP 3 (by decide) hg1 rfl ((hZ.1 (103, "count", "I") (List.mem_of_getElem? (i := 3) rfl)).use rfl) rfl dM_at_132 ?_
                refine lv_i2l hx hb dM_at_135 rfl ?_
                refine lv_ladd hx hb dM_at_136 ?_
                refine lv_goto (tgt := 144) hx hb dM_at_137 (by decide) ?_
                refine lv_lstore_n (lv' := [(3, .long (((xpl st) (c1 - 1)) + ((xpi st 3) (c0 - 1)).toInt64)), (0, .ref aM), (1, xv vad c0), (2, xv vad c1)]) hx hb dM_at_144 rfl hl (by decide) (by simp only [List.filter, xvcat, xrscat, xcI, xcL, xcR, xcN]; rfl) (fun ls hl => ?_)
                refine lv_lload_n hx hb dM_at_145 rfl (lv_at hl 0 rfl) ?_
                refine lv_lconst (v := 0) hx hb dM_at_146 (by decide) ?_
                refine W.lcmp hx hb dM_at_147 ?_
                refine lv_if_lt (tgt := 161) hx hb dM_at_148 (by decide) (fun hc => ?_) (fun hc => ?_)
                · rw [if_pos hc] at hf
                  refine lv_aload_n hx hb dM_at_161 rfl (lv_at hl 1 rfl) ?_
                  refine lv_iconst (v := 0) hx hb dM_at_162 (by decide) ?_
                  obtain ⟨o3, hq4, hf⟩ := xbind hf
                  have hl := lv_sub (l' := [(3, .long (((xpl st) (c1 - 1)) + ((xpi st 3) (c0 - 1)).toInt64)), (0, .ref aM)]) hl [0, 1] rfl
                  obtain ⟨hm5, hf⟩ := xmoE hf
                  have hFc := xm_free hD hS hA
                  refine va_callq (va_runV (C := "ValueBenchModel") (As := [.int 0]) (rest := []) ⟨hx, hb, hml, hown, htx⟩ (gM_fresh l hl9 D cT aK aV s.heap.size n aM ad rd gd vad st (0 : Int32) o3 hq4) ⟨callB_of 1 htx (xw_goodC kw_6_16) rfl rfl rfl (htx _ kw_1_5) (htx _ kw_6_13) ⟨by decide, by decide, by decide +kernel⟩ ⟨Nat.le_of_ble_eq_true rfl, Nat.le_of_ble_eq_true rfl⟩, (htx _ kw_6_15), (htx _ kp_M_fresh)⟩ ⟨xPre_blind, va_recv hK hP (ci := 5) rfl (q0 := 0) rfl, (fun U hU hW => ⟨rfl, xPre_of hZ hS hFc hP hD hK U hU hW⟩)⟩ rfl rfl hl.1 rfl (xm_room (Nat.le_of_ble_eq_true rfl)) dM_at_163 ⟨hm5.1, hm5.2⟩) hS (fun q _ h => hFc q h) hFc (fun r6 u9 t H1 locs ht hvm hr9 hB hz1 hk1 hS => ?_)
                  obtain ⟨hP1, hK1, hD1⟩ := hB
                  rw [ht] at hP1
                  obtain ⟨ad7, gd8, vad9⟩ := u9
                  obtain ⟨hr9, hv10, hn11⟩ := hr9
                  have hP : va_P D xcl (xMw cT aM ad7 rd gd8 vad9 o3.2.2.2 []) H1 := hP1
                  have hD : va_D A (xMw cT aM ad7 rd gd8 vad9 o3.2.2.2 []) := hD1.weaken (fun k q _ h => hFc q.1 h)
                  generalize H1 = H at hP hS ⊢
                  have hE9 : ∀ p, p < xct st → vad9 p = vad p := fun p h => (hv10 p (Nat.lt_of_lt_of_le h hN)).trans (hE p h)
                  have hE := hE9
                  have hN : xct st ≤ xct o3.2.2.2 := Nat.le_trans hN hn11
                  rw [hr9]
                  refine W.eq (g2 := F0 m 166 ls [xv vad9 o3.2.2.1]) (by first | rfl | (skip; rfl)) ?_
                  refine lv_goto (tgt := 176) hx hb dM_at_166 (by decide) ?_
                  obtain rfl := Option.some.inj hf
                  exact absurd (show (0 : Nat) = 2 from hkd) (by decide)
                · rw [if_neg hc] at hf
                  refine lv_lload_n hx hb dM_at_151 rfl (lv_at hl 0 rfl) ?_
                  refine xm_aload_n hx hb (xvor _ _) dM_at_152 rfl (lv_at hl 2 rfl) ?_
                  refine xm_vget (v := .int ((xpi st 3) (c0 - 1))) hx hb htx hown hK hP 3 (by decide) hg1 rfl ((hZ.1 (103, "count", "I") (List.mem_of_getElem? (i := 3) rfl)).use rfl) rfl dM_at_153 ?_
                  refine lv_i2l hx hb dM_at_156 rfl ?_
                  refine W.lcmp hx hb dM_at_157 ?_
                  refine lv_if_lt (tgt := 169) hx hb dM_at_158 (by decide) (fun hc => ?_) (fun hc => ?_)
                  · rw [if_pos hc] at hf
                    refine lv_aload_n hx hb dM_at_169 rfl (lv_at hl 1 rfl) ?_
                    refine xm_aload_n hx hb (xvor _ _) dM_at_170 rfl (lv_at hl 2 rfl) ?_
                    refine lv_lload_n hx hb dM_at_171 rfl (lv_at hl 0 rfl) ?_
                    refine lv_l2i hx hb dM_at_172 rfl ?_
                    obtain ⟨o3, hq4, hf⟩ := xbind hf
                    have hl := lv_sub (l' := [(3, .long (((xpl st) (c1 - 1)) + ((xpi st 3) (c0 - 1)).toInt64)), (0, .ref aM)]) hl [0, 1] rfl
                    have hFc := xm_free hD hS hA
                    refine va_callq (va_runV (C := "ValueBenchModel") (As := [xv vad c0, .int (((xpl st) (c1 - 1)) + ((xpi st 3) (c0 - 1)).toInt64).toInt32]) (rest := []) ⟨hx, hb, hml, hown, htx⟩ (gM_kid l hl9 D cT aK aV s.heap.size n aM ad rd gd vad st c0 ((((xpl st) (c1 - 1)) + ((xpi st 3) (c0 - 1)).toInt64).toInt32) o3 hq4) ⟨callB_of 2 htx (xw_goodC kw_6_158) rfl rfl rfl (htx _ kw_1_5) (htx _ kw_6_155) ⟨by decide, by decide, by decide +kernel⟩ ⟨Nat.le_of_ble_eq_true rfl, Nat.le_of_ble_eq_true rfl⟩, (htx _ kw_6_157), (htx _ kp_M_kid)⟩ ⟨xPre_blind, va_recv hK hP (ci := 5) rfl (q0 := 0) rfl, (fun U hU hW => ⟨rfl, xPre_of hZ hS hFc hP hD hK U hU hW⟩)⟩ rfl rfl hl.1 rfl (xm_room (Nat.le_of_ble_eq_true rfl)) dM_at_173 ⟨Nat.zero_le _, Nat.zero_le _⟩) hS (fun q _ h => hFc q h) hFc (fun r5 u9 t H1 locs ht hvm hr9 hB hz1 hk1 hS => ?_)
                    obtain ⟨hP1, hK1, hD1⟩ := hB
                    rw [ht] at hP1
                    have hP : va_P D xcl (xMw cT aM ad rd gd vad st []) H1 := hP1
                    have hD : va_D A (xMw cT aM ad rd gd vad st []) := hD1.weaken (fun k q _ h => hFc q.1 h)
                    generalize H1 = H at hP hS ⊢
                    rw [hr9]
                    refine W.eq (g2 := F0 m 176 ls [xv vad o3]) (by first | rfl | (skip; rfl)) ?_
                    obtain rfl := Option.some.inj hf
                    exact absurd (show (0 : Nat) = 2 from hkd) (by decide)
                  · rw [if_neg hc] at hf
                    refine lv_aload_n hx hb dM_at_161 rfl (lv_at hl 1 rfl) ?_
                    refine lv_iconst (v := 0) hx hb dM_at_162 (by decide) ?_
                    obtain ⟨o3, hq4, hf⟩ := xbind hf
                    have hl := lv_sub (l' := [(3, .long (((xpl st) (c1 - 1)) + ((xpi st 3) (c0 - 1)).toInt64)), (0, .ref aM)]) hl [0, 1] rfl
                    obtain ⟨hm5, hf⟩ := xmoE hf
                    have hFc := xm_free hD hS hA
                    refine va_callq (va_runV (C := "ValueBenchModel") (As := [.int 0]) (rest := []) ⟨hx, hb, hml, hown, htx⟩ (gM_fresh l hl9 D cT aK aV s.heap.size n aM ad rd gd vad st (0 : Int32) o3 hq4) ⟨callB_of 1 htx (xw_goodC kw_6_16) rfl rfl rfl (htx _ kw_1_5) (htx _ kw_6_13) ⟨by decide, by decide, by decide +kernel⟩ ⟨Nat.le_of_ble_eq_true rfl, Nat.le_of_ble_eq_true rfl⟩, (htx _ kw_6_15), (htx _ kp_M_fresh)⟩ ⟨xPre_blind, va_recv hK hP (ci := 5) rfl (q0 := 0) rfl, (fun U hU hW => ⟨rfl, xPre_of hZ hS hFc hP hD hK U hU hW⟩)⟩ rfl rfl hl.1 rfl (xm_room (Nat.le_of_ble_eq_true rfl)) dM_at_163 ⟨hm5.1, hm5.2⟩) hS (fun q _ h => hFc q h) hFc (fun r6 u9 t H1 locs ht hvm hr9 hB hz1 hk1 hS => ?_)
                    obtain ⟨hP1, hK1, hD1⟩ := hB
                    rw [ht] at hP1
                    obtain ⟨ad7, gd8, vad9⟩ := u9
                    obtain ⟨hr9, hv10, hn11⟩ := hr9
                    have hP : va_P D xcl (xMw cT aM ad7 rd gd8 vad9 o3.2.2.2 []) H1 := hP1
                    have hD : va_D A (xMw cT aM ad7 rd gd8 vad9 o3.2.2.2 []) := hD1.weaken (fun k q _ h => hFc q.1 h)
                    generalize H1 = H at hP hS ⊢
                    have hE9 : ∀ p, p < xct st → vad9 p = vad p := fun p h => (hv10 p (Nat.lt_of_lt_of_le h hN)).trans (hE p h)
                    have hE := hE9
                    have hN : xct st ≤ xct o3.2.2.2 := Nat.le_trans hN hn11
                    rw [hr9]
                    refine W.eq (g2 := F0 m 166 ls [xv vad9 o3.2.2.1]) (by first | rfl | (skip; rfl)) ?_
                    refine lv_goto (tgt := 176) hx hb dM_at_166 (by decide) ?_
                    obtain rfl := Option.some.inj hf
                    exact absurd (show (0 : Nat) = 2 from hkd) (by decide)
            · rw [if_neg hc] at hf
              refine lv_aload_n hx hb dM_at_112 rfl (lv_at hl 0 rfl) ?_
              refine lv_iconst (v := 1) hx hb dM_at_113 (by decide) ?_
              obtain ⟨o3, hq4, hf⟩ := xbind hf
              have hl := lv_sub (l' := [(0, .ref aM)]) hl [0] rfl
              by_cases hk5 : o3.1 = 1
              · rw [if_pos hk5] at hf
                obtain ⟨hm6, hf⟩ := xmoE hf
                obtain rfl := Option.some.inj hf
                exact absurd (show (1 : Nat) = 2 from hkd) (by decide)
              rw [if_neg hk5] at hf
              exact nomatch hf
          · rw [if_pos hc] at hf
            refine lv_aload_n hx hb dM_at_97 rfl (lv_at hl 0 rfl) ?_
            refine xm_aload_n hx hb (xvor _ _) dM_at_98 rfl (lv_at hl 1 rfl) ?_
            refine xm_aload_n hx hb (xvor _ _) dM_at_99 rfl (lv_at hl 2 rfl) ?_
            obtain ⟨o3, hq4, hf⟩ := xbind hf
            have hl := lv_sub (l' := [(0, .ref aM)]) hl [0] rfl
            by_cases hk5 : o3.1 = 0
            · rw [if_pos hk5] at hf
              obtain ⟨hm6, hf⟩ := xmoE hf
              have hFc := xm_free hD hS hA
              refine va_callq (va_runV (C := "ValueBenchModel") (As := [xv vad c0, xv vad c1]) (rest := []) ⟨hx, hb, hml, hown, htx⟩ (gM_indices l hl9 D cT aK aV s.heap.size d n aM ad rd gd vad st c0 c1 o3 hq4 hk5) ⟨callB_of 2 htx (xw_goodC kw_7_103) rfl rfl rfl (htx _ kw_1_5) (htx _ kw_7_100) ⟨by decide, by decide, by decide +kernel⟩ ⟨(by show (16 * d + 8) + 1 ≤ 16 * d + 9; omega), (by show 8 + (9 + 11) + (400 * d + 147) ≤ 400 * d + 175; omega)⟩, (htx _ kw_7_102), (htx _ kp_M_indices)⟩ ⟨xPre_blind, va_recv hK hP (ci := 5) rfl (q0 := 0) rfl, (fun U hU hW => ⟨rfl, xPre_of hZ hS hFc hP hD hK U hU hW⟩)⟩ rfl rfl hl.1 rfl (xm_room (Nat.le_of_ble_eq_true rfl)) dM_at_100 ⟨hm6.1, hm6.2⟩) hS (fun q _ h => hFc q h) hFc (fun r7 u9 t H1 locs ht hvm hr9 hB hz1 hk1 hS => ?_)
              obtain ⟨hP1, hK1, hD1⟩ := hB
              rw [ht] at hP1
              obtain ⟨ad8, gd9, vad10⟩ := u9
              obtain ⟨hr9, hv11, hn12⟩ := hr9
              have hP : va_P D xcl (xMw cT aM ad8 rd gd9 vad10 o3.2.2.2.2 []) H1 := hP1
              have hD : va_D A (xMw cT aM ad8 rd gd9 vad10 o3.2.2.2.2 []) := hD1.weaken (fun k q _ h => hFc q.1 h)
              generalize H1 = H at hP hS ⊢
              have hE9 : ∀ p, p < xct st → vad10 p = vad p := fun p h => (hv11 p (Nat.lt_of_lt_of_le h hN)).trans (hE p h)
              have hE := hE9
              have hN : xct st ≤ xct o3.2.2.2.2 := Nat.le_trans hN hn12
              rw [hr9]
              refine W.eq (g2 := F0 m 103 ls [xv vad10 o3.2.2.2.1]) (by first | rfl | (skip; rfl)) ?_
              obtain rfl := Option.some.inj hf
              exact absurd (show (0 : Nat) = 2 from hkd) (by decide)
            rw [if_neg hk5] at hf
            by_cases hk13 : o3.1 = 1
            · rw [if_pos hk13] at hf
              obtain ⟨hm14, hf⟩ := xmoE hf
              obtain rfl := Option.some.inj hf
              exact absurd (show (1 : Nat) = 2 from hkd) (by decide)
            rw [if_neg hk13] at hf
            by_cases hk21 : o3.1 = 2
            · rw [if_pos hk21] at hf
              obtain ⟨hm22, hf⟩ := xmoE hf
              have hFc := xm_free hD hS hA
              refine xx_thr (vx_runV (C := "ValueBenchModel") (As := [xv vad c0, xv vad c1]) (rest := []) ⟨hx, hb, hml, hown, htx⟩ (gM_indices_2 l hl9 D cT aK aV s.heap.size d n aM ad rd gd vad st c0 c1 o3 hq4 hk21) ⟨callB_of 2 htx (xw_goodC kw_7_103) rfl rfl rfl (htx _ kw_1_5) (htx _ kw_7_100) ⟨by decide, by decide, by decide +kernel⟩ ⟨(by show (16 * d + 8) + 1 ≤ 16 * d + 9; omega), (by show 8 + (9 + 11) + (400 * d + 147) ≤ 400 * d + 175; omega)⟩, (htx _ kw_7_102), (htx _ kp_M_indices)⟩ ⟨xPre_blind, va_recv hK hP (ci := 5) rfl (q0 := 0) rfl, (fun U hU hW => ⟨rfl, xPre_of hZ hS hFc hP hD hK U hU hW⟩)⟩ rfl rfl hl.1 rfl (xm_room (Nat.le_of_ble_eq_true rfl)) dM_at_100 ⟨hm22.1, hm22.2⟩) hS hFc (fun q _ h => hFc q h) (fun E ce q9 u9 t H1 locs ht hvm hr9 hB hz1 hk1 hS hce hcv hcl => ?_)
              obtain ⟨rfl, hP1, hK1, hD1⟩ := hB
              rw [ht] at hP1
              obtain ⟨ad24, gd25, vad26⟩ := u9
              obtain ⟨hv27, hn28⟩ := hr9
              have hP : va_P D xcl (xMw cT aM ad24 rd gd25 vad26 o3.2.2.2.2 []) H1 := hP1
              have hD : va_D A (xMw cT aM ad24 rd gd25 vad26 o3.2.2.2.2 []) := hD1.weaken (fun k q _ h => hFc q.1 h)
              generalize H1 = H at hP hS hce ⊢
              have hE9 : ∀ p, p < xct st → vad26 p = vad p := fun p h => (hv27 p (Nat.lt_of_lt_of_le h hN)).trans (hE p h)
              have hE := hE9
              have hN : xct st ≤ xct o3.2.2.2.2 := Nat.le_trans hN hn28
              obtain rfl := Option.some.inj hf
              exact vx_out (E := "java/lang/IndexOutOfBoundsException") (fun x h => (hne x h).elim) hlocks hce hcv hcl (fun t ht ha => ⟨(ad24, gd25, vad26), ⟨hE, hN⟩, ⟨rfl, by rw [ht]; exact hP, va_K.moved ha hK, hD⟩, hS.F ht⟩) hS.2.2 (Nat.le_refl _) (Nat.le_refl _)
            rw [if_neg hk21] at hf
            exact nomatch hf
        · rw [if_neg hc] at hf
          refine lv_aload_n hx hb dM_at_83 rfl (lv_at hl 0 rfl) ?_
          refine lv_iconst (v := 1) hx hb dM_at_84 (by decide) ?_
          obtain ⟨o3, hq4, hf⟩ := xbind hf
          have hl := lv_sub (l' := [(0, .ref aM)]) hl [0] rfl
          by_cases hk5 : o3.1 = 1
          · rw [if_pos hk5] at hf
            obtain ⟨hm6, hf⟩ := xmoE hf
            obtain rfl := Option.some.inj hf
            exact absurd (show (1 : Nat) = 2 from hkd) (by decide)
          rw [if_neg hk5] at hf
          exact nomatch hf
      · rw [if_pos hc] at hf
        refine lv_aload_n hx hb dM_at_49 rfl (lv_at hl 0 rfl) ?_
        refine xm_aload_n hx hb (xvor _ _) dM_at_50 rfl (lv_at hl 1 rfl) ?_
        refine xm_aload_n hx hb (xvor _ _) dM_at_51 rfl (lv_at hl 2 rfl) ?_
        obtain ⟨o3, hq4, hf⟩ := xbind hf
        have hl := lv_sub (l' := [(0, .ref aM), (1, xv vad c0)]) hl [0, 1] rfl
        have hFc := xm_free hD hS hA
        refine va_calli (va_runV (C := "ValueBenchModel") (As := [xv vad c0, xv vad c1]) (rest := []) ⟨hx, hb, hml, hown, htx⟩ (gM_place l hl9 D cT aK aV s.heap.size n aM ad rd gd vad st c0 c1 o3 hq4) ⟨callB_of 2 htx (xw_goodC kw_6_178) rfl rfl rfl (htx _ kw_1_5) (htx _ kw_6_175) ⟨by decide, by decide, by decide +kernel⟩ ⟨Nat.le_of_ble_eq_true rfl, Nat.le_of_ble_eq_true rfl⟩, (htx _ kw_6_177), (htx _ kp_M_place)⟩ ⟨xPre_blind, va_recv hK hP (ci := 5) rfl (q0 := 0) rfl, (fun U hU hW => ⟨rfl, xPre_of hZ hS hFc hP hD hK U hU hW⟩)⟩ rfl rfl hl.1 rfl (xm_room (Nat.le_of_ble_eq_true rfl)) dM_at_52 ⟨Nat.zero_le _, Nat.zero_le _⟩) hS (fun q _ h => hFc q h) hFc (fun r5 u9 t H1 locs ht hvm hr9 hB hz1 hk1 hS => ?_)
        obtain ⟨hP1, hK1, hD1⟩ := hB
        rw [ht] at hP1
        have hP : va_P D xcl (xMw cT aM ad rd gd vad st []) H1 := hP1
        have hD : va_D A (xMw cT aM ad rd gd vad st []) := hD1.weaken (fun k q _ h => hFc q.1 h)
        generalize H1 = H at hP hS ⊢
        rw [hr9]
        refine W.eq (g2 := F0 m 55 ls [.int o3]) (by first | rfl | (skip; rfl)) ?_
        refine lv_istore_n (lv' := [(3, .int o3), (0, .ref aM), (1, xv vad c0)]) hx hb dM_at_55 rfl hl (by decide) rfl (fun ls hl => ?_)
        refine lv_iload_n hx hb dM_at_56 rfl (lv_at hl 0 rfl) ?_
        refine lv_if_ge (tgt := 68) hx hb dM_at_57 (by decide) (fun hc => ?_) (fun hc => ?_)
        · rw [if_pos hc] at hf
          refine lv_aload_n hx hb dM_at_68 rfl (lv_at hl 1 rfl) ?_
          refine xm_aload_n hx hb (xvor _ _) dM_at_69 rfl (lv_at hl 2 rfl) ?_
          refine lv_iload_n hx hb dM_at_70 rfl (lv_at hl 0 rfl) ?_
          obtain ⟨o6, hq7, hf⟩ := xbind hf
          have hl := lv_sub (l' := [(3, .int o3), (0, .ref aM)]) hl [0, 1] rfl
          have hFc := xm_free hD hS hA
          refine va_callq (va_runV (C := "ValueBenchModel") (As := [xv vad c0, .int o3]) (rest := []) ⟨hx, hb, hml, hown, htx⟩ (gM_kid l hl9 D cT aK aV H.size n aM ad rd gd vad st c0 o3 o6 hq7) ⟨callB_of 2 htx (xw_goodC kw_6_158) rfl rfl rfl (htx _ kw_1_5) (htx _ kw_6_155) ⟨by decide, by decide, by decide +kernel⟩ ⟨Nat.le_of_ble_eq_true rfl, Nat.le_of_ble_eq_true rfl⟩, (htx _ kw_6_157), (htx _ kp_M_kid)⟩ ⟨xPre_blind, va_recv hK hP (ci := 5) rfl (q0 := 0) rfl, (fun U hU hW => ⟨rfl, xPre_of hZ hS hFc hP hD hK U hU hW⟩)⟩ rfl rfl hl.1 rfl (xm_room (Nat.le_of_ble_eq_true rfl)) dM_at_71 ⟨Nat.zero_le _, Nat.zero_le _⟩) hS (fun q _ h => hFc q h) hFc (fun r8 u9 t H1 locs ht hvm hr9 hB hz1 hk1 hS => ?_)
          obtain ⟨hP1, hK1, hD1⟩ := hB
          rw [ht] at hP1
          have hP : va_P D xcl (xMw cT aM ad rd gd vad st []) H1 := hP1
          have hD : va_D A (xMw cT aM ad rd gd vad st []) := hD1.weaken (fun k q _ h => hFc q.1 h)
          generalize H1 = H at hP hS ⊢
          rw [hr9]
          refine W.eq (g2 := F0 m 74 ls [xv vad o6]) (by first | rfl | (skip; rfl)) ?_
          obtain rfl := Option.some.inj hf
          exact absurd (show (0 : Nat) = 2 from hkd) (by decide)
        · rw [if_neg hc] at hf
          refine lv_aload_n hx hb dM_at_60 rfl (lv_at hl 1 rfl) ?_
          refine lv_iconst (v := 0) hx hb dM_at_61 (by decide) ?_
          obtain ⟨o6, hq7, hf⟩ := xbind hf
          have hl := lv_sub (l' := [(3, .int o3), (0, .ref aM)]) hl [0, 1] rfl
          obtain ⟨hm8, hf⟩ := xmoE hf
          have hFc := xm_free hD hS hA
          refine va_callq (va_runV (C := "ValueBenchModel") (As := [.int 0]) (rest := []) ⟨hx, hb, hml, hown, htx⟩ (gM_fresh l hl9 D cT aK aV H.size n aM ad rd gd vad st (0 : Int32) o6 hq7) ⟨callB_of 1 htx (xw_goodC kw_6_16) rfl rfl rfl (htx _ kw_1_5) (htx _ kw_6_13) ⟨by decide, by decide, by decide +kernel⟩ ⟨Nat.le_of_ble_eq_true rfl, Nat.le_of_ble_eq_true rfl⟩, (htx _ kw_6_15), (htx _ kp_M_fresh)⟩ ⟨xPre_blind, va_recv hK hP (ci := 5) rfl (q0 := 0) rfl, (fun U hU hW => ⟨rfl, xPre_of hZ hS hFc hP hD hK U hU hW⟩)⟩ rfl rfl hl.1 rfl (xm_room (Nat.le_of_ble_eq_true rfl)) dM_at_62 ⟨hm8.1, hm8.2⟩) hS (fun q _ h => hFc q h) hFc (fun r9 u9 t H1 locs ht hvm hr9 hB hz1 hk1 hS => ?_)
          obtain ⟨hP1, hK1, hD1⟩ := hB
          rw [ht] at hP1
          obtain ⟨ad10, gd11, vad12⟩ := u9
          obtain ⟨hr9, hv13, hn14⟩ := hr9
          have hP : va_P D xcl (xMw cT aM ad10 rd gd11 vad12 o6.2.2.2 []) H1 := hP1
          have hD : va_D A (xMw cT aM ad10 rd gd11 vad12 o6.2.2.2 []) := hD1.weaken (fun k q _ h => hFc q.1 h)
          generalize H1 = H at hP hS ⊢
          have hE9 : ∀ p, p < xct st → vad12 p = vad p := fun p h => (hv13 p (Nat.lt_of_lt_of_le h hN)).trans (hE p h)
          have hE := hE9
          have hN : xct st ≤ xct o6.2.2.2 := Nat.le_trans hN hn14
          rw [hr9]
          refine W.eq (g2 := F0 m 65 ls [xv vad12 o6.2.2.1]) (by first | rfl | (skip; rfl)) ?_
          refine lv_goto (tgt := 74) hx hb dM_at_65 (by decide) ?_
          obtain rfl := Option.some.inj hf
          exact absurd (show (0 : Nat) = 2 from hkd) (by decide)
  · rw [if_pos hc] at hf
    refine xm_aload_n hx hb (xvor _ _) dM_at_7 rfl (lv_at hl 2 rfl) ?_
    obtain ⟨hg2, hf⟩ := xifn hf
    refine xm_vget (v := .int ((xpi st 0) (c1 - 1))) hx hb htx hown hK hP 0 (by decide) hg2 rfl ((hZ.1 (93, "kind", "I") (List.mem_of_getElem? (i := 0) rfl)).use rfl) rfl dM_at_8 ?_
    refine lv_if_eq (tgt := 30) hx hb dM_at_11 (by decide) (fun hc => ?_) (fun hc => ?_)
    · rw [if_pos hc] at hf
      refine xm_aload_n hx hb (xvor _ _) dM_at_30 rfl (lv_at hl 1 rfl) ?_
      obtain rfl := Option.some.inj hf
      exact absurd (show (0 : Nat) = 2 from hkd) (by decide)
    · rw [if_neg hc] at hf
      refine xm_aload_n hx hb (xvor _ _) dM_at_14 rfl (lv_at hl 2 rfl) ?_
      refine xm_vget (v := .int ((xpi st 0) (c1 - 1))) hx hb htx hown hK hP 0 (by decide) hg2 rfl ((hZ.1 (93, "kind", "I") (List.mem_of_getElem? (i := 0) rfl)).use rfl) rfl dM_at_15 ?_
      refine lv_iconst (v := 3) hx hb dM_at_18 (by decide) ?_
      refine lv_icmp_eq (tgt := 30) hx hb dM_at_19 (by decide) (fun hc => ?_) (fun hc => ?_)
      · rw [if_pos hc] at hf
        refine xm_aload_n hx hb (xvor _ _) dM_at_30 rfl (lv_at hl 1 rfl) ?_
        obtain rfl := Option.some.inj hf
        exact absurd (show (0 : Nat) = 2 from hkd) (by decide)
      · rw [if_neg hc] at hf
        refine xm_aload_n hx hb (xvor _ _) dM_at_22 rfl (lv_at hl 2 rfl) ?_
        refine xm_vget (v := .int ((xpi st 0) (c1 - 1))) hx hb htx hown hK hP 0 (by decide) hg2 rfl ((hZ.1 (93, "kind", "I") (List.mem_of_getElem? (i := 0) rfl)).use rfl) rfl dM_at_23 ?_
        refine lv_iconst (v := 4) hx hb dM_at_26 (by decide) ?_
        refine lv_icmp_ne (tgt := 32) hx hb dM_at_27 (by decide) (fun hc => ?_) (fun hc => ?_)
        · rw [if_neg hc] at hf
          refine xm_aload_n hx hb (xvor _ _) dM_at_32 rfl (lv_at hl 1 rfl) ?_
          refine xm_vget (v := .int ((xpi st 0) (c0 - 1))) hx hb htx hown hK hP 0 (by decide) hg1 rfl ((hZ.1 (93, "kind", "I") (List.mem_of_getElem? (i := 0) rfl)).use rfl) rfl dM_at_33 ?_
          refine lv_bipush (v := 6) hx hb dM_at_36 (by decide) ?_
          refine lv_icmp_ne (tgt := 75) hx hb dM_at_38 (by decide) (fun hc => ?_) (fun hc => ?_)
          · rw [if_neg hc] at hf
            refine xm_aload_n hx hb (xvor _ _) dM_at_75 rfl (lv_at hl 1 rfl) ?_
            refine xm_vget (v := .int ((xpi st 0) (c0 - 1))) hx hb htx hown hK hP 0 (by decide) hg1 rfl ((hZ.1 (93, "kind", "I") (List.mem_of_getElem? (i := 0) rfl)).use rfl) rfl dM_at_76 ?_
            refine lv_iconst (v := 5) hx hb dM_at_79 (by decide) ?_
            refine lv_icmp_eq (tgt := 89) hx hb dM_at_80 (by decide) (fun hc => ?_) (fun hc => ?_)
            · rw [if_pos hc] at hf
              refine xm_aload_n hx hb (xvor _ _) dM_at_89 rfl (lv_at hl 2 rfl) ?_
              refine xm_vget (v := .int ((xpi st 0) (c1 - 1))) hx hb htx hown hK hP 0 (by decide) hg2 rfl ((hZ.1 (93, "kind", "I") (List.mem_of_getElem? (i := 0) rfl)).use rfl) rfl dM_at_90 ?_
              refine lv_iconst (v := 5) hx hb dM_at_93 (by decide) ?_
              refine lv_icmp_ne (tgt := 104) hx hb dM_at_94 (by decide) (fun hc => ?_) (fun hc => ?_)
              · rw [if_neg hc] at hf
                refine xm_aload_n hx hb (xvor _ _) dM_at_104 rfl (lv_at hl 2 rfl) ?_
                refine xm_vget (v := .int ((xpi st 0) (c1 - 1))) hx hb htx hown hK hP 0 (by decide) hg2 rfl ((hZ.1 (93, "kind", "I") (List.mem_of_getElem? (i := 0) rfl)).use rfl) rfl dM_at_105 ?_
                refine lv_iconst (v := 3) hx hb dM_at_108 (by decide) ?_
                refine lv_icmp_eq (tgt := 118) hx hb dM_at_109 (by decide) (fun hc => ?_) (fun hc => ?_)
                · rw [if_pos hc] at hf
                  refine xm_aload_n hx hb (xvor _ _) dM_at_118 rfl (lv_at hl 2 rfl) ?_
                  refine xm_vget (v := .long ((xpl st) (c1 - 1))) hx hb htx hown hK hP 1 (by decide) hg2 rfl ((hZ.1 (96, "n", "J") (List.mem_of_getElem? (i := 1) rfl)).use rfl) rfl dM_at_119 ?_
                  refine lv_lconst (v := 0) hx hb dM_at_122 (by decide) ?_
                  refine W.lcmp hx hb dM_at_123 ?_
                  refine lv_if_ge (tgt := 140) hx hb dM_at_124 (by decide) (fun hc => ?_) (fun hc => ?_)
                  · rw [if_pos hc] at hf
                    refine xm_aload_n hx hb (xvor _ _) dM_at_140 rfl (lv_at hl 2 rfl) ?_
                    refine xm_vget (v := .long ((xpl st) (c1 - 1))) hx hb htx hown hK hP 1 (by decide) hg2 rfl ((hZ.1 (96, "n", "J") (List.mem_of_getElem? (i := 1) rfl)).use rfl) rfl dM_at_141 ?_
                    refine lv_lstore_n (lv' := [(3, .long ((xpl st) (c1 - 1))), (0, .ref aM), (1, xv vad c0), (2, xv vad c1)]) hx hb dM_at_144 rfl hl (by decide) (by simp only [List.filter, xvcat, xrscat, xcI, xcL, xcR, xcN]; rfl) (fun ls hl => ?_)
                    refine lv_lload_n hx hb dM_at_145 rfl (lv_at hl 0 rfl) ?_
                    refine lv_lconst (v := 0) hx hb dM_at_146 (by decide) ?_
                    refine W.lcmp hx hb dM_at_147 ?_
                    refine lv_if_lt (tgt := 161) hx hb dM_at_148 (by decide) (fun hc => ?_) (fun hc => ?_)
                    · rw [if_pos hc] at hf
                      refine lv_aload_n hx hb dM_at_161 rfl (lv_at hl 1 rfl) ?_
                      refine lv_iconst (v := 0) hx hb dM_at_162 (by decide) ?_
                      obtain ⟨o3, hq4, hf⟩ := xbind hf
                      have hl := lv_sub (l' := [(3, .long ((xpl st) (c1 - 1))), (0, .ref aM)]) hl [0, 1] rfl
                      obtain ⟨hm5, hf⟩ := xmoE hf
                      have hFc := xm_free hD hS hA
                      refine va_callq (va_runV (C := "ValueBenchModel") (As := [.int 0]) (rest := []) ⟨hx, hb, hml, hown, htx⟩ (gM_fresh l hl9 D cT aK aV s.heap.size n aM ad rd gd vad st (0 : Int32) o3 hq4) ⟨callB_of 1 htx (xw_goodC kw_6_16) rfl rfl rfl (htx _ kw_1_5) (htx _ kw_6_13) ⟨by decide, by decide, by decide +kernel⟩ ⟨Nat.le_of_ble_eq_true rfl, Nat.le_of_ble_eq_true rfl⟩, (htx _ kw_6_15), (htx _ kp_M_fresh)⟩ ⟨xPre_blind, va_recv hK hP (ci := 5) rfl (q0 := 0) rfl, (fun U hU hW => ⟨rfl, xPre_of hZ hS hFc hP hD hK U hU hW⟩)⟩ rfl rfl hl.1 rfl (xm_room (Nat.le_of_ble_eq_true rfl)) dM_at_163 ⟨hm5.1, hm5.2⟩) hS (fun q _ h => hFc q h) hFc (fun r6 u9 t H1 locs ht hvm hr9 hB hz1 hk1 hS => ?_)
                      obtain ⟨hP1, hK1, hD1⟩ := hB
                      rw [ht] at hP1
                      obtain ⟨ad7, gd8, vad9⟩ := u9
                      obtain ⟨hr9, hv10, hn11⟩ := hr9
                      have hP : va_P D xcl (xMw cT aM ad7 rd gd8 vad9 o3.2.2.2 []) H1 := hP1
                      have hD : va_D A (xMw cT aM ad7 rd gd8 vad9 o3.2.2.2 []) := hD1.weaken (fun k q _ h => hFc q.1 h)
                      generalize H1 = H at hP hS ⊢
                      have hE9 : ∀ p, p < xct st → vad9 p = vad p := fun p h => (hv10 p (Nat.lt_of_lt_of_le h hN)).trans (hE p h)
                      have hE := hE9
                      have hN : xct st ≤ xct o3.2.2.2 := Nat.le_trans hN hn11
                      rw [hr9]
                      refine W.eq (g2 := F0 m 166 ls [xv vad9 o3.2.2.1]) (by first | rfl | (skip; rfl)) ?_
                      refine lv_goto (tgt := 176) hx hb dM_at_166 (by decide) ?_
                      obtain rfl := Option.some.inj hf
                      exact absurd (show (0 : Nat) = 2 from hkd) (by decide)
                    · rw [if_neg hc] at hf
                      refine lv_lload_n hx hb dM_at_151 rfl (lv_at hl 0 rfl) ?_
                      refine xm_aload_n hx hb (xvor _ _) dM_at_152 rfl (lv_at hl 2 rfl) ?_
                      refine xm_vget (v := .int ((xpi st 3) (c0 - 1))) hx hb htx hown hK hP 3 (by decide) hg1 rfl ((hZ.1 (103, "count", "I") (List.mem_of_getElem? (i := 3) rfl)).use rfl) rfl dM_at_153 ?_
                      refine lv_i2l hx hb dM_at_156 rfl ?_
                      refine W.lcmp hx hb dM_at_157 ?_
                      refine lv_if_lt (tgt := 169) hx hb dM_at_158 (by decide) (fun hc => ?_) (fun hc => ?_)
                      · rw [if_pos hc] at hf
                        refine lv_aload_n hx hb dM_at_169 rfl (lv_at hl 1 rfl) ?_
                        refine xm_aload_n hx hb (xvor _ _) dM_at_170 rfl (lv_at hl 2 rfl) ?_
                        refine lv_lload_n hx hb dM_at_171 rfl (lv_at hl 0 rfl) ?_
                        refine lv_l2i hx hb dM_at_172 rfl ?_
                        obtain ⟨o3, hq4, hf⟩ := xbind hf
                        have hl := lv_sub (l' := [(3, .long ((xpl st) (c1 - 1))), (0, .ref aM)]) hl [0, 1] rfl
                        have hFc := xm_free hD hS hA
                        refine va_callq (va_runV (C := "ValueBenchModel") (As := [xv vad c0, .int ((xpl st) (c1 - 1)).toInt32]) (rest := []) ⟨hx, hb, hml, hown, htx⟩ (gM_kid l hl9 D cT aK aV s.heap.size n aM ad rd gd vad st c0 (((xpl st) (c1 - 1)).toInt32) o3 hq4) ⟨callB_of 2 htx (xw_goodC kw_6_158) rfl rfl rfl (htx _ kw_1_5) (htx _ kw_6_155) ⟨by decide, by decide, by decide +kernel⟩ ⟨Nat.le_of_ble_eq_true rfl, Nat.le_of_ble_eq_true rfl⟩, (htx _ kw_6_157), (htx _ kp_M_kid)⟩ ⟨xPre_blind, va_recv hK hP (ci := 5) rfl (q0 := 0) rfl, (fun U hU hW => ⟨rfl, xPre_of hZ hS hFc hP hD hK U hU hW⟩)⟩ rfl rfl hl.1 rfl (xm_room (Nat.le_of_ble_eq_true rfl)) dM_at_173 ⟨Nat.zero_le _, Nat.zero_le _⟩) hS (fun q _ h => hFc q h) hFc (fun r5 u9 t H1 locs ht hvm hr9 hB hz1 hk1 hS => ?_)
                        obtain ⟨hP1, hK1, hD1⟩ := hB
                        rw [ht] at hP1
                        have hP : va_P D xcl (xMw cT aM ad rd gd vad st []) H1 := hP1
                        have hD : va_D A (xMw cT aM ad rd gd vad st []) := hD1.weaken (fun k q _ h => hFc q.1 h)
                        generalize H1 = H at hP hS ⊢
                        rw [hr9]
                        refine W.eq (g2 := F0 m 176 ls [xv vad o3]) (by first | rfl | (skip; rfl)) ?_
                        obtain rfl := Option.some.inj hf
                        exact absurd (show (0 : Nat) = 2 from hkd) (by decide)
                      · rw [if_neg hc] at hf
                        refine lv_aload_n hx hb dM_at_161 rfl (lv_at hl 1 rfl) ?_
                        refine lv_iconst (v := 0) hx hb dM_at_162 (by decide) ?_
                        obtain ⟨o3, hq4, hf⟩ := xbind hf
                        have hl := lv_sub (l' := [(3, .long ((xpl st) (c1 - 1))), (0, .ref aM)]) hl [0, 1] rfl
                        obtain ⟨hm5, hf⟩ := xmoE hf
                        have hFc := xm_free hD hS hA
                        refine va_callq (va_runV (C := "ValueBenchModel") (As := [.int 0]) (rest := []) ⟨hx, hb, hml, hown, htx⟩ (gM_fresh l hl9 D cT aK aV s.heap.size n aM ad rd gd vad st (0 : Int32) o3 hq4) ⟨callB_of 1 htx (xw_goodC kw_6_16) rfl rfl rfl (htx _ kw_1_5) (htx _ kw_6_13) ⟨by decide, by decide, by decide +kernel⟩ ⟨Nat.le_of_ble_eq_true rfl, Nat.le_of_ble_eq_true rfl⟩, (htx _ kw_6_15), (htx _ kp_M_fresh)⟩ ⟨xPre_blind, va_recv hK hP (ci := 5) rfl (q0 := 0) rfl, (fun U hU hW => ⟨rfl, xPre_of hZ hS hFc hP hD hK U hU hW⟩)⟩ rfl rfl hl.1 rfl (xm_room (Nat.le_of_ble_eq_true rfl)) dM_at_163 ⟨hm5.1, hm5.2⟩) hS (fun q _ h => hFc q h) hFc (fun r6 u9 t H1 locs ht hvm hr9 hB hz1 hk1 hS => ?_)
                        obtain ⟨hP1, hK1, hD1⟩ := hB
                        rw [ht] at hP1
                        obtain ⟨ad7, gd8, vad9⟩ := u9
                        obtain ⟨hr9, hv10, hn11⟩ := hr9
                        have hP : va_P D xcl (xMw cT aM ad7 rd gd8 vad9 o3.2.2.2 []) H1 := hP1
                        have hD : va_D A (xMw cT aM ad7 rd gd8 vad9 o3.2.2.2 []) := hD1.weaken (fun k q _ h => hFc q.1 h)
                        generalize H1 = H at hP hS ⊢
                        have hE9 : ∀ p, p < xct st → vad9 p = vad p := fun p h => (hv10 p (Nat.lt_of_lt_of_le h hN)).trans (hE p h)
                        have hE := hE9
                        have hN : xct st ≤ xct o3.2.2.2 := Nat.le_trans hN hn11
                        rw [hr9]
                        refine W.eq (g2 := F0 m 166 ls [xv vad9 o3.2.2.1]) (by first | rfl | (skip; rfl)) ?_
                        refine lv_goto (tgt := 176) hx hb dM_at_166 (by decide) ?_
                        obtain rfl := Option.some.inj hf
                        exact absurd (show (0 : Nat) = 2 from hkd) (by decide)
                  · rw [if_neg hc] at hf
                    refine xm_aload_n hx hb (xvor _ _) dM_at_127 rfl (lv_at hl 2 rfl) ?_
                    refine xm_vget (v := .long ((xpl st) (c1 - 1))) hx hb htx hown hK hP 1 (by decide) hg2 rfl ((hZ.1 (96, "n", "J") (List.mem_of_getElem? (i := 1) rfl)).use rfl) rfl dM_at_128 ?_
                    refine xm_aload_n hx hb (xvor _ _) dM_at_131 rfl (lv_at hl 1 rfl) ?_
                    refine xm_vget (v := .int ((xpi st 3) (c0 - 1))) hx hb htx hown hK hP 3 (by decide) hg1 rfl ((hZ.1 (103, "count", "I") (List.mem_of_getElem? (i := 3) rfl)).use rfl) rfl dM_at_132 ?_
                    refine lv_i2l hx hb dM_at_135 rfl ?_
                    refine lv_ladd hx hb dM_at_136 ?_
                    refine lv_goto (tgt := 144) hx hb dM_at_137 (by decide) ?_
                    refine lv_lstore_n (lv' := [(3, .long (((xpl st) (c1 - 1)) + ((xpi st 3) (c0 - 1)).toInt64)), (0, .ref aM), (1, xv vad c0), (2, xv vad c1)]) hx hb dM_at_144 rfl hl (by decide) (by simp only [List.filter, xvcat, xrscat, xcI, xcL, xcR, xcN]; rfl) (fun ls hl => ?_)
                    refine lv_lload_n hx hb dM_at_145 rfl (lv_at hl 0 rfl) ?_
                    refine lv_lconst (v := 0) hx hb dM_at_146 (by decide) ?_
                    refine W.lcmp hx hb dM_at_147 ?_
                    refine lv_if_lt (tgt := 161) hx hb dM_at_148 (by decide) (fun hc => ?_) (fun hc => ?_)
                    · rw [if_pos hc] at hf
                      refine lv_aload_n hx hb dM_at_161 rfl (lv_at hl 1 rfl) ?_
                      refine lv_iconst (v := 0) hx hb dM_at_162 (by decide) ?_
                      obtain ⟨o3, hq4, hf⟩ := xbind hf
                      have hl := lv_sub (l' := [(3, .long (((xpl st) (c1 - 1)) + ((xpi st 3) (c0 - 1)).toInt64)), (0, .ref aM)]) hl [0, 1] rfl
                      obtain ⟨hm5, hf⟩ := xmoE hf
                      have hFc := xm_free hD hS hA
                      refine va_callq (va_runV (C := "ValueBenchModel") (As := [.int 0]) (rest := []) ⟨hx, hb, hml, hown, htx⟩ (gM_fresh l hl9 D cT aK aV s.heap.size n aM ad rd gd vad st (0 : Int32) o3 hq4) ⟨callB_of 1 htx (xw_goodC kw_6_16) rfl rfl rfl (htx _ kw_1_5) (htx _ kw_6_13) ⟨by decide, by decide, by decide +kernel⟩ ⟨Nat.le_of_ble_eq_true rfl, Nat.le_of_ble_eq_true rfl⟩, (htx _ kw_6_15), (htx _ kp_M_fresh)⟩ ⟨xPre_blind, va_recv hK hP (ci := 5) rfl (q0 := 0) rfl, (fun U hU hW => ⟨rfl, xPre_of hZ hS hFc hP hD hK U hU hW⟩)⟩ rfl rfl hl.1 rfl (xm_room (Nat.le_of_ble_eq_true rfl)) dM_at_163 ⟨hm5.1, hm5.2⟩) hS (fun q _ h => hFc q h) hFc (fun r6 u9 t H1 locs ht hvm hr9 hB hz1 hk1 hS => ?_)
                      obtain ⟨hP1, hK1, hD1⟩ := hB
                      rw [ht] at hP1
                      obtain ⟨ad7, gd8, vad9⟩ := u9
                      obtain ⟨hr9, hv10, hn11⟩ := hr9
                      have hP : va_P D xcl (xMw cT aM ad7 rd gd8 vad9 o3.2.2.2 []) H1 := hP1
                      have hD : va_D A (xMw cT aM ad7 rd gd8 vad9 o3.2.2.2 []) := hD1.weaken (fun k q _ h => hFc q.1 h)
                      generalize H1 = H at hP hS ⊢
                      have hE9 : ∀ p, p < xct st → vad9 p = vad p := fun p h => (hv10 p (Nat.lt_of_lt_of_le h hN)).trans (hE p h)
                      have hE := hE9
                      have hN : xct st ≤ xct o3.2.2.2 := Nat.le_trans hN hn11
                      rw [hr9]
                      refine W.eq (g2 := F0 m 166 ls [xv vad9 o3.2.2.1]) (by first | rfl | (skip; rfl)) ?_
                      refine lv_goto (tgt := 176) hx hb dM_at_166 (by decide) ?_
                      obtain rfl := Option.some.inj hf
                      exact absurd (show (0 : Nat) = 2 from hkd) (by decide)
                    · rw [if_neg hc] at hf
                      refine lv_lload_n hx hb dM_at_151 rfl (lv_at hl 0 rfl) ?_
                      refine xm_aload_n hx hb (xvor _ _) dM_at_152 rfl (lv_at hl 2 rfl) ?_
                      refine xm_vget (v := .int ((xpi st 3) (c0 - 1))) hx hb htx hown hK hP 3 (by decide) hg1 rfl ((hZ.1 (103, "count", "I") (List.mem_of_getElem? (i := 3) rfl)).use rfl) rfl dM_at_153 ?_
                      refine lv_i2l hx hb dM_at_156 rfl ?_
                      refine W.lcmp hx hb dM_at_157 ?_
                      refine lv_if_lt (tgt := 169) hx hb dM_at_158 (by decide) (fun hc => ?_) (fun hc => ?_)
                      · rw [if_pos hc] at hf
                        refine lv_aload_n hx hb dM_at_169 rfl (lv_at hl 1 rfl) ?_
                        refine xm_aload_n hx hb (xvor _ _) dM_at_170 rfl (lv_at hl 2 rfl) ?_
                        refine lv_lload_n hx hb dM_at_171 rfl (lv_at hl 0 rfl) ?_
                        refine lv_l2i hx hb dM_at_172 rfl ?_
                        obtain ⟨o3, hq4, hf⟩ := xbind hf
                        have hl := lv_sub (l' := [(3, .long (((xpl st) (c1 - 1)) + ((xpi st 3) (c0 - 1)).toInt64)), (0, .ref aM)]) hl [0, 1] rfl
                        have hFc := xm_free hD hS hA
                        refine va_callq (va_runV (C := "ValueBenchModel") (As := [xv vad c0, .int (((xpl st) (c1 - 1)) + ((xpi st 3) (c0 - 1)).toInt64).toInt32]) (rest := []) ⟨hx, hb, hml, hown, htx⟩ (gM_kid l hl9 D cT aK aV s.heap.size n aM ad rd gd vad st c0 ((((xpl st) (c1 - 1)) + ((xpi st 3) (c0 - 1)).toInt64).toInt32) o3 hq4) ⟨callB_of 2 htx (xw_goodC kw_6_158) rfl rfl rfl (htx _ kw_1_5) (htx _ kw_6_155) ⟨by decide, by decide, by decide +kernel⟩ ⟨Nat.le_of_ble_eq_true rfl, Nat.le_of_ble_eq_true rfl⟩, (htx _ kw_6_157), (htx _ kp_M_kid)⟩ ⟨xPre_blind, va_recv hK hP (ci := 5) rfl (q0 := 0) rfl, (fun U hU hW => ⟨rfl, xPre_of hZ hS hFc hP hD hK U hU hW⟩)⟩ rfl rfl hl.1 rfl (xm_room (Nat.le_of_ble_eq_true rfl)) dM_at_173 ⟨Nat.zero_le _, Nat.zero_le _⟩) hS (fun q _ h => hFc q h) hFc (fun r5 u9 t H1 locs ht hvm hr9 hB hz1 hk1 hS => ?_)
                        obtain ⟨hP1, hK1, hD1⟩ := hB
                        rw [ht] at hP1
                        have hP : va_P D xcl (xMw cT aM ad rd gd vad st []) H1 := hP1
                        have hD : va_D A (xMw cT aM ad rd gd vad st []) := hD1.weaken (fun k q _ h => hFc q.1 h)
                        generalize H1 = H at hP hS ⊢
                        rw [hr9]
                        refine W.eq (g2 := F0 m 176 ls [xv vad o3]) (by first | rfl | (skip; rfl)) ?_
                        obtain rfl := Option.some.inj hf
                        exact absurd (show (0 : Nat) = 2 from hkd) (by decide)
                      · rw [if_neg hc] at hf
                        refine lv_aload_n hx hb dM_at_161 rfl (lv_at hl 1 rfl) ?_
                        refine lv_iconst (v := 0) hx hb dM_at_162 (by decide) ?_
                        obtain ⟨o3, hq4, hf⟩ := xbind hf
                        have hl := lv_sub (l' := [(3, .long (((xpl st) (c1 - 1)) + ((xpi st 3) (c0 - 1)).toInt64)), (0, .ref aM)]) hl [0, 1] rfl
                        obtain ⟨hm5, hf⟩ := xmoE hf
                        have hFc := xm_free hD hS hA
                        refine va_callq (va_runV (C := "ValueBenchModel") (As := [.int 0]) (rest := []) ⟨hx, hb, hml, hown, htx⟩ (gM_fresh l hl9 D cT aK aV s.heap.size n aM ad rd gd vad st (0 : Int32) o3 hq4) ⟨callB_of 1 htx (xw_goodC kw_6_16) rfl rfl rfl (htx _ kw_1_5) (htx _ kw_6_13) ⟨by decide, by decide, by decide +kernel⟩ ⟨Nat.le_of_ble_eq_true rfl, Nat.le_of_ble_eq_true rfl⟩, (htx _ kw_6_15), (htx _ kp_M_fresh)⟩ ⟨xPre_blind, va_recv hK hP (ci := 5) rfl (q0 := 0) rfl, (fun U hU hW => ⟨rfl, xPre_of hZ hS hFc hP hD hK U hU hW⟩)⟩ rfl rfl hl.1 rfl (xm_room (Nat.le_of_ble_eq_true rfl)) dM_at_163 ⟨hm5.1, hm5.2⟩) hS (fun q _ h => hFc q h) hFc (fun r6 u9 t H1 locs ht hvm hr9 hB hz1 hk1 hS => ?_)
                        obtain ⟨hP1, hK1, hD1⟩ := hB
                        rw [ht] at hP1
                        obtain ⟨ad7, gd8, vad9⟩ := u9
                        obtain ⟨hr9, hv10, hn11⟩ := hr9
                        have hP : va_P D xcl (xMw cT aM ad7 rd gd8 vad9 o3.2.2.2 []) H1 := hP1
                        have hD : va_D A (xMw cT aM ad7 rd gd8 vad9 o3.2.2.2 []) := hD1.weaken (fun k q _ h => hFc q.1 h)
                        generalize H1 = H at hP hS ⊢
                        have hE9 : ∀ p, p < xct st → vad9 p = vad p := fun p h => (hv10 p (Nat.lt_of_lt_of_le h hN)).trans (hE p h)
                        have hE := hE9
                        have hN : xct st ≤ xct o3.2.2.2 := Nat.le_trans hN hn11
                        rw [hr9]
                        refine W.eq (g2 := F0 m 166 ls [xv vad9 o3.2.2.1]) (by first | rfl | (skip; rfl)) ?_
                        refine lv_goto (tgt := 176) hx hb dM_at_166 (by decide) ?_
                        obtain rfl := Option.some.inj hf
                        exact absurd (show (0 : Nat) = 2 from hkd) (by decide)
                · rw [if_neg hc] at hf
                  refine lv_aload_n hx hb dM_at_112 rfl (lv_at hl 0 rfl) ?_
                  refine lv_iconst (v := 1) hx hb dM_at_113 (by decide) ?_
                  obtain ⟨o3, hq4, hf⟩ := xbind hf
                  have hl := lv_sub (l' := [(0, .ref aM)]) hl [0] rfl
                  by_cases hk5 : o3.1 = 1
                  · rw [if_pos hk5] at hf
                    obtain ⟨hm6, hf⟩ := xmoE hf
                    obtain rfl := Option.some.inj hf
                    exact absurd (show (1 : Nat) = 2 from hkd) (by decide)
                  rw [if_neg hk5] at hf
                  exact nomatch hf
              · rw [if_pos hc] at hf
                refine lv_aload_n hx hb dM_at_97 rfl (lv_at hl 0 rfl) ?_
                refine xm_aload_n hx hb (xvor _ _) dM_at_98 rfl (lv_at hl 1 rfl) ?_
                refine xm_aload_n hx hb (xvor _ _) dM_at_99 rfl (lv_at hl 2 rfl) ?_
                obtain ⟨o3, hq4, hf⟩ := xbind hf
                have hl := lv_sub (l' := [(0, .ref aM)]) hl [0] rfl
                by_cases hk5 : o3.1 = 0
                · rw [if_pos hk5] at hf
                  obtain ⟨hm6, hf⟩ := xmoE hf
                  have hFc := xm_free hD hS hA
                  refine va_callq (va_runV (C := "ValueBenchModel") (As := [xv vad c0, xv vad c1]) (rest := []) ⟨hx, hb, hml, hown, htx⟩ (gM_indices l hl9 D cT aK aV s.heap.size d n aM ad rd gd vad st c0 c1 o3 hq4 hk5) ⟨callB_of 2 htx (xw_goodC kw_7_103) rfl rfl rfl (htx _ kw_1_5) (htx _ kw_7_100) ⟨by decide, by decide, by decide +kernel⟩ ⟨(by show (16 * d + 8) + 1 ≤ 16 * d + 9; omega), (by show 8 + (9 + 11) + (400 * d + 147) ≤ 400 * d + 175; omega)⟩, (htx _ kw_7_102), (htx _ kp_M_indices)⟩ ⟨xPre_blind, va_recv hK hP (ci := 5) rfl (q0 := 0) rfl, (fun U hU hW => ⟨rfl, xPre_of hZ hS hFc hP hD hK U hU hW⟩)⟩ rfl rfl hl.1 rfl (xm_room (Nat.le_of_ble_eq_true rfl)) dM_at_100 ⟨hm6.1, hm6.2⟩) hS (fun q _ h => hFc q h) hFc (fun r7 u9 t H1 locs ht hvm hr9 hB hz1 hk1 hS => ?_)
                  obtain ⟨hP1, hK1, hD1⟩ := hB
                  rw [ht] at hP1
                  obtain ⟨ad8, gd9, vad10⟩ := u9
                  obtain ⟨hr9, hv11, hn12⟩ := hr9
                  have hP : va_P D xcl (xMw cT aM ad8 rd gd9 vad10 o3.2.2.2.2 []) H1 := hP1
                  have hD : va_D A (xMw cT aM ad8 rd gd9 vad10 o3.2.2.2.2 []) := hD1.weaken (fun k q _ h => hFc q.1 h)
                  generalize H1 = H at hP hS ⊢
                  have hE9 : ∀ p, p < xct st → vad10 p = vad p := fun p h => (hv11 p (Nat.lt_of_lt_of_le h hN)).trans (hE p h)
                  have hE := hE9
                  have hN : xct st ≤ xct o3.2.2.2.2 := Nat.le_trans hN hn12
                  rw [hr9]
                  refine W.eq (g2 := F0 m 103 ls [xv vad10 o3.2.2.2.1]) (by first | rfl | (skip; rfl)) ?_
                  obtain rfl := Option.some.inj hf
                  exact absurd (show (0 : Nat) = 2 from hkd) (by decide)
                rw [if_neg hk5] at hf
                by_cases hk13 : o3.1 = 1
                · rw [if_pos hk13] at hf
                  obtain ⟨hm14, hf⟩ := xmoE hf
                  obtain rfl := Option.some.inj hf
                  exact absurd (show (1 : Nat) = 2 from hkd) (by decide)
                rw [if_neg hk13] at hf
                by_cases hk21 : o3.1 = 2
                · rw [if_pos hk21] at hf
                  obtain ⟨hm22, hf⟩ := xmoE hf
                  have hFc := xm_free hD hS hA
                  refine xx_thr (vx_runV (C := "ValueBenchModel") (As := [xv vad c0, xv vad c1]) (rest := []) ⟨hx, hb, hml, hown, htx⟩ (gM_indices_2 l hl9 D cT aK aV s.heap.size d n aM ad rd gd vad st c0 c1 o3 hq4 hk21) ⟨callB_of 2 htx (xw_goodC kw_7_103) rfl rfl rfl (htx _ kw_1_5) (htx _ kw_7_100) ⟨by decide, by decide, by decide +kernel⟩ ⟨(by show (16 * d + 8) + 1 ≤ 16 * d + 9; omega), (by show 8 + (9 + 11) + (400 * d + 147) ≤ 400 * d + 175; omega)⟩, (htx _ kw_7_102), (htx _ kp_M_indices)⟩ ⟨xPre_blind, va_recv hK hP (ci := 5) rfl (q0 := 0) rfl, (fun U hU hW => ⟨rfl, xPre_of hZ hS hFc hP hD hK U hU hW⟩)⟩ rfl rfl hl.1 rfl (xm_room (Nat.le_of_ble_eq_true rfl)) dM_at_100 ⟨hm22.1, hm22.2⟩) hS hFc (fun q _ h => hFc q h) (fun E ce q9 u9 t H1 locs ht hvm hr9 hB hz1 hk1 hS hce hcv hcl => ?_)
                  obtain ⟨rfl, hP1, hK1, hD1⟩ := hB
                  rw [ht] at hP1
                  obtain ⟨ad24, gd25, vad26⟩ := u9
                  obtain ⟨hv27, hn28⟩ := hr9
                  have hP : va_P D xcl (xMw cT aM ad24 rd gd25 vad26 o3.2.2.2.2 []) H1 := hP1
                  have hD : va_D A (xMw cT aM ad24 rd gd25 vad26 o3.2.2.2.2 []) := hD1.weaken (fun k q _ h => hFc q.1 h)
                  generalize H1 = H at hP hS hce ⊢
                  have hE9 : ∀ p, p < xct st → vad26 p = vad p := fun p h => (hv27 p (Nat.lt_of_lt_of_le h hN)).trans (hE p h)
                  have hE := hE9
                  have hN : xct st ≤ xct o3.2.2.2.2 := Nat.le_trans hN hn28
                  obtain rfl := Option.some.inj hf
                  exact vx_out (E := "java/lang/IndexOutOfBoundsException") (fun x h => (hne x h).elim) hlocks hce hcv hcl (fun t ht ha => ⟨(ad24, gd25, vad26), ⟨hE, hN⟩, ⟨rfl, by rw [ht]; exact hP, va_K.moved ha hK, hD⟩, hS.F ht⟩) hS.2.2 (Nat.le_refl _) (Nat.le_refl _)
                rw [if_neg hk21] at hf
                exact nomatch hf
            · rw [if_neg hc] at hf
              refine lv_aload_n hx hb dM_at_83 rfl (lv_at hl 0 rfl) ?_
              refine lv_iconst (v := 1) hx hb dM_at_84 (by decide) ?_
              obtain ⟨o3, hq4, hf⟩ := xbind hf
              have hl := lv_sub (l' := [(0, .ref aM)]) hl [0] rfl
              by_cases hk5 : o3.1 = 1
              · rw [if_pos hk5] at hf
                obtain ⟨hm6, hf⟩ := xmoE hf
                obtain rfl := Option.some.inj hf
                exact absurd (show (1 : Nat) = 2 from hkd) (by decide)
              rw [if_neg hk5] at hf
              exact nomatch hf
          · rw [if_pos hc] at hf
            refine xm_aload_n hx hb (xvor _ _) dM_at_41 rfl (lv_at hl 2 rfl) ?_
            refine xm_vget (v := .int ((xpi st 0) (c1 - 1))) hx hb htx hown hK hP 0 (by decide) hg2 rfl ((hZ.1 (93, "kind", "I") (List.mem_of_getElem? (i := 0) rfl)).use rfl) rfl dM_at_42 ?_
            refine lv_iconst (v := 4) hx hb dM_at_45 (by decide) ?_
            refine lv_icmp_ne (tgt := 75) hx hb dM_at_46 (by decide) (fun hc => ?_) (fun hc => ?_)
            · rw [if_neg hc] at hf
              refine xm_aload_n hx hb (xvor _ _) dM_at_75 rfl (lv_at hl 1 rfl) ?_
              refine xm_vget (v := .int ((xpi st 0) (c0 - 1))) hx hb htx hown hK hP 0 (by decide) hg1 rfl ((hZ.1 (93, "kind", "I") (List.mem_of_getElem? (i := 0) rfl)).use rfl) rfl dM_at_76 ?_
              refine lv_iconst (v := 5) hx hb dM_at_79 (by decide) ?_
              refine lv_icmp_eq (tgt := 89) hx hb dM_at_80 (by decide) (fun hc => ?_) (fun hc => ?_)
              · rw [if_pos hc] at hf
                refine xm_aload_n hx hb (xvor _ _) dM_at_89 rfl (lv_at hl 2 rfl) ?_
                refine xm_vget (v := .int ((xpi st 0) (c1 - 1))) hx hb htx hown hK hP 0 (by decide) hg2 rfl ((hZ.1 (93, "kind", "I") (List.mem_of_getElem? (i := 0) rfl)).use rfl) rfl dM_at_90 ?_
                refine lv_iconst (v := 5) hx hb dM_at_93 (by decide) ?_
                refine lv_icmp_ne (tgt := 104) hx hb dM_at_94 (by decide) (fun hc => ?_) (fun hc => ?_)
                · rw [if_neg hc] at hf
                  refine xm_aload_n hx hb (xvor _ _) dM_at_104 rfl (lv_at hl 2 rfl) ?_
                  refine xm_vget (v := .int ((xpi st 0) (c1 - 1))) hx hb htx hown hK hP 0 (by decide) hg2 rfl ((hZ.1 (93, "kind", "I") (List.mem_of_getElem? (i := 0) rfl)).use rfl) rfl dM_at_105 ?_
                  refine lv_iconst (v := 3) hx hb dM_at_108 (by decide) ?_
                  refine lv_icmp_eq (tgt := 118) hx hb dM_at_109 (by decide) (fun hc => ?_) (fun hc => ?_)
                  · rw [if_pos hc] at hf
                    refine xm_aload_n hx hb (xvor _ _) dM_at_118 rfl (lv_at hl 2 rfl) ?_
                    refine xm_vget (v := .long ((xpl st) (c1 - 1))) hx hb htx hown hK hP 1 (by decide) hg2 rfl ((hZ.1 (96, "n", "J") (List.mem_of_getElem? (i := 1) rfl)).use rfl) rfl dM_at_119 ?_
                    refine lv_lconst (v := 0) hx hb dM_at_122 (by decide) ?_
                    refine W.lcmp hx hb dM_at_123 ?_
                    refine lv_if_ge (tgt := 140) hx hb dM_at_124 (by decide) (fun hc => ?_) (fun hc => ?_)
                    · rw [if_pos hc] at hf
                      refine xm_aload_n hx hb (xvor _ _) dM_at_140 rfl (lv_at hl 2 rfl) ?_
                      refine xm_vget (v := .long ((xpl st) (c1 - 1))) hx hb htx hown hK hP 1 (by decide) hg2 rfl ((hZ.1 (96, "n", "J") (List.mem_of_getElem? (i := 1) rfl)).use rfl) rfl dM_at_141 ?_
                      refine lv_lstore_n (lv' := [(3, .long ((xpl st) (c1 - 1))), (0, .ref aM), (1, xv vad c0), (2, xv vad c1)]) hx hb dM_at_144 rfl hl (by decide) (by simp only [List.filter, xvcat, xrscat, xcI, xcL, xcR, xcN]; rfl) (fun ls hl => ?_)
                      refine lv_lload_n hx hb dM_at_145 rfl (lv_at hl 0 rfl) ?_
                      refine lv_lconst (v := 0) hx hb dM_at_146 (by decide) ?_
                      refine W.lcmp hx hb dM_at_147 ?_
                      refine lv_if_lt (tgt := 161) hx hb dM_at_148 (by decide) (fun hc => ?_) (fun hc => ?_)
                      · rw [if_pos hc] at hf
                        refine lv_aload_n hx hb dM_at_161 rfl (lv_at hl 1 rfl) ?_
                        refine lv_iconst (v := 0) hx hb dM_at_162 (by decide) ?_
                        obtain ⟨o3, hq4, hf⟩ := xbind hf
                        have hl := lv_sub (l' := [(3, .long ((xpl st) (c1 - 1))), (0, .ref aM)]) hl [0, 1] rfl
                        obtain ⟨hm5, hf⟩ := xmoE hf
                        have hFc := xm_free hD hS hA
                        refine va_callq (va_runV (C := "ValueBenchModel") (As := [.int 0]) (rest := []) ⟨hx, hb, hml, hown, htx⟩ (gM_fresh l hl9 D cT aK aV s.heap.size n aM ad rd gd vad st (0 : Int32) o3 hq4) ⟨callB_of 1 htx (xw_goodC kw_6_16) rfl rfl rfl (htx _ kw_1_5) (htx _ kw_6_13) ⟨by decide, by decide, by decide +kernel⟩ ⟨Nat.le_of_ble_eq_true rfl, Nat.le_of_ble_eq_true rfl⟩, (htx _ kw_6_15), (htx _ kp_M_fresh)⟩ ⟨xPre_blind, va_recv hK hP (ci := 5) rfl (q0 := 0) rfl, (fun U hU hW => ⟨rfl, xPre_of hZ hS hFc hP hD hK U hU hW⟩)⟩ rfl rfl hl.1 rfl (xm_room (Nat.le_of_ble_eq_true rfl)) dM_at_163 ⟨hm5.1, hm5.2⟩) hS (fun q _ h => hFc q h) hFc (fun r6 u9 t H1 locs ht hvm hr9 hB hz1 hk1 hS => ?_)
                        obtain ⟨hP1, hK1, hD1⟩ := hB
                        rw [ht] at hP1
                        obtain ⟨ad7, gd8, vad9⟩ := u9
                        obtain ⟨hr9, hv10, hn11⟩ := hr9
                        have hP : va_P D xcl (xMw cT aM ad7 rd gd8 vad9 o3.2.2.2 []) H1 := hP1
                        have hD : va_D A (xMw cT aM ad7 rd gd8 vad9 o3.2.2.2 []) := hD1.weaken (fun k q _ h => hFc q.1 h)
                        generalize H1 = H at hP hS ⊢
                        have hE9 : ∀ p, p < xct st → vad9 p = vad p := fun p h => (hv10 p (Nat.lt_of_lt_of_le h hN)).trans (hE p h)
                        have hE := hE9
                        have hN : xct st ≤ xct o3.2.2.2 := Nat.le_trans hN hn11
                        rw [hr9]
                        refine W.eq (g2 := F0 m 166 ls [xv vad9 o3.2.2.1]) (by first | rfl | (skip; rfl)) ?_
                        refine lv_goto (tgt := 176) hx hb dM_at_166 (by decide) ?_
                        obtain rfl := Option.some.inj hf
                        exact absurd (show (0 : Nat) = 2 from hkd) (by decide)
                      · rw [if_neg hc] at hf
                        refine lv_lload_n hx hb dM_at_151 rfl (lv_at hl 0 rfl) ?_
                        refine xm_aload_n hx hb (xvor _ _) dM_at_152 rfl (lv_at hl 2 rfl) ?_
                        refine xm_vget (v := .int ((xpi st 3) (c0 - 1))) hx hb htx hown hK hP 3 (by decide) hg1 rfl ((hZ.1 (103, "count", "I") (List.mem_of_getElem? (i := 3) rfl)).use rfl) rfl dM_at_153 ?_
                        refine lv_i2l hx hb dM_at_156 rfl ?_
                        refine W.lcmp hx hb dM_at_157 ?_
                        refine lv_if_lt (tgt := 169) hx hb dM_at_158 (by decide) (fun hc => ?_) (fun hc => ?_)
                        · rw [if_pos hc] at hf
                          refine lv_aload_n hx hb dM_at_169 rfl (lv_at hl 1 rfl) ?_
                          refine xm_aload_n hx hb (xvor _ _) dM_at_170 rfl (lv_at hl 2 rfl) ?_
                          refine lv_lload_n hx hb dM_at_171 rfl (lv_at hl 0 rfl) ?_
                          refine lv_l2i hx hb dM_at_172 rfl ?_
                          obtain ⟨o3, hq4, hf⟩ := xbind hf
                          have hl := lv_sub (l' := [(3, .long ((xpl st) (c1 - 1))), (0, .ref aM)]) hl [0, 1] rfl
                          have hFc := xm_free hD hS hA
                          refine va_callq (va_runV (C := "ValueBenchModel") (As := [xv vad c0, .int ((xpl st) (c1 - 1)).toInt32]) (rest := []) ⟨hx, hb, hml, hown, htx⟩ (gM_kid l hl9 D cT aK aV s.heap.size n aM ad rd gd vad st c0 (((xpl st) (c1 - 1)).toInt32) o3 hq4) ⟨callB_of 2 htx (xw_goodC kw_6_158) rfl rfl rfl (htx _ kw_1_5) (htx _ kw_6_155) ⟨by decide, by decide, by decide +kernel⟩ ⟨Nat.le_of_ble_eq_true rfl, Nat.le_of_ble_eq_true rfl⟩, (htx _ kw_6_157), (htx _ kp_M_kid)⟩ ⟨xPre_blind, va_recv hK hP (ci := 5) rfl (q0 := 0) rfl, (fun U hU hW => ⟨rfl, xPre_of hZ hS hFc hP hD hK U hU hW⟩)⟩ rfl rfl hl.1 rfl (xm_room (Nat.le_of_ble_eq_true rfl)) dM_at_173 ⟨Nat.zero_le _, Nat.zero_le _⟩) hS (fun q _ h => hFc q h) hFc (fun r5 u9 t H1 locs ht hvm hr9 hB hz1 hk1 hS => ?_)
                          obtain ⟨hP1, hK1, hD1⟩ := hB
                          rw [ht] at hP1
                          have hP : va_P D xcl (xMw cT aM ad rd gd vad st []) H1 := hP1
                          have hD : va_D A (xMw cT aM ad rd gd vad st []) := hD1.weaken (fun k q _ h => hFc q.1 h)
                          generalize H1 = H at hP hS ⊢
                          rw [hr9]
                          refine W.eq (g2 := F0 m 176 ls [xv vad o3]) (by first | rfl | (skip; rfl)) ?_
                          obtain rfl := Option.some.inj hf
                          exact absurd (show (0 : Nat) = 2 from hkd) (by decide)
                        · rw [if_neg hc] at hf
                          refine lv_aload_n hx hb dM_at_161 rfl (lv_at hl 1 rfl) ?_
                          refine lv_iconst (v := 0) hx hb dM_at_162 (by decide) ?_
                          obtain ⟨o3, hq4, hf⟩ := xbind hf
                          have hl := lv_sub (l' := [(3, .long ((xpl st) (c1 - 1))), (0, .ref aM)]) hl [0, 1] rfl
                          obtain ⟨hm5, hf⟩ := xmoE hf
                          have hFc := xm_free hD hS hA
                          refine va_callq (va_runV (C := "ValueBenchModel") (As := [.int 0]) (rest := []) ⟨hx, hb, hml, hown, htx⟩ (gM_fresh l hl9 D cT aK aV s.heap.size n aM ad rd gd vad st (0 : Int32) o3 hq4) ⟨callB_of 1 htx (xw_goodC kw_6_16) rfl rfl rfl (htx _ kw_1_5) (htx _ kw_6_13) ⟨by decide, by decide, by decide +kernel⟩ ⟨Nat.le_of_ble_eq_true rfl, Nat.le_of_ble_eq_true rfl⟩, (htx _ kw_6_15), (htx _ kp_M_fresh)⟩ ⟨xPre_blind, va_recv hK hP (ci := 5) rfl (q0 := 0) rfl, (fun U hU hW => ⟨rfl, xPre_of hZ hS hFc hP hD hK U hU hW⟩)⟩ rfl rfl hl.1 rfl (xm_room (Nat.le_of_ble_eq_true rfl)) dM_at_163 ⟨hm5.1, hm5.2⟩) hS (fun q _ h => hFc q h) hFc (fun r6 u9 t H1 locs ht hvm hr9 hB hz1 hk1 hS => ?_)
                          obtain ⟨hP1, hK1, hD1⟩ := hB
                          rw [ht] at hP1
                          obtain ⟨ad7, gd8, vad9⟩ := u9
                          obtain ⟨hr9, hv10, hn11⟩ := hr9
                          have hP : va_P D xcl (xMw cT aM ad7 rd gd8 vad9 o3.2.2.2 []) H1 := hP1
                          have hD : va_D A (xMw cT aM ad7 rd gd8 vad9 o3.2.2.2 []) := hD1.weaken (fun k q _ h => hFc q.1 h)
                          generalize H1 = H at hP hS ⊢
                          have hE9 : ∀ p, p < xct st → vad9 p = vad p := fun p h => (hv10 p (Nat.lt_of_lt_of_le h hN)).trans (hE p h)
                          have hE := hE9
                          have hN : xct st ≤ xct o3.2.2.2 := Nat.le_trans hN hn11
                          rw [hr9]
                          refine W.eq (g2 := F0 m 166 ls [xv vad9 o3.2.2.1]) (by first | rfl | (skip; rfl)) ?_
                          refine lv_goto (tgt := 176) hx hb dM_at_166 (by decide) ?_
                          obtain rfl := Option.some.inj hf
                          exact absurd (show (0 : Nat) = 2 from hkd) (by decide)
                    · rw [if_neg hc] at hf
                      refine xm_aload_n hx hb (xvor _ _) dM_at_127 rfl (lv_at hl 2 rfl) ?_
                      refine xm_vget (v := .long ((xpl st) (c1 - 1))) hx hb htx hown hK hP 1 (by decide) hg2 rfl ((hZ.1 (96, "n", "J") (List.mem_of_getElem? (i := 1) rfl)).use rfl) rfl dM_at_128 ?_
                      refine xm_aload_n hx hb (xvor _ _) dM_at_131 rfl (lv_at hl 1 rfl) ?_
                      refine xm_vget (v := .int ((xpi st 3) (c0 - 1))) hx hb htx hown hK hP 3 (by decide) hg1 rfl ((hZ.1 (103, "count", "I") (List.mem_of_getElem? (i := 3) rfl)).use rfl) rfl dM_at_132 ?_
                      refine lv_i2l hx hb dM_at_135 rfl ?_
                      refine lv_ladd hx hb dM_at_136 ?_
                      refine lv_goto (tgt := 144) hx hb dM_at_137 (by decide) ?_
                      refine lv_lstore_n (lv' := [(3, .long (((xpl st) (c1 - 1)) + ((xpi st 3) (c0 - 1)).toInt64)), (0, .ref aM), (1, xv vad c0), (2, xv vad c1)]) hx hb dM_at_144 rfl hl (by decide) (by simp only [List.filter, xvcat, xrscat, xcI, xcL, xcR, xcN]; rfl) (fun ls hl => ?_)
                      refine lv_lload_n hx hb dM_at_145 rfl (lv_at hl 0 rfl) ?_
                      refine lv_lconst (v := 0) hx hb dM_at_146 (by decide) ?_
                      refine W.lcmp hx hb dM_at_147 ?_
                      refine lv_if_lt (tgt := 161) hx hb dM_at_148 (by decide) (fun hc => ?_) (fun hc => ?_)
                      · rw [if_pos hc] at hf
                        refine lv_aload_n hx hb dM_at_161 rfl (lv_at hl 1 rfl) ?_
                        refine lv_iconst (v := 0) hx hb dM_at_162 (by decide) ?_
                        obtain ⟨o3, hq4, hf⟩ := xbind hf
                        have hl := lv_sub (l' := [(3, .long (((xpl st) (c1 - 1)) + ((xpi st 3) (c0 - 1)).toInt64)), (0, .ref aM)]) hl [0, 1] rfl
                        obtain ⟨hm5, hf⟩ := xmoE hf
                        have hFc := xm_free hD hS hA
                        refine va_callq (va_runV (C := "ValueBenchModel") (As := [.int 0]) (rest := []) ⟨hx, hb, hml, hown, htx⟩ (gM_fresh l hl9 D cT aK aV s.heap.size n aM ad rd gd vad st (0 : Int32) o3 hq4) ⟨callB_of 1 htx (xw_goodC kw_6_16) rfl rfl rfl (htx _ kw_1_5) (htx _ kw_6_13) ⟨by decide, by decide, by decide +kernel⟩ ⟨Nat.le_of_ble_eq_true rfl, Nat.le_of_ble_eq_true rfl⟩, (htx _ kw_6_15), (htx _ kp_M_fresh)⟩ ⟨xPre_blind, va_recv hK hP (ci := 5) rfl (q0 := 0) rfl, (fun U hU hW => ⟨rfl, xPre_of hZ hS hFc hP hD hK U hU hW⟩)⟩ rfl rfl hl.1 rfl (xm_room (Nat.le_of_ble_eq_true rfl)) dM_at_163 ⟨hm5.1, hm5.2⟩) hS (fun q _ h => hFc q h) hFc (fun r6 u9 t H1 locs ht hvm hr9 hB hz1 hk1 hS => ?_)
                        obtain ⟨hP1, hK1, hD1⟩ := hB
                        rw [ht] at hP1
                        obtain ⟨ad7, gd8, vad9⟩ := u9
                        obtain ⟨hr9, hv10, hn11⟩ := hr9
                        have hP : va_P D xcl (xMw cT aM ad7 rd gd8 vad9 o3.2.2.2 []) H1 := hP1
                        have hD : va_D A (xMw cT aM ad7 rd gd8 vad9 o3.2.2.2 []) := hD1.weaken (fun k q _ h => hFc q.1 h)
                        generalize H1 = H at hP hS ⊢
                        have hE9 : ∀ p, p < xct st → vad9 p = vad p := fun p h => (hv10 p (Nat.lt_of_lt_of_le h hN)).trans (hE p h)
                        have hE := hE9
                        have hN : xct st ≤ xct o3.2.2.2 := Nat.le_trans hN hn11
                        rw [hr9]
                        refine W.eq (g2 := F0 m 166 ls [xv vad9 o3.2.2.1]) (by first | rfl | (skip; rfl)) ?_
                        refine lv_goto (tgt := 176) hx hb dM_at_166 (by decide) ?_
                        obtain rfl := Option.some.inj hf
                        exact absurd (show (0 : Nat) = 2 from hkd) (by decide)
                      · rw [if_neg hc] at hf
                        refine lv_lload_n hx hb dM_at_151 rfl (lv_at hl 0 rfl) ?_
                        refine xm_aload_n hx hb (xvor _ _) dM_at_152 rfl (lv_at hl 2 rfl) ?_
                        refine xm_vget (v := .int ((xpi st 3) (c0 - 1))) hx hb htx hown hK hP 3 (by decide) hg1 rfl ((hZ.1 (103, "count", "I") (List.mem_of_getElem? (i := 3) rfl)).use rfl) rfl dM_at_153 ?_
                        refine lv_i2l hx hb dM_at_156 rfl ?_
                        refine W.lcmp hx hb dM_at_157 ?_
                        refine lv_if_lt (tgt := 169) hx hb dM_at_158 (by decide) (fun hc => ?_) (fun hc => ?_)
                        · rw [if_pos hc] at hf
                          refine lv_aload_n hx hb dM_at_169 rfl (lv_at hl 1 rfl) ?_
                          refine xm_aload_n hx hb (xvor _ _) dM_at_170 rfl (lv_at hl 2 rfl) ?_
                          refine lv_lload_n hx hb dM_at_171 rfl (lv_at hl 0 rfl) ?_
                          refine lv_l2i hx hb dM_at_172 rfl ?_
                          obtain ⟨o3, hq4, hf⟩ := xbind hf
                          have hl := lv_sub (l' := [(3, .long (((xpl st) (c1 - 1)) + ((xpi st 3) (c0 - 1)).toInt64)), (0, .ref aM)]) hl [0, 1] rfl
                          have hFc := xm_free hD hS hA
                          refine va_callq (va_runV (C := "ValueBenchModel") (As := [xv vad c0, .int (((xpl st) (c1 - 1)) + ((xpi st 3) (c0 - 1)).toInt64).toInt32]) (rest := []) ⟨hx, hb, hml, hown, htx⟩ (gM_kid l hl9 D cT aK aV s.heap.size n aM ad rd gd vad st c0 ((((xpl st) (c1 - 1)) + ((xpi st 3) (c0 - 1)).toInt64).toInt32) o3 hq4) ⟨callB_of 2 htx (xw_goodC kw_6_158) rfl rfl rfl (htx _ kw_1_5) (htx _ kw_6_155) ⟨by decide, by decide, by decide +kernel⟩ ⟨Nat.le_of_ble_eq_true rfl, Nat.le_of_ble_eq_true rfl⟩, (htx _ kw_6_157), (htx _ kp_M_kid)⟩ ⟨xPre_blind, va_recv hK hP (ci := 5) rfl (q0 := 0) rfl, (fun U hU hW => ⟨rfl, xPre_of hZ hS hFc hP hD hK U hU hW⟩)⟩ rfl rfl hl.1 rfl (xm_room (Nat.le_of_ble_eq_true rfl)) dM_at_173 ⟨Nat.zero_le _, Nat.zero_le _⟩) hS (fun q _ h => hFc q h) hFc (fun r5 u9 t H1 locs ht hvm hr9 hB hz1 hk1 hS => ?_)
                          obtain ⟨hP1, hK1, hD1⟩ := hB
                          rw [ht] at hP1
                          have hP : va_P D xcl (xMw cT aM ad rd gd vad st []) H1 := hP1
                          have hD : va_D A (xMw cT aM ad rd gd vad st []) := hD1.weaken (fun k q _ h => hFc q.1 h)
                          generalize H1 = H at hP hS ⊢
                          rw [hr9]
                          refine W.eq (g2 := F0 m 176 ls [xv vad o3]) (by first | rfl | (skip; rfl)) ?_
                          obtain rfl := Option.some.inj hf
                          exact absurd (show (0 : Nat) = 2 from hkd) (by decide)
                        · rw [if_neg hc] at hf
                          refine lv_aload_n hx hb dM_at_161 rfl (lv_at hl 1 rfl) ?_
                          refine lv_iconst (v := 0) hx hb dM_at_162 (by decide) ?_
                          obtain ⟨o3, hq4, hf⟩ := xbind hf
                          have hl := lv_sub (l' := [(3, .long (((xpl st) (c1 - 1)) + ((xpi st 3) (c0 - 1)).toInt64)), (0, .ref aM)]) hl [0, 1] rfl
                          obtain ⟨hm5, hf⟩ := xmoE hf
                          have hFc := xm_free hD hS hA
                          refine va_callq (va_runV (C := "ValueBenchModel") (As := [.int 0]) (rest := []) ⟨hx, hb, hml, hown, htx⟩ (gM_fresh l hl9 D cT aK aV s.heap.size n aM ad rd gd vad st (0 : Int32) o3 hq4) ⟨callB_of 1 htx (xw_goodC kw_6_16) rfl rfl rfl (htx _ kw_1_5) (htx _ kw_6_13) ⟨by decide, by decide, by decide +kernel⟩ ⟨Nat.le_of_ble_eq_true rfl, Nat.le_of_ble_eq_true rfl⟩, (htx _ kw_6_15), (htx _ kp_M_fresh)⟩ ⟨xPre_blind, va_recv hK hP (ci := 5) rfl (q0 := 0) rfl, (fun U hU hW => ⟨rfl, xPre_of hZ hS hFc hP hD hK U hU hW⟩)⟩ rfl rfl hl.1 rfl (xm_room (Nat.le_of_ble_eq_true rfl)) dM_at_163 ⟨hm5.1, hm5.2⟩) hS (fun q _ h => hFc q h) hFc (fun r6 u9 t H1 locs ht hvm hr9 hB hz1 hk1 hS => ?_)
                          obtain ⟨hP1, hK1, hD1⟩ := hB
                          rw [ht] at hP1
                          obtain ⟨ad7, gd8, vad9⟩ := u9
                          obtain ⟨hr9, hv10, hn11⟩ := hr9
                          have hP : va_P D xcl (xMw cT aM ad7 rd gd8 vad9 o3.2.2.2 []) H1 := hP1
                          have hD : va_D A (xMw cT aM ad7 rd gd8 vad9 o3.2.2.2 []) := hD1.weaken (fun k q _ h => hFc q.1 h)
                          generalize H1 = H at hP hS ⊢
                          have hE9 : ∀ p, p < xct st → vad9 p = vad p := fun p h => (hv10 p (Nat.lt_of_lt_of_le h hN)).trans (hE p h)
                          have hE := hE9
                          have hN : xct st ≤ xct o3.2.2.2 := Nat.le_trans hN hn11
                          rw [hr9]
                          refine W.eq (g2 := F0 m 166 ls [xv vad9 o3.2.2.1]) (by first | rfl | (skip; rfl)) ?_
                          refine lv_goto (tgt := 176) hx hb dM_at_166 (by decide) ?_
                          obtain rfl := Option.some.inj hf
                          exact absurd (show (0 : Nat) = 2 from hkd) (by decide)
                  · rw [if_neg hc] at hf
                    refine lv_aload_n hx hb dM_at_112 rfl (lv_at hl 0 rfl) ?_
                    refine lv_iconst (v := 1) hx hb dM_at_113 (by decide) ?_
                    obtain ⟨o3, hq4, hf⟩ := xbind hf
                    have hl := lv_sub (l' := [(0, .ref aM)]) hl [0] rfl
                    by_cases hk5 : o3.1 = 1
                    · rw [if_pos hk5] at hf
                      obtain ⟨hm6, hf⟩ := xmoE hf
                      obtain rfl := Option.some.inj hf
                      exact absurd (show (1 : Nat) = 2 from hkd) (by decide)
                    rw [if_neg hk5] at hf
                    exact nomatch hf
                · rw [if_pos hc] at hf
                  refine lv_aload_n hx hb dM_at_97 rfl (lv_at hl 0 rfl) ?_
                  refine xm_aload_n hx hb (xvor _ _) dM_at_98 rfl (lv_at hl 1 rfl) ?_
                  refine xm_aload_n hx hb (xvor _ _) dM_at_99 rfl (lv_at hl 2 rfl) ?_
                  obtain ⟨o3, hq4, hf⟩ := xbind hf
                  have hl := lv_sub (l' := [(0, .ref aM)]) hl [0] rfl
                  by_cases hk5 : o3.1 = 0
                  · rw [if_pos hk5] at hf
                    obtain ⟨hm6, hf⟩ := xmoE hf
                    have hFc := xm_free hD hS hA
                    refine va_callq (va_runV (C := "ValueBenchModel") (As := [xv vad c0, xv vad c1]) (rest := []) ⟨hx, hb, hml, hown, htx⟩ (gM_indices l hl9 D cT aK aV s.heap.size d n aM ad rd gd vad st c0 c1 o3 hq4 hk5) ⟨callB_of 2 htx (xw_goodC kw_7_103) rfl rfl rfl (htx _ kw_1_5) (htx _ kw_7_100) ⟨by decide, by decide, by decide +kernel⟩ ⟨(by show (16 * d + 8) + 1 ≤ 16 * d + 9; omega), (by show 8 + (9 + 11) + (400 * d + 147) ≤ 400 * d + 175; omega)⟩, (htx _ kw_7_102), (htx _ kp_M_indices)⟩ ⟨xPre_blind, va_recv hK hP (ci := 5) rfl (q0 := 0) rfl, (fun U hU hW => ⟨rfl, xPre_of hZ hS hFc hP hD hK U hU hW⟩)⟩ rfl rfl hl.1 rfl (xm_room (Nat.le_of_ble_eq_true rfl)) dM_at_100 ⟨hm6.1, hm6.2⟩) hS (fun q _ h => hFc q h) hFc (fun r7 u9 t H1 locs ht hvm hr9 hB hz1 hk1 hS => ?_)
                    obtain ⟨hP1, hK1, hD1⟩ := hB
                    rw [ht] at hP1
                    obtain ⟨ad8, gd9, vad10⟩ := u9
                    obtain ⟨hr9, hv11, hn12⟩ := hr9
                    have hP : va_P D xcl (xMw cT aM ad8 rd gd9 vad10 o3.2.2.2.2 []) H1 := hP1
                    have hD : va_D A (xMw cT aM ad8 rd gd9 vad10 o3.2.2.2.2 []) := hD1.weaken (fun k q _ h => hFc q.1 h)
                    generalize H1 = H at hP hS ⊢
                    have hE9 : ∀ p, p < xct st → vad10 p = vad p := fun p h => (hv11 p (Nat.lt_of_lt_of_le h hN)).trans (hE p h)
                    have hE := hE9
                    have hN : xct st ≤ xct o3.2.2.2.2 := Nat.le_trans hN hn12
                    rw [hr9]
                    refine W.eq (g2 := F0 m 103 ls [xv vad10 o3.2.2.2.1]) (by first | rfl | (skip; rfl)) ?_
                    obtain rfl := Option.some.inj hf
                    exact absurd (show (0 : Nat) = 2 from hkd) (by decide)
                  rw [if_neg hk5] at hf
                  by_cases hk13 : o3.1 = 1
                  · rw [if_pos hk13] at hf
                    obtain ⟨hm14, hf⟩ := xmoE hf
                    obtain rfl := Option.some.inj hf
                    exact absurd (show (1 : Nat) = 2 from hkd) (by decide)
                  rw [if_neg hk13] at hf
                  by_cases hk21 : o3.1 = 2
                  · rw [if_pos hk21] at hf
                    obtain ⟨hm22, hf⟩ := xmoE hf
                    have hFc := xm_free hD hS hA
                    refine xx_thr (vx_runV (C := "ValueBenchModel") (As := [xv vad c0, xv vad c1]) (rest := []) ⟨hx, hb, hml, hown, htx⟩ (gM_indices_2 l hl9 D cT aK aV s.heap.size d n aM ad rd gd vad st c0 c1 o3 hq4 hk21) ⟨callB_of 2 htx (xw_goodC kw_7_103) rfl rfl rfl (htx _ kw_1_5) (htx _ kw_7_100) ⟨by decide, by decide, by decide +kernel⟩ ⟨(by show (16 * d + 8) + 1 ≤ 16 * d + 9; omega), (by show 8 + (9 + 11) + (400 * d + 147) ≤ 400 * d + 175; omega)⟩, (htx _ kw_7_102), (htx _ kp_M_indices)⟩ ⟨xPre_blind, va_recv hK hP (ci := 5) rfl (q0 := 0) rfl, (fun U hU hW => ⟨rfl, xPre_of hZ hS hFc hP hD hK U hU hW⟩)⟩ rfl rfl hl.1 rfl (xm_room (Nat.le_of_ble_eq_true rfl)) dM_at_100 ⟨hm22.1, hm22.2⟩) hS hFc (fun q _ h => hFc q h) (fun E ce q9 u9 t H1 locs ht hvm hr9 hB hz1 hk1 hS hce hcv hcl => ?_)
                    obtain ⟨rfl, hP1, hK1, hD1⟩ := hB
                    rw [ht] at hP1
                    obtain ⟨ad24, gd25, vad26⟩ := u9
                    obtain ⟨hv27, hn28⟩ := hr9
                    have hP : va_P D xcl (xMw cT aM ad24 rd gd25 vad26 o3.2.2.2.2 []) H1 := hP1
                    have hD : va_D A (xMw cT aM ad24 rd gd25 vad26 o3.2.2.2.2 []) := hD1.weaken (fun k q _ h => hFc q.1 h)
                    generalize H1 = H at hP hS hce ⊢
                    have hE9 : ∀ p, p < xct st → vad26 p = vad p := fun p h => (hv27 p (Nat.lt_of_lt_of_le h hN)).trans (hE p h)
                    have hE := hE9
                    have hN : xct st ≤ xct o3.2.2.2.2 := Nat.le_trans hN hn28
                    obtain rfl := Option.some.inj hf
                    exact vx_out (E := "java/lang/IndexOutOfBoundsException") (fun x h => (hne x h).elim) hlocks hce hcv hcl (fun t ht ha => ⟨(ad24, gd25, vad26), ⟨hE, hN⟩, ⟨rfl, by rw [ht]; exact hP, va_K.moved ha hK, hD⟩, hS.F ht⟩) hS.2.2 (Nat.le_refl _) (Nat.le_refl _)
                  rw [if_neg hk21] at hf
                  exact nomatch hf
              · rw [if_neg hc] at hf
                refine lv_aload_n hx hb dM_at_83 rfl (lv_at hl 0 rfl) ?_
                refine lv_iconst (v := 1) hx hb dM_at_84 (by decide) ?_
                obtain ⟨o3, hq4, hf⟩ := xbind hf
                have hl := lv_sub (l' := [(0, .ref aM)]) hl [0] rfl
                by_cases hk5 : o3.1 = 1
                · rw [if_pos hk5] at hf
                  obtain ⟨hm6, hf⟩ := xmoE hf
                  obtain rfl := Option.some.inj hf
                  exact absurd (show (1 : Nat) = 2 from hkd) (by decide)
                rw [if_neg hk5] at hf
                exact nomatch hf
            · rw [if_pos hc] at hf
              refine lv_aload_n hx hb dM_at_49 rfl (lv_at hl 0 rfl) ?_
              refine xm_aload_n hx hb (xvor _ _) dM_at_50 rfl (lv_at hl 1 rfl) ?_
              refine xm_aload_n hx hb (xvor _ _) dM_at_51 rfl (lv_at hl 2 rfl) ?_
              obtain ⟨o3, hq4, hf⟩ := xbind hf
              have hl := lv_sub (l' := [(0, .ref aM), (1, xv vad c0)]) hl [0, 1] rfl
              have hFc := xm_free hD hS hA
              refine va_calli (va_runV (C := "ValueBenchModel") (As := [xv vad c0, xv vad c1]) (rest := []) ⟨hx, hb, hml, hown, htx⟩ (gM_place l hl9 D cT aK aV s.heap.size n aM ad rd gd vad st c0 c1 o3 hq4) ⟨callB_of 2 htx (xw_goodC kw_6_178) rfl rfl rfl (htx _ kw_1_5) (htx _ kw_6_175) ⟨by decide, by decide, by decide +kernel⟩ ⟨Nat.le_of_ble_eq_true rfl, Nat.le_of_ble_eq_true rfl⟩, (htx _ kw_6_177), (htx _ kp_M_place)⟩ ⟨xPre_blind, va_recv hK hP (ci := 5) rfl (q0 := 0) rfl, (fun U hU hW => ⟨rfl, xPre_of hZ hS hFc hP hD hK U hU hW⟩)⟩ rfl rfl hl.1 rfl (xm_room (Nat.le_of_ble_eq_true rfl)) dM_at_52 ⟨Nat.zero_le _, Nat.zero_le _⟩) hS (fun q _ h => hFc q h) hFc (fun r5 u9 t H1 locs ht hvm hr9 hB hz1 hk1 hS => ?_)
              obtain ⟨hP1, hK1, hD1⟩ := hB
              rw [ht] at hP1
              have hP : va_P D xcl (xMw cT aM ad rd gd vad st []) H1 := hP1
              have hD : va_D A (xMw cT aM ad rd gd vad st []) := hD1.weaken (fun k q _ h => hFc q.1 h)
              generalize H1 = H at hP hS ⊢
              rw [hr9]
              refine W.eq (g2 := F0 m 55 ls [.int o3]) (by first | rfl | (skip; rfl)) ?_
              refine lv_istore_n (lv' := [(3, .int o3), (0, .ref aM), (1, xv vad c0)]) hx hb dM_at_55 rfl hl (by decide) rfl (fun ls hl => ?_)
              refine lv_iload_n hx hb dM_at_56 rfl (lv_at hl 0 rfl) ?_
              refine lv_if_ge (tgt := 68) hx hb dM_at_57 (by decide) (fun hc => ?_) (fun hc => ?_)
              · rw [if_pos hc] at hf
                refine lv_aload_n hx hb dM_at_68 rfl (lv_at hl 1 rfl) ?_
                refine xm_aload_n hx hb (xvor _ _) dM_at_69 rfl (lv_at hl 2 rfl) ?_
                refine lv_iload_n hx hb dM_at_70 rfl (lv_at hl 0 rfl) ?_
                obtain ⟨o6, hq7, hf⟩ := xbind hf
                have hl := lv_sub (l' := [(3, .int o3), (0, .ref aM)]) hl [0, 1] rfl
                have hFc := xm_free hD hS hA
                refine va_callq (va_runV (C := "ValueBenchModel") (As := [xv vad c0, .int o3]) (rest := []) ⟨hx, hb, hml, hown, htx⟩ (gM_kid l hl9 D cT aK aV H.size n aM ad rd gd vad st c0 o3 o6 hq7) ⟨callB_of 2 htx (xw_goodC kw_6_158) rfl rfl rfl (htx _ kw_1_5) (htx _ kw_6_155) ⟨by decide, by decide, by decide +kernel⟩ ⟨Nat.le_of_ble_eq_true rfl, Nat.le_of_ble_eq_true rfl⟩, (htx _ kw_6_157), (htx _ kp_M_kid)⟩ ⟨xPre_blind, va_recv hK hP (ci := 5) rfl (q0 := 0) rfl, (fun U hU hW => ⟨rfl, xPre_of hZ hS hFc hP hD hK U hU hW⟩)⟩ rfl rfl hl.1 rfl (xm_room (Nat.le_of_ble_eq_true rfl)) dM_at_71 ⟨Nat.zero_le _, Nat.zero_le _⟩) hS (fun q _ h => hFc q h) hFc (fun r8 u9 t H1 locs ht hvm hr9 hB hz1 hk1 hS => ?_)
                obtain ⟨hP1, hK1, hD1⟩ := hB
                rw [ht] at hP1
                have hP : va_P D xcl (xMw cT aM ad rd gd vad st []) H1 := hP1
                have hD : va_D A (xMw cT aM ad rd gd vad st []) := hD1.weaken (fun k q _ h => hFc q.1 h)
                generalize H1 = H at hP hS ⊢
                rw [hr9]
                refine W.eq (g2 := F0 m 74 ls [xv vad o6]) (by first | rfl | (skip; rfl)) ?_
                obtain rfl := Option.some.inj hf
                exact absurd (show (0 : Nat) = 2 from hkd) (by decide)
              · rw [if_neg hc] at hf
                refine lv_aload_n hx hb dM_at_60 rfl (lv_at hl 1 rfl) ?_
                refine lv_iconst (v := 0) hx hb dM_at_61 (by decide) ?_
                obtain ⟨o6, hq7, hf⟩ := xbind hf
                have hl := lv_sub (l' := [(3, .int o3), (0, .ref aM)]) hl [0, 1] rfl
                obtain ⟨hm8, hf⟩ := xmoE hf
                have hFc := xm_free hD hS hA
                refine va_callq (va_runV (C := "ValueBenchModel") (As := [.int 0]) (rest := []) ⟨hx, hb, hml, hown, htx⟩ (gM_fresh l hl9 D cT aK aV H.size n aM ad rd gd vad st (0 : Int32) o6 hq7) ⟨callB_of 1 htx (xw_goodC kw_6_16) rfl rfl rfl (htx _ kw_1_5) (htx _ kw_6_13) ⟨by decide, by decide, by decide +kernel⟩ ⟨Nat.le_of_ble_eq_true rfl, Nat.le_of_ble_eq_true rfl⟩, (htx _ kw_6_15), (htx _ kp_M_fresh)⟩ ⟨xPre_blind, va_recv hK hP (ci := 5) rfl (q0 := 0) rfl, (fun U hU hW => ⟨rfl, xPre_of hZ hS hFc hP hD hK U hU hW⟩)⟩ rfl rfl hl.1 rfl (xm_room (Nat.le_of_ble_eq_true rfl)) dM_at_62 ⟨hm8.1, hm8.2⟩) hS (fun q _ h => hFc q h) hFc (fun r9 u9 t H1 locs ht hvm hr9 hB hz1 hk1 hS => ?_)
                obtain ⟨hP1, hK1, hD1⟩ := hB
                rw [ht] at hP1
                obtain ⟨ad10, gd11, vad12⟩ := u9
                obtain ⟨hr9, hv13, hn14⟩ := hr9
                have hP : va_P D xcl (xMw cT aM ad10 rd gd11 vad12 o6.2.2.2 []) H1 := hP1
                have hD : va_D A (xMw cT aM ad10 rd gd11 vad12 o6.2.2.2 []) := hD1.weaken (fun k q _ h => hFc q.1 h)
                generalize H1 = H at hP hS ⊢
                have hE9 : ∀ p, p < xct st → vad12 p = vad p := fun p h => (hv13 p (Nat.lt_of_lt_of_le h hN)).trans (hE p h)
                have hE := hE9
                have hN : xct st ≤ xct o6.2.2.2 := Nat.le_trans hN hn14
                rw [hr9]
                refine W.eq (g2 := F0 m 65 ls [xv vad12 o6.2.2.1]) (by first | rfl | (skip; rfl)) ?_
                refine lv_goto (tgt := 74) hx hb dM_at_65 (by decide) ?_
                obtain rfl := Option.some.inj hf
                exact absurd (show (0 : Nat) = 2 from hkd) (by decide)
        · rw [if_pos hc] at hf
          refine xm_aload_n hx hb (xvor _ _) dM_at_30 rfl (lv_at hl 1 rfl) ?_
          obtain rfl := Option.some.inj hf
          exact absurd (show (0 : Nat) = 2 from hkd) (by decide)
set_option maxHeartbeats 400000000 in
set_option maxRecDepth 100000 in
theorem gM_bad_1 (l : Launch) (hl9 : l.stackTraces = false) (D : va_G) (cT : Nat → ClassId) (aK aV : Nat → Nat) (sz n : Nat) (aM : Nat) (ad rd gd vad : Nat → Nat) (st : xS) (x0 : Int32) (out : Nat × Nat × Nat × xS) (hf : fM_bad n st x0 = some out) (hkd : out.1 = 1) : xMetY l yM_bad wyM_bad 6 out.2.1 out.2.2.1 100 D cT aK aV sz [.ref aM, .int x0] (xMw cT aM ad rd gd vad st []) "java/lang/UnsupportedOperationException" (fun u => xE vad st out.2.2.2 u) (fun A u t => xB D xcl cT A (xMw cT aM u.1 rd u.2.1 u.2.2 out.2.2.2 []) t) := by
  refine vx_ofW (cc := prog_13_method_28_code) (maxL := 2) (ret := none) (by decide) rfl ?_
  intro p e s m args below meth c s₁ B hml hne hv
  obtain ⟨rfl, hsz, hZ, hP, hK, hD0⟩ := hv
  have hx := B.exec
  have hb := B.bytes
  have hr := B.returns
  have hts := atoms_spec (ws := wyM_bad) B.pre
  have htx := fun w h => hts w (List.mem_cons_of_mem _ h)
  have hown : s.vm.findClass "ValueBenchModel" = some m.cls := findClass_of_methodNamed B.named
  have hlocks := B.notSynchronized
  subst hsz
  have hD := hD0.self (sz := s.heap.size)
  generalize hAe : va_A (xMw cT aM ad rd gd vad st []) s.heap.size = A at hD hZ ⊢
  have hA : ∀ q : Nat, s.heap.size ≤ q → A q := fun q h => by rw [← hAe]; exact Or.inr h
  have hS : va_S A s.heap s.heap [] := va_S.rf
  have hl := lv_entry ([.ref aM, .int x0]) (n := 2) (by simp [lg_sl, xvcat, xrscat, xcI, xcL, xcR, xcN])
  rw [show lv_args 0 [.ref aM, .int x0] = [(0, .ref aM), (1, .int x0)] from by simp [lv_args, xvcat, xrscat, xcI, xcL, xcR, xcN]] at hl
  rw [lg_entry_eq]
  generalize (lg_sl ([.ref aM, .int x0]) ++ List.replicate (2 - (lg_sl ([.ref aM, .int x0])).length) Slot.unset).toArray = ls at hl ⊢
  have hl : lv_has ls 2 [(0, .ref aM), (1, .int x0)] := hl
  have hE : ∀ p, p < xct st → vad p = vad p := fun _ _ => rfl
  have hN : xct st ≤ xct st := Nat.le_refl _
  unfold fM_bad at hf
  refine lv_aload_n hx hb dM_bad_0 rfl (lv_at hl 0 rfl) ?_
  refine lv_iload_n hx hb dM_bad_1 rfl (lv_at hl 1 rfl) ?_
  refine xm_put (v := .int x0) (W' := (xMw cT aM ad rd gd vad (xsI st 20 x0) [])) (ty := .int) hx hb htx hown hK hP hD hS 20 (by decide) rfl (htx _ kw_5_107) rfl rfl (by decide +kernel) rfl rfl dM_bad_2 (fun H locs hP hD hS => ?_)
  obtain rfl := Option.some.inj hf
  exact vx_throw0 (own := "ValueBenchModel") (cls := "java/lang/UnsupportedOperationException") (names := ["java/lang/RuntimeException", "java/lang/Exception"]) hx hb hl9 hown (by decide +kernel) (by decide +kernel) (htx _ kw_5_204) (htx _ kw_1_17) (vx_hat (B := [.castable "java/lang/UnsupportedOperationException" "java/lang/UnsupportedOperationException", .declares ⟨"java/lang/RuntimeException", "<init>", "()V"⟩, .declares ⟨"java/lang/Exception", "<init>", "()V"⟩, .declares ⟨"java/lang/Throwable", "<init>", "()V"⟩]) (fun w h => htx w (xat_M_205_207 w h)) xat_M_205_207_b (vx_c ((hZ.2.2.2.2.2.1 "java/lang/UnsupportedOperationException" (List.mem_of_getElem? (i := 2) rfl)).use rfl) (vx_c ((hZ.2.2.2.2.2.2.1 ⟨"java/lang/RuntimeException", "<init>", "()V"⟩ (List.mem_of_getElem? (i := 0) rfl)).use rfl) (vx_c ((hZ.2.2.2.2.2.2.1 ⟨"java/lang/Exception", "<init>", "()V"⟩ (List.mem_of_getElem? (i := 1) rfl)).use rfl) (vx_c ((hZ.2.2.2.2.2.2.1 ⟨"java/lang/Throwable", "<init>", "()V"⟩ (List.mem_of_getElem? (i := 2) rfl)).use rfl) vx_n))))) xat_M_205_207_g hZ.2.2.2.1 hZ.2.2.2.2.1 hS (hl.1.trans hml.symm) dM_bad_5 dM_bad_8 dM_bad_9 dM_bad_12 (fun x h => (hne x h).elim) (Nat.le_of_ble_eq_true rfl) (Nat.le_of_ble_eq_true rfl) (Nat.le_refl _) (Nat.le_refl _) hlocks (fun t ha hz hk => ⟨(ad, gd, vad), ⟨hE, hN⟩, ⟨rfl, xx_keepP hP hk, va_K.moved ha hK, hD⟩, xx_grown hS hz hk⟩) hS.2.2 (Nat.le_refl _) (Nat.le_refl _)
set_option maxHeartbeats 400000000 in
set_option maxRecDepth 100000 in
theorem gM_clear (l : Launch) (hl9 : l.stackTraces = false) (D : va_G) (cT : Nat → ClassId) (aK aV : Nat → Nat) (sz n : Nat) (aM : Nat) (ad rd gd vad : Nat → Nat) (st : xS) (out : xS) (hf : fM_clear n st = some out) : xMet l yM_clear wyM_clear 0 0 0 0 D cT aK aV sz [.ref aM] (xMw cT aM ad rd gd vad st []) (fun A => va_Qv (fun _ : Unit => xct st ≤ xct out) (fun _ t => xB D xcl cT A (xMw cT aM ad rd gd vad out []) t) A) := by
  refine Met.ofW (cc := prog_13_method_18_code) (maxL := 1) (ret := none) (by decide) rfl ?_
  intro p e s m args below meth c s₁ B hml hv
  obtain ⟨rfl, hsz, hZ, hP, hK, hD0⟩ := hv
  have hx := B.exec
  have hb := B.bytes
  have hr := B.returns
  have hts := atoms_spec (ws := wyM_clear) B.pre
  have htx := fun w h => hts w (List.mem_cons_of_mem _ h)
  have hown : s.vm.findClass "ValueBenchModel" = some m.cls := findClass_of_methodNamed B.named
  have hlocks := B.notSynchronized
  subst hsz
  have hD := hD0.self (sz := s.heap.size)
  generalize hAe : va_A (xMw cT aM ad rd gd vad st []) s.heap.size = A at hD hZ ⊢
  have hA : ∀ q : Nat, s.heap.size ≤ q → A q := fun q h => by rw [← hAe]; exact Or.inr h
  have hS : va_S A s.heap s.heap [] := va_S.rf
  have hl := lv_entry ([.ref aM]) (n := 1) (by simp [lg_sl, xvcat, xrscat, xcI, xcL, xcR, xcN])
  rw [show lv_args 0 [.ref aM] = [(0, .ref aM)] from by simp [lv_args, xvcat, xrscat, xcI, xcL, xcR, xcN]] at hl
  rw [lg_entry_eq]
  generalize (lg_sl ([.ref aM]) ++ List.replicate (1 - (lg_sl ([.ref aM])).length) Slot.unset).toArray = ls at hl ⊢
  have hl : lv_has ls 1 [(0, .ref aM)] := hl
  have hN : xct st ≤ xct st := Nat.le_refl _
  unfold fM_clear at hf
  refine lv_aload_n hx hb dM_clear_0 rfl (lv_at hl 0 rfl) ?_
  refine lv_iconst (v := 0) hx hb dM_clear_1 (by decide) ?_
  refine xm_put (v := .int 0) (W' := (xMw cT aM ad rd gd vad (xsI st 2 0) [])) (ty := .int) hx hb htx hown hK hP hD hS 2 (by decide) rfl (htx _ kw_5_89) rfl rfl (by decide +kernel) rfl rfl dM_clear_2 (fun H locs hP hD hS => ?_)
  refine lv_aload_n hx hb dM_clear_5 rfl (lv_at hl 0 rfl) ?_
  refine lv_iconst (v := 0) hx hb dM_clear_6 (by decide) ?_
  refine xm_put (v := .int 0) (W' := (xMw cT aM ad rd gd vad (xsI (xsI st 2 0) 4 0) [])) (ty := .int) hx hb htx hown hK hP hD hS 4 (by decide) rfl (htx _ kw_5_91) rfl rfl (by decide +kernel) rfl rfl dM_clear_7 (fun H locs hP hD hS => ?_)
  refine lv_aload_n hx hb dM_clear_10 rfl (lv_at hl 0 rfl) ?_
  refine lv_iconst (v := 0) hx hb dM_clear_11 (by decide) ?_
  refine xm_put (v := .int 0) (W' := (xMw cT aM ad rd gd vad (xsI (xsI (xsI st 2 0) 4 0) 7 0) [])) (ty := .int) hx hb htx hown hK hP hD hS 7 (by decide) rfl (htx _ kw_5_94) rfl rfl (by decide +kernel) rfl rfl dM_clear_12 (fun H locs hP hD hS => ?_)
  refine lv_aload_n hx hb dM_clear_15 rfl (lv_at hl 0 rfl) ?_
  refine lv_iconst (v := 0) hx hb dM_clear_16 (by decide) ?_
  refine xm_put (v := .int 0) (W' := (xMw cT aM ad rd gd vad (xsI (xsI (xsI (xsI st 2 0) 4 0) 7 0) 12 0) [])) (ty := .int) hx hb htx hown hK hP hD hS 12 (by decide) rfl (htx _ kw_5_99) rfl rfl (by decide +kernel) rfl rfl dM_clear_17 (fun H locs hP hD hS => ?_)
  refine lv_aload_n hx hb dM_clear_20 rfl (lv_at hl 0 rfl) ?_
  refine lv_iconst (v := 0) hx hb dM_clear_21 (by decide) ?_
  refine xm_put (v := .int 0) (W' := (xMw cT aM ad rd gd vad (xsI (xsI (xsI (xsI (xsI st 2 0) 4 0) 7 0) 12 0) 9 0) [])) (ty := .int) hx hb htx hown hK hP hD hS 9 (by decide) rfl (htx _ kw_5_96) rfl rfl (by decide +kernel) rfl rfl dM_clear_22 (fun H locs hP hD hS => ?_)
  obtain rfl := Option.some.inj hf
  exact W.vret hx hb hr (fun t ht hW => ⟨⟨(), rfl, hN, by rw [ht]; exact hP, va_K.moved hW.alike hK, hD⟩, hS.F ht⟩) hS.2.2 dM_clear_25
set_option maxHeartbeats 400000000 in
set_option maxRecDepth 100000 in
theorem gM_begin (l : Launch) (hl9 : l.stackTraces = false) (D : va_G) (cT : Nat → ClassId) (aK aV : Nat → Nat) (sz n : Nat) (aM : Nat) (ad rd gd vad : Nat → Nat) (st : xS) (out : xS) (hf : fM_begin n st = some out) : xMet l yM_begin wyM_begin 1 0 0 20 D cT aK aV sz [.ref aM] (xMw cT aM ad rd gd vad st []) (fun A => va_Qv (fun _ : Unit => xct st ≤ xct out) (fun _ t => xB D xcl cT A (xMw cT aM ad rd gd vad out []) t) A) := by
  refine Met.ofW (cc := prog_13_method_78_code) (maxL := 1) (ret := none) (by decide) rfl ?_
  intro p e s m args below meth c s₁ B hml hv
  obtain ⟨rfl, hsz, hZ, hP, hK, hD0⟩ := hv
  have hx := B.exec
  have hb := B.bytes
  have hr := B.returns
  have hts := atoms_spec (ws := wyM_begin) B.pre
  have htx := fun w h => hts w (List.mem_cons_of_mem _ h)
  have hown : s.vm.findClass "ValueBenchModel" = some m.cls := findClass_of_methodNamed B.named
  have hlocks := B.notSynchronized
  subst hsz
  have hD := hD0.self (sz := s.heap.size)
  generalize hAe : va_A (xMw cT aM ad rd gd vad st []) s.heap.size = A at hD hZ ⊢
  have hA : ∀ q : Nat, s.heap.size ≤ q → A q := fun q h => by rw [← hAe]; exact Or.inr h
  have hS : va_S A s.heap s.heap [] := va_S.rf
  have hl := lv_entry ([.ref aM]) (n := 1) (by simp [lg_sl, xvcat, xrscat, xcI, xcL, xcR, xcN])
  rw [show lv_args 0 [.ref aM] = [(0, .ref aM)] from by simp [lv_args, xvcat, xrscat, xcI, xcL, xcR, xcN]] at hl
  rw [lg_entry_eq]
  generalize (lg_sl ([.ref aM]) ++ List.replicate (1 - (lg_sl ([.ref aM])).length) Slot.unset).toArray = ls at hl ⊢
  have hl : lv_has ls 1 [(0, .ref aM)] := hl
  have hN : xct st ≤ xct st := Nat.le_refl _
  unfold fM_begin at hf
  refine lv_aload_n hx hb dM_begin_0 rfl (lv_at hl 0 rfl) ?_
  refine lv_iconst (v := 0) hx hb dM_begin_1 (by decide) ?_
  refine xm_put (v := .int 0) (W' := (xMw cT aM ad rd gd vad (xsI st 0 0) [])) (ty := .int) hx hb htx hown hK hP hD hS 0 (by decide) rfl (htx _ kw_5_87) rfl rfl (by decide +kernel) rfl rfl dM_begin_2 (fun H locs hP hD hS => ?_)
  refine lv_aload_n hx hb dM_begin_5 rfl (lv_at hl 0 rfl) ?_
  obtain ⟨o1, hq2, hf⟩ := xbind hf
  have hFc := xm_free hD hS hA
  refine va_callv (va_runV (C := "ValueBenchModel") (As := []) (rest := []) ⟨hx, hb, hml, hown, htx⟩ (gM_clear l hl9 D cT aK aV H.size n aM ad rd gd vad (xsI st 0 0) o1 hq2) ⟨callB_of 0 htx (xw_goodC kw_5_213) rfl rfl rfl (htx _ kw_1_5) (htx _ kw_5_210) ⟨by decide, by decide, by decide +kernel⟩ ⟨Nat.le_of_ble_eq_true rfl, Nat.le_of_ble_eq_true rfl⟩, (htx _ kw_5_212), (htx _ kp_M_clear)⟩ ⟨xPre_blind, va_recv hK hP (ci := 5) rfl (q0 := 0) rfl, (fun U hU hW => ⟨rfl, xPre_of hZ hS hFc hP hD hK U hU hW⟩)⟩ rfl rfl hl.1 rfl (xm_room (Nat.le_of_ble_eq_true rfl)) dM_begin_6 ⟨Nat.le_of_ble_eq_true rfl, Nat.le_of_ble_eq_true rfl⟩) hS (fun q _ h => hFc q h) hFc (fun u9 t H1 locs ht hvm hr9 hB hz1 hk1 hS => ?_)
  obtain ⟨hP1, hK1, hD1⟩ := hB
  rw [ht] at hP1
  have hn4 := hr9
  have hN : xct st ≤ xct o1 := Nat.le_trans hN hn4
  have hP : va_P D xcl (xMw cT aM ad rd gd vad o1 []) H1 := hP1
  have hD : va_D A (xMw cT aM ad rd gd vad o1 []) := hD1.weaken (fun k q _ h => hFc q.1 h)
  generalize H1 = H at hP hS ⊢
  refine W.eq (g2 := F0 m 9 ls []) (by first | rfl | (skip; rfl)) ?_
  refine lv_aload_n hx hb dM_begin_9 rfl (lv_at hl 0 rfl) ?_
  refine lv_iconst (v := 0) hx hb dM_begin_10 (by decide) ?_
  refine xm_put (v := .int 0) (W' := (xMw cT aM ad rd gd vad (xsI o1 22 0) [])) (ty := .int) hx hb htx hown hK hP hD hS 22 (by decide) rfl (htx _ kw_5_109) rfl rfl (by decide +kernel) rfl rfl dM_begin_11 (fun H locs hP hD hS => ?_)
  refine lv_aload_n hx hb dM_begin_14 rfl (lv_at hl 0 rfl) ?_
  refine lv_ldc hx hb hown (htx _ kw_5_82) dM_begin_15 ?_
  refine xm_put (v := .int 1000000000) (W' := (xMw cT aM ad rd gd vad (xsI (xsI o1 22 0) 23 1000000000) [])) (ty := .int) hx hb htx hown hK hP hD hS 23 (by decide) rfl (htx _ kw_5_110) rfl rfl (by decide +kernel) rfl rfl dM_begin_17 (fun H locs hP hD hS => ?_)
  obtain rfl := Option.some.inj hf
  exact W.vret hx hb hr (fun t ht hW => ⟨⟨(), rfl, hN, by rw [ht]; exact hP, va_K.moved hW.alike hK, hD⟩, hS.F ht⟩) hS.2.2 dM_begin_20
