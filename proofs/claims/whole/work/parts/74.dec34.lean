set_option maxHeartbeats 400000000 in
set_option maxRecDepth 100000 in
theorem gM_indices_1 (l : Launch) (hl9 : l.stackTraces = false) (D : va_G) (cT : Nat → ClassId) (aK aV : Nat → Nat) (sz d n : Nat) (aM : Nat) (ad rd gd vad : Nat → Nat) (st : xS) (c0 : Nat) (c1 : Nat) (out : Nat × Nat × Nat × Nat × xS) (hf : fM_indices d n st c0 c1 = some out) (hkd : out.1 = 1) : xMetY l yM_indices wyM_indices (16 * d + 8) out.2.1 out.2.2.1 (400 * d + 147) D cT aK aV sz [.ref aM, xv vad c0, xv vad c1] (xMw cT aM ad rd gd vad st []) "java/lang/ArithmeticException" (fun u => xE vad st out.2.2.2.2 u) (fun A u t => xB D xcl cT A (xMw cT aM u.1 rd u.2.1 u.2.2 out.2.2.2.2 []) t) := by
  refine vx_ofW (cc := prog_13_method_72_code) (maxL := 9) (ret := (some (.object "ValueBenchModel$V"))) (by decide) rfl ?_
  intro p e s m args below meth c s₁ B hml hne hv
  obtain ⟨rfl, hsz, hZ, hP, hK, hD0⟩ := hv
  have hx := B.exec
  have hb := B.bytes
  have hr := B.returns
  have hts := atoms_spec (ws := wyM_indices) B.pre
  have htx := fun w h => hts w (List.mem_cons_of_mem _ h)
  have hown : s.vm.findClass "ValueBenchModel" = some m.cls := findClass_of_methodNamed B.named
  have hlocks := B.notSynchronized
  subst hsz
  have hD := hD0.self (sz := s.heap.size)
  generalize hAe : va_A (xMw cT aM ad rd gd vad st []) s.heap.size = A at hD hZ ⊢
  have hA : ∀ q : Nat, s.heap.size ≤ q → A q := fun q h => by rw [← hAe]; exact Or.inr h
  have hS : va_S A s.heap s.heap [] := va_S.rf
  have hl := lv_entry ([.ref aM, xv vad c0, xv vad c1]) (n := 9) (by simp [lg_sl, xvcat, xrscat, xcI, xcL, xcR, xcN])
  rw [show lv_args 0 [.ref aM, xv vad c0, xv vad c1] = [(0, .ref aM), (1, xv vad c0), (2, xv vad c1)] from by simp [lv_args, xvcat, xrscat, xcI, xcL, xcR, xcN]] at hl
  rw [lg_entry_eq]
  generalize (lg_sl ([.ref aM, xv vad c0, xv vad c1]) ++ List.replicate (9 - (lg_sl ([.ref aM, xv vad c0, xv vad c1])).length) Slot.unset).toArray = ls at hl ⊢
  have hl : lv_has ls 9 [(0, .ref aM), (1, xv vad c0), (2, xv vad c1)] := hl
  have hE : ∀ p, p < xct st → vad p = vad p := fun _ _ => rfl
  have hN : xct st ≤ xct st := Nat.le_refl _
  unfold fM_indices at hf
  refine xloopM (σ := Nat × Int32 × Int32 × Int32 × Int32 × Nat × Nat × Int32 × Int32 × xS × Nat × Nat) (fun n x H locs ls => (∃ (adL gdL vadL : Nat → Nat), x.1 = 1 ∧ fM_indices_b d n x.1 x.2.1 x.2.2.1 x.2.2.2.1 x.2.2.2.2.1 x.2.2.2.2.2.1 x.2.2.2.2.2.2.1 x.2.2.2.2.2.2.2.1 x.2.2.2.2.2.2.2.2.1 x.2.2.2.2.2.2.2.2.2.1 x.2.2.2.2.2.2.2.2.2.2.1 x.2.2.2.2.2.2.2.2.2.2.2 = some out ∧ va_P D xcl (xMw cT aM adL rd gdL vadL x.2.2.2.2.2.2.2.2.2.1 []) H ∧ va_D A (xMw cT aM adL rd gdL vadL x.2.2.2.2.2.2.2.2.2.1 []) ∧ va_S A s.heap H locs ∧ lv_has ls 9 [(6, .int x.2.1), (5, .int x.2.2.1), (4, .int x.2.2.2.1), (3, .int x.2.2.2.2.1), (0, .ref aM), (1, xv vadL x.2.2.2.2.2.1), (2, xv vadL x.2.2.2.2.2.2.1)] ∧ (∀ p, p < xct st → vadL p = vad p) ∧ xct st ≤ xct x.2.2.2.2.2.2.2.2.2.1) ∨ (∃ (adL gdL vadL : Nat → Nat), x.1 = 2 ∧ fM_indices_b d n x.1 x.2.1 x.2.2.1 x.2.2.2.1 x.2.2.2.2.1 x.2.2.2.2.2.1 x.2.2.2.2.2.2.1 x.2.2.2.2.2.2.2.1 x.2.2.2.2.2.2.2.2.1 x.2.2.2.2.2.2.2.2.2.1 x.2.2.2.2.2.2.2.2.2.2.1 x.2.2.2.2.2.2.2.2.2.2.2 = some out ∧ va_P D xcl (xMw cT aM adL rd gdL vadL x.2.2.2.2.2.2.2.2.2.1 []) H ∧ va_D A (xMw cT aM adL rd gdL vadL x.2.2.2.2.2.2.2.2.2.1 []) ∧ va_S A s.heap H locs ∧ lv_has ls 9 [(8, .int x.2.2.2.2.2.2.2.1), (7, .int x.2.2.2.2.2.2.2.2.1), (6, .int x.2.1), (5, .int x.2.2.1), (4, .int x.2.2.2.1), (3, .int x.2.2.2.2.1), (0, .ref aM), (1, xv vadL x.2.2.2.2.2.1), (2, xv vadL x.2.2.2.2.2.2.1)] ∧ (∀ p, p < xct st → vadL p = vad p) ∧ xct st ≤ xct x.2.2.2.2.2.2.2.2.2.1)) (fun x => if x.1 = 1 then 95 else 175) (fun x => x.2.2.2.2.2.2.2.2.2.2.1) (fun x => x.2.2.2.2.2.2.2.2.2.2.2) (fun x H locs ls h => by rcases h with h | h; (obtain ⟨_, _, _, h⟩ := h; exact absurd h.2.1 (by rw [fM_indices_b]; exact fun h => nomatch h)); (obtain ⟨_, _, _, h⟩ := h; exact absurd h.2.1 (by rw [fM_indices_b]; exact fun h => nomatch h))) (fun n ih x H locs ls hv => ?_) (fun key => ?_)
  · obtain ⟨lb, y6, y5, y4, y3, y1, y2, y8, y7, ws9, wc, wn⟩ := x
    rcases hv with ⟨adL, gdL, vadL, hj, hf, hP, hD, hS, hl, hE, hN⟩ | ⟨adL, gdL, vadL, hj, hf, hP, hD, hS, hl, hE, hN⟩
    · subst hj
      have hf : fM_indices_b d (n + 1) 1 y6 y5 y4 y3 y1 y2 y8 y7 ws9 wc wn = some out := hf
      rw [fM_indices_b, if_pos rfl] at hf
      obtain ⟨hP, hD⟩ : xPD D xcl A (xMw cT aM adL rd gdL vadL ws9 []) H := ⟨hP, hD⟩
      have hl : lv_has ls 9 [(6, .int y6), (5, .int y5), (4, .int y4), (3, .int y3), (0, .ref aM), (1, xv vadL y1), (2, xv vadL y2)] := hl
      refine W.eq (g2 := F0 m 95 ls []) rfl ?_
      show W p l e _ s m _ below meth c H locs wc wn _ _
      obtain ⟨hm0, hf⟩ := xmoE hf
      refine lv_iload hx hb dM_indices_95 (lv_at hl 0 rfl) ?_
      refine xm_aload_n hx hb (xvor _ _) dM_indices_97 rfl (lv_at hl 5 rfl) ?_
      obtain ⟨hg1, hf⟩ := xifn hf
      refine xm_vget (v := .int ((xpi ws9 3) (y1 - 1))) hx hb htx hown hK hP 3 (by decide) hg1 rfl ((hZ.1 (103, "count", "I") (List.mem_of_getElem? (i := 3) rfl)).use rfl) rfl dM_indices_98 ?_
      refine lv_icmp_ge (tgt := 241) hx hb dM_indices_101 (by decide) (fun hc => ?_) (fun hc => ?_)
      · rw [if_pos hc] at hf
        refine lv_aload_n hx hb dM_indices_241 rfl (lv_at hl 4 rfl) ?_
        refine lv_iconst (v := 5) hx hb dM_indices_242 (by decide) ?_
        refine lv_iload hx hb dM_indices_243 (lv_at hl 1 rfl) ?_
        obtain ⟨o2, hq3, hf⟩ := xbind hf
        have hl := lv_sub (l' := [(6, .int y6), (5, .int y5), (4, .int y4), (3, .int y3), (0, .ref aM)]) hl [0, 1, 2, 3, 4] rfl
        by_cases hk4 : o2.1 = 0
        · rw [if_pos hk4] at hf
          obtain ⟨hm5, hf⟩ := xmoE hf
          have hFc := xm_free hD hS hA
          refine va_callq (va_runV (C := "ValueBenchModel") (As := [.int 5, .int y5]) (rest := []) ⟨hx, hb, hml, hown, htx⟩ (gM_whole l hl9 D cT aK aV H.size n aM adL rd gdL vadL ws9 (5 : Int32) y5 o2 hq3 hk4) ⟨callB_of 2 htx (xw_goodC kw_6_106) rfl rfl rfl (htx _ kw_1_5) (htx _ kw_6_103) ⟨by decide, by decide, by decide +kernel⟩ ⟨Nat.le_of_ble_eq_true rfl, Nat.le_of_ble_eq_true rfl⟩, (htx _ kw_6_105), (htx _ kp_M_whole)⟩ ⟨xPre_blind, va_recv hK hP (ci := 5) rfl (q0 := 0) rfl, (fun U hU hW => ⟨rfl, xPre_of hZ hS hFc hP hD hK U hU hW⟩)⟩ rfl rfl hl.1 rfl (xm_room (Nat.le_of_ble_eq_true rfl)) dM_indices_245 ⟨hm5.1, hm5.2⟩) hS (fun q _ h => hFc q h) hFc (fun r6 u9 t H1 locs ht hvm hr9 hB hz1 hk1 hS => ?_)
          obtain ⟨hP1, hK1, hD1⟩ := hB
          rw [ht] at hP1
          obtain ⟨ad7, gd8, vad9⟩ := u9
          obtain ⟨hr9, hv10, hn11⟩ := hr9
          have hP : va_P D xcl (xMw cT aM ad7 rd gd8 vad9 o2.2.2.2.2 []) H1 := hP1
          have hD : va_D A (xMw cT aM ad7 rd gd8 vad9 o2.2.2.2.2 []) := hD1.weaken (fun k q _ h => hFc q.1 h)
          generalize H1 = H at hP hS ⊢
          have hE9 : ∀ p, p < xct st → vad9 p = vad p := fun p h => (hv10 p (Nat.lt_of_lt_of_le h hN)).trans (hE p h)
          have hE := hE9
          have hN : xct st ≤ xct o2.2.2.2.2 := Nat.le_trans hN hn11
          rw [hr9]
          refine W.eq (g2 := F0 m 248 ls [xv vad9 o2.2.2.2.1]) (by first | rfl | (skip; rfl)) ?_
          obtain rfl := Option.some.inj hf
          exact absurd (show (0 : Nat) = 1 from hkd) (by decide)
        rw [if_neg hk4] at hf
        by_cases hk12 : o2.1 = 1
        · rw [if_pos hk12] at hf
          obtain ⟨hm13, hf⟩ := xmoE hf
          obtain rfl := Option.some.inj hf
          exact absurd (show (2 : Nat) = 1 from hkd) (by decide)
        rw [if_neg hk12] at hf
        exact nomatch hf
      · rw [if_neg hc] at hf
        refine lv_iload_n hx hb dM_indices_104 rfl (lv_at hl 3 rfl) ?_
        refine lv_if_eq (tgt := 119) hx hb dM_indices_105 (by decide) (fun hc => ?_) (fun hc => ?_)
        · rw [if_pos hc] at hf
          refine lv_iload hx hb dM_indices_119 (lv_at hl 2 rfl) ?_
          refine lv_if_ne (tgt := 143) hx hb dM_indices_121 (by decide) (fun hc => ?_) (fun hc => ?_)
          · rw [if_neg hc] at hf
            refine lv_iconst (v := 0) hx hb dM_indices_143 (by decide) ?_
            refine lv_istore (lv' := [(7, .int 0), (6, .int y6), (5, .int y5), (4, .int y4), (3, .int y3), (0, .ref aM), (1, xv vadL y1), (2, xv vadL y2)]) hx hb dM_indices_144 hl (by decide) rfl (fun ls hl => ?_)
            refine lv_iload hx hb dM_indices_146 (lv_at hl 3 rfl) ?_
            refine lv_if_eq (tgt := 218) hx hb dM_indices_148 (by decide) (fun hc => ?_) (fun hc => ?_)
            · rw [if_pos hc] at hf
              refine lv_iload hx hb dM_indices_218 (lv_at hl 0 rfl) ?_
              refine lv_if_eq (tgt := 235) hx hb dM_indices_220 (by decide) (fun _ => ?_) (fun h => ((by revert h; decide : False)).elim)
              refine lv_iinc (v := (y6 + 1)) (lv' := [(6, .int (y6 + 1)), (7, .int 0), (5, .int y5), (4, .int y4), (3, .int y3), (0, .ref aM), (1, xv vadL y1), (2, xv vadL y2)]) hx hb dM_indices_235 hl (k := 1) rfl rfl (by decide) rfl (fun ls hl => ?_)
              refine lv_goto (tgt := 95) hx hb dM_indices_238 (by decide) ?_
              exact ih (1, (y6 + 1), y5, y4, y3, y1, y2, 0, (0 : Int32), ws9, wc, wn) _ _ ls (Or.inl ⟨adL, gdL, vadL, rfl, hf, hP, hD, hS, lv_sub hl [0, 2, 3, 4, 5, 6, 7] rfl, hE, hN⟩)
            · rw [if_neg hc] at hf
              refine lv_iload_n hx hb dM_indices_151 rfl (lv_at hl 4 rfl) ?_
              refine lv_if_ne (tgt := 218) hx hb dM_indices_152 (by decide) (fun hc => ?_) (fun hc => ?_)
              · rw [if_neg hc] at hf
                refine lv_iload hx hb dM_indices_218 (lv_at hl 0 rfl) ?_
                refine lv_if_eq (tgt := 235) hx hb dM_indices_220 (by decide) (fun _ => ?_) (fun h => ((by revert h; decide : False)).elim)
                refine lv_iinc (v := (y6 + 1)) (lv' := [(6, .int (y6 + 1)), (7, .int 0), (5, .int y5), (4, .int y4), (3, .int y3), (0, .ref aM), (1, xv vadL y1), (2, xv vadL y2)]) hx hb dM_indices_235 hl (k := 1) rfl rfl (by decide) rfl (fun ls hl => ?_)
                refine lv_goto (tgt := 95) hx hb dM_indices_238 (by decide) ?_
                exact ih (1, (y6 + 1), y5, y4, y3, y1, y2, 0, (0 : Int32), ws9, wc, wn) _ _ ls (Or.inl ⟨adL, gdL, vadL, rfl, hf, hP, hD, hS, lv_sub hl [0, 2, 3, 4, 5, 6, 7] rfl, hE, hN⟩)
              · rw [if_pos hc] at hf
                refine lv_iload hx hb dM_indices_155 (lv_at hl 1 rfl) ?_
                refine xm_aload_n hx hb (xvor _ _) dM_indices_157 rfl (lv_at hl 7 rfl) ?_
                obtain ⟨hg2, hf⟩ := xifn hf
                refine xm_vget (v := .int ((xpi ws9 3) (y2 - 1))) hx hb htx hown hK hP 3 (by decide) hg2 rfl ((hZ.1 (103, "count", "I") (List.mem_of_getElem? (i := 3) rfl)).use rfl) rfl dM_indices_158 ?_
                refine lv_iadd hx hb dM_indices_161 ?_
                refine xm_aload_n hx hb (xvor _ _) dM_indices_162 rfl (lv_at hl 6 rfl) ?_
                refine xm_vget (v := .int ((xpi ws9 3) (y1 - 1))) hx hb htx hown hK hP 3 (by decide) hg1 rfl ((hZ.1 (103, "count", "I") (List.mem_of_getElem? (i := 3) rfl)).use rfl) rfl dM_indices_163 ?_
                refine lv_icmp_gt (tgt := 218) hx hb dM_indices_166 (by decide) (fun hc => ?_) (fun hc => ?_)
                · rw [if_pos hc] at hf
                  refine lv_iload hx hb dM_indices_218 (lv_at hl 0 rfl) ?_
                  refine lv_if_eq (tgt := 235) hx hb dM_indices_220 (by decide) (fun _ => ?_) (fun h => ((by revert h; decide : False)).elim)
                  refine lv_iinc (v := (y6 + 1)) (lv' := [(6, .int (y6 + 1)), (7, .int 0), (5, .int y5), (4, .int y4), (3, .int y3), (0, .ref aM), (1, xv vadL y1), (2, xv vadL y2)]) hx hb dM_indices_235 hl (k := 1) rfl rfl (by decide) rfl (fun ls hl => ?_)
                  refine lv_goto (tgt := 95) hx hb dM_indices_238 (by decide) ?_
                  exact ih (1, (y6 + 1), y5, y4, y3, y1, y2, 0, (0 : Int32), ws9, wc, wn) _ _ ls (Or.inl ⟨adL, gdL, vadL, rfl, hf, hP, hD, hS, lv_sub hl [0, 2, 3, 4, 5, 6, 7] rfl, hE, hN⟩)
                · rw [if_neg hc] at hf
                  refine lv_iconst (v := 1) hx hb dM_indices_169 (by decide) ?_
                  refine lv_istore (lv' := [(7, .int 1), (6, .int y6), (5, .int y5), (4, .int y4), (3, .int y3), (0, .ref aM), (1, xv vadL y1), (2, xv vadL y2)]) hx hb dM_indices_170 hl (by decide) rfl (fun ls hl => ?_)
                  refine lv_iconst (v := 0) hx hb dM_indices_172 (by decide) ?_
                  refine lv_istore (lv' := [(8, .int 0), (7, .int 1), (6, .int y6), (5, .int y5), (4, .int y4), (3, .int y3), (0, .ref aM), (1, xv vadL y1), (2, xv vadL y2)]) hx hb dM_indices_173 hl (by decide) rfl (fun ls hl => ?_)
                  exact ih (2, y6, y5, y4, y3, y1, y2, (0 : Int32), (1 : Int32), ws9, wc, wn) _ _ ls (Or.inr (⟨adL, gdL, vadL, rfl, hf, hP, hD, hS, lv_sub hl [0, 1, 2, 3, 4, 5, 6, 7, 8] rfl, hE, hN⟩))
          · rw [if_pos hc] at hf
            refine lv_aload_n hx hb dM_indices_124 rfl (lv_at hl 4 rfl) ?_
            refine lv_aload_n hx hb dM_indices_125 rfl (lv_at hl 4 rfl) ?_
            refine xm_aload_n hx hb (xvor _ _) dM_indices_126 rfl (lv_at hl 5 rfl) ?_
            refine lv_iload hx hb dM_indices_127 (lv_at hl 0 rfl) ?_
            obtain ⟨o2, hq3, hf⟩ := xbind hf
            have hFc := xm_free hD hS hA
            refine va_callq (va_runV (C := "ValueBenchModel") (As := [xv vadL y1, .int y6]) (rest := [.ref aM]) ⟨hx, hb, hml, hown, htx⟩ (gM_kid l hl9 D cT aK aV H.size n aM adL rd gdL vadL ws9 y1 y6 o2 hq3) ⟨callB_of 2 htx (xw_goodC kw_6_158) rfl rfl rfl (htx _ kw_1_5) (htx _ kw_6_155) ⟨by decide, by decide, by decide +kernel⟩ ⟨Nat.le_of_ble_eq_true rfl, Nat.le_of_ble_eq_true rfl⟩, (htx _ kw_6_157), (htx _ kp_M_kid)⟩ ⟨xPre_blind, va_recv hK hP (ci := 5) rfl (q0 := 0) rfl, (fun U hU hW => ⟨rfl, xPre_of hZ hS hFc hP hD hK U hU hW⟩)⟩ rfl rfl hl.1 rfl (xm_room (Nat.le_of_ble_eq_true rfl)) dM_indices_129 ⟨hm0.1, hm0.2⟩) hS (fun q _ h => hFc q h) hFc (fun r4 u9 t H1 locs ht hvm hr9 hB hz1 hk1 hS => ?_)
            obtain ⟨hP1, hK1, hD1⟩ := hB
            rw [ht] at hP1
            have hP : va_P D xcl (xMw cT aM adL rd gdL vadL ws9 []) H1 := hP1
            have hD : va_D A (xMw cT aM adL rd gdL vadL ws9 []) := hD1.weaken (fun k q _ h => hFc q.1 h)
            generalize H1 = H at hP hS ⊢
            rw [hr9]
            refine W.eq (g2 := F0 m 132 ls [xv vadL o2, .ref aM]) (by first | rfl | (skip; rfl)) ?_
            refine xm_aload_n hx hb (xvor _ _) dM_indices_132 rfl (lv_at hl 6 rfl) ?_
            obtain ⟨o5, hq6, hf⟩ := xbind hf
            have hFc := xm_free hD hS hA
            refine va_calli (va_runV (C := "ValueBenchModel") (As := [xv vadL o2, xv vadL y2]) (rest := []) ⟨hx, hb, hml, hown, htx⟩ (gM_same1 l hl9 D cT aK aV d H.size n aM adL rd gdL vadL ws9 o2 y2 o5 hq6) ⟨callB_of 2 htx (xw_goodC kw_6_174) rfl rfl rfl (htx _ kw_1_5) (htx _ kw_6_171) ⟨by decide, by decide, by decide +kernel⟩ ⟨(by show (16 * d) + 1 ≤ 16 * d + 8; omega), (by show 8 + (5 + 11) + (400 * d) ≤ 400 * d + 147; omega)⟩, (htx _ kw_6_173), (htx _ kp_M_same1)⟩ ⟨xPre_blind, va_recv hK hP (ci := 5) rfl (q0 := 0) rfl, (fun U hU hW => ⟨rfl, xPre_of hZ hS hFc hP hD hK U hU hW⟩)⟩ rfl rfl hl.1 rfl (xm_room (Nat.le_of_ble_eq_true rfl)) dM_indices_133 ⟨hm0.1, hm0.2⟩) hS (fun q _ h => hFc q h) hFc (fun r7 u9 t H1 locs ht hvm hr9 hB hz1 hk1 hS => ?_)
            obtain ⟨hP1, hK1, hD1⟩ := hB
            rw [ht] at hP1
            have hP : va_P D xcl (xMw cT aM adL rd gdL vadL ws9 []) H1 := hP1
            have hD : va_D A (xMw cT aM adL rd gdL vadL ws9 []) := hD1.weaken (fun k q _ h => hFc q.1 h)
            generalize H1 = H at hP hS ⊢
            rw [hr9]
            refine W.eq (g2 := F0 m 136 ls [.int o5]) (by first | rfl | (skip; rfl)) ?_
            refine lv_if_eq (tgt := 143) hx hb dM_indices_136 (by decide) (fun hc => ?_) (fun hc => ?_)
            · rw [if_pos hc] at hf
              refine lv_iconst (v := 0) hx hb dM_indices_143 (by decide) ?_
              refine lv_istore (lv' := [(7, .int 0), (6, .int y6), (5, .int y5), (4, .int y4), (3, .int y3), (0, .ref aM), (1, xv vadL y1), (2, xv vadL y2)]) hx hb dM_indices_144 hl (by decide) rfl (fun ls hl => ?_)
              refine lv_iload hx hb dM_indices_146 (lv_at hl 3 rfl) ?_
              refine lv_if_eq (tgt := 218) hx hb dM_indices_148 (by decide) (fun hc => ?_) (fun hc => ?_)
              · rw [if_pos hc] at hf
                refine lv_iload hx hb dM_indices_218 (lv_at hl 0 rfl) ?_
                refine lv_if_eq (tgt := 235) hx hb dM_indices_220 (by decide) (fun _ => ?_) (fun h => ((by revert h; decide : False)).elim)
                refine lv_iinc (v := (y6 + 1)) (lv' := [(6, .int (y6 + 1)), (7, .int 0), (5, .int y5), (4, .int y4), (3, .int y3), (0, .ref aM), (1, xv vadL y1), (2, xv vadL y2)]) hx hb dM_indices_235 hl (k := 1) rfl rfl (by decide) rfl (fun ls hl => ?_)
                refine lv_goto (tgt := 95) hx hb dM_indices_238 (by decide) ?_
                exact ih (1, (y6 + 1), y5, y4, y3, y1, y2, 0, (0 : Int32), ws9, wc, wn) _ _ ls (Or.inl ⟨adL, gdL, vadL, rfl, hf, hP, hD, hS, lv_sub hl [0, 2, 3, 4, 5, 6, 7] rfl, hE, hN⟩)
              · rw [if_neg hc] at hf
                refine lv_iload_n hx hb dM_indices_151 rfl (lv_at hl 4 rfl) ?_
                refine lv_if_ne (tgt := 218) hx hb dM_indices_152 (by decide) (fun hc => ?_) (fun hc => ?_)
                · rw [if_neg hc] at hf
                  refine lv_iload hx hb dM_indices_218 (lv_at hl 0 rfl) ?_
                  refine lv_if_eq (tgt := 235) hx hb dM_indices_220 (by decide) (fun _ => ?_) (fun h => ((by revert h; decide : False)).elim)
                  refine lv_iinc (v := (y6 + 1)) (lv' := [(6, .int (y6 + 1)), (7, .int 0), (5, .int y5), (4, .int y4), (3, .int y3), (0, .ref aM), (1, xv vadL y1), (2, xv vadL y2)]) hx hb dM_indices_235 hl (k := 1) rfl rfl (by decide) rfl (fun ls hl => ?_)
                  refine lv_goto (tgt := 95) hx hb dM_indices_238 (by decide) ?_
                  exact ih (1, (y6 + 1), y5, y4, y3, y1, y2, 0, (0 : Int32), ws9, wc, wn) _ _ ls (Or.inl ⟨adL, gdL, vadL, rfl, hf, hP, hD, hS, lv_sub hl [0, 2, 3, 4, 5, 6, 7] rfl, hE, hN⟩)
                · rw [if_pos hc] at hf
                  refine lv_iload hx hb dM_indices_155 (lv_at hl 1 rfl) ?_
                  refine xm_aload_n hx hb (xvor _ _) dM_indices_157 rfl (lv_at hl 7 rfl) ?_
                  obtain ⟨hg8, hf⟩ := xifn hf
                  refine xm_vget (v := .int ((xpi ws9 3) (y2 - 1))) hx hb htx hown hK hP 3 (by decide) hg8 rfl ((hZ.1 (103, "count", "I") (List.mem_of_getElem? (i := 3) rfl)).use rfl) rfl dM_indices_158 ?_
                  refine lv_iadd hx hb dM_indices_161 ?_
                  refine xm_aload_n hx hb (xvor _ _) dM_indices_162 rfl (lv_at hl 6 rfl) ?_
                  refine xm_vget (v := .int ((xpi ws9 3) (y1 - 1))) hx hb htx hown hK hP 3 (by decide) hg1 rfl ((hZ.1 (103, "count", "I") (List.mem_of_getElem? (i := 3) rfl)).use rfl) rfl dM_indices_163 ?_
                  refine lv_icmp_gt (tgt := 218) hx hb dM_indices_166 (by decide) (fun hc => ?_) (fun hc => ?_)
                  · rw [if_pos hc] at hf
                    refine lv_iload hx hb dM_indices_218 (lv_at hl 0 rfl) ?_
                    refine lv_if_eq (tgt := 235) hx hb dM_indices_220 (by decide) (fun _ => ?_) (fun h => ((by revert h; decide : False)).elim)
                    refine lv_iinc (v := (y6 + 1)) (lv' := [(6, .int (y6 + 1)), (7, .int 0), (5, .int y5), (4, .int y4), (3, .int y3), (0, .ref aM), (1, xv vadL y1), (2, xv vadL y2)]) hx hb dM_indices_235 hl (k := 1) rfl rfl (by decide) rfl (fun ls hl => ?_)
                    refine lv_goto (tgt := 95) hx hb dM_indices_238 (by decide) ?_
                    exact ih (1, (y6 + 1), y5, y4, y3, y1, y2, 0, (0 : Int32), ws9, wc, wn) _ _ ls (Or.inl ⟨adL, gdL, vadL, rfl, hf, hP, hD, hS, lv_sub hl [0, 2, 3, 4, 5, 6, 7] rfl, hE, hN⟩)
                  · rw [if_neg hc] at hf
                    refine lv_iconst (v := 1) hx hb dM_indices_169 (by decide) ?_
                    refine lv_istore (lv' := [(7, .int 1), (6, .int y6), (5, .int y5), (4, .int y4), (3, .int y3), (0, .ref aM), (1, xv vadL y1), (2, xv vadL y2)]) hx hb dM_indices_170 hl (by decide) rfl (fun ls hl => ?_)
                    refine lv_iconst (v := 0) hx hb dM_indices_172 (by decide) ?_
                    refine lv_istore (lv' := [(8, .int 0), (7, .int 1), (6, .int y6), (5, .int y5), (4, .int y4), (3, .int y3), (0, .ref aM), (1, xv vadL y1), (2, xv vadL y2)]) hx hb dM_indices_173 hl (by decide) rfl (fun ls hl => ?_)
                    exact ih (2, y6, y5, y4, y3, y1, y2, (0 : Int32), (1 : Int32), ws9, wc, wn) _ _ ls (Or.inr (⟨adL, gdL, vadL, rfl, hf, hP, hD, hS, lv_sub hl [0, 1, 2, 3, 4, 5, 6, 7, 8] rfl, hE, hN⟩))
            · rw [if_neg hc] at hf
              refine lv_iconst (v := 1) hx hb dM_indices_139 (by decide) ?_
              refine lv_goto (tgt := 144) hx hb dM_indices_140 (by decide) ?_
              refine lv_istore (lv' := [(7, .int 1), (6, .int y6), (5, .int y5), (4, .int y4), (3, .int y3), (0, .ref aM), (1, xv vadL y1), (2, xv vadL y2)]) hx hb dM_indices_144 hl (by decide) rfl (fun ls hl => ?_)
              refine lv_iload hx hb dM_indices_146 (lv_at hl 3 rfl) ?_
              refine lv_if_eq (tgt := 218) hx hb dM_indices_148 (by decide) (fun hc => ?_) (fun hc => ?_)
              · rw [if_pos hc] at hf
                refine lv_iload hx hb dM_indices_218 (lv_at hl 0 rfl) ?_
                refine lv_if_eq (tgt := 235) hx hb dM_indices_220 (by decide) (fun h => ((by revert h; decide : False)).elim) (fun _ => ?_)
                refine lv_aload_n hx hb dM_indices_223 rfl (lv_at hl 5 rfl) ?_
                refine lv_null hx hb dM_indices_224 ?_
                refine lv_aload_n hx hb dM_indices_225 rfl (lv_at hl 5 rfl) ?_
                refine lv_iload hx hb dM_indices_226 (lv_at hl 1 rfl) ?_
                refine lv_i2l hx hb dM_indices_228 rfl ?_
                obtain ⟨o8, hq9, hf⟩ := xbind hf
                by_cases hk10 : o8.1 = 0
                · rw [if_pos hk10] at hf
                  obtain ⟨hg11, hf⟩ := xifn hf
                  obtain ⟨hm12, hf⟩ := xmoE hf
                  have hFc := xm_free hD hS hA
                  refine va_callq (va_runV (C := "ValueBenchModel") (As := [.long y6.toInt64]) (rest := [.null, .ref aM]) ⟨hx, hb, hml, hown, htx⟩ (gM_number l hl9 D cT aK aV H.size n aM adL rd gdL vadL ws9 y6.toInt64 o8 hq9 hk10) ⟨callB_of 1 htx (xw_goodC kw_6_88) rfl rfl rfl (htx _ kw_1_5) (htx _ kw_6_85) ⟨by decide, by decide, by decide +kernel⟩ ⟨Nat.le_of_ble_eq_true rfl, Nat.le_of_ble_eq_true rfl⟩, (htx _ kw_6_87), (htx _ kp_M_number)⟩ ⟨xPre_blind, va_recv hK hP (ci := 5) rfl (q0 := 0) rfl, (fun U hU hW => ⟨rfl, xPre_of hZ hS hFc hP hD hK U hU hW⟩)⟩ rfl rfl hl.1 rfl (xm_room (Nat.le_of_ble_eq_true rfl)) dM_indices_229 ⟨hm12.1, hm12.2⟩) hS (fun q _ h => hFc q h) hFc (fun r13 u9 t H1 locs ht hvm hr9 hB hz1 hk1 hS => ?_)
                  obtain ⟨hP1, hK1, hD1⟩ := hB
                  rw [ht] at hP1
                  obtain ⟨ad14, gd15, vad16⟩ := u9
                  obtain ⟨hr9, hv17, hn18⟩ := hr9
                  have hP : va_P D xcl (xMw cT aM ad14 rd gd15 vad16 o8.2.2.2.2 []) H1 := hP1
                  have hD : va_D A (xMw cT aM ad14 rd gd15 vad16 o8.2.2.2.2 []) := hD1.weaken (fun k q _ h => hFc q.1 h)
                  generalize H1 = H at hP hS ⊢
                  have hE9 : ∀ p, p < xct st → vad16 p = vad p := fun p h => (hv17 p (Nat.lt_of_lt_of_le h hN)).trans (hE p h)
                  have hE := hE9
                  have hN : xct st ≤ xct o8.2.2.2.2 := Nat.le_trans hN hn18
                  have ev19 : xv vadL y1 = xv vad16 y1 := xvE hv17 (fun h => hg1 (Or.inr h))
                  have ev20 : xv vadL y2 = xv vad16 y2 := xvE hv17 hg11
                  have hl : lv_has ls 9 [(7, .int 1), (6, .int y6), (5, .int y5), (4, .int y4), (3, .int y3), (0, .ref aM), (1, xv vad16 y1), (2, xv vad16 y2)] := by first | exact hl | ((try (rw [← ev19])); (try (rw [← ev20])); exact hl)
                  rw [hr9]
                  refine W.eq (g2 := F0 m 232 ls [xv vad16 o8.2.2.2.1, .null, .ref aM]) (by first | rfl | ((try (rw [ev19])); (try (rw [ev20])); rfl)) ?_
                  obtain ⟨o21, hq22, hf⟩ := xbind hf
                  obtain ⟨hg23, hf⟩ := xifn hf
                  obtain ⟨hg24, hf⟩ := xifn hf
                  obtain ⟨hm25, hf⟩ := xmoE hf
                  have hFc := xm_free hD hS hA
                  refine va_callv (va_runV (C := "ValueBenchModel") (As := [.null, xv vad16 o8.2.2.2.1]) (rest := []) ⟨hx, hb, hml, hown, htx⟩ (gM_wait l hl9 D cT aK aV H.size n aM ad14 rd gd15 vad16 o8.2.2.2.2 0 o8.2.2.2.1 o21 hq22) ⟨callB_of 2 htx (xw_goodC kw_6_112) rfl rfl rfl (htx _ kw_1_5) (htx _ kw_6_109) ⟨by decide, by decide, by decide +kernel⟩ ⟨Nat.le_of_ble_eq_true rfl, Nat.le_of_ble_eq_true rfl⟩, (htx _ kw_6_111), (htx _ kp_M_wait)⟩ ⟨xPre_blind, va_recv hK hP (ci := 5) rfl (q0 := 0) rfl, (fun U hU hW => ⟨rfl, xPre_of hZ hS hFc hP hD hK U hU hW⟩)⟩ rfl rfl hl.1 rfl (xm_room (Nat.le_of_ble_eq_true rfl)) dM_indices_232 ⟨hm25.1, hm25.2⟩) hS (fun q _ h => hFc q h) hFc (fun u9 t H1 locs ht hvm hr9 hB hz1 hk1 hS => ?_)
                  obtain ⟨hP1, hK1, hD1⟩ := hB
                  rw [ht] at hP1
                  obtain ⟨ad27, gd28, vad29⟩ := u9
                  obtain ⟨hv30, hn31⟩ := hr9
                  have hP : va_P D xcl (xMw cT aM ad27 rd gd28 vad29 o21.2.2 []) H1 := hP1
                  have hD : va_D A (xMw cT aM ad27 rd gd28 vad29 o21.2.2 []) := hD1.weaken (fun k q _ h => hFc q.1 h)
                  generalize H1 = H at hP hS ⊢
                  have hE9 : ∀ p, p < xct st → vad29 p = vad p := fun p h => (hv30 p (Nat.lt_of_lt_of_le h hN)).trans (hE p h)
                  have hE := hE9
                  have hN : xct st ≤ xct o21.2.2 := Nat.le_trans hN hn31
                  have ev32 : xv vad16 y1 = xv vad29 y1 := xvE hv30 hg23
                  have ev33 : xv vad16 y2 = xv vad29 y2 := xvE hv30 hg24
                  have hl : lv_has ls 9 [(7, .int 1), (6, .int y6), (5, .int y5), (4, .int y4), (3, .int y3), (0, .ref aM), (1, xv vad29 y1), (2, xv vad29 y2)] := by first | exact hl | ((try (rw [← ev32])); (try (rw [← ev33])); exact hl)
                  refine W.eq (g2 := F0 m 235 ls []) (by first | rfl | ((try (rw [ev32])); (try (rw [ev33])); rfl)) ?_
                  refine lv_iinc (v := (y6 + 1)) (lv' := [(6, .int (y6 + 1)), (7, .int 1), (5, .int y5), (4, .int y4), (3, .int y3), (0, .ref aM), (1, xv vad29 y1), (2, xv vad29 y2)]) hx hb dM_indices_235 hl (k := 1) rfl rfl (by decide) rfl (fun ls hl => ?_)
                  refine lv_goto (tgt := 95) hx hb dM_indices_238 (by decide) ?_
                  exact ih (1, (y6 + 1), y5, y4, y3, y1, y2, 0, (1 : Int32), o21.2.2, ((wc + o8.2.1) + o21.1), ((wn + o8.2.2.1) + o21.2.1)) _ _ ls (Or.inl ⟨ad27, gd28, vad29, rfl, hf, hP, hD, hS, lv_sub hl [0, 2, 3, 4, 5, 6, 7] rfl, hE, hN⟩)
                rw [if_neg hk10] at hf
                by_cases hk34 : o8.1 = 1
                · rw [if_pos hk34] at hf
                  obtain ⟨hg35, hf⟩ := xifn hf
                  obtain ⟨hm36, hf⟩ := xmoE hf
                  have hFc := xm_free hD hS hA
                  refine xx_thr (vx_runV (C := "ValueBenchModel") (As := [.long y6.toInt64]) (rest := [.null, .ref aM]) ⟨hx, hb, hml, hown, htx⟩ (gM_number_1 l hl9 D cT aK aV H.size n aM adL rd gdL vadL ws9 y6.toInt64 o8 hq9 hk34) ⟨callB_of 1 htx (xw_goodC kw_6_88) rfl rfl rfl (htx _ kw_1_5) (htx _ kw_6_85) ⟨by decide, by decide, by decide +kernel⟩ ⟨Nat.le_of_ble_eq_true rfl, Nat.le_of_ble_eq_true rfl⟩, (htx _ kw_6_87), (htx _ kp_M_number)⟩ ⟨xPre_blind, va_recv hK hP (ci := 5) rfl (q0 := 0) rfl, (fun U hU hW => ⟨rfl, xPre_of hZ hS hFc hP hD hK U hU hW⟩)⟩ rfl rfl hl.1 rfl (xm_room (Nat.le_of_ble_eq_true rfl)) dM_indices_229 ⟨hm36.1, hm36.2⟩) hS hFc (fun q _ h => hFc q h) (fun E ce q9 u9 t H1 locs ht hvm hr9 hB hz1 hk1 hS hce hcv hcl => ?_)
                  obtain ⟨rfl, hP1, hK1, hD1⟩ := hB
                  rw [ht] at hP1
                  obtain ⟨ad38, gd39, vad40⟩ := u9
                  obtain ⟨hv41, hn42⟩ := hr9
                  have hP : va_P D xcl (xMw cT aM ad38 rd gd39 vad40 o8.2.2.2.2 []) H1 := hP1
                  have hD : va_D A (xMw cT aM ad38 rd gd39 vad40 o8.2.2.2.2 []) := hD1.weaken (fun k q _ h => hFc q.1 h)
                  generalize H1 = H at hP hS hce ⊢
                  have hE9 : ∀ p, p < xct st → vad40 p = vad p := fun p h => (hv41 p (Nat.lt_of_lt_of_le h hN)).trans (hE p h)
                  have hE := hE9
                  have hN : xct st ≤ xct o8.2.2.2.2 := Nat.le_trans hN hn42
                  have ev43 : xv vadL y1 = xv vad40 y1 := xvE hv41 (fun h => hg1 (Or.inr h))
                  have ev44 : xv vadL y2 = xv vad40 y2 := xvE hv41 hg35
                  have hl : lv_has ls 9 [(7, .int 1), (6, .int y6), (5, .int y5), (4, .int y4), (3, .int y3), (0, .ref aM), (1, xv vad40 y1), (2, xv vad40 y2)] := by first | exact hl | ((try (rw [← ev43])); (try (rw [← ev44])); exact hl)
                  obtain rfl := Option.some.inj hf
                  exact vx_out (E := "java/lang/ArithmeticException") (fun x h => (hne x h).elim) hlocks hce hcv hcl (fun t ht ha => ⟨(ad38, gd39, vad40), ⟨hE, hN⟩, ⟨rfl, by rw [ht]; exact hP, va_K.moved ha hK, hD⟩, hS.F ht⟩) hS.2.2 (Nat.le_refl _) (Nat.le_refl _)
                rw [if_neg hk34] at hf
                exact nomatch hf
              · rw [if_neg hc] at hf
                refine lv_iload_n hx hb dM_indices_151 rfl (lv_at hl 4 rfl) ?_
                refine lv_if_ne (tgt := 218) hx hb dM_indices_152 (by decide) (fun hc => ?_) (fun hc => ?_)
                · rw [if_neg hc] at hf
                  refine lv_iload hx hb dM_indices_218 (lv_at hl 0 rfl) ?_
                  refine lv_if_eq (tgt := 235) hx hb dM_indices_220 (by decide) (fun h => ((by revert h; decide : False)).elim) (fun _ => ?_)
                  refine lv_aload_n hx hb dM_indices_223 rfl (lv_at hl 5 rfl) ?_
                  refine lv_null hx hb dM_indices_224 ?_
                  refine lv_aload_n hx hb dM_indices_225 rfl (lv_at hl 5 rfl) ?_
                  refine lv_iload hx hb dM_indices_226 (lv_at hl 1 rfl) ?_
                  refine lv_i2l hx hb dM_indices_228 rfl ?_
                  obtain ⟨o8, hq9, hf⟩ := xbind hf
                  by_cases hk10 : o8.1 = 0
                  · rw [if_pos hk10] at hf
                    obtain ⟨hg11, hf⟩ := xifn hf
                    obtain ⟨hm12, hf⟩ := xmoE hf
                    have hFc := xm_free hD hS hA
                    refine va_callq (va_runV (C := "ValueBenchModel") (As := [.long y6.toInt64]) (rest := [.null, .ref aM]) ⟨hx, hb, hml, hown, htx⟩ (gM_number l hl9 D cT aK aV H.size n aM adL rd gdL vadL ws9 y6.toInt64 o8 hq9 hk10) ⟨callB_of 1 htx (xw_goodC kw_6_88) rfl rfl rfl (htx _ kw_1_5) (htx _ kw_6_85) ⟨by decide, by decide, by decide +kernel⟩ ⟨Nat.le_of_ble_eq_true rfl, Nat.le_of_ble_eq_true rfl⟩, (htx _ kw_6_87), (htx _ kp_M_number)⟩ ⟨xPre_blind, va_recv hK hP (ci := 5) rfl (q0 := 0) rfl, (fun U hU hW => ⟨rfl, xPre_of hZ hS hFc hP hD hK U hU hW⟩)⟩ rfl rfl hl.1 rfl (xm_room (Nat.le_of_ble_eq_true rfl)) dM_indices_229 ⟨hm12.1, hm12.2⟩) hS (fun q _ h => hFc q h) hFc (fun r13 u9 t H1 locs ht hvm hr9 hB hz1 hk1 hS => ?_)
                    obtain ⟨hP1, hK1, hD1⟩ := hB
                    rw [ht] at hP1
                    obtain ⟨ad14, gd15, vad16⟩ := u9
                    obtain ⟨hr9, hv17, hn18⟩ := hr9
                    have hP : va_P D xcl (xMw cT aM ad14 rd gd15 vad16 o8.2.2.2.2 []) H1 := hP1
                    have hD : va_D A (xMw cT aM ad14 rd gd15 vad16 o8.2.2.2.2 []) := hD1.weaken (fun k q _ h => hFc q.1 h)
                    generalize H1 = H at hP hS ⊢
                    have hE9 : ∀ p, p < xct st → vad16 p = vad p := fun p h => (hv17 p (Nat.lt_of_lt_of_le h hN)).trans (hE p h)
                    have hE := hE9
                    have hN : xct st ≤ xct o8.2.2.2.2 := Nat.le_trans hN hn18
                    have ev19 : xv vadL y1 = xv vad16 y1 := xvE hv17 (fun h => hg1 (Or.inr h))
                    have ev20 : xv vadL y2 = xv vad16 y2 := xvE hv17 hg11
                    have hl : lv_has ls 9 [(7, .int 1), (6, .int y6), (5, .int y5), (4, .int y4), (3, .int y3), (0, .ref aM), (1, xv vad16 y1), (2, xv vad16 y2)] := by first | exact hl | ((try (rw [← ev19])); (try (rw [← ev20])); exact hl)
                    rw [hr9]
                    refine W.eq (g2 := F0 m 232 ls [xv vad16 o8.2.2.2.1, .null, .ref aM]) (by first | rfl | ((try (rw [ev19])); (try (rw [ev20])); rfl)) ?_
                    obtain ⟨o21, hq22, hf⟩ := xbind hf
                    obtain ⟨hg23, hf⟩ := xifn hf
                    obtain ⟨hg24, hf⟩ := xifn hf
                    obtain ⟨hm25, hf⟩ := xmoE hf
                    have hFc := xm_free hD hS hA
                    refine va_callv (va_runV (C := "ValueBenchModel") (As := [.null, xv vad16 o8.2.2.2.1]) (rest := []) ⟨hx, hb, hml, hown, htx⟩ (gM_wait l hl9 D cT aK aV H.size n aM ad14 rd gd15 vad16 o8.2.2.2.2 0 o8.2.2.2.1 o21 hq22) ⟨callB_of 2 htx (xw_goodC kw_6_112) rfl rfl rfl (htx _ kw_1_5) (htx _ kw_6_109) ⟨by decide, by decide, by decide +kernel⟩ ⟨Nat.le_of_ble_eq_true rfl, Nat.le_of_ble_eq_true rfl⟩, (htx _ kw_6_111), (htx _ kp_M_wait)⟩ ⟨xPre_blind, va_recv hK hP (ci := 5) rfl (q0 := 0) rfl, (fun U hU hW => ⟨rfl, xPre_of hZ hS hFc hP hD hK U hU hW⟩)⟩ rfl rfl hl.1 rfl (xm_room (Nat.le_of_ble_eq_true rfl)) dM_indices_232 ⟨hm25.1, hm25.2⟩) hS (fun q _ h => hFc q h) hFc (fun u9 t H1 locs ht hvm hr9 hB hz1 hk1 hS => ?_)
                    obtain ⟨hP1, hK1, hD1⟩ := hB
                    rw [ht] at hP1
                    obtain ⟨ad27, gd28, vad29⟩ := u9
                    obtain ⟨hv30, hn31⟩ := hr9
                    have hP : va_P D xcl (xMw cT aM ad27 rd gd28 vad29 o21.2.2 []) H1 := hP1
                    have hD : va_D A (xMw cT aM ad27 rd gd28 vad29 o21.2.2 []) := hD1.weaken (fun k q _ h => hFc q.1 h)
                    generalize H1 = H at hP hS ⊢
                    have hE9 : ∀ p, p < xct st → vad29 p = vad p := fun p h => (hv30 p (Nat.lt_of_lt_of_le h hN)).trans (hE p h)
                    have hE := hE9
                    have hN : xct st ≤ xct o21.2.2 := Nat.le_trans hN hn31
                    have ev32 : xv vad16 y1 = xv vad29 y1 := xvE hv30 hg23
                    have ev33 : xv vad16 y2 = xv vad29 y2 := xvE hv30 hg24
                    have hl : lv_has ls 9 [(7, .int 1), (6, .int y6), (5, .int y5), (4, .int y4), (3, .int y3), (0, .ref aM), (1, xv vad29 y1), (2, xv vad29 y2)] := by first | exact hl | ((try (rw [← ev32])); (try (rw [← ev33])); exact hl)
                    refine W.eq (g2 := F0 m 235 ls []) (by first | rfl | ((try (rw [ev32])); (try (rw [ev33])); rfl)) ?_
                    refine lv_iinc (v := (y6 + 1)) (lv' := [(6, .int (y6 + 1)), (7, .int 1), (5, .int y5), (4, .int y4), (3, .int y3), (0, .ref aM), (1, xv vad29 y1), (2, xv vad29 y2)]) hx hb dM_indices_235 hl (k := 1) rfl rfl (by decide) rfl (fun ls hl => ?_)
                    refine lv_goto (tgt := 95) hx hb dM_indices_238 (by decide) ?_
                    exact ih (1, (y6 + 1), y5, y4, y3, y1, y2, 0, (1 : Int32), o21.2.2, ((wc + o8.2.1) + o21.1), ((wn + o8.2.2.1) + o21.2.1)) _ _ ls (Or.inl ⟨ad27, gd28, vad29, rfl, hf, hP, hD, hS, lv_sub hl [0, 2, 3, 4, 5, 6, 7] rfl, hE, hN⟩)
                  rw [if_neg hk10] at hf
                  by_cases hk34 : o8.1 = 1
                  · rw [if_pos hk34] at hf
                    obtain ⟨hg35, hf⟩ := xifn hf
                    obtain ⟨hm36, hf⟩ := xmoE hf
                    have hFc := xm_free hD hS hA
                    refine xx_thr (vx_runV (C := "ValueBenchModel") (As := [.long y6.toInt64]) (rest := [.null, .ref aM]) ⟨hx, hb, hml, hown, htx⟩ (gM_number_1 l hl9 D cT aK aV H.size n aM adL rd gdL vadL ws9 y6.toInt64 o8 hq9 hk34) ⟨callB_of 1 htx (xw_goodC kw_6_88) rfl rfl rfl (htx _ kw_1_5) (htx _ kw_6_85) ⟨by decide, by decide, by decide +kernel⟩ ⟨Nat.le_of_ble_eq_true rfl, Nat.le_of_ble_eq_true rfl⟩, (htx _ kw_6_87), (htx _ kp_M_number)⟩ ⟨xPre_blind, va_recv hK hP (ci := 5) rfl (q0 := 0) rfl, (fun U hU hW => ⟨rfl, xPre_of hZ hS hFc hP hD hK U hU hW⟩)⟩ rfl rfl hl.1 rfl (xm_room (Nat.le_of_ble_eq_true rfl)) dM_indices_229 ⟨hm36.1, hm36.2⟩) hS hFc (fun q _ h => hFc q h) (fun E ce q9 u9 t H1 locs ht hvm hr9 hB hz1 hk1 hS hce hcv hcl => ?_)
                    obtain ⟨rfl, hP1, hK1, hD1⟩ := hB
                    rw [ht] at hP1
                    obtain ⟨ad38, gd39, vad40⟩ := u9
                    obtain ⟨hv41, hn42⟩ := hr9
                    have hP : va_P D xcl (xMw cT aM ad38 rd gd39 vad40 o8.2.2.2.2 []) H1 := hP1
                    have hD : va_D A (xMw cT aM ad38 rd gd39 vad40 o8.2.2.2.2 []) := hD1.weaken (fun k q _ h => hFc q.1 h)
                    generalize H1 = H at hP hS hce ⊢
                    have hE9 : ∀ p, p < xct st → vad40 p = vad p := fun p h => (hv41 p (Nat.lt_of_lt_of_le h hN)).trans (hE p h)
                    have hE := hE9
                    have hN : xct st ≤ xct o8.2.2.2.2 := Nat.le_trans hN hn42
                    have ev43 : xv vadL y1 = xv vad40 y1 := xvE hv41 (fun h => hg1 (Or.inr h))
                    have ev44 : xv vadL y2 = xv vad40 y2 := xvE hv41 hg35
                    have hl : lv_has ls 9 [(7, .int 1), (6, .int y6), (5, .int y5), (4, .int y4), (3, .int y3), (0, .ref aM), (1, xv vad40 y1), (2, xv vad40 y2)] := by first | exact hl | ((try (rw [← ev43])); (try (rw [← ev44])); exact hl)
                    obtain rfl := Option.some.inj hf
                    exact vx_out (E := "java/lang/ArithmeticException") (fun x h => (hne x h).elim) hlocks hce hcv hcl (fun t ht ha => ⟨(ad38, gd39, vad40), ⟨hE, hN⟩, ⟨rfl, by rw [ht]; exact hP, va_K.moved ha hK, hD⟩, hS.F ht⟩) hS.2.2 (Nat.le_refl _) (Nat.le_refl _)
                  rw [if_neg hk34] at hf
                  exact nomatch hf
                · rw [if_pos hc] at hf
                  refine lv_iload hx hb dM_indices_155 (lv_at hl 1 rfl) ?_
                  refine xm_aload_n hx hb (xvor _ _) dM_indices_157 rfl (lv_at hl 7 rfl) ?_
                  obtain ⟨hg8, hf⟩ := xifn hf
                  refine xm_vget (v := .int ((xpi ws9 3) (y2 - 1))) hx hb htx hown hK hP 3 (by decide) hg8 rfl ((hZ.1 (103, "count", "I") (List.mem_of_getElem? (i := 3) rfl)).use rfl) rfl dM_indices_158 ?_
                  refine lv_iadd hx hb dM_indices_161 ?_
                  refine xm_aload_n hx hb (xvor _ _) dM_indices_162 rfl (lv_at hl 6 rfl) ?_
                  refine xm_vget (v := .int ((xpi ws9 3) (y1 - 1))) hx hb htx hown hK hP 3 (by decide) hg1 rfl ((hZ.1 (103, "count", "I") (List.mem_of_getElem? (i := 3) rfl)).use rfl) rfl dM_indices_163 ?_
                  refine lv_icmp_gt (tgt := 218) hx hb dM_indices_166 (by decide) (fun hc => ?_) (fun hc => ?_)
                  · rw [if_pos hc] at hf
                    refine lv_iload hx hb dM_indices_218 (lv_at hl 0 rfl) ?_
                    refine lv_if_eq (tgt := 235) hx hb dM_indices_220 (by decide) (fun h => ((by revert h; decide : False)).elim) (fun _ => ?_)
                    refine lv_aload_n hx hb dM_indices_223 rfl (lv_at hl 5 rfl) ?_
                    refine lv_null hx hb dM_indices_224 ?_
                    refine lv_aload_n hx hb dM_indices_225 rfl (lv_at hl 5 rfl) ?_
                    refine lv_iload hx hb dM_indices_226 (lv_at hl 1 rfl) ?_
                    refine lv_i2l hx hb dM_indices_228 rfl ?_
                    obtain ⟨o9, hq10, hf⟩ := xbind hf
                    by_cases hk11 : o9.1 = 0
                    · rw [if_pos hk11] at hf
                      obtain ⟨hm12, hf⟩ := xmoE hf
                      have hFc := xm_free hD hS hA
                      refine va_callq (va_runV (C := "ValueBenchModel") (As := [.long y6.toInt64]) (rest := [.null, .ref aM]) ⟨hx, hb, hml, hown, htx⟩ (gM_number l hl9 D cT aK aV H.size n aM adL rd gdL vadL ws9 y6.toInt64 o9 hq10 hk11) ⟨callB_of 1 htx (xw_goodC kw_6_88) rfl rfl rfl (htx _ kw_1_5) (htx _ kw_6_85) ⟨by decide, by decide, by decide +kernel⟩ ⟨Nat.le_of_ble_eq_true rfl, Nat.le_of_ble_eq_true rfl⟩, (htx _ kw_6_87), (htx _ kp_M_number)⟩ ⟨xPre_blind, va_recv hK hP (ci := 5) rfl (q0 := 0) rfl, (fun U hU hW => ⟨rfl, xPre_of hZ hS hFc hP hD hK U hU hW⟩)⟩ rfl rfl hl.1 rfl (xm_room (Nat.le_of_ble_eq_true rfl)) dM_indices_229 ⟨hm12.1, hm12.2⟩) hS (fun q _ h => hFc q h) hFc (fun r13 u9 t H1 locs ht hvm hr9 hB hz1 hk1 hS => ?_)
                      obtain ⟨hP1, hK1, hD1⟩ := hB
                      rw [ht] at hP1
                      obtain ⟨ad14, gd15, vad16⟩ := u9
                      obtain ⟨hr9, hv17, hn18⟩ := hr9
                      have hP : va_P D xcl (xMw cT aM ad14 rd gd15 vad16 o9.2.2.2.2 []) H1 := hP1
                      have hD : va_D A (xMw cT aM ad14 rd gd15 vad16 o9.2.2.2.2 []) := hD1.weaken (fun k q _ h => hFc q.1 h)
                      generalize H1 = H at hP hS ⊢
                      have hE9 : ∀ p, p < xct st → vad16 p = vad p := fun p h => (hv17 p (Nat.lt_of_lt_of_le h hN)).trans (hE p h)
                      have hE := hE9
                      have hN : xct st ≤ xct o9.2.2.2.2 := Nat.le_trans hN hn18
                      have ev19 : xv vadL y1 = xv vad16 y1 := xvE hv17 (fun h => hg1 (Or.inr h))
                      have ev20 : xv vadL y2 = xv vad16 y2 := xvE hv17 (fun h => hg8 (Or.inr h))
                      have hl : lv_has ls 9 [(7, .int 1), (6, .int y6), (5, .int y5), (4, .int y4), (3, .int y3), (0, .ref aM), (1, xv vad16 y1), (2, xv vad16 y2)] := by first | exact hl | ((try (rw [← ev19])); (try (rw [← ev20])); exact hl)
                      rw [hr9]
                      refine W.eq (g2 := F0 m 232 ls [xv vad16 o9.2.2.2.1, .null, .ref aM]) (by first | rfl | ((try (rw [ev19])); (try (rw [ev20])); rfl)) ?_
                      obtain ⟨o21, hq22, hf⟩ := xbind hf
                      obtain ⟨hg23, hf⟩ := xifn hf
                      obtain ⟨hg24, hf⟩ := xifn hf
                      obtain ⟨hm25, hf⟩ := xmoE hf
                      have hFc := xm_free hD hS hA
                      refine va_callv (va_runV (C := "ValueBenchModel") (As := [.null, xv vad16 o9.2.2.2.1]) (rest := []) ⟨hx, hb, hml, hown, htx⟩ (gM_wait l hl9 D cT aK aV H.size n aM ad14 rd gd15 vad16 o9.2.2.2.2 0 o9.2.2.2.1 o21 hq22) ⟨callB_of 2 htx (xw_goodC kw_6_112) rfl rfl rfl (htx _ kw_1_5) (htx _ kw_6_109) ⟨by decide, by decide, by decide +kernel⟩ ⟨Nat.le_of_ble_eq_true rfl, Nat.le_of_ble_eq_true rfl⟩, (htx _ kw_6_111), (htx _ kp_M_wait)⟩ ⟨xPre_blind, va_recv hK hP (ci := 5) rfl (q0 := 0) rfl, (fun U hU hW => ⟨rfl, xPre_of hZ hS hFc hP hD hK U hU hW⟩)⟩ rfl rfl hl.1 rfl (xm_room (Nat.le_of_ble_eq_true rfl)) dM_indices_232 ⟨hm25.1, hm25.2⟩) hS (fun q _ h => hFc q h) hFc (fun u9 t H1 locs ht hvm hr9 hB hz1 hk1 hS => ?_)
                      obtain ⟨hP1, hK1, hD1⟩ := hB
                      rw [ht] at hP1
                      obtain ⟨ad27, gd28, vad29⟩ := u9
                      obtain ⟨hv30, hn31⟩ := hr9
                      have hP : va_P D xcl (xMw cT aM ad27 rd gd28 vad29 o21.2.2 []) H1 := hP1
                      have hD : va_D A (xMw cT aM ad27 rd gd28 vad29 o21.2.2 []) := hD1.weaken (fun k q _ h => hFc q.1 h)
                      generalize H1 = H at hP hS ⊢
                      have hE9 : ∀ p, p < xct st → vad29 p = vad p := fun p h => (hv30 p (Nat.lt_of_lt_of_le h hN)).trans (hE p h)
                      have hE := hE9
                      have hN : xct st ≤ xct o21.2.2 := Nat.le_trans hN hn31
                      have ev32 : xv vad16 y1 = xv vad29 y1 := xvE hv30 hg23
                      have ev33 : xv vad16 y2 = xv vad29 y2 := xvE hv30 hg24
                      have hl : lv_has ls 9 [(7, .int 1), (6, .int y6), (5, .int y5), (4, .int y4), (3, .int y3), (0, .ref aM), (1, xv vad29 y1), (2, xv vad29 y2)] := by first | exact hl | ((try (rw [← ev32])); (try (rw [← ev33])); exact hl)
                      refine W.eq (g2 := F0 m 235 ls []) (by first | rfl | ((try (rw [ev32])); (try (rw [ev33])); rfl)) ?_
                      refine lv_iinc (v := (y6 + 1)) (lv' := [(6, .int (y6 + 1)), (7, .int 1), (5, .int y5), (4, .int y4), (3, .int y3), (0, .ref aM), (1, xv vad29 y1), (2, xv vad29 y2)]) hx hb dM_indices_235 hl (k := 1) rfl rfl (by decide) rfl (fun ls hl => ?_)
                      refine lv_goto (tgt := 95) hx hb dM_indices_238 (by decide) ?_
                      exact ih (1, (y6 + 1), y5, y4, y3, y1, y2, 0, (1 : Int32), o21.2.2, ((wc + o9.2.1) + o21.1), ((wn + o9.2.2.1) + o21.2.1)) _ _ ls (Or.inl ⟨ad27, gd28, vad29, rfl, hf, hP, hD, hS, lv_sub hl [0, 2, 3, 4, 5, 6, 7] rfl, hE, hN⟩)
                    rw [if_neg hk11] at hf
                    by_cases hk34 : o9.1 = 1
                    · rw [if_pos hk34] at hf
                      obtain ⟨hm35, hf⟩ := xmoE hf
                      have hFc := xm_free hD hS hA
                      refine xx_thr (vx_runV (C := "ValueBenchModel") (As := [.long y6.toInt64]) (rest := [.null, .ref aM]) ⟨hx, hb, hml, hown, htx⟩ (gM_number_1 l hl9 D cT aK aV H.size n aM adL rd gdL vadL ws9 y6.toInt64 o9 hq10 hk34) ⟨callB_of 1 htx (xw_goodC kw_6_88) rfl rfl rfl (htx _ kw_1_5) (htx _ kw_6_85) ⟨by decide, by decide, by decide +kernel⟩ ⟨Nat.le_of_ble_eq_true rfl, Nat.le_of_ble_eq_true rfl⟩, (htx _ kw_6_87), (htx _ kp_M_number)⟩ ⟨xPre_blind, va_recv hK hP (ci := 5) rfl (q0 := 0) rfl, (fun U hU hW => ⟨rfl, xPre_of hZ hS hFc hP hD hK U hU hW⟩)⟩ rfl rfl hl.1 rfl (xm_room (Nat.le_of_ble_eq_true rfl)) dM_indices_229 ⟨hm35.1, hm35.2⟩) hS hFc (fun q _ h => hFc q h) (fun E ce q9 u9 t H1 locs ht hvm hr9 hB hz1 hk1 hS hce hcv hcl => ?_)
                      obtain ⟨rfl, hP1, hK1, hD1⟩ := hB
                      rw [ht] at hP1
                      obtain ⟨ad37, gd38, vad39⟩ := u9
                      obtain ⟨hv40, hn41⟩ := hr9
                      have hP : va_P D xcl (xMw cT aM ad37 rd gd38 vad39 o9.2.2.2.2 []) H1 := hP1
                      have hD : va_D A (xMw cT aM ad37 rd gd38 vad39 o9.2.2.2.2 []) := hD1.weaken (fun k q _ h => hFc q.1 h)
                      generalize H1 = H at hP hS hce ⊢
                      have hE9 : ∀ p, p < xct st → vad39 p = vad p := fun p h => (hv40 p (Nat.lt_of_lt_of_le h hN)).trans (hE p h)
                      have hE := hE9
                      have hN : xct st ≤ xct o9.2.2.2.2 := Nat.le_trans hN hn41
                      have ev42 : xv vadL y1 = xv vad39 y1 := xvE hv40 (fun h => hg1 (Or.inr h))
                      have ev43 : xv vadL y2 = xv vad39 y2 := xvE hv40 (fun h => hg8 (Or.inr h))
                      have hl : lv_has ls 9 [(7, .int 1), (6, .int y6), (5, .int y5), (4, .int y4), (3, .int y3), (0, .ref aM), (1, xv vad39 y1), (2, xv vad39 y2)] := by first | exact hl | ((try (rw [← ev42])); (try (rw [← ev43])); exact hl)
                      obtain rfl := Option.some.inj hf
                      exact vx_out (E := "java/lang/ArithmeticException") (fun x h => (hne x h).elim) hlocks hce hcv hcl (fun t ht ha => ⟨(ad37, gd38, vad39), ⟨hE, hN⟩, ⟨rfl, by rw [ht]; exact hP, va_K.moved ha hK, hD⟩, hS.F ht⟩) hS.2.2 (Nat.le_refl _) (Nat.le_refl _)
                    rw [if_neg hk34] at hf
                    exact nomatch hf
                  · rw [if_neg hc] at hf
                    refine lv_iconst (v := 1) hx hb dM_indices_169 (by decide) ?_
                    refine lv_istore (lv' := [(7, .int 1), (6, .int y6), (5, .int y5), (4, .int y4), (3, .int y3), (0, .ref aM), (1, xv vadL y1), (2, xv vadL y2)]) hx hb dM_indices_170 hl (by decide) rfl (fun ls hl => ?_)
                    refine lv_iconst (v := 0) hx hb dM_indices_172 (by decide) ?_
                    refine lv_istore (lv' := [(8, .int 0), (7, .int 1), (6, .int y6), (5, .int y5), (4, .int y4), (3, .int y3), (0, .ref aM), (1, xv vadL y1), (2, xv vadL y2)]) hx hb dM_indices_173 hl (by decide) rfl (fun ls hl => ?_)
                    exact ih (2, y6, y5, y4, y3, y1, y2, (0 : Int32), (1 : Int32), ws9, wc, wn) _ _ ls (Or.inr (⟨adL, gdL, vadL, rfl, hf, hP, hD, hS, lv_sub hl [0, 1, 2, 3, 4, 5, 6, 7, 8] rfl, hE, hN⟩))
        · rw [if_neg hc] at hf
          refine lv_aload_n hx hb dM_indices_108 rfl (lv_at hl 4 rfl) ?_
          refine xm_aload_n hx hb (xvor _ _) dM_indices_109 rfl (lv_at hl 5 rfl) ?_
          refine xm_aload_n hx hb (xvor _ _) dM_indices_110 rfl (lv_at hl 6 rfl) ?_
          refine lv_iload hx hb dM_indices_111 (lv_at hl 0 rfl) ?_
          obtain ⟨o2, hq3, hf⟩ := xbind hf
          have hFc := xm_free hD hS hA
          refine va_calli (va_runV (C := "ValueBenchModel") (As := [xv vadL y1, xv vadL y2, .int y6]) (rest := []) ⟨hx, hb, hml, hown, htx⟩ (gM_begins l hl9 D cT aK aV H.size n aM adL rd gdL vadL ws9 y1 y2 y6 o2 hq3) ⟨callB_of 3 htx (xw_goodC kw_7_95) rfl rfl rfl (htx _ kw_1_5) (htx _ kw_7_92) ⟨by decide, by decide, by decide +kernel⟩ ⟨Nat.le_of_ble_eq_true rfl, Nat.le_of_ble_eq_true rfl⟩, (htx _ kw_7_94), (htx _ kp_M_begins)⟩ ⟨xPre_blind, va_recv hK hP (ci := 5) rfl (q0 := 0) rfl, (fun U hU hW => ⟨rfl, xPre_of hZ hS hFc hP hD hK U hU hW⟩)⟩ rfl rfl hl.1 rfl (xm_room (Nat.le_of_ble_eq_true rfl)) dM_indices_113 ⟨hm0.1, hm0.2⟩) hS (fun q _ h => hFc q h) hFc (fun r4 u9 t H1 locs ht hvm hr9 hB hz1 hk1 hS => ?_)
          obtain ⟨hP1, hK1, hD1⟩ := hB
          rw [ht] at hP1
          have hP : va_P D xcl (xMw cT aM adL rd gdL vadL ws9 []) H1 := hP1
          have hD : va_D A (xMw cT aM adL rd gdL vadL ws9 []) := hD1.weaken (fun k q _ h => hFc q.1 h)
          generalize H1 = H at hP hS ⊢
          rw [hr9]
          refine W.eq (g2 := F0 m 116 ls [.int o2]) (by first | rfl | (skip; rfl)) ?_
          refine lv_goto (tgt := 144) hx hb dM_indices_116 (by decide) ?_
          refine lv_istore (lv' := [(7, .int o2), (6, .int y6), (5, .int y5), (4, .int y4), (3, .int y3), (0, .ref aM), (1, xv vadL y1), (2, xv vadL y2)]) hx hb dM_indices_144 hl (by decide) rfl (fun ls hl => ?_)
          refine lv_iload hx hb dM_indices_146 (lv_at hl 3 rfl) ?_
          refine lv_if_eq (tgt := 218) hx hb dM_indices_148 (by decide) (fun hc => ?_) (fun hc => ?_)
          · rw [if_pos hc] at hf
            refine lv_iload hx hb dM_indices_218 (lv_at hl 0 rfl) ?_
            refine lv_if_eq (tgt := 235) hx hb dM_indices_220 (by decide) (fun hc => ?_) (fun hc => ?_)
            · rw [if_pos hc] at hf
              refine lv_iinc (v := (y6 + 1)) (lv' := [(6, .int (y6 + 1)), (7, .int o2), (5, .int y5), (4, .int y4), (3, .int y3), (0, .ref aM), (1, xv vadL y1), (2, xv vadL y2)]) hx hb dM_indices_235 hl (k := 1) rfl rfl (by decide) rfl (fun ls hl => ?_)
              refine lv_goto (tgt := 95) hx hb dM_indices_238 (by decide) ?_
              exact ih (1, (y6 + 1), y5, y4, y3, y1, y2, 0, o2, ws9, wc, wn) _ _ ls (Or.inl ⟨adL, gdL, vadL, rfl, hf, hP, hD, hS, lv_sub hl [0, 2, 3, 4, 5, 6, 7] rfl, hE, hN⟩)
            · rw [if_neg hc] at hf
              refine lv_aload_n hx hb dM_indices_223 rfl (lv_at hl 5 rfl) ?_
              refine lv_null hx hb dM_indices_224 ?_
              refine lv_aload_n hx hb dM_indices_225 rfl (lv_at hl 5 rfl) ?_
              refine lv_iload hx hb dM_indices_226 (lv_at hl 1 rfl) ?_
              refine lv_i2l hx hb dM_indices_228 rfl ?_
              obtain ⟨o5, hq6, hf⟩ := xbind hf
              by_cases hk7 : o5.1 = 0
              · rw [if_pos hk7] at hf
                obtain ⟨hg8, hf⟩ := xifn hf
                obtain ⟨hm9, hf⟩ := xmoE hf
                have hFc := xm_free hD hS hA
                refine va_callq (va_runV (C := "ValueBenchModel") (As := [.long y6.toInt64]) (rest := [.null, .ref aM]) ⟨hx, hb, hml, hown, htx⟩ (gM_number l hl9 D cT aK aV H.size n aM adL rd gdL vadL ws9 y6.toInt64 o5 hq6 hk7) ⟨callB_of 1 htx (xw_goodC kw_6_88) rfl rfl rfl (htx _ kw_1_5) (htx _ kw_6_85) ⟨by decide, by decide, by decide +kernel⟩ ⟨Nat.le_of_ble_eq_true rfl, Nat.le_of_ble_eq_true rfl⟩, (htx _ kw_6_87), (htx _ kp_M_number)⟩ ⟨xPre_blind, va_recv hK hP (ci := 5) rfl (q0 := 0) rfl, (fun U hU hW => ⟨rfl, xPre_of hZ hS hFc hP hD hK U hU hW⟩)⟩ rfl rfl hl.1 rfl (xm_room (Nat.le_of_ble_eq_true rfl)) dM_indices_229 ⟨hm9.1, hm9.2⟩) hS (fun q _ h => hFc q h) hFc (fun r10 u9 t H1 locs ht hvm hr9 hB hz1 hk1 hS => ?_)
                obtain ⟨hP1, hK1, hD1⟩ := hB
                rw [ht] at hP1
                obtain ⟨ad11, gd12, vad13⟩ := u9
                obtain ⟨hr9, hv14, hn15⟩ := hr9
                have hP : va_P D xcl (xMw cT aM ad11 rd gd12 vad13 o5.2.2.2.2 []) H1 := hP1
                have hD : va_D A (xMw cT aM ad11 rd gd12 vad13 o5.2.2.2.2 []) := hD1.weaken (fun k q _ h => hFc q.1 h)
                generalize H1 = H at hP hS ⊢
                have hE9 : ∀ p, p < xct st → vad13 p = vad p := fun p h => (hv14 p (Nat.lt_of_lt_of_le h hN)).trans (hE p h)
                have hE := hE9
                have hN : xct st ≤ xct o5.2.2.2.2 := Nat.le_trans hN hn15
                have ev16 : xv vadL y1 = xv vad13 y1 := xvE hv14 (fun h => hg1 (Or.inr h))
                have ev17 : xv vadL y2 = xv vad13 y2 := xvE hv14 hg8
                have hl : lv_has ls 9 [(7, .int o2), (6, .int y6), (5, .int y5), (4, .int y4), (3, .int y3), (0, .ref aM), (1, xv vad13 y1), (2, xv vad13 y2)] := by first | exact hl | ((try (rw [← ev16])); (try (rw [← ev17])); exact hl)
                rw [hr9]
                refine W.eq (g2 := F0 m 232 ls [xv vad13 o5.2.2.2.1, .null, .ref aM]) (by first | rfl | ((try (rw [ev16])); (try (rw [ev17])); rfl)) ?_
                obtain ⟨o18, hq19, hf⟩ := xbind hf
                obtain ⟨hg20, hf⟩ := xifn hf
                obtain ⟨hg21, hf⟩ := xifn hf
                obtain ⟨hm22, hf⟩ := xmoE hf
                have hFc := xm_free hD hS hA
                refine va_callv (va_runV (C := "ValueBenchModel") (As := [.null, xv vad13 o5.2.2.2.1]) (rest := []) ⟨hx, hb, hml, hown, htx⟩ (gM_wait l hl9 D cT aK aV H.size n aM ad11 rd gd12 vad13 o5.2.2.2.2 0 o5.2.2.2.1 o18 hq19) ⟨callB_of 2 htx (xw_goodC kw_6_112) rfl rfl rfl (htx _ kw_1_5) (htx _ kw_6_109) ⟨by decide, by decide, by decide +kernel⟩ ⟨Nat.le_of_ble_eq_true rfl, Nat.le_of_ble_eq_true rfl⟩, (htx _ kw_6_111), (htx _ kp_M_wait)⟩ ⟨xPre_blind, va_recv hK hP (ci := 5) rfl (q0 := 0) rfl, (fun U hU hW => ⟨rfl, xPre_of hZ hS hFc hP hD hK U hU hW⟩)⟩ rfl rfl hl.1 rfl (xm_room (Nat.le_of_ble_eq_true rfl)) dM_indices_232 ⟨hm22.1, hm22.2⟩) hS (fun q _ h => hFc q h) hFc (fun u9 t H1 locs ht hvm hr9 hB hz1 hk1 hS => ?_)
                obtain ⟨hP1, hK1, hD1⟩ := hB
                rw [ht] at hP1
                obtain ⟨ad24, gd25, vad26⟩ := u9
                obtain ⟨hv27, hn28⟩ := hr9
                have hP : va_P D xcl (xMw cT aM ad24 rd gd25 vad26 o18.2.2 []) H1 := hP1
                have hD : va_D A (xMw cT aM ad24 rd gd25 vad26 o18.2.2 []) := hD1.weaken (fun k q _ h => hFc q.1 h)
                generalize H1 = H at hP hS ⊢
                have hE9 : ∀ p, p < xct st → vad26 p = vad p := fun p h => (hv27 p (Nat.lt_of_lt_of_le h hN)).trans (hE p h)
                have hE := hE9
                have hN : xct st ≤ xct o18.2.2 := Nat.le_trans hN hn28
                have ev29 : xv vad13 y1 = xv vad26 y1 := xvE hv27 hg20
                have ev30 : xv vad13 y2 = xv vad26 y2 := xvE hv27 hg21
                have hl : lv_has ls 9 [(7, .int o2), (6, .int y6), (5, .int y5), (4, .int y4), (3, .int y3), (0, .ref aM), (1, xv vad26 y1), (2, xv vad26 y2)] := by first | exact hl | ((try (rw [← ev29])); (try (rw [← ev30])); exact hl)
                refine W.eq (g2 := F0 m 235 ls []) (by first | rfl | ((try (rw [ev29])); (try (rw [ev30])); rfl)) ?_
                refine lv_iinc (v := (y6 + 1)) (lv' := [(6, .int (y6 + 1)), (7, .int o2), (5, .int y5), (4, .int y4), (3, .int y3), (0, .ref aM), (1, xv vad26 y1), (2, xv vad26 y2)]) hx hb dM_indices_235 hl (k := 1) rfl rfl (by decide) rfl (fun ls hl => ?_)
                refine lv_goto (tgt := 95) hx hb dM_indices_238 (by decide) ?_
                exact ih (1, (y6 + 1), y5, y4, y3, y1, y2, 0, o2, o18.2.2, ((wc + o5.2.1) + o18.1), ((wn + o5.2.2.1) + o18.2.1)) _ _ ls (Or.inl ⟨ad24, gd25, vad26, rfl, hf, hP, hD, hS, lv_sub hl [0, 2, 3, 4, 5, 6, 7] rfl, hE, hN⟩)
              rw [if_neg hk7] at hf
              by_cases hk31 : o5.1 = 1
              · rw [if_pos hk31] at hf
                obtain ⟨hg32, hf⟩ := xifn hf
                obtain ⟨hm33, hf⟩ := xmoE hf
                have hFc := xm_free hD hS hA
                refine xx_thr (vx_runV (C := "ValueBenchModel") (As := [.long y6.toInt64]) (rest := [.null, .ref aM]) ⟨hx, hb, hml, hown, htx⟩ (gM_number_1 l hl9 D cT aK aV H.size n aM adL rd gdL vadL ws9 y6.toInt64 o5 hq6 hk31) ⟨callB_of 1 htx (xw_goodC kw_6_88) rfl rfl rfl (htx _ kw_1_5) (htx _ kw_6_85) ⟨by decide, by decide, by decide +kernel⟩ ⟨Nat.le_of_ble_eq_true rfl, Nat.le_of_ble_eq_true rfl⟩, (htx _ kw_6_87), (htx _ kp_M_number)⟩ ⟨xPre_blind, va_recv hK hP (ci := 5) rfl (q0 := 0) rfl, (fun U hU hW => ⟨rfl, xPre_of hZ hS hFc hP hD hK U hU hW⟩)⟩ rfl rfl hl.1 rfl (xm_room (Nat.le_of_ble_eq_true rfl)) dM_indices_229 ⟨hm33.1, hm33.2⟩) hS hFc (fun q _ h => hFc q h) (fun E ce q9 u9 t H1 locs ht hvm hr9 hB hz1 hk1 hS hce hcv hcl => ?_)
                obtain ⟨rfl, hP1, hK1, hD1⟩ := hB
                rw [ht] at hP1
                obtain ⟨ad35, gd36, vad37⟩ := u9
                obtain ⟨hv38, hn39⟩ := hr9
                have hP : va_P D xcl (xMw cT aM ad35 rd gd36 vad37 o5.2.2.2.2 []) H1 := hP1
                have hD : va_D A (xMw cT aM ad35 rd gd36 vad37 o5.2.2.2.2 []) := hD1.weaken (fun k q _ h => hFc q.1 h)
                generalize H1 = H at hP hS hce ⊢
                have hE9 : ∀ p, p < xct st → vad37 p = vad p := fun p h => (hv38 p (Nat.lt_of_lt_of_le h hN)).trans (hE p h)
                have hE := hE9
                have hN : xct st ≤ xct o5.2.2.2.2 := Nat.le_trans hN hn39
                have ev40 : xv vadL y1 = xv vad37 y1 := xvE hv38 (fun h => hg1 (Or.inr h))
                have ev41 : xv vadL y2 = xv vad37 y2 := xvE hv38 hg32
                have hl : lv_has ls 9 [(7, .int o2), (6, .int y6), (5, .int y5), (4, .int y4), (3, .int y3), (0, .ref aM), (1, xv vad37 y1), (2, xv vad37 y2)] := by first | exact hl | ((try (rw [← ev40])); (try (rw [← ev41])); exact hl)
                obtain rfl := Option.some.inj hf
                exact vx_out (E := "java/lang/ArithmeticException") (fun x h => (hne x h).elim) hlocks hce hcv hcl (fun t ht ha => ⟨(ad35, gd36, vad37), ⟨hE, hN⟩, ⟨rfl, by rw [ht]; exact hP, va_K.moved ha hK, hD⟩, hS.F ht⟩) hS.2.2 (Nat.le_refl _) (Nat.le_refl _)
              rw [if_neg hk31] at hf
              exact nomatch hf
          · rw [if_neg hc] at hf
            refine lv_iload_n hx hb dM_indices_151 rfl (lv_at hl 4 rfl) ?_
            refine lv_if_ne (tgt := 218) hx hb dM_indices_152 (by decide) (fun hc => ?_) (fun hc => ?_)
            · rw [if_neg hc] at hf
              refine lv_iload hx hb dM_indices_218 (lv_at hl 0 rfl) ?_
              refine lv_if_eq (tgt := 235) hx hb dM_indices_220 (by decide) (fun hc => ?_) (fun hc => ?_)
              · rw [if_pos hc] at hf
                refine lv_iinc (v := (y6 + 1)) (lv' := [(6, .int (y6 + 1)), (7, .int o2), (5, .int y5), (4, .int y4), (3, .int y3), (0, .ref aM), (1, xv vadL y1), (2, xv vadL y2)]) hx hb dM_indices_235 hl (k := 1) rfl rfl (by decide) rfl (fun ls hl => ?_)
                refine lv_goto (tgt := 95) hx hb dM_indices_238 (by decide) ?_
                exact ih (1, (y6 + 1), y5, y4, y3, y1, y2, 0, o2, ws9, wc, wn) _ _ ls (Or.inl ⟨adL, gdL, vadL, rfl, hf, hP, hD, hS, lv_sub hl [0, 2, 3, 4, 5, 6, 7] rfl, hE, hN⟩)
              · rw [if_neg hc] at hf
                refine lv_aload_n hx hb dM_indices_223 rfl (lv_at hl 5 rfl) ?_
                refine lv_null hx hb dM_indices_224 ?_
                refine lv_aload_n hx hb dM_indices_225 rfl (lv_at hl 5 rfl) ?_
                refine lv_iload hx hb dM_indices_226 (lv_at hl 1 rfl) ?_
                refine lv_i2l hx hb dM_indices_228 rfl ?_
                obtain ⟨o5, hq6, hf⟩ := xbind hf
                by_cases hk7 : o5.1 = 0
                · rw [if_pos hk7] at hf
                  obtain ⟨hg8, hf⟩ := xifn hf
                  obtain ⟨hm9, hf⟩ := xmoE hf
                  have hFc := xm_free hD hS hA
                  refine va_callq (va_runV (C := "ValueBenchModel") (As := [.long y6.toInt64]) (rest := [.null, .ref aM]) ⟨hx, hb, hml, hown, htx⟩ (gM_number l hl9 D cT aK aV H.size n aM adL rd gdL vadL ws9 y6.toInt64 o5 hq6 hk7) ⟨callB_of 1 htx (xw_goodC kw_6_88) rfl rfl rfl (htx _ kw_1_5) (htx _ kw_6_85) ⟨by decide, by decide, by decide +kernel⟩ ⟨Nat.le_of_ble_eq_true rfl, Nat.le_of_ble_eq_true rfl⟩, (htx _ kw_6_87), (htx _ kp_M_number)⟩ ⟨xPre_blind, va_recv hK hP (ci := 5) rfl (q0 := 0) rfl, (fun U hU hW => ⟨rfl, xPre_of hZ hS hFc hP hD hK U hU hW⟩)⟩ rfl rfl hl.1 rfl (xm_room (Nat.le_of_ble_eq_true rfl)) dM_indices_229 ⟨hm9.1, hm9.2⟩) hS (fun q _ h => hFc q h) hFc (fun r10 u9 t H1 locs ht hvm hr9 hB hz1 hk1 hS => ?_)
                  obtain ⟨hP1, hK1, hD1⟩ := hB
                  rw [ht] at hP1
                  obtain ⟨ad11, gd12, vad13⟩ := u9
                  obtain ⟨hr9, hv14, hn15⟩ := hr9
                  have hP : va_P D xcl (xMw cT aM ad11 rd gd12 vad13 o5.2.2.2.2 []) H1 := hP1
                  have hD : va_D A (xMw cT aM ad11 rd gd12 vad13 o5.2.2.2.2 []) := hD1.weaken (fun k q _ h => hFc q.1 h)
                  generalize H1 = H at hP hS ⊢
                  have hE9 : ∀ p, p < xct st → vad13 p = vad p := fun p h => (hv14 p (Nat.lt_of_lt_of_le h hN)).trans (hE p h)
                  have hE := hE9
                  have hN : xct st ≤ xct o5.2.2.2.2 := Nat.le_trans hN hn15
                  have ev16 : xv vadL y1 = xv vad13 y1 := xvE hv14 (fun h => hg1 (Or.inr h))
                  have ev17 : xv vadL y2 = xv vad13 y2 := xvE hv14 hg8
                  have hl : lv_has ls 9 [(7, .int o2), (6, .int y6), (5, .int y5), (4, .int y4), (3, .int y3), (0, .ref aM), (1, xv vad13 y1), (2, xv vad13 y2)] := by first | exact hl | ((try (rw [← ev16])); (try (rw [← ev17])); exact hl)
                  rw [hr9]
                  refine W.eq (g2 := F0 m 232 ls [xv vad13 o5.2.2.2.1, .null, .ref aM]) (by first | rfl | ((try (rw [ev16])); (try (rw [ev17])); rfl)) ?_
                  obtain ⟨o18, hq19, hf⟩ := xbind hf
                  obtain ⟨hg20, hf⟩ := xifn hf
                  obtain ⟨hg21, hf⟩ := xifn hf
                  obtain ⟨hm22, hf⟩ := xmoE hf
                  have hFc := xm_free hD hS hA
                  refine va_callv (va_runV (C := "ValueBenchModel") (As := [.null, xv vad13 o5.2.2.2.1]) (rest := []) ⟨hx, hb, hml, hown, htx⟩ (gM_wait l hl9 D cT aK aV H.size n aM ad11 rd gd12 vad13 o5.2.2.2.2 0 o5.2.2.2.1 o18 hq19) ⟨callB_of 2 htx (xw_goodC kw_6_112) rfl rfl rfl (htx _ kw_1_5) (htx _ kw_6_109) ⟨by decide, by decide, by decide +kernel⟩ ⟨Nat.le_of_ble_eq_true rfl, Nat.le_of_ble_eq_true rfl⟩, (htx _ kw_6_111), (htx _ kp_M_wait)⟩ ⟨xPre_blind, va_recv hK hP (ci := 5) rfl (q0 := 0) rfl, (fun U hU hW => ⟨rfl, xPre_of hZ hS hFc hP hD hK U hU hW⟩)⟩ rfl rfl hl.1 rfl (xm_room (Nat.le_of_ble_eq_true rfl)) dM_indices_232 ⟨hm22.1, hm22.2⟩) hS (fun q _ h => hFc q h) hFc (fun u9 t H1 locs ht hvm hr9 hB hz1 hk1 hS => ?_)
                  obtain ⟨hP1, hK1, hD1⟩ := hB
                  rw [ht] at hP1
                  obtain ⟨ad24, gd25, vad26⟩ := u9
                  obtain ⟨hv27, hn28⟩ := hr9
                  have hP : va_P D xcl (xMw cT aM ad24 rd gd25 vad26 o18.2.2 []) H1 := hP1
                  have hD : va_D A (xMw cT aM ad24 rd gd25 vad26 o18.2.2 []) := hD1.weaken (fun k q _ h => hFc q.1 h)
                  generalize H1 = H at hP hS ⊢
                  have hE9 : ∀ p, p < xct st → vad26 p = vad p := fun p h => (hv27 p (Nat.lt_of_lt_of_le h hN)).trans (hE p h)
                  have hE := hE9
                  have hN : xct st ≤ xct o18.2.2 := Nat.le_trans hN hn28
                  have ev29 : xv vad13 y1 = xv vad26 y1 := xvE hv27 hg20
                  have ev30 : xv vad13 y2 = xv vad26 y2 := xvE hv27 hg21
                  have hl : lv_has ls 9 [(7, .int o2), (6, .int y6), (5, .int y5), (4, .int y4), (3, .int y3), (0, .ref aM), (1, xv vad26 y1), (2, xv vad26 y2)] := by first | exact hl | ((try (rw [← ev29])); (try (rw [← ev30])); exact hl)
                  refine W.eq (g2 := F0 m 235 ls []) (by first | rfl | ((try (rw [ev29])); (try (rw [ev30])); rfl)) ?_
                  refine lv_iinc (v := (y6 + 1)) (lv' := [(6, .int (y6 + 1)), (7, .int o2), (5, .int y5), (4, .int y4), (3, .int y3), (0, .ref aM), (1, xv vad26 y1), (2, xv vad26 y2)]) hx hb dM_indices_235 hl (k := 1) rfl rfl (by decide) rfl (fun ls hl => ?_)
                  refine lv_goto (tgt := 95) hx hb dM_indices_238 (by decide) ?_
                  exact ih (1, (y6 + 1), y5, y4, y3, y1, y2, 0, o2, o18.2.2, ((wc + o5.2.1) + o18.1), ((wn + o5.2.2.1) + o18.2.1)) _ _ ls (Or.inl ⟨ad24, gd25, vad26, rfl, hf, hP, hD, hS, lv_sub hl [0, 2, 3, 4, 5, 6, 7] rfl, hE, hN⟩)
                rw [if_neg hk7] at hf
                by_cases hk31 : o5.1 = 1
                · rw [if_pos hk31] at hf
                  obtain ⟨hg32, hf⟩ := xifn hf
                  obtain ⟨hm33, hf⟩ := xmoE hf
                  have hFc := xm_free hD hS hA
                  refine xx_thr (vx_runV (C := "ValueBenchModel") (As := [.long y6.toInt64]) (rest := [.null, .ref aM]) ⟨hx, hb, hml, hown, htx⟩ (gM_number_1 l hl9 D cT aK aV H.size n aM adL rd gdL vadL ws9 y6.toInt64 o5 hq6 hk31) ⟨callB_of 1 htx (xw_goodC kw_6_88) rfl rfl rfl (htx _ kw_1_5) (htx _ kw_6_85) ⟨by decide, by decide, by decide +kernel⟩ ⟨Nat.le_of_ble_eq_true rfl, Nat.le_of_ble_eq_true rfl⟩, (htx _ kw_6_87), (htx _ kp_M_number)⟩ ⟨xPre_blind, va_recv hK hP (ci := 5) rfl (q0 := 0) rfl, (fun U hU hW => ⟨rfl, xPre_of hZ hS hFc hP hD hK U hU hW⟩)⟩ rfl rfl hl.1 rfl (xm_room (Nat.le_of_ble_eq_true rfl)) dM_indices_229 ⟨hm33.1, hm33.2⟩) hS hFc (fun q _ h => hFc q h) (fun E ce q9 u9 t H1 locs ht hvm hr9 hB hz1 hk1 hS hce hcv hcl => ?_)
                  obtain ⟨rfl, hP1, hK1, hD1⟩ := hB
                  rw [ht] at hP1
                  obtain ⟨ad35, gd36, vad37⟩ := u9
                  obtain ⟨hv38, hn39⟩ := hr9
                  have hP : va_P D xcl (xMw cT aM ad35 rd gd36 vad37 o5.2.2.2.2 []) H1 := hP1
                  have hD : va_D A (xMw cT aM ad35 rd gd36 vad37 o5.2.2.2.2 []) := hD1.weaken (fun k q _ h => hFc q.1 h)
                  generalize H1 = H at hP hS hce ⊢
                  have hE9 : ∀ p, p < xct st → vad37 p = vad p := fun p h => (hv38 p (Nat.lt_of_lt_of_le h hN)).trans (hE p h)
                  have hE := hE9
                  have hN : xct st ≤ xct o5.2.2.2.2 := Nat.le_trans hN hn39
                  have ev40 : xv vadL y1 = xv vad37 y1 := xvE hv38 (fun h => hg1 (Or.inr h))
                  have ev41 : xv vadL y2 = xv vad37 y2 := xvE hv38 hg32
                  have hl : lv_has ls 9 [(7, .int o2), (6, .int y6), (5, .int y5), (4, .int y4), (3, .int y3), (0, .ref aM), (1, xv vad37 y1), (2, xv vad37 y2)] := by first | exact hl | ((try (rw [← ev40])); (try (rw [← ev41])); exact hl)
                  obtain rfl := Option.some.inj hf
                  exact vx_out (E := "java/lang/ArithmeticException") (fun x h => (hne x h).elim) hlocks hce hcv hcl (fun t ht ha => ⟨(ad35, gd36, vad37), ⟨hE, hN⟩, ⟨rfl, by rw [ht]; exact hP, va_K.moved ha hK, hD⟩, hS.F ht⟩) hS.2.2 (Nat.le_refl _) (Nat.le_refl _)
                rw [if_neg hk31] at hf
                exact nomatch hf
            · rw [if_pos hc] at hf
              refine lv_iload hx hb dM_indices_155 (lv_at hl 1 rfl) ?_
              refine xm_aload_n hx hb (xvor _ _) dM_indices_157 rfl (lv_at hl 7 rfl) ?_
              obtain ⟨hg5, hf⟩ := xifn hf
              refine xm_vget (v := .int ((xpi ws9 3) (y2 - 1))) hx hb htx hown hK hP 3 (by decide) hg5 rfl ((hZ.1 (103, "count", "I") (List.mem_of_getElem? (i := 3) rfl)).use rfl) rfl dM_indices_158 ?_
              refine lv_iadd hx hb dM_indices_161 ?_
              refine xm_aload_n hx hb (xvor _ _) dM_indices_162 rfl (lv_at hl 6 rfl) ?_
              refine xm_vget (v := .int ((xpi ws9 3) (y1 - 1))) hx hb htx hown hK hP 3 (by decide) hg1 rfl ((hZ.1 (103, "count", "I") (List.mem_of_getElem? (i := 3) rfl)).use rfl) rfl dM_indices_163 ?_
              refine lv_icmp_gt (tgt := 218) hx hb dM_indices_166 (by decide) (fun hc => ?_) (fun hc => ?_)
              · rw [if_pos hc] at hf
                refine lv_iload hx hb dM_indices_218 (lv_at hl 0 rfl) ?_
                refine lv_if_eq (tgt := 235) hx hb dM_indices_220 (by decide) (fun hc => ?_) (fun hc => ?_)
                · rw [if_pos hc] at hf
                  refine lv_iinc (v := (y6 + 1)) (lv' := [(6, .int (y6 + 1)), (7, .int o2), (5, .int y5), (4, .int y4), (3, .int y3), (0, .ref aM), (1, xv vadL y1), (2, xv vadL y2)]) hx hb dM_indices_235 hl (k := 1) rfl rfl (by decide) rfl (fun ls hl => ?_)
                  refine lv_goto (tgt := 95) hx hb dM_indices_238 (by decide) ?_
                  exact ih (1, (y6 + 1), y5, y4, y3, y1, y2, 0, o2, ws9, wc, wn) _ _ ls (Or.inl ⟨adL, gdL, vadL, rfl, hf, hP, hD, hS, lv_sub hl [0, 2, 3, 4, 5, 6, 7] rfl, hE, hN⟩)
                · rw [if_neg hc] at hf
                  refine lv_aload_n hx hb dM_indices_223 rfl (lv_at hl 5 rfl) ?_
                  refine lv_null hx hb dM_indices_224 ?_
                  refine lv_aload_n hx hb dM_indices_225 rfl (lv_at hl 5 rfl) ?_
                  refine lv_iload hx hb dM_indices_226 (lv_at hl 1 rfl) ?_
                  refine lv_i2l hx hb dM_indices_228 rfl ?_
                  obtain ⟨o6, hq7, hf⟩ := xbind hf
                  by_cases hk8 : o6.1 = 0
                  · rw [if_pos hk8] at hf
                    obtain ⟨hm9, hf⟩ := xmoE hf
                    have hFc := xm_free hD hS hA
                    refine va_callq (va_runV (C := "ValueBenchModel") (As := [.long y6.toInt64]) (rest := [.null, .ref aM]) ⟨hx, hb, hml, hown, htx⟩ (gM_number l hl9 D cT aK aV H.size n aM adL rd gdL vadL ws9 y6.toInt64 o6 hq7 hk8) ⟨callB_of 1 htx (xw_goodC kw_6_88) rfl rfl rfl (htx _ kw_1_5) (htx _ kw_6_85) ⟨by decide, by decide, by decide +kernel⟩ ⟨Nat.le_of_ble_eq_true rfl, Nat.le_of_ble_eq_true rfl⟩, (htx _ kw_6_87), (htx _ kp_M_number)⟩ ⟨xPre_blind, va_recv hK hP (ci := 5) rfl (q0 := 0) rfl, (fun U hU hW => ⟨rfl, xPre_of hZ hS hFc hP hD hK U hU hW⟩)⟩ rfl rfl hl.1 rfl (xm_room (Nat.le_of_ble_eq_true rfl)) dM_indices_229 ⟨hm9.1, hm9.2⟩) hS (fun q _ h => hFc q h) hFc (fun r10 u9 t H1 locs ht hvm hr9 hB hz1 hk1 hS => ?_)
                    obtain ⟨hP1, hK1, hD1⟩ := hB
                    rw [ht] at hP1
                    obtain ⟨ad11, gd12, vad13⟩ := u9
                    obtain ⟨hr9, hv14, hn15⟩ := hr9
                    have hP : va_P D xcl (xMw cT aM ad11 rd gd12 vad13 o6.2.2.2.2 []) H1 := hP1
                    have hD : va_D A (xMw cT aM ad11 rd gd12 vad13 o6.2.2.2.2 []) := hD1.weaken (fun k q _ h => hFc q.1 h)
                    generalize H1 = H at hP hS ⊢
                    have hE9 : ∀ p, p < xct st → vad13 p = vad p := fun p h => (hv14 p (Nat.lt_of_lt_of_le h hN)).trans (hE p h)
                    have hE := hE9
                    have hN : xct st ≤ xct o6.2.2.2.2 := Nat.le_trans hN hn15
                    have ev16 : xv vadL y1 = xv vad13 y1 := xvE hv14 (fun h => hg1 (Or.inr h))
                    have ev17 : xv vadL y2 = xv vad13 y2 := xvE hv14 (fun h => hg5 (Or.inr h))
                    have hl : lv_has ls 9 [(7, .int o2), (6, .int y6), (5, .int y5), (4, .int y4), (3, .int y3), (0, .ref aM), (1, xv vad13 y1), (2, xv vad13 y2)] := by first | exact hl | ((try (rw [← ev16])); (try (rw [← ev17])); exact hl)
                    rw [hr9]
                    refine W.eq (g2 := F0 m 232 ls [xv vad13 o6.2.2.2.1, .null, .ref aM]) (by first | rfl | ((try (rw [ev16])); (try (rw [ev17])); rfl)) ?_
                    obtain ⟨o18, hq19, hf⟩ := xbind hf
                    obtain ⟨hg20, hf⟩ := xifn hf
                    obtain ⟨hg21, hf⟩ := xifn hf
                    obtain ⟨hm22, hf⟩ := xmoE hf
                    have hFc := xm_free hD hS hA
                    refine va_callv (va_runV (C := "ValueBenchModel") (As := [.null, xv vad13 o6.2.2.2.1]) (rest := []) ⟨hx, hb, hml, hown, htx⟩ (gM_wait l hl9 D cT aK aV H.size n aM ad11 rd gd12 vad13 o6.2.2.2.2 0 o6.2.2.2.1 o18 hq19) ⟨callB_of 2 htx (xw_goodC kw_6_112) rfl rfl rfl (htx _ kw_1_5) (htx _ kw_6_109) ⟨by decide, by decide, by decide +kernel⟩ ⟨Nat.le_of_ble_eq_true rfl, Nat.le_of_ble_eq_true rfl⟩, (htx _ kw_6_111), (htx _ kp_M_wait)⟩ ⟨xPre_blind, va_recv hK hP (ci := 5) rfl (q0 := 0) rfl, (fun U hU hW => ⟨rfl, xPre_of hZ hS hFc hP hD hK U hU hW⟩)⟩ rfl rfl hl.1 rfl (xm_room (Nat.le_of_ble_eq_true rfl)) dM_indices_232 ⟨hm22.1, hm22.2⟩) hS (fun q _ h => hFc q h) hFc (fun u9 t H1 locs ht hvm hr9 hB hz1 hk1 hS => ?_)
                    obtain ⟨hP1, hK1, hD1⟩ := hB
                    rw [ht] at hP1
                    obtain ⟨ad24, gd25, vad26⟩ := u9
                    obtain ⟨hv27, hn28⟩ := hr9
                    have hP : va_P D xcl (xMw cT aM ad24 rd gd25 vad26 o18.2.2 []) H1 := hP1
                    have hD : va_D A (xMw cT aM ad24 rd gd25 vad26 o18.2.2 []) := hD1.weaken (fun k q _ h => hFc q.1 h)
                    generalize H1 = H at hP hS ⊢
                    have hE9 : ∀ p, p < xct st → vad26 p = vad p := fun p h => (hv27 p (Nat.lt_of_lt_of_le h hN)).trans (hE p h)
                    have hE := hE9
                    have hN : xct st ≤ xct o18.2.2 := Nat.le_trans hN hn28
                    have ev29 : xv vad13 y1 = xv vad26 y1 := xvE hv27 hg20
                    have ev30 : xv vad13 y2 = xv vad26 y2 := xvE hv27 hg21
                    have hl : lv_has ls 9 [(7, .int o2), (6, .int y6), (5, .int y5), (4, .int y4), (3, .int y3), (0, .ref aM), (1, xv vad26 y1), (2, xv vad26 y2)] := by first | exact hl | ((try (rw [← ev29])); (try (rw [← ev30])); exact hl)
                    refine W.eq (g2 := F0 m 235 ls []) (by first | rfl | ((try (rw [ev29])); (try (rw [ev30])); rfl)) ?_
                    refine lv_iinc (v := (y6 + 1)) (lv' := [(6, .int (y6 + 1)), (7, .int o2), (5, .int y5), (4, .int y4), (3, .int y3), (0, .ref aM), (1, xv vad26 y1), (2, xv vad26 y2)]) hx hb dM_indices_235 hl (k := 1) rfl rfl (by decide) rfl (fun ls hl => ?_)
                    refine lv_goto (tgt := 95) hx hb dM_indices_238 (by decide) ?_
                    exact ih (1, (y6 + 1), y5, y4, y3, y1, y2, 0, o2, o18.2.2, ((wc + o6.2.1) + o18.1), ((wn + o6.2.2.1) + o18.2.1)) _ _ ls (Or.inl ⟨ad24, gd25, vad26, rfl, hf, hP, hD, hS, lv_sub hl [0, 2, 3, 4, 5, 6, 7] rfl, hE, hN⟩)
                  rw [if_neg hk8] at hf
                  by_cases hk31 : o6.1 = 1
                  · rw [if_pos hk31] at hf
                    obtain ⟨hm32, hf⟩ := xmoE hf
                    have hFc := xm_free hD hS hA
                    refine xx_thr (vx_runV (C := "ValueBenchModel") (As := [.long y6.toInt64]) (rest := [.null, .ref aM]) ⟨hx, hb, hml, hown, htx⟩ (gM_number_1 l hl9 D cT aK aV H.size n aM adL rd gdL vadL ws9 y6.toInt64 o6 hq7 hk31) ⟨callB_of 1 htx (xw_goodC kw_6_88) rfl rfl rfl (htx _ kw_1_5) (htx _ kw_6_85) ⟨by decide, by decide, by decide +kernel⟩ ⟨Nat.le_of_ble_eq_true rfl, Nat.le_of_ble_eq_true rfl⟩, (htx _ kw_6_87), (htx _ kp_M_number)⟩ ⟨xPre_blind, va_recv hK hP (ci := 5) rfl (q0 := 0) rfl, (fun U hU hW => ⟨rfl, xPre_of hZ hS hFc hP hD hK U hU hW⟩)⟩ rfl rfl hl.1 rfl (xm_room (Nat.le_of_ble_eq_true rfl)) dM_indices_229 ⟨hm32.1, hm32.2⟩) hS hFc (fun q _ h => hFc q h) (fun E ce q9 u9 t H1 locs ht hvm hr9 hB hz1 hk1 hS hce hcv hcl => ?_)
                    obtain ⟨rfl, hP1, hK1, hD1⟩ := hB
                    rw [ht] at hP1
                    obtain ⟨ad34, gd35, vad36⟩ := u9
                    obtain ⟨hv37, hn38⟩ := hr9
                    have hP : va_P D xcl (xMw cT aM ad34 rd gd35 vad36 o6.2.2.2.2 []) H1 := hP1
                    have hD : va_D A (xMw cT aM ad34 rd gd35 vad36 o6.2.2.2.2 []) := hD1.weaken (fun k q _ h => hFc q.1 h)
                    generalize H1 = H at hP hS hce ⊢
                    have hE9 : ∀ p, p < xct st → vad36 p = vad p := fun p h => (hv37 p (Nat.lt_of_lt_of_le h hN)).trans (hE p h)
                    have hE := hE9
                    have hN : xct st ≤ xct o6.2.2.2.2 := Nat.le_trans hN hn38
                    have ev39 : xv vadL y1 = xv vad36 y1 := xvE hv37 (fun h => hg1 (Or.inr h))
                    have ev40 : xv vadL y2 = xv vad36 y2 := xvE hv37 (fun h => hg5 (Or.inr h))
                    have hl : lv_has ls 9 [(7, .int o2), (6, .int y6), (5, .int y5), (4, .int y4), (3, .int y3), (0, .ref aM), (1, xv vad36 y1), (2, xv vad36 y2)] := by first | exact hl | ((try (rw [← ev39])); (try (rw [← ev40])); exact hl)
                    obtain rfl := Option.some.inj hf
                    exact vx_out (E := "java/lang/ArithmeticException") (fun x h => (hne x h).elim) hlocks hce hcv hcl (fun t ht ha => ⟨(ad34, gd35, vad36), ⟨hE, hN⟩, ⟨rfl, by rw [ht]; exact hP, va_K.moved ha hK, hD⟩, hS.F ht⟩) hS.2.2 (Nat.le_refl _) (Nat.le_refl _)
                  rw [if_neg hk31] at hf
                  exact nomatch hf
              · rw [if_neg hc] at hf
                refine lv_iconst (v := 1) hx hb dM_indices_169 (by decide) ?_
                refine lv_istore (lv' := [(7, .int 1), (6, .int y6), (5, .int y5), (4, .int y4), (3, .int y3), (0, .ref aM), (1, xv vadL y1), (2, xv vadL y2)]) hx hb dM_indices_170 hl (by decide) rfl (fun ls hl => ?_)
                refine lv_iconst (v := 0) hx hb dM_indices_172 (by decide) ?_
                refine lv_istore (lv' := [(8, .int 0), (7, .int 1), (6, .int y6), (5, .int y5), (4, .int y4), (3, .int y3), (0, .ref aM), (1, xv vadL y1), (2, xv vadL y2)]) hx hb dM_indices_173 hl (by decide) rfl (fun ls hl => ?_)
                exact ih (2, y6, y5, y4, y3, y1, y2, (0 : Int32), (1 : Int32), ws9, wc, wn) _ _ ls (Or.inr (⟨adL, gdL, vadL, rfl, hf, hP, hD, hS, lv_sub hl [0, 1, 2, 3, 4, 5, 6, 7, 8] rfl, hE, hN⟩))
    · subst hj
      have hf : fM_indices_b d (n + 1) 2 y6 y5 y4 y3 y1 y2 y8 y7 ws9 wc wn = some out := hf
      rw [fM_indices_b, if_neg (by decide)] at hf
      obtain ⟨hP, hD⟩ : xPD D xcl A (xMw cT aM adL rd gdL vadL ws9 []) H := ⟨hP, hD⟩
      have hl : lv_has ls 9 [(8, .int y8), (7, .int y7), (6, .int y6), (5, .int y5), (4, .int y4), (3, .int y3), (0, .ref aM), (1, xv vadL y1), (2, xv vadL y2)] := hl
      refine W.eq (g2 := F0 m 175 ls []) rfl ?_
      show W p l e _ s m _ below meth c H locs wc wn _ _
      obtain ⟨hm0, hf⟩ := xmoE hf
      refine lv_iload hx hb dM_indices_175 (lv_at hl 0 rfl) ?_
      refine xm_aload_n hx hb (xvor _ _) dM_indices_177 rfl (lv_at hl 8 rfl) ?_
      obtain ⟨hg1, hf⟩ := xifn hf
      refine xm_vget (v := .int ((xpi ws9 3) (y2 - 1))) hx hb htx hown hK hP 3 (by decide) hg1 rfl ((hZ.1 (103, "count", "I") (List.mem_of_getElem? (i := 3) rfl)).use rfl) rfl dM_indices_178 ?_
      refine lv_icmp_ge (tgt := 218) hx hb dM_indices_181 (by decide) (fun hc => ?_) (fun hc => ?_)
      · rw [if_pos hc] at hf
        refine lv_iload hx hb dM_indices_218 (lv_at hl 1 rfl) ?_
        refine lv_if_eq (tgt := 235) hx hb dM_indices_220 (by decide) (fun hc => ?_) (fun hc => ?_)
        · rw [if_pos hc] at hf
          refine lv_iinc (v := (y6 + 1)) (lv' := [(6, .int (y6 + 1)), (8, .int y8), (7, .int y7), (5, .int y5), (4, .int y4), (3, .int y3), (0, .ref aM), (1, xv vadL y1), (2, xv vadL y2)]) hx hb dM_indices_235 hl (k := 2) rfl rfl (by decide) rfl (fun ls hl => ?_)
          refine lv_goto (tgt := 95) hx hb dM_indices_238 (by decide) ?_
          exact ih (1, (y6 + 1), y5, y4, y3, y1, y2, y8, y7, ws9, wc, wn) _ _ ls (Or.inl ⟨adL, gdL, vadL, rfl, hf, hP, hD, hS, lv_sub hl [0, 3, 4, 5, 6, 7, 8] rfl, hE, hN⟩)
        · rw [if_neg hc] at hf
          refine lv_aload_n hx hb dM_indices_223 rfl (lv_at hl 6 rfl) ?_
          refine lv_null hx hb dM_indices_224 ?_
          refine lv_aload_n hx hb dM_indices_225 rfl (lv_at hl 6 rfl) ?_
          refine lv_iload hx hb dM_indices_226 (lv_at hl 2 rfl) ?_
          refine lv_i2l hx hb dM_indices_228 rfl ?_
          obtain ⟨o2, hq3, hf⟩ := xbind hf
          by_cases hk4 : o2.1 = 0
          · rw [if_pos hk4] at hf
            obtain ⟨hg5, hf⟩ := xifn hf
            obtain ⟨hm6, hf⟩ := xmoE hf
            have hFc := xm_free hD hS hA
            refine va_callq (va_runV (C := "ValueBenchModel") (As := [.long y6.toInt64]) (rest := [.null, .ref aM]) ⟨hx, hb, hml, hown, htx⟩ (gM_number l hl9 D cT aK aV H.size n aM adL rd gdL vadL ws9 y6.toInt64 o2 hq3 hk4) ⟨callB_of 1 htx (xw_goodC kw_6_88) rfl rfl rfl (htx _ kw_1_5) (htx _ kw_6_85) ⟨by decide, by decide, by decide +kernel⟩ ⟨Nat.le_of_ble_eq_true rfl, Nat.le_of_ble_eq_true rfl⟩, (htx _ kw_6_87), (htx _ kp_M_number)⟩ ⟨xPre_blind, va_recv hK hP (ci := 5) rfl (q0 := 0) rfl, (fun U hU hW => ⟨rfl, xPre_of hZ hS hFc hP hD hK U hU hW⟩)⟩ rfl rfl hl.1 rfl (xm_room (Nat.le_of_ble_eq_true rfl)) dM_indices_229 ⟨hm6.1, hm6.2⟩) hS (fun q _ h => hFc q h) hFc (fun r7 u9 t H1 locs ht hvm hr9 hB hz1 hk1 hS => ?_)
            obtain ⟨hP1, hK1, hD1⟩ := hB
            rw [ht] at hP1
            obtain ⟨ad8, gd9, vad10⟩ := u9
            obtain ⟨hr9, hv11, hn12⟩ := hr9
            have hP : va_P D xcl (xMw cT aM ad8 rd gd9 vad10 o2.2.2.2.2 []) H1 := hP1
            have hD : va_D A (xMw cT aM ad8 rd gd9 vad10 o2.2.2.2.2 []) := hD1.weaken (fun k q _ h => hFc q.1 h)
            generalize H1 = H at hP hS ⊢
            have hE9 : ∀ p, p < xct st → vad10 p = vad p := fun p h => (hv11 p (Nat.lt_of_lt_of_le h hN)).trans (hE p h)
            have hE := hE9
            have hN : xct st ≤ xct o2.2.2.2.2 := Nat.le_trans hN hn12
            have ev13 : xv vadL y1 = xv vad10 y1 := xvE hv11 hg5
            have ev14 : xv vadL y2 = xv vad10 y2 := xvE hv11 (fun h => hg1 (Or.inr h))
            have hl : lv_has ls 9 [(8, .int y8), (7, .int y7), (6, .int y6), (5, .int y5), (4, .int y4), (3, .int y3), (0, .ref aM), (1, xv vad10 y1), (2, xv vad10 y2)] := by first | exact hl | ((try (rw [← ev13])); (try (rw [← ev14])); exact hl)
            rw [hr9]
            refine W.eq (g2 := F0 m 232 ls [xv vad10 o2.2.2.2.1, .null, .ref aM]) (by first | rfl | ((try (rw [ev13])); (try (rw [ev14])); rfl)) ?_
            obtain ⟨o15, hq16, hf⟩ := xbind hf
            obtain ⟨hg17, hf⟩ := xifn hf
            obtain ⟨hg18, hf⟩ := xifn hf
            obtain ⟨hm19, hf⟩ := xmoE hf
            have hFc := xm_free hD hS hA
            refine va_callv (va_runV (C := "ValueBenchModel") (As := [.null, xv vad10 o2.2.2.2.1]) (rest := []) ⟨hx, hb, hml, hown, htx⟩ (gM_wait l hl9 D cT aK aV H.size n aM ad8 rd gd9 vad10 o2.2.2.2.2 0 o2.2.2.2.1 o15 hq16) ⟨callB_of 2 htx (xw_goodC kw_6_112) rfl rfl rfl (htx _ kw_1_5) (htx _ kw_6_109) ⟨by decide, by decide, by decide +kernel⟩ ⟨Nat.le_of_ble_eq_true rfl, Nat.le_of_ble_eq_true rfl⟩, (htx _ kw_6_111), (htx _ kp_M_wait)⟩ ⟨xPre_blind, va_recv hK hP (ci := 5) rfl (q0 := 0) rfl, (fun U hU hW => ⟨rfl, xPre_of hZ hS hFc hP hD hK U hU hW⟩)⟩ rfl rfl hl.1 rfl (xm_room (Nat.le_of_ble_eq_true rfl)) dM_indices_232 ⟨hm19.1, hm19.2⟩) hS (fun q _ h => hFc q h) hFc (fun u9 t H1 locs ht hvm hr9 hB hz1 hk1 hS => ?_)
            obtain ⟨hP1, hK1, hD1⟩ := hB
            rw [ht] at hP1
            obtain ⟨ad21, gd22, vad23⟩ := u9
            obtain ⟨hv24, hn25⟩ := hr9
            have hP : va_P D xcl (xMw cT aM ad21 rd gd22 vad23 o15.2.2 []) H1 := hP1
            have hD : va_D A (xMw cT aM ad21 rd gd22 vad23 o15.2.2 []) := hD1.weaken (fun k q _ h => hFc q.1 h)
            generalize H1 = H at hP hS ⊢
            have hE9 : ∀ p, p < xct st → vad23 p = vad p := fun p h => (hv24 p (Nat.lt_of_lt_of_le h hN)).trans (hE p h)
            have hE := hE9
            have hN : xct st ≤ xct o15.2.2 := Nat.le_trans hN hn25
            have ev26 : xv vad10 y1 = xv vad23 y1 := xvE hv24 hg17
            have ev27 : xv vad10 y2 = xv vad23 y2 := xvE hv24 hg18
            have hl : lv_has ls 9 [(8, .int y8), (7, .int y7), (6, .int y6), (5, .int y5), (4, .int y4), (3, .int y3), (0, .ref aM), (1, xv vad23 y1), (2, xv vad23 y2)] := by first | exact hl | ((try (rw [← ev26])); (try (rw [← ev27])); exact hl)
            refine W.eq (g2 := F0 m 235 ls []) (by first | rfl | ((try (rw [ev26])); (try (rw [ev27])); rfl)) ?_
            refine lv_iinc (v := (y6 + 1)) (lv' := [(6, .int (y6 + 1)), (8, .int y8), (7, .int y7), (5, .int y5), (4, .int y4), (3, .int y3), (0, .ref aM), (1, xv vad23 y1), (2, xv vad23 y2)]) hx hb dM_indices_235 hl (k := 2) rfl rfl (by decide) rfl (fun ls hl => ?_)
            refine lv_goto (tgt := 95) hx hb dM_indices_238 (by decide) ?_
            exact ih (1, (y6 + 1), y5, y4, y3, y1, y2, y8, y7, o15.2.2, ((wc + o2.2.1) + o15.1), ((wn + o2.2.2.1) + o15.2.1)) _ _ ls (Or.inl ⟨ad21, gd22, vad23, rfl, hf, hP, hD, hS, lv_sub hl [0, 3, 4, 5, 6, 7, 8] rfl, hE, hN⟩)
          rw [if_neg hk4] at hf
          by_cases hk28 : o2.1 = 1
          · rw [if_pos hk28] at hf
            obtain ⟨hg29, hf⟩ := xifn hf
            obtain ⟨hm30, hf⟩ := xmoE hf
            have hFc := xm_free hD hS hA
            refine xx_thr (vx_runV (C := "ValueBenchModel") (As := [.long y6.toInt64]) (rest := [.null, .ref aM]) ⟨hx, hb, hml, hown, htx⟩ (gM_number_1 l hl9 D cT aK aV H.size n aM adL rd gdL vadL ws9 y6.toInt64 o2 hq3 hk28) ⟨callB_of 1 htx (xw_goodC kw_6_88) rfl rfl rfl (htx _ kw_1_5) (htx _ kw_6_85) ⟨by decide, by decide, by decide +kernel⟩ ⟨Nat.le_of_ble_eq_true rfl, Nat.le_of_ble_eq_true rfl⟩, (htx _ kw_6_87), (htx _ kp_M_number)⟩ ⟨xPre_blind, va_recv hK hP (ci := 5) rfl (q0 := 0) rfl, (fun U hU hW => ⟨rfl, xPre_of hZ hS hFc hP hD hK U hU hW⟩)⟩ rfl rfl hl.1 rfl (xm_room (Nat.le_of_ble_eq_true rfl)) dM_indices_229 ⟨hm30.1, hm30.2⟩) hS hFc (fun q _ h => hFc q h) (fun E ce q9 u9 t H1 locs ht hvm hr9 hB hz1 hk1 hS hce hcv hcl => ?_)
            obtain ⟨rfl, hP1, hK1, hD1⟩ := hB
            rw [ht] at hP1
            obtain ⟨ad32, gd33, vad34⟩ := u9
            obtain ⟨hv35, hn36⟩ := hr9
            have hP : va_P D xcl (xMw cT aM ad32 rd gd33 vad34 o2.2.2.2.2 []) H1 := hP1
            have hD : va_D A (xMw cT aM ad32 rd gd33 vad34 o2.2.2.2.2 []) := hD1.weaken (fun k q _ h => hFc q.1 h)
            generalize H1 = H at hP hS hce ⊢
            have hE9 : ∀ p, p < xct st → vad34 p = vad p := fun p h => (hv35 p (Nat.lt_of_lt_of_le h hN)).trans (hE p h)
            have hE := hE9
            have hN : xct st ≤ xct o2.2.2.2.2 := Nat.le_trans hN hn36
            have ev37 : xv vadL y1 = xv vad34 y1 := xvE hv35 hg29
            have ev38 : xv vadL y2 = xv vad34 y2 := xvE hv35 (fun h => hg1 (Or.inr h))
            have hl : lv_has ls 9 [(8, .int y8), (7, .int y7), (6, .int y6), (5, .int y5), (4, .int y4), (3, .int y3), (0, .ref aM), (1, xv vad34 y1), (2, xv vad34 y2)] := by first | exact hl | ((try (rw [← ev37])); (try (rw [← ev38])); exact hl)
            obtain rfl := Option.some.inj hf
            exact vx_out (E := "java/lang/ArithmeticException") (fun x h => (hne x h).elim) hlocks hce hcv hcl (fun t ht ha => ⟨(ad32, gd33, vad34), ⟨hE, hN⟩, ⟨rfl, by rw [ht]; exact hP, va_K.moved ha hK, hD⟩, hS.F ht⟩) hS.2.2 (Nat.le_refl _) (Nat.le_refl _)
          rw [if_neg hk28] at hf
          exact nomatch hf
      · rw [if_neg hc] at hf
        refine lv_iload hx hb dM_indices_184 (lv_at hl 1 rfl) ?_
        refine lv_if_eq (tgt := 218) hx hb dM_indices_186 (by decide) (fun hc => ?_) (fun hc => ?_)
        · rw [if_pos hc] at hf
          refine lv_iload hx hb dM_indices_218 (lv_at hl 1 rfl) ?_
          refine lv_if_eq (tgt := 235) hx hb dM_indices_220 (by decide) (fun hc => ?_) (fun hc => ?_)
          · rw [if_pos hc] at hf
            refine lv_iinc (v := (y6 + 1)) (lv' := [(6, .int (y6 + 1)), (8, .int y8), (7, .int y7), (5, .int y5), (4, .int y4), (3, .int y3), (0, .ref aM), (1, xv vadL y1), (2, xv vadL y2)]) hx hb dM_indices_235 hl (k := 2) rfl rfl (by decide) rfl (fun ls hl => ?_)
            refine lv_goto (tgt := 95) hx hb dM_indices_238 (by decide) ?_
            exact ih (1, (y6 + 1), y5, y4, y3, y1, y2, y8, y7, ws9, wc, wn) _ _ ls (Or.inl ⟨adL, gdL, vadL, rfl, hf, hP, hD, hS, lv_sub hl [0, 3, 4, 5, 6, 7, 8] rfl, hE, hN⟩)
          · rw [if_neg hc] at hf
            refine lv_aload_n hx hb dM_indices_223 rfl (lv_at hl 6 rfl) ?_
            refine lv_null hx hb dM_indices_224 ?_
            refine lv_aload_n hx hb dM_indices_225 rfl (lv_at hl 6 rfl) ?_
            refine lv_iload hx hb dM_indices_226 (lv_at hl 2 rfl) ?_
            refine lv_i2l hx hb dM_indices_228 rfl ?_
            obtain ⟨o2, hq3, hf⟩ := xbind hf
            by_cases hk4 : o2.1 = 0
            · rw [if_pos hk4] at hf
              obtain ⟨hg5, hf⟩ := xifn hf
              obtain ⟨hm6, hf⟩ := xmoE hf
              have hFc := xm_free hD hS hA
              refine va_callq (va_runV (C := "ValueBenchModel") (As := [.long y6.toInt64]) (rest := [.null, .ref aM]) ⟨hx, hb, hml, hown, htx⟩ (gM_number l hl9 D cT aK aV H.size n aM adL rd gdL vadL ws9 y6.toInt64 o2 hq3 hk4) ⟨callB_of 1 htx (xw_goodC kw_6_88) rfl rfl rfl (htx _ kw_1_5) (htx _ kw_6_85) ⟨by decide, by decide, by decide +kernel⟩ ⟨Nat.le_of_ble_eq_true rfl, Nat.le_of_ble_eq_true rfl⟩, (htx _ kw_6_87), (htx _ kp_M_number)⟩ ⟨xPre_blind, va_recv hK hP (ci := 5) rfl (q0 := 0) rfl, (fun U hU hW => ⟨rfl, xPre_of hZ hS hFc hP hD hK U hU hW⟩)⟩ rfl rfl hl.1 rfl (xm_room (Nat.le_of_ble_eq_true rfl)) dM_indices_229 ⟨hm6.1, hm6.2⟩) hS (fun q _ h => hFc q h) hFc (fun r7 u9 t H1 locs ht hvm hr9 hB hz1 hk1 hS => ?_)
              obtain ⟨hP1, hK1, hD1⟩ := hB
              rw [ht] at hP1
              obtain ⟨ad8, gd9, vad10⟩ := u9
              obtain ⟨hr9, hv11, hn12⟩ := hr9
              have hP : va_P D xcl (xMw cT aM ad8 rd gd9 vad10 o2.2.2.2.2 []) H1 := hP1
              have hD : va_D A (xMw cT aM ad8 rd gd9 vad10 o2.2.2.2.2 []) := hD1.weaken (fun k q _ h => hFc q.1 h)
              generalize H1 = H at hP hS ⊢
              have hE9 : ∀ p, p < xct st → vad10 p = vad p := fun p h => (hv11 p (Nat.lt_of_lt_of_le h hN)).trans (hE p h)
              have hE := hE9
              have hN : xct st ≤ xct o2.2.2.2.2 := Nat.le_trans hN hn12
              have ev13 : xv vadL y1 = xv vad10 y1 := xvE hv11 hg5
              have ev14 : xv vadL y2 = xv vad10 y2 := xvE hv11 (fun h => hg1 (Or.inr h))
              have hl : lv_has ls 9 [(8, .int y8), (7, .int y7), (6, .int y6), (5, .int y5), (4, .int y4), (3, .int y3), (0, .ref aM), (1, xv vad10 y1), (2, xv vad10 y2)] := by first | exact hl | ((try (rw [← ev13])); (try (rw [← ev14])); exact hl)
              rw [hr9]
              refine W.eq (g2 := F0 m 232 ls [xv vad10 o2.2.2.2.1, .null, .ref aM]) (by first | rfl | ((try (rw [ev13])); (try (rw [ev14])); rfl)) ?_
              obtain ⟨o15, hq16, hf⟩ := xbind hf
              obtain ⟨hg17, hf⟩ := xifn hf
              obtain ⟨hg18, hf⟩ := xifn hf
              obtain ⟨hm19, hf⟩ := xmoE hf
              have hFc := xm_free hD hS hA
              refine va_callv (va_runV (C := "ValueBenchModel") (As := [.null, xv vad10 o2.2.2.2.1]) (rest := []) ⟨hx, hb, hml, hown, htx⟩ (gM_wait l hl9 D cT aK aV H.size n aM ad8 rd gd9 vad10 o2.2.2.2.2 0 o2.2.2.2.1 o15 hq16) ⟨callB_of 2 htx (xw_goodC kw_6_112) rfl rfl rfl (htx _ kw_1_5) (htx _ kw_6_109) ⟨by decide, by decide, by decide +kernel⟩ ⟨Nat.le_of_ble_eq_true rfl, Nat.le_of_ble_eq_true rfl⟩, (htx _ kw_6_111), (htx _ kp_M_wait)⟩ ⟨xPre_blind, va_recv hK hP (ci := 5) rfl (q0 := 0) rfl, (fun U hU hW => ⟨rfl, xPre_of hZ hS hFc hP hD hK U hU hW⟩)⟩ rfl rfl hl.1 rfl (xm_room (Nat.le_of_ble_eq_true rfl)) dM_indices_232 ⟨hm19.1, hm19.2⟩) hS (fun q _ h => hFc q h) hFc (fun u9 t H1 locs ht hvm hr9 hB hz1 hk1 hS => ?_)
              obtain ⟨hP1, hK1, hD1⟩ := hB
              rw [ht] at hP1
              obtain ⟨ad21, gd22, vad23⟩ := u9
              obtain ⟨hv24, hn25⟩ := hr9
              have hP : va_P D xcl (xMw cT aM ad21 rd gd22 vad23 o15.2.2 []) H1 := hP1
              have hD : va_D A (xMw cT aM ad21 rd gd22 vad23 o15.2.2 []) := hD1.weaken (fun k q _ h => hFc q.1 h)
              generalize H1 = H at hP hS ⊢
              have hE9 : ∀ p, p < xct st → vad23 p = vad p := fun p h => (hv24 p (Nat.lt_of_lt_of_le h hN)).trans (hE p h)
              have hE := hE9
              have hN : xct st ≤ xct o15.2.2 := Nat.le_trans hN hn25
              have ev26 : xv vad10 y1 = xv vad23 y1 := xvE hv24 hg17
              have ev27 : xv vad10 y2 = xv vad23 y2 := xvE hv24 hg18
              have hl : lv_has ls 9 [(8, .int y8), (7, .int y7), (6, .int y6), (5, .int y5), (4, .int y4), (3, .int y3), (0, .ref aM), (1, xv vad23 y1), (2, xv vad23 y2)] := by first | exact hl | ((try (rw [← ev26])); (try (rw [← ev27])); exact hl)
              refine W.eq (g2 := F0 m 235 ls []) (by first | rfl | ((try (rw [ev26])); (try (rw [ev27])); rfl)) ?_
              refine lv_iinc (v := (y6 + 1)) (lv' := [(6, .int (y6 + 1)), (8, .int y8), (7, .int y7), (5, .int y5), (4, .int y4), (3, .int y3), (0, .ref aM), (1, xv vad23 y1), (2, xv vad23 y2)]) hx hb dM_indices_235 hl (k := 2) rfl rfl (by decide) rfl (fun ls hl => ?_)
              refine lv_goto (tgt := 95) hx hb dM_indices_238 (by decide) ?_
              exact ih (1, (y6 + 1), y5, y4, y3, y1, y2, y8, y7, o15.2.2, ((wc + o2.2.1) + o15.1), ((wn + o2.2.2.1) + o15.2.1)) _ _ ls (Or.inl ⟨ad21, gd22, vad23, rfl, hf, hP, hD, hS, lv_sub hl [0, 3, 4, 5, 6, 7, 8] rfl, hE, hN⟩)
            rw [if_neg hk4] at hf
            by_cases hk28 : o2.1 = 1
            · rw [if_pos hk28] at hf
              obtain ⟨hg29, hf⟩ := xifn hf
              obtain ⟨hm30, hf⟩ := xmoE hf
              have hFc := xm_free hD hS hA
              refine xx_thr (vx_runV (C := "ValueBenchModel") (As := [.long y6.toInt64]) (rest := [.null, .ref aM]) ⟨hx, hb, hml, hown, htx⟩ (gM_number_1 l hl9 D cT aK aV H.size n aM adL rd gdL vadL ws9 y6.toInt64 o2 hq3 hk28) ⟨callB_of 1 htx (xw_goodC kw_6_88) rfl rfl rfl (htx _ kw_1_5) (htx _ kw_6_85) ⟨by decide, by decide, by decide +kernel⟩ ⟨Nat.le_of_ble_eq_true rfl, Nat.le_of_ble_eq_true rfl⟩, (htx _ kw_6_87), (htx _ kp_M_number)⟩ ⟨xPre_blind, va_recv hK hP (ci := 5) rfl (q0 := 0) rfl, (fun U hU hW => ⟨rfl, xPre_of hZ hS hFc hP hD hK U hU hW⟩)⟩ rfl rfl hl.1 rfl (xm_room (Nat.le_of_ble_eq_true rfl)) dM_indices_229 ⟨hm30.1, hm30.2⟩) hS hFc (fun q _ h => hFc q h) (fun E ce q9 u9 t H1 locs ht hvm hr9 hB hz1 hk1 hS hce hcv hcl => ?_)
              obtain ⟨rfl, hP1, hK1, hD1⟩ := hB
              rw [ht] at hP1
              obtain ⟨ad32, gd33, vad34⟩ := u9
              obtain ⟨hv35, hn36⟩ := hr9
              have hP : va_P D xcl (xMw cT aM ad32 rd gd33 vad34 o2.2.2.2.2 []) H1 := hP1
              have hD : va_D A (xMw cT aM ad32 rd gd33 vad34 o2.2.2.2.2 []) := hD1.weaken (fun k q _ h => hFc q.1 h)
              generalize H1 = H at hP hS hce ⊢
              have hE9 : ∀ p, p < xct st → vad34 p = vad p := fun p h => (hv35 p (Nat.lt_of_lt_of_le h hN)).trans (hE p h)
              have hE := hE9
              have hN : xct st ≤ xct o2.2.2.2.2 := Nat.le_trans hN hn36
              have ev37 : xv vadL y1 = xv vad34 y1 := xvE hv35 hg29
              have ev38 : xv vadL y2 = xv vad34 y2 := xvE hv35 (fun h => hg1 (Or.inr h))
              have hl : lv_has ls 9 [(8, .int y8), (7, .int y7), (6, .int y6), (5, .int y5), (4, .int y4), (3, .int y3), (0, .ref aM), (1, xv vad34 y1), (2, xv vad34 y2)] := by first | exact hl | ((try (rw [← ev37])); (try (rw [← ev38])); exact hl)
              obtain rfl := Option.some.inj hf
              exact vx_out (E := "java/lang/ArithmeticException") (fun x h => (hne x h).elim) hlocks hce hcv hcl (fun t ht ha => ⟨(ad32, gd33, vad34), ⟨hE, hN⟩, ⟨rfl, by rw [ht]; exact hP, va_K.moved ha hK, hD⟩, hS.F ht⟩) hS.2.2 (Nat.le_refl _) (Nat.le_refl _)
            rw [if_neg hk28] at hf
            exact nomatch hf
        · rw [if_neg hc] at hf
          refine lv_aload_n hx hb dM_indices_189 rfl (lv_at hl 6 rfl) ?_
          refine lv_aload_n hx hb dM_indices_190 rfl (lv_at hl 6 rfl) ?_
          refine xm_aload_n hx hb (xvor _ _) dM_indices_191 rfl (lv_at hl 7 rfl) ?_
          refine lv_iload hx hb dM_indices_192 (lv_at hl 2 rfl) ?_
          refine lv_iload hx hb dM_indices_194 (lv_at hl 0 rfl) ?_
          refine lv_iadd hx hb dM_indices_196 ?_
          obtain ⟨o2, hq3, hf⟩ := xbind hf
          have hFc := xm_free hD hS hA
          refine va_callq (va_runV (C := "ValueBenchModel") (As := [xv vadL y1, .int (y6 + y8)]) (rest := [.ref aM]) ⟨hx, hb, hml, hown, htx⟩ (gM_kid l hl9 D cT aK aV H.size n aM adL rd gdL vadL ws9 y1 (y6 + y8) o2 hq3) ⟨callB_of 2 htx (xw_goodC kw_6_158) rfl rfl rfl (htx _ kw_1_5) (htx _ kw_6_155) ⟨by decide, by decide, by decide +kernel⟩ ⟨Nat.le_of_ble_eq_true rfl, Nat.le_of_ble_eq_true rfl⟩, (htx _ kw_6_157), (htx _ kp_M_kid)⟩ ⟨xPre_blind, va_recv hK hP (ci := 5) rfl (q0 := 0) rfl, (fun U hU hW => ⟨rfl, xPre_of hZ hS hFc hP hD hK U hU hW⟩)⟩ rfl rfl hl.1 rfl (xm_room (Nat.le_of_ble_eq_true rfl)) dM_indices_197 ⟨hm0.1, hm0.2⟩) hS (fun q _ h => hFc q h) hFc (fun r4 u9 t H1 locs ht hvm hr9 hB hz1 hk1 hS => ?_)
          obtain ⟨hP1, hK1, hD1⟩ := hB
          rw [ht] at hP1
          have hP : va_P D xcl (xMw cT aM adL rd gdL vadL ws9 []) H1 := hP1
          have hD : va_D A (xMw cT aM adL rd gdL vadL ws9 []) := hD1.weaken (fun k q _ h => hFc q.1 h)
          generalize H1 = H at hP hS ⊢
          rw [hr9]
          refine W.eq (g2 := F0 m 200 ls [xv vadL o2, .ref aM]) (by first | rfl | (skip; rfl)) ?_
          refine lv_aload_n hx hb dM_indices_200 rfl (lv_at hl 6 rfl) ?_
          refine xm_aload_n hx hb (xvor _ _) dM_indices_201 rfl (lv_at hl 8 rfl) ?_
          refine lv_iload hx hb dM_indices_202 (lv_at hl 0 rfl) ?_
          obtain ⟨o5, hq6, hf⟩ := xbind hf
          have hFc := xm_free hD hS hA
          refine va_callq (va_runV (C := "ValueBenchModel") (As := [xv vadL y2, .int y8]) (rest := [xv vadL o2, .ref aM]) ⟨hx, hb, hml, hown, htx⟩ (gM_kid l hl9 D cT aK aV H.size n aM adL rd gdL vadL ws9 y2 y8 o5 hq6) ⟨callB_of 2 htx (xw_goodC kw_6_158) rfl rfl rfl (htx _ kw_1_5) (htx _ kw_6_155) ⟨by decide, by decide, by decide +kernel⟩ ⟨Nat.le_of_ble_eq_true rfl, Nat.le_of_ble_eq_true rfl⟩, (htx _ kw_6_157), (htx _ kp_M_kid)⟩ ⟨xPre_blind, va_recv hK hP (ci := 5) rfl (q0 := 0) rfl, (fun U hU hW => ⟨rfl, xPre_of hZ hS hFc hP hD hK U hU hW⟩)⟩ rfl rfl hl.1 rfl (xm_room (by simp [xvcat, xrscat, xcI, xcL, xcR, xcN])) dM_indices_204 ⟨hm0.1, hm0.2⟩) hS (fun q _ h => hFc q h) hFc (fun r7 u9 t H1 locs ht hvm hr9 hB hz1 hk1 hS => ?_)
          obtain ⟨hP1, hK1, hD1⟩ := hB
          rw [ht] at hP1
          have hP : va_P D xcl (xMw cT aM adL rd gdL vadL ws9 []) H1 := hP1
          have hD : va_D A (xMw cT aM adL rd gdL vadL ws9 []) := hD1.weaken (fun k q _ h => hFc q.1 h)
          generalize H1 = H at hP hS ⊢
          rw [hr9]
          refine W.eq (g2 := F0 m 207 ls [xv vadL o5, xv vadL o2, .ref aM]) (by first | rfl | (skip; rfl)) ?_
          obtain ⟨o8, hq9, hf⟩ := xbind hf
          have hFc := xm_free hD hS hA
          refine va_calli (va_runV (C := "ValueBenchModel") (As := [xv vadL o2, xv vadL o5]) (rest := []) ⟨hx, hb, hml, hown, htx⟩ (gM_same1 l hl9 D cT aK aV d H.size n aM adL rd gdL vadL ws9 o2 o5 o8 hq9) ⟨callB_of 2 htx (xw_goodC kw_6_174) rfl rfl rfl (htx _ kw_1_5) (htx _ kw_6_171) ⟨by decide, by decide, by decide +kernel⟩ ⟨(by show (16 * d) + 1 ≤ 16 * d + 8; omega), (by show 8 + (5 + 11) + (400 * d) ≤ 400 * d + 147; omega)⟩, (htx _ kw_6_173), (htx _ kp_M_same1)⟩ ⟨xPre_blind, va_recv hK hP (ci := 5) rfl (q0 := 0) rfl, (fun U hU hW => ⟨rfl, xPre_of hZ hS hFc hP hD hK U hU hW⟩)⟩ rfl rfl hl.1 rfl (xm_room (Nat.le_of_ble_eq_true rfl)) dM_indices_207 ⟨hm0.1, hm0.2⟩) hS (fun q _ h => hFc q h) hFc (fun r10 u9 t H1 locs ht hvm hr9 hB hz1 hk1 hS => ?_)
          obtain ⟨hP1, hK1, hD1⟩ := hB
          rw [ht] at hP1
          have hP : va_P D xcl (xMw cT aM adL rd gdL vadL ws9 []) H1 := hP1
          have hD : va_D A (xMw cT aM adL rd gdL vadL ws9 []) := hD1.weaken (fun k q _ h => hFc q.1 h)
          generalize H1 = H at hP hS ⊢
          rw [hr9]
          refine W.eq (g2 := F0 m 210 ls [.int o8]) (by first | rfl | (skip; rfl)) ?_
          refine lv_istore (lv' := [(7, .int o8), (8, .int y8), (6, .int y6), (5, .int y5), (4, .int y4), (3, .int y3), (0, .ref aM), (1, xv vadL y1), (2, xv vadL y2)]) hx hb dM_indices_210 hl (by decide) rfl (fun ls hl => ?_)
          refine lv_iinc (v := (y8 + 1)) (lv' := [(8, .int (y8 + 1)), (7, .int o8), (6, .int y6), (5, .int y5), (4, .int y4), (3, .int y3), (0, .ref aM), (1, xv vadL y1), (2, xv vadL y2)]) hx hb dM_indices_212 hl (k := 1) rfl rfl (by decide) rfl (fun ls hl => ?_)
          refine lv_goto (tgt := 175) hx hb dM_indices_215 (by decide) ?_
          exact ih (2, y6, y5, y4, y3, y1, y2, (y8 + 1), o8, ws9, wc, wn) _ _ ls (Or.inr (⟨adL, gdL, vadL, rfl, hf, hP, hD, hS, lv_sub hl [0, 1, 2, 3, 4, 5, 6, 7, 8] rfl, hE, hN⟩))
  refine xm_aload_n hx hb (xvor _ _) dM_indices_0 rfl (lv_at hl 1 rfl) ?_
  obtain ⟨hg1, hf⟩ := xifn hf
  refine xm_vget (v := .int ((xpi st 0) (c0 - 1))) hx hb htx hown hK hP 0 (by decide) hg1 rfl ((hZ.1 (93, "kind", "I") (List.mem_of_getElem? (i := 0) rfl)).use rfl) rfl dM_indices_1 ?_
  refine lv_if_ne (tgt := 9) hx hb dM_indices_4 (by decide) (fun hc => ?_) (fun hc => ?_)
  · rw [if_neg hc] at hf
    refine xm_aload_n hx hb (xvor _ _) dM_indices_9 rfl (lv_at hl 1 rfl) ?_
    refine xm_vget (v := .int ((xpi st 0) (c0 - 1))) hx hb htx hown hK hP 0 (by decide) hg1 rfl ((hZ.1 (93, "kind", "I") (List.mem_of_getElem? (i := 0) rfl)).use rfl) rfl dM_indices_10 ?_
    refine lv_iconst (v := 4) hx hb dM_indices_13 (by decide) ?_
    refine lv_icmp_ne (tgt := 29) hx hb dM_indices_14 (by decide) (fun hc => ?_) (fun hc => ?_)
    · rw [if_neg hc] at hf
      refine lv_iconst (v := 0) hx hb dM_indices_29 (by decide) ?_
      refine lv_istore_n (lv' := [(3, .int 0), (0, .ref aM), (1, xv vad c0), (2, xv vad c1)]) hx hb dM_indices_30 rfl hl (by decide) (by simp only [List.filter, xvcat, xrscat, xcI, xcL, xcR, xcN]; rfl) (fun ls hl => ?_)
      refine lv_iload_n hx hb dM_indices_31 rfl (lv_at hl 0 rfl) ?_
      refine lv_if_ne (tgt := 49) hx hb dM_indices_32 (by decide) (fun h => ((by revert h; decide : False)).elim) (fun _ => ?_)
      refine xm_aload_n hx hb (xvor _ _) dM_indices_35 rfl (lv_at hl 2 rfl) ?_
      refine xm_vget (v := .int ((xpi st 0) (c0 - 1))) hx hb htx hown hK hP 0 (by decide) hg1 rfl ((hZ.1 (93, "kind", "I") (List.mem_of_getElem? (i := 0) rfl)).use rfl) rfl dM_indices_36 ?_
      refine lv_iconst (v := 5) hx hb dM_indices_39 (by decide) ?_
      refine lv_icmp_eq (tgt := 49) hx hb dM_indices_40 (by decide) (fun hc => ?_) (fun hc => ?_)
      · rw [if_pos hc] at hf
        refine xm_aload_n hx hb (xvor _ _) dM_indices_49 rfl (lv_at hl 3 rfl) ?_
        obtain ⟨hg2, hf⟩ := xifn hf
        refine xm_vget (v := .int ((xpi st 0) (c1 - 1))) hx hb htx hown hK hP 0 (by decide) hg2 rfl ((hZ.1 (93, "kind", "I") (List.mem_of_getElem? (i := 0) rfl)).use rfl) rfl dM_indices_50 ?_
        refine lv_iconst (v := 5) hx hb dM_indices_53 (by decide) ?_
        refine lv_icmp_ne (tgt := 61) hx hb dM_indices_54 (by decide) (fun hc => ?_) (fun hc => ?_)
        · rw [if_neg hc] at hf
          refine lv_iconst (v := 0) hx hb dM_indices_61 (by decide) ?_
          refine lv_istore (lv' := [(4, .int 0), (3, .int 0), (0, .ref aM), (1, xv vad c0), (2, xv vad c1)]) hx hb dM_indices_62 hl (by decide) rfl (fun ls hl => ?_)
          refine lv_iload_n hx hb dM_indices_64 rfl (lv_at hl 1 rfl) ?_
          refine lv_if_ne (tgt := 73) hx hb dM_indices_65 (by decide) (fun h => ((by revert h; decide : False)).elim) (fun _ => ?_)
          refine lv_iload hx hb dM_indices_68 (lv_at hl 0 rfl) ?_
          refine lv_if_eq (tgt := 86) hx hb dM_indices_70 (by decide) (fun _ => ?_) (fun h => ((by revert h; decide : False)).elim)
          refine lv_aload_n hx hb dM_indices_86 rfl (lv_at hl 2 rfl) ?_
          refine xm_get (v := .int (xsi st 12)) hx hb htx hown hK hP 12 (by decide) rfl (htx _ kw_5_99) rfl dM_indices_87 ?_
          refine lv_istore (lv' := [(5, .int (xsi st 12)), (4, .int 0), (3, .int 0), (0, .ref aM), (1, xv vad c0), (2, xv vad c1)]) hx hb dM_indices_90 hl (by decide) rfl (fun ls hl => ?_)
          refine lv_iconst (v := 0) hx hb dM_indices_92 (by decide) ?_
          refine lv_istore (lv' := [(6, .int 0), (5, .int (xsi st 12)), (4, .int 0), (3, .int 0), (0, .ref aM), (1, xv vad c0), (2, xv vad c1)]) hx hb dM_indices_93 hl (by decide) rfl (fun ls hl => ?_)
          exact key n (1, (0 : Int32), (xsi st 12), (0 : Int32), (0 : Int32), c0, c1, 0, 0, st, 0, 0) _ _ ls (Or.inl ⟨ad, gd, vad, rfl, hf, hP, hD, hS, lv_sub hl [0, 1, 2, 3, 4, 5, 6] rfl, hE, hN⟩)
        · rw [if_pos hc] at hf
          refine lv_iconst (v := 1) hx hb dM_indices_57 (by decide) ?_
          refine lv_goto (tgt := 62) hx hb dM_indices_58 (by decide) ?_
          refine lv_istore (lv' := [(4, .int 1), (3, .int 0), (0, .ref aM), (1, xv vad c0), (2, xv vad c1)]) hx hb dM_indices_62 hl (by decide) rfl (fun ls hl => ?_)
          refine lv_iload_n hx hb dM_indices_64 rfl (lv_at hl 1 rfl) ?_
          refine lv_if_ne (tgt := 73) hx hb dM_indices_65 (by decide) (fun h => ((by revert h; decide : False)).elim) (fun _ => ?_)
          refine lv_iload hx hb dM_indices_68 (lv_at hl 0 rfl) ?_
          refine lv_if_eq (tgt := 86) hx hb dM_indices_70 (by decide) (fun h => ((by revert h; decide : False)).elim) (fun _ => ?_)
          refine xm_aload_n hx hb (xvor _ _) dM_indices_73 rfl (lv_at hl 4 rfl) ?_
          refine xm_vget (v := .int ((xpi st 3) (c1 - 1))) hx hb htx hown hK hP 3 (by decide) hg2 rfl ((hZ.1 (103, "count", "I") (List.mem_of_getElem? (i := 3) rfl)).use rfl) rfl dM_indices_74 ?_
          refine lv_if_ne (tgt := 86) hx hb dM_indices_77 (by decide) (fun hc => ?_) (fun hc => ?_)
          · rw [if_neg hc] at hf
            refine lv_aload_n hx hb dM_indices_86 rfl (lv_at hl 2 rfl) ?_
            refine xm_get (v := .int (xsi st 12)) hx hb htx hown hK hP 12 (by decide) rfl (htx _ kw_5_99) rfl dM_indices_87 ?_
            refine lv_istore (lv' := [(5, .int (xsi st 12)), (4, .int 1), (3, .int 0), (0, .ref aM), (1, xv vad c0), (2, xv vad c1)]) hx hb dM_indices_90 hl (by decide) rfl (fun ls hl => ?_)
            refine lv_iconst (v := 0) hx hb dM_indices_92 (by decide) ?_
            refine lv_istore (lv' := [(6, .int 0), (5, .int (xsi st 12)), (4, .int 1), (3, .int 0), (0, .ref aM), (1, xv vad c0), (2, xv vad c1)]) hx hb dM_indices_93 hl (by decide) rfl (fun ls hl => ?_)
            exact key n (1, (0 : Int32), (xsi st 12), (1 : Int32), (0 : Int32), c0, c1, 0, 0, st, 0, 0) _ _ ls (Or.inl ⟨ad, gd, vad, rfl, hf, hP, hD, hS, lv_sub hl [0, 1, 2, 3, 4, 5, 6] rfl, hE, hN⟩)
          · rw [if_pos hc] at hf
            refine lv_aload_n hx hb dM_indices_80 rfl (lv_at hl 2 rfl) ?_
            refine lv_iconst (v := 0) hx hb dM_indices_81 (by decide) ?_
            obtain ⟨o3, hq4, hf⟩ := xbind hf
            have hl := lv_sub (l' := [(4, .int 1), (3, .int 0), (0, .ref aM)]) hl [0, 1, 2] rfl
            obtain ⟨hm5, hf⟩ := xmoE hf
            have hFc := xm_free hD hS hA
            refine va_callq (va_runV (C := "ValueBenchModel") (As := [.int 0]) (rest := []) ⟨hx, hb, hml, hown, htx⟩ (gM_fresh l hl9 D cT aK aV s.heap.size n aM ad rd gd vad st (0 : Int32) o3 hq4) ⟨callB_of 1 htx (xw_goodC kw_6_16) rfl rfl rfl (htx _ kw_1_5) (htx _ kw_6_13) ⟨by decide, by decide, by decide +kernel⟩ ⟨Nat.le_of_ble_eq_true rfl, Nat.le_of_ble_eq_true rfl⟩, (htx _ kw_6_15), (htx _ kp_M_fresh)⟩ ⟨xPre_blind, va_recv hK hP (ci := 5) rfl (q0 := 0) rfl, (fun U hU hW => ⟨rfl, xPre_of hZ hS hFc hP hD hK U hU hW⟩)⟩ rfl rfl hl.1 rfl (xm_room (Nat.le_of_ble_eq_true rfl)) dM_indices_82 ⟨hm5.1, hm5.2⟩) hS (fun q _ h => hFc q h) hFc (fun r6 u9 t H1 locs ht hvm hr9 hB hz1 hk1 hS => ?_)
            obtain ⟨hP1, hK1, hD1⟩ := hB
            rw [ht] at hP1
            obtain ⟨ad7, gd8, vad9⟩ := u9
            obtain ⟨hr9, hv10, hn11⟩ := hr9
            have hP : va_P D xcl (xMw cT aM ad7 rd gd8 vad9 o3.2.2.2 []) H1 := hP1
            have hD : va_D A (xMw cT aM ad7 rd gd8 vad9 o3.2.2.2 []) := hD1.weaken (fun k q _ h => hFc q.1 h)
            generalize H1 = H at hP hS ⊢
            have hE9 : ∀ p, p < xct st → vad9 p = vad p := fun p h => (hv10 p (Nat.lt_of_lt_of_le h hN)).trans (hE p h)
            have hE := hE9
            have hN : xct st ≤ xct o3.2.2.2 := Nat.le_trans hN hn11
            rw [hr9]
            refine W.eq (g2 := F0 m 85 ls [xv vad9 o3.2.2.1]) (by first | rfl | (skip; rfl)) ?_
            obtain rfl := Option.some.inj hf
            exact absurd (show (0 : Nat) = 1 from hkd) (by decide)
      · rw [if_neg hc] at hf
        refine lv_aload_n hx hb dM_indices_43 rfl (lv_at hl 1 rfl) ?_
        refine lv_iconst (v := 1) hx hb dM_indices_44 (by decide) ?_
        obtain ⟨o2, hq3, hf⟩ := xbind hf
        have hl := lv_sub (l' := [(3, .int 0), (0, .ref aM)]) hl [0, 1] rfl
        by_cases hk4 : o2.1 = 1
        · rw [if_pos hk4] at hf
          obtain ⟨hm5, hf⟩ := xmoE hf
          have hFc := xm_free hD hS hA
          refine xx_thr (vx_runV (C := "ValueBenchModel") (As := [.int 1]) (rest := []) ⟨hx, hb, hml, hown, htx⟩ (gM_refuse_1 l hl9 D cT aK aV s.heap.size n aM ad rd gd vad st (1 : Int32) o2 hq3 hk4) ⟨callB_of 1 htx (xw_goodC kw_6_93) rfl rfl rfl (htx _ kw_1_5) (htx _ kw_6_90) ⟨by decide, by decide, by decide +kernel⟩ ⟨Nat.le_of_ble_eq_true rfl, Nat.le_of_ble_eq_true rfl⟩, (htx _ kw_6_92), (htx _ kp_M_refuse)⟩ ⟨xPre_blind, va_recv hK hP (ci := 5) rfl (q0 := 0) rfl, (fun U hU hW => ⟨rfl, xPre_of hZ hS hFc hP hD hK U hU hW⟩)⟩ rfl rfl hl.1 rfl (xm_room (Nat.le_of_ble_eq_true rfl)) dM_indices_45 ⟨hm5.1, hm5.2⟩) hS hFc (fun q _ h => hFc q h) (fun E ce q9 u9 t H1 locs ht hvm hr9 hB hz1 hk1 hS hce hcv hcl => ?_)
          obtain ⟨rfl, hP1, hK1, hD1⟩ := hB
          rw [ht] at hP1
          obtain ⟨ad7, gd8, vad9⟩ := u9
          obtain ⟨hv10, hn11⟩ := hr9
          have hP : va_P D xcl (xMw cT aM ad7 rd gd8 vad9 o2.2.2.2.2 []) H1 := hP1
          have hD : va_D A (xMw cT aM ad7 rd gd8 vad9 o2.2.2.2.2 []) := hD1.weaken (fun k q _ h => hFc q.1 h)
          generalize H1 = H at hP hS hce ⊢
          have hE9 : ∀ p, p < xct st → vad9 p = vad p := fun p h => (hv10 p (Nat.lt_of_lt_of_le h hN)).trans (hE p h)
          have hE := hE9
          have hN : xct st ≤ xct o2.2.2.2.2 := Nat.le_trans hN hn11
          obtain rfl := Option.some.inj hf
          exact vx_out (E := "java/lang/ArithmeticException") (fun x h => (hne x h).elim) hlocks hce hcv hcl (fun t ht ha => ⟨(ad7, gd8, vad9), ⟨hE, hN⟩, ⟨rfl, by rw [ht]; exact hP, va_K.moved ha hK, hD⟩, hS.F ht⟩) hS.2.2 (Nat.le_refl _) (Nat.le_refl _)
        rw [if_neg hk4] at hf
        exact nomatch hf
    · rw [if_pos hc] at hf
      refine xm_aload_n hx hb (xvor _ _) dM_indices_17 rfl (lv_at hl 2 rfl) ?_
      obtain ⟨hg2, hf⟩ := xifn hf
      refine xm_vget (v := .int ((xpi st 0) (c1 - 1))) hx hb htx hown hK hP 0 (by decide) hg2 rfl ((hZ.1 (93, "kind", "I") (List.mem_of_getElem? (i := 0) rfl)).use rfl) rfl dM_indices_18 ?_
      refine lv_iconst (v := 4) hx hb dM_indices_21 (by decide) ?_
      refine lv_icmp_ne (tgt := 29) hx hb dM_indices_22 (by decide) (fun hc => ?_) (fun hc => ?_)
      · rw [if_neg hc] at hf
        refine lv_iconst (v := 0) hx hb dM_indices_29 (by decide) ?_
        refine lv_istore_n (lv' := [(3, .int 0), (0, .ref aM), (1, xv vad c0), (2, xv vad c1)]) hx hb dM_indices_30 rfl hl (by decide) (by simp only [List.filter, xvcat, xrscat, xcI, xcL, xcR, xcN]; rfl) (fun ls hl => ?_)
        refine lv_iload_n hx hb dM_indices_31 rfl (lv_at hl 0 rfl) ?_
        refine lv_if_ne (tgt := 49) hx hb dM_indices_32 (by decide) (fun h => ((by revert h; decide : False)).elim) (fun _ => ?_)
        refine xm_aload_n hx hb (xvor _ _) dM_indices_35 rfl (lv_at hl 2 rfl) ?_
        refine xm_vget (v := .int ((xpi st 0) (c0 - 1))) hx hb htx hown hK hP 0 (by decide) hg1 rfl ((hZ.1 (93, "kind", "I") (List.mem_of_getElem? (i := 0) rfl)).use rfl) rfl dM_indices_36 ?_
        refine lv_iconst (v := 5) hx hb dM_indices_39 (by decide) ?_
        refine lv_icmp_eq (tgt := 49) hx hb dM_indices_40 (by decide) (fun hc => ?_) (fun hc => ?_)
        · rw [if_pos hc] at hf
          refine xm_aload_n hx hb (xvor _ _) dM_indices_49 rfl (lv_at hl 3 rfl) ?_
          refine xm_vget (v := .int ((xpi st 0) (c1 - 1))) hx hb htx hown hK hP 0 (by decide) hg2 rfl ((hZ.1 (93, "kind", "I") (List.mem_of_getElem? (i := 0) rfl)).use rfl) rfl dM_indices_50 ?_
          refine lv_iconst (v := 5) hx hb dM_indices_53 (by decide) ?_
          refine lv_icmp_ne (tgt := 61) hx hb dM_indices_54 (by decide) (fun hc => ?_) (fun hc => ?_)
          · rw [if_neg hc] at hf
            refine lv_iconst (v := 0) hx hb dM_indices_61 (by decide) ?_
            refine lv_istore (lv' := [(4, .int 0), (3, .int 0), (0, .ref aM), (1, xv vad c0), (2, xv vad c1)]) hx hb dM_indices_62 hl (by decide) rfl (fun ls hl => ?_)
            refine lv_iload_n hx hb dM_indices_64 rfl (lv_at hl 1 rfl) ?_
            refine lv_if_ne (tgt := 73) hx hb dM_indices_65 (by decide) (fun h => ((by revert h; decide : False)).elim) (fun _ => ?_)
            refine lv_iload hx hb dM_indices_68 (lv_at hl 0 rfl) ?_
            refine lv_if_eq (tgt := 86) hx hb dM_indices_70 (by decide) (fun _ => ?_) (fun h => ((by revert h; decide : False)).elim)
            refine lv_aload_n hx hb dM_indices_86 rfl (lv_at hl 2 rfl) ?_
            refine xm_get (v := .int (xsi st 12)) hx hb htx hown hK hP 12 (by decide) rfl (htx _ kw_5_99) rfl dM_indices_87 ?_
            refine lv_istore (lv' := [(5, .int (xsi st 12)), (4, .int 0), (3, .int 0), (0, .ref aM), (1, xv vad c0), (2, xv vad c1)]) hx hb dM_indices_90 hl (by decide) rfl (fun ls hl => ?_)
            refine lv_iconst (v := 0) hx hb dM_indices_92 (by decide) ?_
            refine lv_istore (lv' := [(6, .int 0), (5, .int (xsi st 12)), (4, .int 0), (3, .int 0), (0, .ref aM), (1, xv vad c0), (2, xv vad c1)]) hx hb dM_indices_93 hl (by decide) rfl (fun ls hl => ?_)
            exact key n (1, (0 : Int32), (xsi st 12), (0 : Int32), (0 : Int32), c0, c1, 0, 0, st, 0, 0) _ _ ls (Or.inl ⟨ad, gd, vad, rfl, hf, hP, hD, hS, lv_sub hl [0, 1, 2, 3, 4, 5, 6] rfl, hE, hN⟩)
          · rw [if_pos hc] at hf
            refine lv_iconst (v := 1) hx hb dM_indices_57 (by decide) ?_
            refine lv_goto (tgt := 62) hx hb dM_indices_58 (by decide) ?_
            refine lv_istore (lv' := [(4, .int 1), (3, .int 0), (0, .ref aM), (1, xv vad c0), (2, xv vad c1)]) hx hb dM_indices_62 hl (by decide) rfl (fun ls hl => ?_)
            refine lv_iload_n hx hb dM_indices_64 rfl (lv_at hl 1 rfl) ?_
            refine lv_if_ne (tgt := 73) hx hb dM_indices_65 (by decide) (fun h => ((by revert h; decide : False)).elim) (fun _ => ?_)
            refine lv_iload hx hb dM_indices_68 (lv_at hl 0 rfl) ?_
            refine lv_if_eq (tgt := 86) hx hb dM_indices_70 (by decide) (fun h => ((by revert h; decide : False)).elim) (fun _ => ?_)
            refine xm_aload_n hx hb (xvor _ _) dM_indices_73 rfl (lv_at hl 4 rfl) ?_
            refine xm_vget (v := .int ((xpi st 3) (c1 - 1))) hx hb htx hown hK hP 3 (by decide) hg2 rfl ((hZ.1 (103, "count", "I") (List.mem_of_getElem? (i := 3) rfl)).use rfl) rfl dM_indices_74 ?_
            refine lv_if_ne (tgt := 86) hx hb dM_indices_77 (by decide) (fun hc => ?_) (fun hc => ?_)
            · rw [if_neg hc] at hf
              refine lv_aload_n hx hb dM_indices_86 rfl (lv_at hl 2 rfl) ?_
              refine xm_get (v := .int (xsi st 12)) hx hb htx hown hK hP 12 (by decide) rfl (htx _ kw_5_99) rfl dM_indices_87 ?_
              refine lv_istore (lv' := [(5, .int (xsi st 12)), (4, .int 1), (3, .int 0), (0, .ref aM), (1, xv vad c0), (2, xv vad c1)]) hx hb dM_indices_90 hl (by decide) rfl (fun ls hl => ?_)
              refine lv_iconst (v := 0) hx hb dM_indices_92 (by decide) ?_
              refine lv_istore (lv' := [(6, .int 0), (5, .int (xsi st 12)), (4, .int 1), (3, .int 0), (0, .ref aM), (1, xv vad c0), (2, xv vad c1)]) hx hb dM_indices_93 hl (by decide) rfl (fun ls hl => ?_)
              exact key n (1, (0 : Int32), (xsi st 12), (1 : Int32), (0 : Int32), c0, c1, 0, 0, st, 0, 0) _ _ ls (Or.inl ⟨ad, gd, vad, rfl, hf, hP, hD, hS, lv_sub hl [0, 1, 2, 3, 4, 5, 6] rfl, hE, hN⟩)
            · rw [if_pos hc] at hf
              refine lv_aload_n hx hb dM_indices_80 rfl (lv_at hl 2 rfl) ?_
              refine lv_iconst (v := 0) hx hb dM_indices_81 (by decide) ?_
              obtain ⟨o3, hq4, hf⟩ := xbind hf
              have hl := lv_sub (l' := [(4, .int 1), (3, .int 0), (0, .ref aM)]) hl [0, 1, 2] rfl
              obtain ⟨hm5, hf⟩ := xmoE hf
              have hFc := xm_free hD hS hA
              refine va_callq (va_runV (C := "ValueBenchModel") (As := [.int 0]) (rest := []) ⟨hx, hb, hml, hown, htx⟩ (gM_fresh l hl9 D cT aK aV s.heap.size n aM ad rd gd vad st (0 : Int32) o3 hq4) ⟨callB_of 1 htx (xw_goodC kw_6_16) rfl rfl rfl (htx _ kw_1_5) (htx _ kw_6_13) ⟨by decide, by decide, by decide +kernel⟩ ⟨Nat.le_of_ble_eq_true rfl, Nat.le_of_ble_eq_true rfl⟩, (htx _ kw_6_15), (htx _ kp_M_fresh)⟩ ⟨xPre_blind, va_recv hK hP (ci := 5) rfl (q0 := 0) rfl, (fun U hU hW => ⟨rfl, xPre_of hZ hS hFc hP hD hK U hU hW⟩)⟩ rfl rfl hl.1 rfl (xm_room (Nat.le_of_ble_eq_true rfl)) dM_indices_82 ⟨hm5.1, hm5.2⟩) hS (fun q _ h => hFc q h) hFc (fun r6 u9 t H1 locs ht hvm hr9 hB hz1 hk1 hS => ?_)
              obtain ⟨hP1, hK1, hD1⟩ := hB
              rw [ht] at hP1
              obtain ⟨ad7, gd8, vad9⟩ := u9
              obtain ⟨hr9, hv10, hn11⟩ := hr9
              have hP : va_P D xcl (xMw cT aM ad7 rd gd8 vad9 o3.2.2.2 []) H1 := hP1
              have hD : va_D A (xMw cT aM ad7 rd gd8 vad9 o3.2.2.2 []) := hD1.weaken (fun k q _ h => hFc q.1 h)
              generalize H1 = H at hP hS ⊢
              have hE9 : ∀ p, p < xct st → vad9 p = vad p := fun p h => (hv10 p (Nat.lt_of_lt_of_le h hN)).trans (hE p h)
              have hE := hE9
              have hN : xct st ≤ xct o3.2.2.2 := Nat.le_trans hN hn11
              rw [hr9]
              refine W.eq (g2 := F0 m 85 ls [xv vad9 o3.2.2.1]) (by first | rfl | (skip; rfl)) ?_
              obtain rfl := Option.some.inj hf
              exact absurd (show (0 : Nat) = 1 from hkd) (by decide)
        · rw [if_neg hc] at hf
          refine lv_aload_n hx hb dM_indices_43 rfl (lv_at hl 1 rfl) ?_
          refine lv_iconst (v := 1) hx hb dM_indices_44 (by decide) ?_
          obtain ⟨o3, hq4, hf⟩ := xbind hf
          have hl := lv_sub (l' := [(3, .int 0), (0, .ref aM)]) hl [0, 1] rfl
          by_cases hk5 : o3.1 = 1
          · rw [if_pos hk5] at hf
            obtain ⟨hm6, hf⟩ := xmoE hf
            have hFc := xm_free hD hS hA
            refine xx_thr (vx_runV (C := "ValueBenchModel") (As := [.int 1]) (rest := []) ⟨hx, hb, hml, hown, htx⟩ (gM_refuse_1 l hl9 D cT aK aV s.heap.size n aM ad rd gd vad st (1 : Int32) o3 hq4 hk5) ⟨callB_of 1 htx (xw_goodC kw_6_93) rfl rfl rfl (htx _ kw_1_5) (htx _ kw_6_90) ⟨by decide, by decide, by decide +kernel⟩ ⟨Nat.le_of_ble_eq_true rfl, Nat.le_of_ble_eq_true rfl⟩, (htx _ kw_6_92), (htx _ kp_M_refuse)⟩ ⟨xPre_blind, va_recv hK hP (ci := 5) rfl (q0 := 0) rfl, (fun U hU hW => ⟨rfl, xPre_of hZ hS hFc hP hD hK U hU hW⟩)⟩ rfl rfl hl.1 rfl (xm_room (Nat.le_of_ble_eq_true rfl)) dM_indices_45 ⟨hm6.1, hm6.2⟩) hS hFc (fun q _ h => hFc q h) (fun E ce q9 u9 t H1 locs ht hvm hr9 hB hz1 hk1 hS hce hcv hcl => ?_)
            obtain ⟨rfl, hP1, hK1, hD1⟩ := hB
            rw [ht] at hP1
            obtain ⟨ad8, gd9, vad10⟩ := u9
            obtain ⟨hv11, hn12⟩ := hr9
            have hP : va_P D xcl (xMw cT aM ad8 rd gd9 vad10 o3.2.2.2.2 []) H1 := hP1
            have hD : va_D A (xMw cT aM ad8 rd gd9 vad10 o3.2.2.2.2 []) := hD1.weaken (fun k q _ h => hFc q.1 h)
            generalize H1 = H at hP hS hce ⊢
            have hE9 : ∀ p, p < xct st → vad10 p = vad p := fun p h => (hv11 p (Nat.lt_of_lt_of_le h hN)).trans (hE p h)
            have hE := hE9
            have hN : xct st ≤ xct o3.2.2.2.2 := Nat.le_trans hN hn12
            obtain rfl := Option.some.inj hf
            exact vx_out (E := "java/lang/ArithmeticException") (fun x h => (hne x h).elim) hlocks hce hcv hcl (fun t ht ha => ⟨(ad8, gd9, vad10), ⟨hE, hN⟩, ⟨rfl, by rw [ht]; exact hP, va_K.moved ha hK, hD⟩, hS.F ht⟩) hS.2.2 (Nat.le_refl _) (Nat.le_refl _)
          rw [if_neg hk5] at hf
          exact nomatch hf
      · rw [if_pos hc] at hf
        refine lv_iconst (v := 1) hx hb dM_indices_25 (by decide) ?_
        refine lv_goto (tgt := 30) hx hb dM_indices_26 (by decide) ?_
        refine lv_istore_n (lv' := [(3, .int 1), (0, .ref aM), (1, xv vad c0), (2, xv vad c1)]) hx hb dM_indices_30 rfl hl (by decide) (by simp only [List.filter, xvcat, xrscat, xcI, xcL, xcR, xcN]; rfl) (fun ls hl => ?_)
        refine lv_iload_n hx hb dM_indices_31 rfl (lv_at hl 0 rfl) ?_
        refine lv_if_ne (tgt := 49) hx hb dM_indices_32 (by decide) (fun _ => ?_) (fun h => ((by revert h; decide : False)).elim)
        refine xm_aload_n hx hb (xvor _ _) dM_indices_49 rfl (lv_at hl 3 rfl) ?_
        refine xm_vget (v := .int ((xpi st 0) (c1 - 1))) hx hb htx hown hK hP 0 (by decide) hg2 rfl ((hZ.1 (93, "kind", "I") (List.mem_of_getElem? (i := 0) rfl)).use rfl) rfl dM_indices_50 ?_
        refine lv_iconst (v := 5) hx hb dM_indices_53 (by decide) ?_
        refine lv_icmp_ne (tgt := 61) hx hb dM_indices_54 (by decide) (fun hc => ?_) (fun hc => ?_)
        · rw [if_neg hc] at hf
          refine lv_iconst (v := 0) hx hb dM_indices_61 (by decide) ?_
          refine lv_istore (lv' := [(4, .int 0), (3, .int 1), (0, .ref aM), (1, xv vad c0), (2, xv vad c1)]) hx hb dM_indices_62 hl (by decide) rfl (fun ls hl => ?_)
          refine lv_iload_n hx hb dM_indices_64 rfl (lv_at hl 1 rfl) ?_
          refine lv_if_ne (tgt := 73) hx hb dM_indices_65 (by decide) (fun _ => ?_) (fun h => ((by revert h; decide : False)).elim)
          refine xm_aload_n hx hb (xvor _ _) dM_indices_73 rfl (lv_at hl 4 rfl) ?_
          refine xm_vget (v := .int ((xpi st 3) (c1 - 1))) hx hb htx hown hK hP 3 (by decide) hg2 rfl ((hZ.1 (103, "count", "I") (List.mem_of_getElem? (i := 3) rfl)).use rfl) rfl dM_indices_74 ?_
          refine lv_if_ne (tgt := 86) hx hb dM_indices_77 (by decide) (fun hc => ?_) (fun hc => ?_)
          · rw [if_neg hc] at hf
            refine lv_aload_n hx hb dM_indices_86 rfl (lv_at hl 2 rfl) ?_
            refine xm_get (v := .int (xsi st 12)) hx hb htx hown hK hP 12 (by decide) rfl (htx _ kw_5_99) rfl dM_indices_87 ?_
            refine lv_istore (lv' := [(5, .int (xsi st 12)), (4, .int 0), (3, .int 1), (0, .ref aM), (1, xv vad c0), (2, xv vad c1)]) hx hb dM_indices_90 hl (by decide) rfl (fun ls hl => ?_)
            refine lv_iconst (v := 0) hx hb dM_indices_92 (by decide) ?_
            refine lv_istore (lv' := [(6, .int 0), (5, .int (xsi st 12)), (4, .int 0), (3, .int 1), (0, .ref aM), (1, xv vad c0), (2, xv vad c1)]) hx hb dM_indices_93 hl (by decide) rfl (fun ls hl => ?_)
            exact key n (1, (0 : Int32), (xsi st 12), (0 : Int32), (1 : Int32), c0, c1, 0, 0, st, 0, 0) _ _ ls (Or.inl ⟨ad, gd, vad, rfl, hf, hP, hD, hS, lv_sub hl [0, 1, 2, 3, 4, 5, 6] rfl, hE, hN⟩)
          · rw [if_pos hc] at hf
            refine lv_aload_n hx hb dM_indices_80 rfl (lv_at hl 2 rfl) ?_
            refine lv_iconst (v := 0) hx hb dM_indices_81 (by decide) ?_
            obtain ⟨o3, hq4, hf⟩ := xbind hf
            have hl := lv_sub (l' := [(4, .int 0), (3, .int 1), (0, .ref aM)]) hl [0, 1, 2] rfl
            obtain ⟨hm5, hf⟩ := xmoE hf
            have hFc := xm_free hD hS hA
            refine va_callq (va_runV (C := "ValueBenchModel") (As := [.int 0]) (rest := []) ⟨hx, hb, hml, hown, htx⟩ (gM_fresh l hl9 D cT aK aV s.heap.size n aM ad rd gd vad st (0 : Int32) o3 hq4) ⟨callB_of 1 htx (xw_goodC kw_6_16) rfl rfl rfl (htx _ kw_1_5) (htx _ kw_6_13) ⟨by decide, by decide, by decide +kernel⟩ ⟨Nat.le_of_ble_eq_true rfl, Nat.le_of_ble_eq_true rfl⟩, (htx _ kw_6_15), (htx _ kp_M_fresh)⟩ ⟨xPre_blind, va_recv hK hP (ci := 5) rfl (q0 := 0) rfl, (fun U hU hW => ⟨rfl, xPre_of hZ hS hFc hP hD hK U hU hW⟩)⟩ rfl rfl hl.1 rfl (xm_room (Nat.le_of_ble_eq_true rfl)) dM_indices_82 ⟨hm5.1, hm5.2⟩) hS (fun q _ h => hFc q h) hFc (fun r6 u9 t H1 locs ht hvm hr9 hB hz1 hk1 hS => ?_)
            obtain ⟨hP1, hK1, hD1⟩ := hB
            rw [ht] at hP1
            obtain ⟨ad7, gd8, vad9⟩ := u9
            obtain ⟨hr9, hv10, hn11⟩ := hr9
            have hP : va_P D xcl (xMw cT aM ad7 rd gd8 vad9 o3.2.2.2 []) H1 := hP1
            have hD : va_D A (xMw cT aM ad7 rd gd8 vad9 o3.2.2.2 []) := hD1.weaken (fun k q _ h => hFc q.1 h)
            generalize H1 = H at hP hS ⊢
            have hE9 : ∀ p, p < xct st → vad9 p = vad p := fun p h => (hv10 p (Nat.lt_of_lt_of_le h hN)).trans (hE p h)
            have hE := hE9
            have hN : xct st ≤ xct o3.2.2.2 := Nat.le_trans hN hn11
            rw [hr9]
            refine W.eq (g2 := F0 m 85 ls [xv vad9 o3.2.2.1]) (by first | rfl | (skip; rfl)) ?_
            obtain rfl := Option.some.inj hf
            exact absurd (show (0 : Nat) = 1 from hkd) (by decide)
        · rw [if_pos hc] at hf
          refine lv_iconst (v := 1) hx hb dM_indices_57 (by decide) ?_
          refine lv_goto (tgt := 62) hx hb dM_indices_58 (by decide) ?_
          refine lv_istore (lv' := [(4, .int 1), (3, .int 1), (0, .ref aM), (1, xv vad c0), (2, xv vad c1)]) hx hb dM_indices_62 hl (by decide) rfl (fun ls hl => ?_)
          refine lv_iload_n hx hb dM_indices_64 rfl (lv_at hl 1 rfl) ?_
          refine lv_if_ne (tgt := 73) hx hb dM_indices_65 (by decide) (fun _ => ?_) (fun h => ((by revert h; decide : False)).elim)
          refine xm_aload_n hx hb (xvor _ _) dM_indices_73 rfl (lv_at hl 4 rfl) ?_
          refine xm_vget (v := .int ((xpi st 3) (c1 - 1))) hx hb htx hown hK hP 3 (by decide) hg2 rfl ((hZ.1 (103, "count", "I") (List.mem_of_getElem? (i := 3) rfl)).use rfl) rfl dM_indices_74 ?_
          refine lv_if_ne (tgt := 86) hx hb dM_indices_77 (by decide) (fun hc => ?_) (fun hc => ?_)
          · rw [if_neg hc] at hf
            refine lv_aload_n hx hb dM_indices_86 rfl (lv_at hl 2 rfl) ?_
            refine xm_get (v := .int (xsi st 12)) hx hb htx hown hK hP 12 (by decide) rfl (htx _ kw_5_99) rfl dM_indices_87 ?_
            refine lv_istore (lv' := [(5, .int (xsi st 12)), (4, .int 1), (3, .int 1), (0, .ref aM), (1, xv vad c0), (2, xv vad c1)]) hx hb dM_indices_90 hl (by decide) rfl (fun ls hl => ?_)
            refine lv_iconst (v := 0) hx hb dM_indices_92 (by decide) ?_
            refine lv_istore (lv' := [(6, .int 0), (5, .int (xsi st 12)), (4, .int 1), (3, .int 1), (0, .ref aM), (1, xv vad c0), (2, xv vad c1)]) hx hb dM_indices_93 hl (by decide) rfl (fun ls hl => ?_)
            exact key n (1, (0 : Int32), (xsi st 12), (1 : Int32), (1 : Int32), c0, c1, 0, 0, st, 0, 0) _ _ ls (Or.inl ⟨ad, gd, vad, rfl, hf, hP, hD, hS, lv_sub hl [0, 1, 2, 3, 4, 5, 6] rfl, hE, hN⟩)
          · rw [if_pos hc] at hf
            refine lv_aload_n hx hb dM_indices_80 rfl (lv_at hl 2 rfl) ?_
            refine lv_iconst (v := 0) hx hb dM_indices_81 (by decide) ?_
            obtain ⟨o3, hq4, hf⟩ := xbind hf
            have hl := lv_sub (l' := [(4, .int 1), (3, .int 1), (0, .ref aM)]) hl [0, 1, 2] rfl
            obtain ⟨hm5, hf⟩ := xmoE hf
            have hFc := xm_free hD hS hA
            refine va_callq (va_runV (C := "ValueBenchModel") (As := [.int 0]) (rest := []) ⟨hx, hb, hml, hown, htx⟩ (gM_fresh l hl9 D cT aK aV s.heap.size n aM ad rd gd vad st (0 : Int32) o3 hq4) ⟨callB_of 1 htx (xw_goodC kw_6_16) rfl rfl rfl (htx _ kw_1_5) (htx _ kw_6_13) ⟨by decide, by decide, by decide +kernel⟩ ⟨Nat.le_of_ble_eq_true rfl, Nat.le_of_ble_eq_true rfl⟩, (htx _ kw_6_15), (htx _ kp_M_fresh)⟩ ⟨xPre_blind, va_recv hK hP (ci := 5) rfl (q0 := 0) rfl, (fun U hU hW => ⟨rfl, xPre_of hZ hS hFc hP hD hK U hU hW⟩)⟩ rfl rfl hl.1 rfl (xm_room (Nat.le_of_ble_eq_true rfl)) dM_indices_82 ⟨hm5.1, hm5.2⟩) hS (fun q _ h => hFc q h) hFc (fun r6 u9 t H1 locs ht hvm hr9 hB hz1 hk1 hS => ?_)
            obtain ⟨hP1, hK1, hD1⟩ := hB
            rw [ht] at hP1
            obtain ⟨ad7, gd8, vad9⟩ := u9
            obtain ⟨hr9, hv10, hn11⟩ := hr9
            have hP : va_P D xcl (xMw cT aM ad7 rd gd8 vad9 o3.2.2.2 []) H1 := hP1
            have hD : va_D A (xMw cT aM ad7 rd gd8 vad9 o3.2.2.2 []) := hD1.weaken (fun k q _ h => hFc q.1 h)
            generalize H1 = H at hP hS ⊢
            have hE9 : ∀ p, p < xct st → vad9 p = vad p := fun p h => (hv10 p (Nat.lt_of_lt_of_le h hN)).trans (hE p h)
            have hE := hE9
            have hN : xct st ≤ xct o3.2.2.2 := Nat.le_trans hN hn11
            rw [hr9]
            refine W.eq (g2 := F0 m 85 ls [xv vad9 o3.2.2.1]) (by first | rfl | (skip; rfl)) ?_
            obtain rfl := Option.some.inj hf
            exact absurd (show (0 : Nat) = 1 from hkd) (by decide)
  · rw [if_pos hc] at hf
    refine xm_aload_n hx hb (xvor _ _) dM_indices_7 rfl (lv_at hl 1 rfl) ?_
    obtain rfl := Option.some.inj hf
    exact absurd (show (0 : Nat) = 1 from hkd) (by decide)
set_option maxHeartbeats 400000000 in
set_option maxRecDepth 100000 in
theorem gM_indices_2 (l : Launch) (hl9 : l.stackTraces = false) (D : va_G) (cT : Nat → ClassId) (aK aV : Nat → Nat) (sz d n : Nat) (aM : Nat) (ad rd gd vad : Nat → Nat) (st : xS) (c0 : Nat) (c1 : Nat) (out : Nat × Nat × Nat × Nat × xS) (hf : fM_indices d n st c0 c1 = some out) (hkd : out.1 = 2) : xMetY l yM_indices wyM_indices (16 * d + 8) out.2.1 out.2.2.1 (400 * d + 147) D cT aK aV sz [.ref aM, xv vad c0, xv vad c1] (xMw cT aM ad rd gd vad st []) "java/lang/IndexOutOfBoundsException" (fun u => xE vad st out.2.2.2.2 u) (fun A u t => xB D xcl cT A (xMw cT aM u.1 rd u.2.1 u.2.2 out.2.2.2.2 []) t) := by
  refine vx_ofW (cc := prog_13_method_72_code) (maxL := 9) (ret := (some (.object "ValueBenchModel$V"))) (by decide) rfl ?_
  intro p e s m args below meth c s₁ B hml hne hv
  obtain ⟨rfl, hsz, hZ, hP, hK, hD0⟩ := hv
  have hx := B.exec
  have hb := B.bytes
  have hr := B.returns
  have hts := atoms_spec (ws := wyM_indices) B.pre
  have htx := fun w h => hts w (List.mem_cons_of_mem _ h)
  have hown : s.vm.findClass "ValueBenchModel" = some m.cls := findClass_of_methodNamed B.named
  have hlocks := B.notSynchronized
  subst hsz
  have hD := hD0.self (sz := s.heap.size)
  generalize hAe : va_A (xMw cT aM ad rd gd vad st []) s.heap.size = A at hD hZ ⊢
  have hA : ∀ q : Nat, s.heap.size ≤ q → A q := fun q h => by rw [← hAe]; exact Or.inr h
  have hS : va_S A s.heap s.heap [] := va_S.rf
  have hl := lv_entry ([.ref aM, xv vad c0, xv vad c1]) (n := 9) (by simp [lg_sl, xvcat, xrscat, xcI, xcL, xcR, xcN])
  rw [show lv_args 0 [.ref aM, xv vad c0, xv vad c1] = [(0, .ref aM), (1, xv vad c0), (2, xv vad c1)] from by simp [lv_args, xvcat, xrscat, xcI, xcL, xcR, xcN]] at hl
  rw [lg_entry_eq]
  generalize (lg_sl ([.ref aM, xv vad c0, xv vad c1]) ++ List.replicate (9 - (lg_sl ([.ref aM, xv vad c0, xv vad c1])).length) Slot.unset).toArray = ls at hl ⊢
  have hl : lv_has ls 9 [(0, .ref aM), (1, xv vad c0), (2, xv vad c1)] := hl
  have hE : ∀ p, p < xct st → vad p = vad p := fun _ _ => rfl
  have hN : xct st ≤ xct st := Nat.le_refl _
  unfold fM_indices at hf
  refine xloopM (σ := Nat × Int32 × Int32 × Int32 × Int32 × Nat × Nat × Int32 × Int32 × xS × Nat × Nat) (fun n x H locs ls => (∃ (adL gdL vadL : Nat → Nat), x.1 = 1 ∧ fM_indices_b d n x.1 x.2.1 x.2.2.1 x.2.2.2.1 x.2.2.2.2.1 x.2.2.2.2.2.1 x.2.2.2.2.2.2.1 x.2.2.2.2.2.2.2.1 x.2.2.2.2.2.2.2.2.1 x.2.2.2.2.2.2.2.2.2.1 x.2.2.2.2.2.2.2.2.2.2.1 x.2.2.2.2.2.2.2.2.2.2.2 = some out ∧ va_P D xcl (xMw cT aM adL rd gdL vadL x.2.2.2.2.2.2.2.2.2.1 []) H ∧ va_D A (xMw cT aM adL rd gdL vadL x.2.2.2.2.2.2.2.2.2.1 []) ∧ va_S A s.heap H locs ∧ lv_has ls 9 [(6, .int x.2.1), (5, .int x.2.2.1), (4, .int x.2.2.2.1), (3, .int x.2.2.2.2.1), (0, .ref aM), (1, xv vadL x.2.2.2.2.2.1), (2, xv vadL x.2.2.2.2.2.2.1)] ∧ (∀ p, p < xct st → vadL p = vad p) ∧ xct st ≤ xct x.2.2.2.2.2.2.2.2.2.1) ∨ (∃ (adL gdL vadL : Nat → Nat), x.1 = 2 ∧ fM_indices_b d n x.1 x.2.1 x.2.2.1 x.2.2.2.1 x.2.2.2.2.1 x.2.2.2.2.2.1 x.2.2.2.2.2.2.1 x.2.2.2.2.2.2.2.1 x.2.2.2.2.2.2.2.2.1 x.2.2.2.2.2.2.2.2.2.1 x.2.2.2.2.2.2.2.2.2.2.1 x.2.2.2.2.2.2.2.2.2.2.2 = some out ∧ va_P D xcl (xMw cT aM adL rd gdL vadL x.2.2.2.2.2.2.2.2.2.1 []) H ∧ va_D A (xMw cT aM adL rd gdL vadL x.2.2.2.2.2.2.2.2.2.1 []) ∧ va_S A s.heap H locs ∧ lv_has ls 9 [(8, .int x.2.2.2.2.2.2.2.1), (7, .int x.2.2.2.2.2.2.2.2.1), (6, .int x.2.1), (5, .int x.2.2.1), (4, .int x.2.2.2.1), (3, .int x.2.2.2.2.1), (0, .ref aM), (1, xv vadL x.2.2.2.2.2.1), (2, xv vadL x.2.2.2.2.2.2.1)] ∧ (∀ p, p < xct st → vadL p = vad p) ∧ xct st ≤ xct x.2.2.2.2.2.2.2.2.2.1)) (fun x => if x.1 = 1 then 95 else 175) (fun x => x.2.2.2.2.2.2.2.2.2.2.1) (fun x => x.2.2.2.2.2.2.2.2.2.2.2) (fun x H locs ls h => by rcases h with h | h; (obtain ⟨_, _, _, h⟩ := h; exact absurd h.2.1 (by rw [fM_indices_b]; exact fun h => nomatch h)); (obtain ⟨_, _, _, h⟩ := h; exact absurd h.2.1 (by rw [fM_indices_b]; exact fun h => nomatch h))) (fun n ih x H locs ls hv => ?_) (fun key => ?_)
  · obtain ⟨lb, y6, y5, y4, y3, y1, y2, y8, y7, ws9, wc, wn⟩ := x
    rcases hv with ⟨adL, gdL, vadL, hj, hf, hP, hD, hS, hl, hE, hN⟩ | ⟨adL, gdL, vadL, hj, hf, hP, hD, hS, hl, hE, hN⟩
    · subst hj
      have hf : fM_indices_b d (n + 1) 1 y6 y5 y4 y3 y1 y2 y8 y7 ws9 wc wn = some out := hf
      rw [fM_indices_b, if_pos rfl] at hf
      obtain ⟨hP, hD⟩ : xPD D xcl A (xMw cT aM adL rd gdL vadL ws9 []) H := ⟨hP, hD⟩
      have hl : lv_has ls 9 [(6, .int y6), (5, .int y5), (4, .int y4), (3, .int y3), (0, .ref aM), (1, xv vadL y1), (2, xv vadL y2)] := hl
      refine W.eq (g2 := F0 m 95 ls []) rfl ?_
      show W p l e _ s m _ below meth c H locs wc wn _ _
      obtain ⟨hm0, hf⟩ := xmoE hf
      refine lv_iload hx hb dM_indices_95 (lv_at hl 0 rfl) ?_
      refine xm_aload_n hx hb (xvor _ _) dM_indices_97 rfl (lv_at hl 5 rfl) ?_
      obtain ⟨hg1, hf⟩ := xifn hf
      refine xm_vget (v := .int ((xpi ws9 3) (y1 - 1))) hx hb htx hown hK hP 3 (by decide) hg1 rfl ((hZ.1 (103, "count", "I") (List.mem_of_getElem? (i := 3) rfl)).use rfl) rfl dM_indices_98 ?_
      refine lv_icmp_ge (tgt := 241) hx hb dM_indices_101 (by decide) (fun hc => ?_) (fun hc => ?_)
      · rw [if_pos hc] at hf
        refine lv_aload_n hx hb dM_indices_241 rfl (lv_at hl 4 rfl) ?_
        refine lv_iconst (v := 5) hx hb dM_indices_242 (by decide) ?_
        refine lv_iload hx hb dM_indices_243 (lv_at hl 1 rfl) ?_
        obtain ⟨o2, hq3, hf⟩ := xbind hf
        have hl := lv_sub (l' := [(6, .int y6), (5, .int y5), (4, .int y4), (3, .int y3), (0, .ref aM)]) hl [0, 1, 2, 3, 4] rfl
        by_cases hk4 : o2.1 = 0
        · rw [if_pos hk4] at hf
          obtain ⟨hm5, hf⟩ := xmoE hf
          have hFc := xm_free hD hS hA
          refine va_callq (va_runV (C := "ValueBenchModel") (As := [.int 5, .int y5]) (rest := []) ⟨hx, hb, hml, hown, htx⟩ (gM_whole l hl9 D cT aK aV H.size n aM adL rd gdL vadL ws9 (5 : Int32) y5 o2 hq3 hk4) ⟨callB_of 2 htx (xw_goodC kw_6_106) rfl rfl rfl (htx _ kw_1_5) (htx _ kw_6_103) ⟨by decide, by decide, by decide +kernel⟩ ⟨Nat.le_of_ble_eq_true rfl, Nat.le_of_ble_eq_true rfl⟩, (htx _ kw_6_105), (htx _ kp_M_whole)⟩ ⟨xPre_blind, va_recv hK hP (ci := 5) rfl (q0 := 0) rfl, (fun U hU hW => ⟨rfl, xPre_of hZ hS hFc hP hD hK U hU hW⟩)⟩ rfl rfl hl.1 rfl (xm_room (Nat.le_of_ble_eq_true rfl)) dM_indices_245 ⟨hm5.1, hm5.2⟩) hS (fun q _ h => hFc q h) hFc (fun r6 u9 t H1 locs ht hvm hr9 hB hz1 hk1 hS => ?_)
          obtain ⟨hP1, hK1, hD1⟩ := hB
          rw [ht] at hP1
          obtain ⟨ad7, gd8, vad9⟩ := u9
          obtain ⟨hr9, hv10, hn11⟩ := hr9
          have hP : va_P D xcl (xMw cT aM ad7 rd gd8 vad9 o2.2.2.2.2 []) H1 := hP1
          have hD : va_D A (xMw cT aM ad7 rd gd8 vad9 o2.2.2.2.2 []) := hD1.weaken (fun k q _ h => hFc q.1 h)
          generalize H1 = H at hP hS ⊢
          have hE9 : ∀ p, p < xct st → vad9 p = vad p := fun p h => (hv10 p (Nat.lt_of_lt_of_le h hN)).trans (hE p h)
          have hE := hE9
          have hN : xct st ≤ xct o2.2.2.2.2 := Nat.le_trans hN hn11
          rw [hr9]
          refine W.eq (g2 := F0 m 248 ls [xv vad9 o2.2.2.2.1]) (by first | rfl | (skip; rfl)) ?_
          obtain rfl := Option.some.inj hf
          exact absurd (show (0 : Nat) = 2 from hkd) (by decide)
        rw [if_neg hk4] at hf
        by_cases hk12 : o2.1 = 1
        · rw [if_pos hk12] at hf
          obtain ⟨hm13, hf⟩ := xmoE hf
          have hFc := xm_free hD hS hA
          refine xx_thr (vx_runV (C := "ValueBenchModel") (As := [.int 5, .int y5]) (rest := []) ⟨hx, hb, hml, hown, htx⟩ (gM_whole_1 l hl9 D cT aK aV H.size n aM adL rd gdL vadL ws9 (5 : Int32) y5 o2 hq3 hk12) ⟨callB_of 2 htx (xw_goodC kw_6_106) rfl rfl rfl (htx _ kw_1_5) (htx _ kw_6_103) ⟨by decide, by decide, by decide +kernel⟩ ⟨Nat.le_of_ble_eq_true rfl, Nat.le_of_ble_eq_true rfl⟩, (htx _ kw_6_105), (htx _ kp_M_whole)⟩ ⟨xPre_blind, va_recv hK hP (ci := 5) rfl (q0 := 0) rfl, (fun U hU hW => ⟨rfl, xPre_of hZ hS hFc hP hD hK U hU hW⟩)⟩ rfl rfl hl.1 rfl (xm_room (Nat.le_of_ble_eq_true rfl)) dM_indices_245 ⟨hm13.1, hm13.2⟩) hS hFc (fun q _ h => hFc q h) (fun E ce q9 u9 t H1 locs ht hvm hr9 hB hz1 hk1 hS hce hcv hcl => ?_)
          obtain ⟨rfl, hP1, hK1, hD1⟩ := hB
          rw [ht] at hP1
          obtain ⟨ad15, gd16, vad17⟩ := u9
          obtain ⟨hv18, hn19⟩ := hr9
          have hP : va_P D xcl (xMw cT aM ad15 rd gd16 vad17 o2.2.2.2.2 []) H1 := hP1
          have hD : va_D A (xMw cT aM ad15 rd gd16 vad17 o2.2.2.2.2 []) := hD1.weaken (fun k q _ h => hFc q.1 h)
          generalize H1 = H at hP hS hce ⊢
          have hE9 : ∀ p, p < xct st → vad17 p = vad p := fun p h => (hv18 p (Nat.lt_of_lt_of_le h hN)).trans (hE p h)
          have hE := hE9
          have hN : xct st ≤ xct o2.2.2.2.2 := Nat.le_trans hN hn19
          obtain rfl := Option.some.inj hf
          exact vx_out (E := "java/lang/IndexOutOfBoundsException") (fun x h => (hne x h).elim) hlocks hce hcv hcl (fun t ht ha => ⟨(ad15, gd16, vad17), ⟨hE, hN⟩, ⟨rfl, by rw [ht]; exact hP, va_K.moved ha hK, hD⟩, hS.F ht⟩) hS.2.2 (Nat.le_refl _) (Nat.le_refl _)
        rw [if_neg hk12] at hf
        exact nomatch hf
      · rw [if_neg hc] at hf
        refine lv_iload_n hx hb dM_indices_104 rfl (lv_at hl 3 rfl) ?_
        refine lv_if_eq (tgt := 119) hx hb dM_indices_105 (by decide) (fun hc => ?_) (fun hc => ?_)
        · rw [if_pos hc] at hf
          refine lv_iload hx hb dM_indices_119 (lv_at hl 2 rfl) ?_
          refine lv_if_ne (tgt := 143) hx hb dM_indices_121 (by decide) (fun hc => ?_) (fun hc => ?_)
          · rw [if_neg hc] at hf
            refine lv_iconst (v := 0) hx hb dM_indices_143 (by decide) ?_
            refine lv_istore (lv' := [(7, .int 0), (6, .int y6), (5, .int y5), (4, .int y4), (3, .int y3), (0, .ref aM), (1, xv vadL y1), (2, xv vadL y2)]) hx hb dM_indices_144 hl (by decide) rfl (fun ls hl => ?_)
            refine lv_iload hx hb dM_indices_146 (lv_at hl 3 rfl) ?_
            refine lv_if_eq (tgt := 218) hx hb dM_indices_148 (by decide) (fun hc => ?_) (fun hc => ?_)
            · rw [if_pos hc] at hf
              refine lv_iload hx hb dM_indices_218 (lv_at hl 0 rfl) ?_
              refine lv_if_eq (tgt := 235) hx hb dM_indices_220 (by decide) (fun _ => ?_) (fun h => ((by revert h; decide : False)).elim)
              refine lv_iinc (v := (y6 + 1)) (lv' := [(6, .int (y6 + 1)), (7, .int 0), (5, .int y5), (4, .int y4), (3, .int y3), (0, .ref aM), (1, xv vadL y1), (2, xv vadL y2)]) hx hb dM_indices_235 hl (k := 1) rfl rfl (by decide) rfl (fun ls hl => ?_)
              refine lv_goto (tgt := 95) hx hb dM_indices_238 (by decide) ?_
              exact ih (1, (y6 + 1), y5, y4, y3, y1, y2, 0, (0 : Int32), ws9, wc, wn) _ _ ls (Or.inl ⟨adL, gdL, vadL, rfl, hf, hP, hD, hS, lv_sub hl [0, 2, 3, 4, 5, 6, 7] rfl, hE, hN⟩)
            · rw [if_neg hc] at hf
              refine lv_iload_n hx hb dM_indices_151 rfl (lv_at hl 4 rfl) ?_
              refine lv_if_ne (tgt := 218) hx hb dM_indices_152 (by decide) (fun hc => ?_) (fun hc => ?_)
              · rw [if_neg hc] at hf
                refine lv_iload hx hb dM_indices_218 (lv_at hl 0 rfl) ?_
                refine lv_if_eq (tgt := 235) hx hb dM_indices_220 (by decide) (fun _ => ?_) (fun h => ((by revert h; decide : False)).elim)
                refine lv_iinc (v := (y6 + 1)) (lv' := [(6, .int (y6 + 1)), (7, .int 0), (5, .int y5), (4, .int y4), (3, .int y3), (0, .ref aM), (1, xv vadL y1), (2, xv vadL y2)]) hx hb dM_indices_235 hl (k := 1) rfl rfl (by decide) rfl (fun ls hl => ?_)
                refine lv_goto (tgt := 95) hx hb dM_indices_238 (by decide) ?_
                exact ih (1, (y6 + 1), y5, y4, y3, y1, y2, 0, (0 : Int32), ws9, wc, wn) _ _ ls (Or.inl ⟨adL, gdL, vadL, rfl, hf, hP, hD, hS, lv_sub hl [0, 2, 3, 4, 5, 6, 7] rfl, hE, hN⟩)
              · rw [if_pos hc] at hf
                refine lv_iload hx hb dM_indices_155 (lv_at hl 1 rfl) ?_
                refine xm_aload_n hx hb (xvor _ _) dM_indices_157 rfl (lv_at hl 7 rfl) ?_
                obtain ⟨hg2, hf⟩ := xifn hf
                refine xm_vget (v := .int ((xpi ws9 3) (y2 - 1))) hx hb htx hown hK hP 3 (by decide) hg2 rfl ((hZ.1 (103, "count", "I") (List.mem_of_getElem? (i := 3) rfl)).use rfl) rfl dM_indices_158 ?_
                refine lv_iadd hx hb dM_indices_161 ?_
                refine xm_aload_n hx hb (xvor _ _) dM_indices_162 rfl (lv_at hl 6 rfl) ?_
                refine xm_vget (v := .int ((xpi ws9 3) (y1 - 1))) hx hb htx hown hK hP 3 (by decide) hg1 rfl ((hZ.1 (103, "count", "I") (List.mem_of_getElem? (i := 3) rfl)).use rfl) rfl dM_indices_163 ?_
                refine lv_icmp_gt (tgt := 218) hx hb dM_indices_166 (by decide) (fun hc => ?_) (fun hc => ?_)
                · rw [if_pos hc] at hf
                  refine lv_iload hx hb dM_indices_218 (lv_at hl 0 rfl) ?_
                  refine lv_if_eq (tgt := 235) hx hb dM_indices_220 (by decide) (fun _ => ?_) (fun h => ((by revert h; decide : False)).elim)
                  refine lv_iinc (v := (y6 + 1)) (lv' := [(6, .int (y6 + 1)), (7, .int 0), (5, .int y5), (4, .int y4), (3, .int y3), (0, .ref aM), (1, xv vadL y1), (2, xv vadL y2)]) hx hb dM_indices_235 hl (k := 1) rfl rfl (by decide) rfl (fun ls hl => ?_)
                  refine lv_goto (tgt := 95) hx hb dM_indices_238 (by decide) ?_
                  exact ih (1, (y6 + 1), y5, y4, y3, y1, y2, 0, (0 : Int32), ws9, wc, wn) _ _ ls (Or.inl ⟨adL, gdL, vadL, rfl, hf, hP, hD, hS, lv_sub hl [0, 2, 3, 4, 5, 6, 7] rfl, hE, hN⟩)
                · rw [if_neg hc] at hf
                  refine lv_iconst (v := 1) hx hb dM_indices_169 (by decide) ?_
                  refine lv_istore (lv' := [(7, .int 1), (6, .int y6), (5, .int y5), (4, .int y4), (3, .int y3), (0, .ref aM), (1, xv vadL y1), (2, xv vadL y2)]) hx hb dM_indices_170 hl (by decide) rfl (fun ls hl => ?_)
                  refine lv_iconst (v := 0) hx hb dM_indices_172 (by decide) ?_
                  refine lv_istore (lv' := [(8, .int 0), (7, .int 1), (6, .int y6), (5, .int y5), (4, .int y4), (3, .int y3), (0, .ref aM), (1, xv vadL y1), (2, xv vadL y2)]) hx hb dM_indices_173 hl (by decide) rfl (fun ls hl => ?_)
                  exact ih (2, y6, y5, y4, y3, y1, y2, (0 : Int32), (1 : Int32), ws9, wc, wn) _ _ ls (Or.inr (⟨adL, gdL, vadL, rfl, hf, hP, hD, hS, lv_sub hl [0, 1, 2, 3, 4, 5, 6, 7, 8] rfl, hE, hN⟩))
          · rw [if_pos hc] at hf
            refine lv_aload_n hx hb dM_indices_124 rfl (lv_at hl 4 rfl) ?_
            refine lv_aload_n hx hb dM_indices_125 rfl (lv_at hl 4 rfl) ?_
            refine xm_aload_n hx hb (xvor _ _) dM_indices_126 rfl (lv_at hl 5 rfl) ?_
            refine lv_iload hx hb dM_indices_127 (lv_at hl 0 rfl) ?_
            obtain ⟨o2, hq3, hf⟩ := xbind hf
            have hFc := xm_free hD hS hA
            refine va_callq (va_runV (C := "ValueBenchModel") (As := [xv vadL y1, .int y6]) (rest := [.ref aM]) ⟨hx, hb, hml, hown, htx⟩ (gM_kid l hl9 D cT aK aV H.size n aM adL rd gdL vadL ws9 y1 y6 o2 hq3) ⟨callB_of 2 htx (xw_goodC kw_6_158) rfl rfl rfl (htx _ kw_1_5) (htx _ kw_6_155) ⟨by decide, by decide, by decide +kernel⟩ ⟨Nat.le_of_ble_eq_true rfl, Nat.le_of_ble_eq_true rfl⟩, (htx _ kw_6_157), (htx _ kp_M_kid)⟩ ⟨xPre_blind, va_recv hK hP (ci := 5) rfl (q0 := 0) rfl, (fun U hU hW => ⟨rfl, xPre_of hZ hS hFc hP hD hK U hU hW⟩)⟩ rfl rfl hl.1 rfl (xm_room (Nat.le_of_ble_eq_true rfl)) dM_indices_129 ⟨hm0.1, hm0.2⟩) hS (fun q _ h => hFc q h) hFc (fun r4 u9 t H1 locs ht hvm hr9 hB hz1 hk1 hS => ?_)
            obtain ⟨hP1, hK1, hD1⟩ := hB
            rw [ht] at hP1
            have hP : va_P D xcl (xMw cT aM adL rd gdL vadL ws9 []) H1 := hP1
            have hD : va_D A (xMw cT aM adL rd gdL vadL ws9 []) := hD1.weaken (fun k q _ h => hFc q.1 h)
            generalize H1 = H at hP hS ⊢
            rw [hr9]
            refine W.eq (g2 := F0 m 132 ls [xv vadL o2, .ref aM]) (by first | rfl | (skip; rfl)) ?_
            refine xm_aload_n hx hb (xvor _ _) dM_indices_132 rfl (lv_at hl 6 rfl) ?_
            obtain ⟨o5, hq6, hf⟩ := xbind hf
            have hFc := xm_free hD hS hA
            refine va_calli (va_runV (C := "ValueBenchModel") (As := [xv vadL o2, xv vadL y2]) (rest := []) ⟨hx, hb, hml, hown, htx⟩ (gM_same1 l hl9 D cT aK aV d H.size n aM adL rd gdL vadL ws9 o2 y2 o5 hq6) ⟨callB_of 2 htx (xw_goodC kw_6_174) rfl rfl rfl (htx _ kw_1_5) (htx _ kw_6_171) ⟨by decide, by decide, by decide +kernel⟩ ⟨(by show (16 * d) + 1 ≤ 16 * d + 8; omega), (by show 8 + (5 + 11) + (400 * d) ≤ 400 * d + 147; omega)⟩, (htx _ kw_6_173), (htx _ kp_M_same1)⟩ ⟨xPre_blind, va_recv hK hP (ci := 5) rfl (q0 := 0) rfl, (fun U hU hW => ⟨rfl, xPre_of hZ hS hFc hP hD hK U hU hW⟩)⟩ rfl rfl hl.1 rfl (xm_room (Nat.le_of_ble_eq_true rfl)) dM_indices_133 ⟨hm0.1, hm0.2⟩) hS (fun q _ h => hFc q h) hFc (fun r7 u9 t H1 locs ht hvm hr9 hB hz1 hk1 hS => ?_)
            obtain ⟨hP1, hK1, hD1⟩ := hB
            rw [ht] at hP1
            have hP : va_P D xcl (xMw cT aM adL rd gdL vadL ws9 []) H1 := hP1
            have hD : va_D A (xMw cT aM adL rd gdL vadL ws9 []) := hD1.weaken (fun k q _ h => hFc q.1 h)
            generalize H1 = H at hP hS ⊢
            rw [hr9]
            refine W.eq (g2 := F0 m 136 ls [.int o5]) (by first | rfl | (skip; rfl)) ?_
            refine lv_if_eq (tgt := 143) hx hb dM_indices_136 (by decide) (fun hc => ?_) (fun hc => ?_)
            · rw [if_pos hc] at hf
              refine lv_iconst (v := 0) hx hb dM_indices_143 (by decide) ?_
              refine lv_istore (lv' := [(7, .int 0), (6, .int y6), (5, .int y5), (4, .int y4), (3, .int y3), (0, .ref aM), (1, xv vadL y1), (2, xv vadL y2)]) hx hb dM_indices_144 hl (by decide) rfl (fun ls hl => ?_)
              refine lv_iload hx hb dM_indices_146 (lv_at hl 3 rfl) ?_
              refine lv_if_eq (tgt := 218) hx hb dM_indices_148 (by decide) (fun hc => ?_) (fun hc => ?_)
              · rw [if_pos hc] at hf
                refine lv_iload hx hb dM_indices_218 (lv_at hl 0 rfl) ?_
                refine lv_if_eq (tgt := 235) hx hb dM_indices_220 (by decide) (fun _ => ?_) (fun h => ((by revert h; decide : False)).elim)
                refine lv_iinc (v := (y6 + 1)) (lv' := [(6, .int (y6 + 1)), (7, .int 0), (5, .int y5), (4, .int y4), (3, .int y3), (0, .ref aM), (1, xv vadL y1), (2, xv vadL y2)]) hx hb dM_indices_235 hl (k := 1) rfl rfl (by decide) rfl (fun ls hl => ?_)
                refine lv_goto (tgt := 95) hx hb dM_indices_238 (by decide) ?_
                exact ih (1, (y6 + 1), y5, y4, y3, y1, y2, 0, (0 : Int32), ws9, wc, wn) _ _ ls (Or.inl ⟨adL, gdL, vadL, rfl, hf, hP, hD, hS, lv_sub hl [0, 2, 3, 4, 5, 6, 7] rfl, hE, hN⟩)
              · rw [if_neg hc] at hf
                refine lv_iload_n hx hb dM_indices_151 rfl (lv_at hl 4 rfl) ?_
                refine lv_if_ne (tgt := 218) hx hb dM_indices_152 (by decide) (fun hc => ?_) (fun hc => ?_)
                · rw [if_neg hc] at hf
                  refine lv_iload hx hb dM_indices_218 (lv_at hl 0 rfl) ?_
                  refine lv_if_eq (tgt := 235) hx hb dM_indices_220 (by decide) (fun _ => ?_) (fun h => ((by revert h; decide : False)).elim)
                  refine lv_iinc (v := (y6 + 1)) (lv' := [(6, .int (y6 + 1)), (7, .int 0), (5, .int y5), (4, .int y4), (3, .int y3), (0, .ref aM), (1, xv vadL y1), (2, xv vadL y2)]) hx hb dM_indices_235 hl (k := 1) rfl rfl (by decide) rfl (fun ls hl => ?_)
                  refine lv_goto (tgt := 95) hx hb dM_indices_238 (by decide) ?_
                  exact ih (1, (y6 + 1), y5, y4, y3, y1, y2, 0, (0 : Int32), ws9, wc, wn) _ _ ls (Or.inl ⟨adL, gdL, vadL, rfl, hf, hP, hD, hS, lv_sub hl [0, 2, 3, 4, 5, 6, 7] rfl, hE, hN⟩)
                · rw [if_pos hc] at hf
                  refine lv_iload hx hb dM_indices_155 (lv_at hl 1 rfl) ?_
                  refine xm_aload_n hx hb (xvor _ _) dM_indices_157 rfl (lv_at hl 7 rfl) ?_
                  obtain ⟨hg8, hf⟩ := xifn hf
                  refine xm_vget (v := .int ((xpi ws9 3) (y2 - 1))) hx hb htx hown hK hP 3 (by decide) hg8 rfl ((hZ.1 (103, "count", "I") (List.mem_of_getElem? (i := 3) rfl)).use rfl) rfl dM_indices_158 ?_
                  refine lv_iadd hx hb dM_indices_161 ?_
                  refine xm_aload_n hx hb (xvor _ _) dM_indices_162 rfl (lv_at hl 6 rfl) ?_
                  refine xm_vget (v := .int ((xpi ws9 3) (y1 - 1))) hx hb htx hown hK hP 3 (by decide) hg1 rfl ((hZ.1 (103, "count", "I") (List.mem_of_getElem? (i := 3) rfl)).use rfl) rfl dM_indices_163 ?_
                  refine lv_icmp_gt (tgt := 218) hx hb dM_indices_166 (by decide) (fun hc => ?_) (fun hc => ?_)
                  · rw [if_pos hc] at hf
                    refine lv_iload hx hb dM_indices_218 (lv_at hl 0 rfl) ?_
                    refine lv_if_eq (tgt := 235) hx hb dM_indices_220 (by decide) (fun _ => ?_) (fun h => ((by revert h; decide : False)).elim)
                    refine lv_iinc (v := (y6 + 1)) (lv' := [(6, .int (y6 + 1)), (7, .int 0), (5, .int y5), (4, .int y4), (3, .int y3), (0, .ref aM), (1, xv vadL y1), (2, xv vadL y2)]) hx hb dM_indices_235 hl (k := 1) rfl rfl (by decide) rfl (fun ls hl => ?_)
                    refine lv_goto (tgt := 95) hx hb dM_indices_238 (by decide) ?_
                    exact ih (1, (y6 + 1), y5, y4, y3, y1, y2, 0, (0 : Int32), ws9, wc, wn) _ _ ls (Or.inl ⟨adL, gdL, vadL, rfl, hf, hP, hD, hS, lv_sub hl [0, 2, 3, 4, 5, 6, 7] rfl, hE, hN⟩)
                  · rw [if_neg hc] at hf
                    refine lv_iconst (v := 1) hx hb dM_indices_169 (by decide) ?_
                    refine lv_istore (lv' := [(7, .int 1), (6, .int y6), (5, .int y5), (4, .int y4), (3, .int y3), (0, .ref aM), (1, xv vadL y1), (2, xv vadL y2)]) hx hb dM_indices_170 hl (by decide) rfl (fun ls hl => ?_)
                    refine lv_iconst (v := 0) hx hb dM_indices_172 (by decide) ?_
                    refine lv_istore (lv' := [(8, .int 0), (7, .int 1), (6, .int y6), (5, .int y5), (4, .int y4), (3, .int y3), (0, .ref aM), (1, xv vadL y1), (2, xv vadL y2)]) hx hb dM_indices_173 hl (by decide) rfl (fun ls hl => ?_)
                    exact ih (2, y6, y5, y4, y3, y1, y2, (0 : Int32), (1 : Int32), ws9, wc, wn) _ _ ls (Or.inr (⟨adL, gdL, vadL, rfl, hf, hP, hD, hS, lv_sub hl [0, 1, 2, 3, 4, 5, 6, 7, 8] rfl, hE, hN⟩))
            · rw [if_neg hc] at hf
              refine lv_iconst (v := 1) hx hb dM_indices_139 (by decide) ?_
              refine lv_goto (tgt := 144) hx hb dM_indices_140 (by decide) ?_
              refine lv_istore (lv' := [(7, .int 1), (6, .int y6), (5, .int y5), (4, .int y4), (3, .int y3), (0, .ref aM), (1, xv vadL y1), (2, xv vadL y2)]) hx hb dM_indices_144 hl (by decide) rfl (fun ls hl => ?_)
              refine lv_iload hx hb dM_indices_146 (lv_at hl 3 rfl) ?_
              refine lv_if_eq (tgt := 218) hx hb dM_indices_148 (by decide) (fun hc => ?_) (fun hc => ?_)
              · rw [if_pos hc] at hf
                refine lv_iload hx hb dM_indices_218 (lv_at hl 0 rfl) ?_
                refine lv_if_eq (tgt := 235) hx hb dM_indices_220 (by decide) (fun h => ((by revert h; decide : False)).elim) (fun _ => ?_)
                refine lv_aload_n hx hb dM_indices_223 rfl (lv_at hl 5 rfl) ?_
                refine lv_null hx hb dM_indices_224 ?_
                refine lv_aload_n hx hb dM_indices_225 rfl (lv_at hl 5 rfl) ?_
                refine lv_iload hx hb dM_indices_226 (lv_at hl 1 rfl) ?_
                refine lv_i2l hx hb dM_indices_228 rfl ?_
                obtain ⟨o8, hq9, hf⟩ := xbind hf
                by_cases hk10 : o8.1 = 0
                · rw [if_pos hk10] at hf
                  obtain ⟨hg11, hf⟩ := xifn hf
                  obtain ⟨hm12, hf⟩ := xmoE hf
                  have hFc := xm_free hD hS hA
                  refine va_callq (va_runV (C := "ValueBenchModel") (As := [.long y6.toInt64]) (rest := [.null, .ref aM]) ⟨hx, hb, hml, hown, htx⟩ (gM_number l hl9 D cT aK aV H.size n aM adL rd gdL vadL ws9 y6.toInt64 o8 hq9 hk10) ⟨callB_of 1 htx (xw_goodC kw_6_88) rfl rfl rfl (htx _ kw_1_5) (htx _ kw_6_85) ⟨by decide, by decide, by decide +kernel⟩ ⟨Nat.le_of_ble_eq_true rfl, Nat.le_of_ble_eq_true rfl⟩, (htx _ kw_6_87), (htx _ kp_M_number)⟩ ⟨xPre_blind, va_recv hK hP (ci := 5) rfl (q0 := 0) rfl, (fun U hU hW => ⟨rfl, xPre_of hZ hS hFc hP hD hK U hU hW⟩)⟩ rfl rfl hl.1 rfl (xm_room (Nat.le_of_ble_eq_true rfl)) dM_indices_229 ⟨hm12.1, hm12.2⟩) hS (fun q _ h => hFc q h) hFc (fun r13 u9 t H1 locs ht hvm hr9 hB hz1 hk1 hS => ?_)
                  obtain ⟨hP1, hK1, hD1⟩ := hB
                  rw [ht] at hP1
                  obtain ⟨ad14, gd15, vad16⟩ := u9
                  obtain ⟨hr9, hv17, hn18⟩ := hr9
                  have hP : va_P D xcl (xMw cT aM ad14 rd gd15 vad16 o8.2.2.2.2 []) H1 := hP1
                  have hD : va_D A (xMw cT aM ad14 rd gd15 vad16 o8.2.2.2.2 []) := hD1.weaken (fun k q _ h => hFc q.1 h)
                  generalize H1 = H at hP hS ⊢
                  have hE9 : ∀ p, p < xct st → vad16 p = vad p := fun p h => (hv17 p (Nat.lt_of_lt_of_le h hN)).trans (hE p h)
                  have hE := hE9
                  have hN : xct st ≤ xct o8.2.2.2.2 := Nat.le_trans hN hn18
                  have ev19 : xv vadL y1 = xv vad16 y1 := xvE hv17 (fun h => hg1 (Or.inr h))
                  have ev20 : xv vadL y2 = xv vad16 y2 := xvE hv17 hg11
                  have hl : lv_has ls 9 [(7, .int 1), (6, .int y6), (5, .int y5), (4, .int y4), (3, .int y3), (0, .ref aM), (1, xv vad16 y1), (2, xv vad16 y2)] := by first | exact hl | ((try (rw [← ev19])); (try (rw [← ev20])); exact hl)
                  rw [hr9]
                  refine W.eq (g2 := F0 m 232 ls [xv vad16 o8.2.2.2.1, .null, .ref aM]) (by first | rfl | ((try (rw [ev19])); (try (rw [ev20])); rfl)) ?_
                  obtain ⟨o21, hq22, hf⟩ := xbind hf
                  obtain ⟨hg23, hf⟩ := xifn hf
                  obtain ⟨hg24, hf⟩ := xifn hf
                  obtain ⟨hm25, hf⟩ := xmoE hf
                  have hFc := xm_free hD hS hA
                  refine va_callv (va_runV (C := "ValueBenchModel") (As := [.null, xv vad16 o8.2.2.2.1]) (rest := []) ⟨hx, hb, hml, hown, htx⟩ (gM_wait l hl9 D cT aK aV H.size n aM ad14 rd gd15 vad16 o8.2.2.2.2 0 o8.2.2.2.1 o21 hq22) ⟨callB_of 2 htx (xw_goodC kw_6_112) rfl rfl rfl (htx _ kw_1_5) (htx _ kw_6_109) ⟨by decide, by decide, by decide +kernel⟩ ⟨Nat.le_of_ble_eq_true rfl, Nat.le_of_ble_eq_true rfl⟩, (htx _ kw_6_111), (htx _ kp_M_wait)⟩ ⟨xPre_blind, va_recv hK hP (ci := 5) rfl (q0 := 0) rfl, (fun U hU hW => ⟨rfl, xPre_of hZ hS hFc hP hD hK U hU hW⟩)⟩ rfl rfl hl.1 rfl (xm_room (Nat.le_of_ble_eq_true rfl)) dM_indices_232 ⟨hm25.1, hm25.2⟩) hS (fun q _ h => hFc q h) hFc (fun u9 t H1 locs ht hvm hr9 hB hz1 hk1 hS => ?_)
                  obtain ⟨hP1, hK1, hD1⟩ := hB
                  rw [ht] at hP1
                  obtain ⟨ad27, gd28, vad29⟩ := u9
                  obtain ⟨hv30, hn31⟩ := hr9
                  have hP : va_P D xcl (xMw cT aM ad27 rd gd28 vad29 o21.2.2 []) H1 := hP1
                  have hD : va_D A (xMw cT aM ad27 rd gd28 vad29 o21.2.2 []) := hD1.weaken (fun k q _ h => hFc q.1 h)
                  generalize H1 = H at hP hS ⊢
                  have hE9 : ∀ p, p < xct st → vad29 p = vad p := fun p h => (hv30 p (Nat.lt_of_lt_of_le h hN)).trans (hE p h)
                  have hE := hE9
                  have hN : xct st ≤ xct o21.2.2 := Nat.le_trans hN hn31
                  have ev32 : xv vad16 y1 = xv vad29 y1 := xvE hv30 hg23
                  have ev33 : xv vad16 y2 = xv vad29 y2 := xvE hv30 hg24
                  have hl : lv_has ls 9 [(7, .int 1), (6, .int y6), (5, .int y5), (4, .int y4), (3, .int y3), (0, .ref aM), (1, xv vad29 y1), (2, xv vad29 y2)] := by first | exact hl | ((try (rw [← ev32])); (try (rw [← ev33])); exact hl)
                  refine W.eq (g2 := F0 m 235 ls []) (by first | rfl | ((try (rw [ev32])); (try (rw [ev33])); rfl)) ?_
                  refine lv_iinc (v := (y6 + 1)) (lv' := [(6, .int (y6 + 1)), (7, .int 1), (5, .int y5), (4, .int y4), (3, .int y3), (0, .ref aM), (1, xv vad29 y1), (2, xv vad29 y2)]) hx hb dM_indices_235 hl (k := 1) rfl rfl (by decide) rfl (fun ls hl => ?_)
                  refine lv_goto (tgt := 95) hx hb dM_indices_238 (by decide) ?_
                  exact ih (1, (y6 + 1), y5, y4, y3, y1, y2, 0, (1 : Int32), o21.2.2, ((wc + o8.2.1) + o21.1), ((wn + o8.2.2.1) + o21.2.1)) _ _ ls (Or.inl ⟨ad27, gd28, vad29, rfl, hf, hP, hD, hS, lv_sub hl [0, 2, 3, 4, 5, 6, 7] rfl, hE, hN⟩)
                rw [if_neg hk10] at hf
                by_cases hk34 : o8.1 = 1
                · rw [if_pos hk34] at hf
                  obtain ⟨hg35, hf⟩ := xifn hf
                  obtain ⟨hm36, hf⟩ := xmoE hf
                  obtain rfl := Option.some.inj hf
                  exact absurd (show (1 : Nat) = 2 from hkd) (by decide)
                rw [if_neg hk34] at hf
                exact nomatch hf
              · rw [if_neg hc] at hf
                refine lv_iload_n hx hb dM_indices_151 rfl (lv_at hl 4 rfl) ?_
                refine lv_if_ne (tgt := 218) hx hb dM_indices_152 (by decide) (fun hc => ?_) (fun hc => ?_)
                · rw [if_neg hc] at hf
                  refine lv_iload hx hb dM_indices_218 (lv_at hl 0 rfl) ?_
                  refine lv_if_eq (tgt := 235) hx hb dM_indices_220 (by decide) (fun h => ((by revert h; decide : False)).elim) (fun _ => ?_)
                  refine lv_aload_n hx hb dM_indices_223 rfl (lv_at hl 5 rfl) ?_
                  refine lv_null hx hb dM_indices_224 ?_
                  refine lv_aload_n hx hb dM_indices_225 rfl (lv_at hl 5 rfl) ?_
                  refine lv_iload hx hb dM_indices_226 (lv_at hl 1 rfl) ?_
                  refine lv_i2l hx hb dM_indices_228 rfl ?_
                  obtain ⟨o8, hq9, hf⟩ := xbind hf
                  by_cases hk10 : o8.1 = 0
                  · rw [if_pos hk10] at hf
                    obtain ⟨hg11, hf⟩ := xifn hf
                    obtain ⟨hm12, hf⟩ := xmoE hf
                    have hFc := xm_free hD hS hA
                    refine va_callq (va_runV (C := "ValueBenchModel") (As := [.long y6.toInt64]) (rest := [.null, .ref aM]) ⟨hx, hb, hml, hown, htx⟩ (gM_number l hl9 D cT aK aV H.size n aM adL rd gdL vadL ws9 y6.toInt64 o8 hq9 hk10) ⟨callB_of 1 htx (xw_goodC kw_6_88) rfl rfl rfl (htx _ kw_1_5) (htx _ kw_6_85) ⟨by decide, by decide, by decide +kernel⟩ ⟨Nat.le_of_ble_eq_true rfl, Nat.le_of_ble_eq_true rfl⟩, (htx _ kw_6_87), (htx _ kp_M_number)⟩ ⟨xPre_blind, va_recv hK hP (ci := 5) rfl (q0 := 0) rfl, (fun U hU hW => ⟨rfl, xPre_of hZ hS hFc hP hD hK U hU hW⟩)⟩ rfl rfl hl.1 rfl (xm_room (Nat.le_of_ble_eq_true rfl)) dM_indices_229 ⟨hm12.1, hm12.2⟩) hS (fun q _ h => hFc q h) hFc (fun r13 u9 t H1 locs ht hvm hr9 hB hz1 hk1 hS => ?_)
                    obtain ⟨hP1, hK1, hD1⟩ := hB
                    rw [ht] at hP1
                    obtain ⟨ad14, gd15, vad16⟩ := u9
                    obtain ⟨hr9, hv17, hn18⟩ := hr9
                    have hP : va_P D xcl (xMw cT aM ad14 rd gd15 vad16 o8.2.2.2.2 []) H1 := hP1
                    have hD : va_D A (xMw cT aM ad14 rd gd15 vad16 o8.2.2.2.2 []) := hD1.weaken (fun k q _ h => hFc q.1 h)
                    generalize H1 = H at hP hS ⊢
                    have hE9 : ∀ p, p < xct st → vad16 p = vad p := fun p h => (hv17 p (Nat.lt_of_lt_of_le h hN)).trans (hE p h)
                    have hE := hE9
                    have hN : xct st ≤ xct o8.2.2.2.2 := Nat.le_trans hN hn18
                    have ev19 : xv vadL y1 = xv vad16 y1 := xvE hv17 (fun h => hg1 (Or.inr h))
                    have ev20 : xv vadL y2 = xv vad16 y2 := xvE hv17 hg11
                    have hl : lv_has ls 9 [(7, .int 1), (6, .int y6), (5, .int y5), (4, .int y4), (3, .int y3), (0, .ref aM), (1, xv vad16 y1), (2, xv vad16 y2)] := by first | exact hl | ((try (rw [← ev19])); (try (rw [← ev20])); exact hl)
                    rw [hr9]
                    refine W.eq (g2 := F0 m 232 ls [xv vad16 o8.2.2.2.1, .null, .ref aM]) (by first | rfl | ((try (rw [ev19])); (try (rw [ev20])); rfl)) ?_
                    obtain ⟨o21, hq22, hf⟩ := xbind hf
                    obtain ⟨hg23, hf⟩ := xifn hf
                    obtain ⟨hg24, hf⟩ := xifn hf
                    obtain ⟨hm25, hf⟩ := xmoE hf
                    have hFc := xm_free hD hS hA
                    refine va_callv (va_runV (C := "ValueBenchModel") (As := [.null, xv vad16 o8.2.2.2.1]) (rest := []) ⟨hx, hb, hml, hown, htx⟩ (gM_wait l hl9 D cT aK aV H.size n aM ad14 rd gd15 vad16 o8.2.2.2.2 0 o8.2.2.2.1 o21 hq22) ⟨callB_of 2 htx (xw_goodC kw_6_112) rfl rfl rfl (htx _ kw_1_5) (htx _ kw_6_109) ⟨by decide, by decide, by decide +kernel⟩ ⟨Nat.le_of_ble_eq_true rfl, Nat.le_of_ble_eq_true rfl⟩, (htx _ kw_6_111), (htx _ kp_M_wait)⟩ ⟨xPre_blind, va_recv hK hP (ci := 5) rfl (q0 := 0) rfl, (fun U hU hW => ⟨rfl, xPre_of hZ hS hFc hP hD hK U hU hW⟩)⟩ rfl rfl hl.1 rfl (xm_room (Nat.le_of_ble_eq_true rfl)) dM_indices_232 ⟨hm25.1, hm25.2⟩) hS (fun q _ h => hFc q h) hFc (fun u9 t H1 locs ht hvm hr9 hB hz1 hk1 hS => ?_)
                    obtain ⟨hP1, hK1, hD1⟩ := hB
                    rw [ht] at hP1
                    obtain ⟨ad27, gd28, vad29⟩ := u9
                    obtain ⟨hv30, hn31⟩ := hr9
                    have hP : va_P D xcl (xMw cT aM ad27 rd gd28 vad29 o21.2.2 []) H1 := hP1
                    have hD : va_D A (xMw cT aM ad27 rd gd28 vad29 o21.2.2 []) := hD1.weaken (fun k q _ h => hFc q.1 h)
                    generalize H1 = H at hP hS ⊢
                    have hE9 : ∀ p, p < xct st → vad29 p = vad p := fun p h => (hv30 p (Nat.lt_of_lt_of_le h hN)).trans (hE p h)
                    have hE := hE9
                    have hN : xct st ≤ xct o21.2.2 := Nat.le_trans hN hn31
                    have ev32 : xv vad16 y1 = xv vad29 y1 := xvE hv30 hg23
                    have ev33 : xv vad16 y2 = xv vad29 y2 := xvE hv30 hg24
                    have hl : lv_has ls 9 [(7, .int 1), (6, .int y6), (5, .int y5), (4, .int y4), (3, .int y3), (0, .ref aM), (1, xv vad29 y1), (2, xv vad29 y2)] := by first | exact hl | ((try (rw [← ev32])); (try (rw [← ev33])); exact hl)
                    refine W.eq (g2 := F0 m 235 ls []) (by first | rfl | ((try (rw [ev32])); (try (rw [ev33])); rfl)) ?_
                    refine lv_iinc (v := (y6 + 1)) (lv' := [(6, .int (y6 + 1)), (7, .int 1), (5, .int y5), (4, .int y4), (3, .int y3), (0, .ref aM), (1, xv vad29 y1), (2, xv vad29 y2)]) hx hb dM_indices_235 hl (k := 1) rfl rfl (by decide) rfl (fun ls hl => ?_)
                    refine lv_goto (tgt := 95) hx hb dM_indices_238 (by decide) ?_
                    exact ih (1, (y6 + 1), y5, y4, y3, y1, y2, 0, (1 : Int32), o21.2.2, ((wc + o8.2.1) + o21.1), ((wn + o8.2.2.1) + o21.2.1)) _ _ ls (Or.inl ⟨ad27, gd28, vad29, rfl, hf, hP, hD, hS, lv_sub hl [0, 2, 3, 4, 5, 6, 7] rfl, hE, hN⟩)
                  rw [if_neg hk10] at hf
                  by_cases hk34 : o8.1 = 1
                  · rw [if_pos hk34] at hf
                    obtain ⟨hg35, hf⟩ := xifn hf
                    obtain ⟨hm36, hf⟩ := xmoE hf
                    obtain rfl := Option.some.inj hf
                    exact absurd (show (1 : Nat) = 2 from hkd) (by decide)
                  rw [if_neg hk34] at hf
                  exact nomatch hf
                · rw [if_pos hc] at hf
                  refine lv_iload hx hb dM_indices_155 (lv_at hl 1 rfl) ?_
                  refine xm_aload_n hx hb (xvor _ _) dM_indices_157 rfl (lv_at hl 7 rfl) ?_
                  obtain ⟨hg8, hf⟩ := xifn hf
                  refine xm_vget (v := .int ((xpi ws9 3) (y2 - 1))) hx hb htx hown hK hP 3 (by decide) hg8 rfl ((hZ.1 (103, "count", "I") (List.mem_of_getElem? (i := 3) rfl)).use rfl) rfl dM_indices_158 ?_
                  refine lv_iadd hx hb dM_indices_161 ?_
                  refine xm_aload_n hx hb (xvor _ _) dM_indices_162 rfl (lv_at hl 6 rfl) ?_
                  refine xm_vget (v := .int ((xpi ws9 3) (y1 - 1))) hx hb htx hown hK hP 3 (by decide) hg1 rfl ((hZ.1 (103, "count", "I") (List.mem_of_getElem? (i := 3) rfl)).use rfl) rfl dM_indices_163 ?_
                  refine lv_icmp_gt (tgt := 218) hx hb dM_indices_166 (by decide) (fun hc => ?_) (fun hc => ?_)
                  · rw [if_pos hc] at hf
                    refine lv_iload hx hb dM_indices_218 (lv_at hl 0 rfl) ?_
                    refine lv_if_eq (tgt := 235) hx hb dM_indices_220 (by decide) (fun h => ((by revert h; decide : False)).elim) (fun _ => ?_)
                    refine lv_aload_n hx hb dM_indices_223 rfl (lv_at hl 5 rfl) ?_
                    refine lv_null hx hb dM_indices_224 ?_
                    refine lv_aload_n hx hb dM_indices_225 rfl (lv_at hl 5 rfl) ?_
                    refine lv_iload hx hb dM_indices_226 (lv_at hl 1 rfl) ?_
                    refine lv_i2l hx hb dM_indices_228 rfl ?_
                    obtain ⟨o9, hq10, hf⟩ := xbind hf
                    by_cases hk11 : o9.1 = 0
                    · rw [if_pos hk11] at hf
                      obtain ⟨hm12, hf⟩ := xmoE hf
                      have hFc := xm_free hD hS hA
                      refine va_callq (va_runV (C := "ValueBenchModel") (As := [.long y6.toInt64]) (rest := [.null, .ref aM]) ⟨hx, hb, hml, hown, htx⟩ (gM_number l hl9 D cT aK aV H.size n aM adL rd gdL vadL ws9 y6.toInt64 o9 hq10 hk11) ⟨callB_of 1 htx (xw_goodC kw_6_88) rfl rfl rfl (htx _ kw_1_5) (htx _ kw_6_85) ⟨by decide, by decide, by decide +kernel⟩ ⟨Nat.le_of_ble_eq_true rfl, Nat.le_of_ble_eq_true rfl⟩, (htx _ kw_6_87), (htx _ kp_M_number)⟩ ⟨xPre_blind, va_recv hK hP (ci := 5) rfl (q0 := 0) rfl, (fun U hU hW => ⟨rfl, xPre_of hZ hS hFc hP hD hK U hU hW⟩)⟩ rfl rfl hl.1 rfl (xm_room (Nat.le_of_ble_eq_true rfl)) dM_indices_229 ⟨hm12.1, hm12.2⟩) hS (fun q _ h => hFc q h) hFc (fun r13 u9 t H1 locs ht hvm hr9 hB hz1 hk1 hS => ?_)
                      obtain ⟨hP1, hK1, hD1⟩ := hB
                      rw [ht] at hP1
                      obtain ⟨ad14, gd15, vad16⟩ := u9
                      obtain ⟨hr9, hv17, hn18⟩ := hr9
                      have hP : va_P D xcl (xMw cT aM ad14 rd gd15 vad16 o9.2.2.2.2 []) H1 := hP1
                      have hD : va_D A (xMw cT aM ad14 rd gd15 vad16 o9.2.2.2.2 []) := hD1.weaken (fun k q _ h => hFc q.1 h)
                      generalize H1 = H at hP hS ⊢
                      have hE9 : ∀ p, p < xct st → vad16 p = vad p := fun p h => (hv17 p (Nat.lt_of_lt_of_le h hN)).trans (hE p h)
                      have hE := hE9
                      have hN : xct st ≤ xct o9.2.2.2.2 := Nat.le_trans hN hn18
                      have ev19 : xv vadL y1 = xv vad16 y1 := xvE hv17 (fun h => hg1 (Or.inr h))
                      have ev20 : xv vadL y2 = xv vad16 y2 := xvE hv17 (fun h => hg8 (Or.inr h))
                      have hl : lv_has ls 9 [(7, .int 1), (6, .int y6), (5, .int y5), (4, .int y4), (3, .int y3), (0, .ref aM), (1, xv vad16 y1), (2, xv vad16 y2)] := by first | exact hl | ((try (rw [← ev19])); (try (rw [← ev20])); exact hl)
                      rw [hr9]
                      refine W.eq (g2 := F0 m 232 ls [xv vad16 o9.2.2.2.1, .null, .ref aM]) (by first | rfl | ((try (rw [ev19])); (try (rw [ev20])); rfl)) ?_
                      obtain ⟨o21, hq22, hf⟩ := xbind hf
                      obtain ⟨hg23, hf⟩ := xifn hf
                      obtain ⟨hg24, hf⟩ := xifn hf
                      obtain ⟨hm25, hf⟩ := xmoE hf
                      have hFc := xm_free hD hS hA
                      refine va_callv (va_runV (C := "ValueBenchModel") (As := [.null, xv vad16 o9.2.2.2.1]) (rest := []) ⟨hx, hb, hml, hown, htx⟩ (gM_wait l hl9 D cT aK aV H.size n aM ad14 rd gd15 vad16 o9.2.2.2.2 0 o9.2.2.2.1 o21 hq22) ⟨callB_of 2 htx (xw_goodC kw_6_112) rfl rfl rfl (htx _ kw_1_5) (htx _ kw_6_109) ⟨by decide, by decide, by decide +kernel⟩ ⟨Nat.le_of_ble_eq_true rfl, Nat.le_of_ble_eq_true rfl⟩, (htx _ kw_6_111), (htx _ kp_M_wait)⟩ ⟨xPre_blind, va_recv hK hP (ci := 5) rfl (q0 := 0) rfl, (fun U hU hW => ⟨rfl, xPre_of hZ hS hFc hP hD hK U hU hW⟩)⟩ rfl rfl hl.1 rfl (xm_room (Nat.le_of_ble_eq_true rfl)) dM_indices_232 ⟨hm25.1, hm25.2⟩) hS (fun q _ h => hFc q h) hFc (fun u9 t H1 locs ht hvm hr9 hB hz1 hk1 hS => ?_)
                      obtain ⟨hP1, hK1, hD1⟩ := hB
                      rw [ht] at hP1
                      obtain ⟨ad27, gd28, vad29⟩ := u9
                      obtain ⟨hv30, hn31⟩ := hr9
                      have hP : va_P D xcl (xMw cT aM ad27 rd gd28 vad29 o21.2.2 []) H1 := hP1
                      have hD : va_D A (xMw cT aM ad27 rd gd28 vad29 o21.2.2 []) := hD1.weaken (fun k q _ h => hFc q.1 h)
                      generalize H1 = H at hP hS ⊢
                      have hE9 : ∀ p, p < xct st → vad29 p = vad p := fun p h => (hv30 p (Nat.lt_of_lt_of_le h hN)).trans (hE p h)
                      have hE := hE9
                      have hN : xct st ≤ xct o21.2.2 := Nat.le_trans hN hn31
                      have ev32 : xv vad16 y1 = xv vad29 y1 := xvE hv30 hg23
                      have ev33 : xv vad16 y2 = xv vad29 y2 := xvE hv30 hg24
                      have hl : lv_has ls 9 [(7, .int 1), (6, .int y6), (5, .int y5), (4, .int y4), (3, .int y3), (0, .ref aM), (1, xv vad29 y1), (2, xv vad29 y2)] := by first | exact hl | ((try (rw [← ev32])); (try (rw [← ev33])); exact hl)
                      refine W.eq (g2 := F0 m 235 ls []) (by first | rfl | ((try (rw [ev32])); (try (rw [ev33])); rfl)) ?_
                      refine lv_iinc (v := (y6 + 1)) (lv' := [(6, .int (y6 + 1)), (7, .int 1), (5, .int y5), (4, .int y4), (3, .int y3), (0, .ref aM), (1, xv vad29 y1), (2, xv vad29 y2)]) hx hb dM_indices_235 hl (k := 1) rfl rfl (by decide) rfl (fun ls hl => ?_)
                      refine lv_goto (tgt := 95) hx hb dM_indices_238 (by decide) ?_
                      exact ih (1, (y6 + 1), y5, y4, y3, y1, y2, 0, (1 : Int32), o21.2.2, ((wc + o9.2.1) + o21.1), ((wn + o9.2.2.1) + o21.2.1)) _ _ ls (Or.inl ⟨ad27, gd28, vad29, rfl, hf, hP, hD, hS, lv_sub hl [0, 2, 3, 4, 5, 6, 7] rfl, hE, hN⟩)
                    rw [if_neg hk11] at hf
                    by_cases hk34 : o9.1 = 1
                    · rw [if_pos hk34] at hf
                      obtain ⟨hm35, hf⟩ := xmoE hf
                      obtain rfl := Option.some.inj hf
                      exact absurd (show (1 : Nat) = 2 from hkd) (by decide)
                    rw [if_neg hk34] at hf
                    exact nomatch hf
                  · rw [if_neg hc] at hf
                    refine lv_iconst (v := 1) hx hb dM_indices_169 (by decide) ?_
                    refine lv_istore (lv' := [(7, .int 1), (6, .int y6), (5, .int y5), (4, .int y4), (3, .int y3), (0, .ref aM), (1, xv vadL y1), (2, xv vadL y2)]) hx hb dM_indices_170 hl (by decide) rfl (fun ls hl => ?_)
                    refine lv_iconst (v := 0) hx hb dM_indices_172 (by decide) ?_
                    refine lv_istore (lv' := [(8, .int 0), (7, .int 1), (6, .int y6), (5, .int y5), (4, .int y4), (3, .int y3), (0, .ref aM), (1, xv vadL y1), (2, xv vadL y2)]) hx hb dM_indices_173 hl (by decide) rfl (fun ls hl => ?_)
                    exact ih (2, y6, y5, y4, y3, y1, y2, (0 : Int32), (1 : Int32), ws9, wc, wn) _ _ ls (Or.inr (⟨adL, gdL, vadL, rfl, hf, hP, hD, hS, lv_sub hl [0, 1, 2, 3, 4, 5, 6, 7, 8] rfl, hE, hN⟩))
        · rw [if_neg hc] at hf
          refine lv_aload_n hx hb dM_indices_108 rfl (lv_at hl 4 rfl) ?_
          refine xm_aload_n hx hb (xvor _ _) dM_indices_109 rfl (lv_at hl 5 rfl) ?_
          refine xm_aload_n hx hb (xvor _ _) dM_indices_110 rfl (lv_at hl 6 rfl) ?_
          refine lv_iload hx hb dM_indices_111 (lv_at hl 0 rfl) ?_
          obtain ⟨o2, hq3, hf⟩ := xbind hf
          have hFc := xm_free hD hS hA
          refine va_calli (va_runV (C := "ValueBenchModel") (As := [xv vadL y1, xv vadL y2, .int y6]) (rest := []) ⟨hx, hb, hml, hown, htx⟩ (gM_begins l hl9 D cT aK aV H.size n aM adL rd gdL vadL ws9 y1 y2 y6 o2 hq3) ⟨callB_of 3 htx (xw_goodC kw_7_95) rfl rfl rfl (htx _ kw_1_5) (htx _ kw_7_92) ⟨by decide, by decide, by decide +kernel⟩ ⟨Nat.le_of_ble_eq_true rfl, Nat.le_of_ble_eq_true rfl⟩, (htx _ kw_7_94), (htx _ kp_M_begins)⟩ ⟨xPre_blind, va_recv hK hP (ci := 5) rfl (q0 := 0) rfl, (fun U hU hW => ⟨rfl, xPre_of hZ hS hFc hP hD hK U hU hW⟩)⟩ rfl rfl hl.1 rfl (xm_room (Nat.le_of_ble_eq_true rfl)) dM_indices_113 ⟨hm0.1, hm0.2⟩) hS (fun q _ h => hFc q h) hFc (fun r4 u9 t H1 locs ht hvm hr9 hB hz1 hk1 hS => ?_)
          obtain ⟨hP1, hK1, hD1⟩ := hB
          rw [ht] at hP1
          have hP : va_P D xcl (xMw cT aM adL rd gdL vadL ws9 []) H1 := hP1
          have hD : va_D A (xMw cT aM adL rd gdL vadL ws9 []) := hD1.weaken (fun k q _ h => hFc q.1 h)
          generalize H1 = H at hP hS ⊢
          rw [hr9]
          refine W.eq (g2 := F0 m 116 ls [.int o2]) (by first | rfl | (skip; rfl)) ?_
          refine lv_goto (tgt := 144) hx hb dM_indices_116 (by decide) ?_
          refine lv_istore (lv' := [(7, .int o2), (6, .int y6), (5, .int y5), (4, .int y4), (3, .int y3), (0, .ref aM), (1, xv vadL y1), (2, xv vadL y2)]) hx hb dM_indices_144 hl (by decide) rfl (fun ls hl => ?_)
          refine lv_iload hx hb dM_indices_146 (lv_at hl 3 rfl) ?_
          refine lv_if_eq (tgt := 218) hx hb dM_indices_148 (by decide) (fun hc => ?_) (fun hc => ?_)
          · rw [if_pos hc] at hf
            refine lv_iload hx hb dM_indices_218 (lv_at hl 0 rfl) ?_
            refine lv_if_eq (tgt := 235) hx hb dM_indices_220 (by decide) (fun hc => ?_) (fun hc => ?_)
            · rw [if_pos hc] at hf
              refine lv_iinc (v := (y6 + 1)) (lv' := [(6, .int (y6 + 1)), (7, .int o2), (5, .int y5), (4, .int y4), (3, .int y3), (0, .ref aM), (1, xv vadL y1), (2, xv vadL y2)]) hx hb dM_indices_235 hl (k := 1) rfl rfl (by decide) rfl (fun ls hl => ?_)
              refine lv_goto (tgt := 95) hx hb dM_indices_238 (by decide) ?_
              exact ih (1, (y6 + 1), y5, y4, y3, y1, y2, 0, o2, ws9, wc, wn) _ _ ls (Or.inl ⟨adL, gdL, vadL, rfl, hf, hP, hD, hS, lv_sub hl [0, 2, 3, 4, 5, 6, 7] rfl, hE, hN⟩)
            · rw [if_neg hc] at hf
              refine lv_aload_n hx hb dM_indices_223 rfl (lv_at hl 5 rfl) ?_
              refine lv_null hx hb dM_indices_224 ?_
              refine lv_aload_n hx hb dM_indices_225 rfl (lv_at hl 5 rfl) ?_
              refine lv_iload hx hb dM_indices_226 (lv_at hl 1 rfl) ?_
              refine lv_i2l hx hb dM_indices_228 rfl ?_
              obtain ⟨o5, hq6, hf⟩ := xbind hf
              by_cases hk7 : o5.1 = 0
              · rw [if_pos hk7] at hf
                obtain ⟨hg8, hf⟩ := xifn hf
                obtain ⟨hm9, hf⟩ := xmoE hf
                have hFc := xm_free hD hS hA
                refine va_callq (va_runV (C := "ValueBenchModel") (As := [.long y6.toInt64]) (rest := [.null, .ref aM]) ⟨hx, hb, hml, hown, htx⟩ (gM_number l hl9 D cT aK aV H.size n aM adL rd gdL vadL ws9 y6.toInt64 o5 hq6 hk7) ⟨callB_of 1 htx (xw_goodC kw_6_88) rfl rfl rfl (htx _ kw_1_5) (htx _ kw_6_85) ⟨by decide, by decide, by decide +kernel⟩ ⟨Nat.le_of_ble_eq_true rfl, Nat.le_of_ble_eq_true rfl⟩, (htx _ kw_6_87), (htx _ kp_M_number)⟩ ⟨xPre_blind, va_recv hK hP (ci := 5) rfl (q0 := 0) rfl, (fun U hU hW => ⟨rfl, xPre_of hZ hS hFc hP hD hK U hU hW⟩)⟩ rfl rfl hl.1 rfl (xm_room (Nat.le_of_ble_eq_true rfl)) dM_indices_229 ⟨hm9.1, hm9.2⟩) hS (fun q _ h => hFc q h) hFc (fun r10 u9 t H1 locs ht hvm hr9 hB hz1 hk1 hS => ?_)
                obtain ⟨hP1, hK1, hD1⟩ := hB
                rw [ht] at hP1
                obtain ⟨ad11, gd12, vad13⟩ := u9
                obtain ⟨hr9, hv14, hn15⟩ := hr9
                have hP : va_P D xcl (xMw cT aM ad11 rd gd12 vad13 o5.2.2.2.2 []) H1 := hP1
                have hD : va_D A (xMw cT aM ad11 rd gd12 vad13 o5.2.2.2.2 []) := hD1.weaken (fun k q _ h => hFc q.1 h)
                generalize H1 = H at hP hS ⊢
                have hE9 : ∀ p, p < xct st → vad13 p = vad p := fun p h => (hv14 p (Nat.lt_of_lt_of_le h hN)).trans (hE p h)
                have hE := hE9
                have hN : xct st ≤ xct o5.2.2.2.2 := Nat.le_trans hN hn15
                have ev16 : xv vadL y1 = xv vad13 y1 := xvE hv14 (fun h => hg1 (Or.inr h))
                have ev17 : xv vadL y2 = xv vad13 y2 := xvE hv14 hg8
                have hl : lv_has ls 9 [(7, .int o2), (6, .int y6), (5, .int y5), (4, .int y4), (3, .int y3), (0, .ref aM), (1, xv vad13 y1), (2, xv vad13 y2)] := by first | exact hl | ((try (rw [← ev16])); (try (rw [← ev17])); exact hl)
                rw [hr9]
                refine W.eq (g2 := F0 m 232 ls [xv vad13 o5.2.2.2.1, .null, .ref aM]) (by first | rfl | ((try (rw [ev16])); (try (rw [ev17])); rfl)) ?_
                obtain ⟨o18, hq19, hf⟩ := xbind hf
                obtain ⟨hg20, hf⟩ := xifn hf
                obtain ⟨hg21, hf⟩ := xifn hf
                obtain ⟨hm22, hf⟩ := xmoE hf
                have hFc := xm_free hD hS hA
                refine va_callv (va_runV (C := "ValueBenchModel") (As := [.null, xv vad13 o5.2.2.2.1]) (rest := []) ⟨hx, hb, hml, hown, htx⟩ (gM_wait l hl9 D cT aK aV H.size n aM ad11 rd gd12 vad13 o5.2.2.2.2 0 o5.2.2.2.1 o18 hq19) ⟨callB_of 2 htx (xw_goodC kw_6_112) rfl rfl rfl (htx _ kw_1_5) (htx _ kw_6_109) ⟨by decide, by decide, by decide +kernel⟩ ⟨Nat.le_of_ble_eq_true rfl, Nat.le_of_ble_eq_true rfl⟩, (htx _ kw_6_111), (htx _ kp_M_wait)⟩ ⟨xPre_blind, va_recv hK hP (ci := 5) rfl (q0 := 0) rfl, (fun U hU hW => ⟨rfl, xPre_of hZ hS hFc hP hD hK U hU hW⟩)⟩ rfl rfl hl.1 rfl (xm_room (Nat.le_of_ble_eq_true rfl)) dM_indices_232 ⟨hm22.1, hm22.2⟩) hS (fun q _ h => hFc q h) hFc (fun u9 t H1 locs ht hvm hr9 hB hz1 hk1 hS => ?_)
                obtain ⟨hP1, hK1, hD1⟩ := hB
                rw [ht] at hP1
                obtain ⟨ad24, gd25, vad26⟩ := u9
                obtain ⟨hv27, hn28⟩ := hr9
                have hP : va_P D xcl (xMw cT aM ad24 rd gd25 vad26 o18.2.2 []) H1 := hP1
                have hD : va_D A (xMw cT aM ad24 rd gd25 vad26 o18.2.2 []) := hD1.weaken (fun k q _ h => hFc q.1 h)
                generalize H1 = H at hP hS ⊢
                have hE9 : ∀ p, p < xct st → vad26 p = vad p := fun p h => (hv27 p (Nat.lt_of_lt_of_le h hN)).trans (hE p h)
                have hE := hE9
                have hN : xct st ≤ xct o18.2.2 := Nat.le_trans hN hn28
                have ev29 : xv vad13 y1 = xv vad26 y1 := xvE hv27 hg20
                have ev30 : xv vad13 y2 = xv vad26 y2 := xvE hv27 hg21
                have hl : lv_has ls 9 [(7, .int o2), (6, .int y6), (5, .int y5), (4, .int y4), (3, .int y3), (0, .ref aM), (1, xv vad26 y1), (2, xv vad26 y2)] := by first | exact hl | ((try (rw [← ev29])); (try (rw [← ev30])); exact hl)
                refine W.eq (g2 := F0 m 235 ls []) (by first | rfl | ((try (rw [ev29])); (try (rw [ev30])); rfl)) ?_
                refine lv_iinc (v := (y6 + 1)) (lv' := [(6, .int (y6 + 1)), (7, .int o2), (5, .int y5), (4, .int y4), (3, .int y3), (0, .ref aM), (1, xv vad26 y1), (2, xv vad26 y2)]) hx hb dM_indices_235 hl (k := 1) rfl rfl (by decide) rfl (fun ls hl => ?_)
                refine lv_goto (tgt := 95) hx hb dM_indices_238 (by decide) ?_
                exact ih (1, (y6 + 1), y5, y4, y3, y1, y2, 0, o2, o18.2.2, ((wc + o5.2.1) + o18.1), ((wn + o5.2.2.1) + o18.2.1)) _ _ ls (Or.inl ⟨ad24, gd25, vad26, rfl, hf, hP, hD, hS, lv_sub hl [0, 2, 3, 4, 5, 6, 7] rfl, hE, hN⟩)
              rw [if_neg hk7] at hf
              by_cases hk31 : o5.1 = 1
              · rw [if_pos hk31] at hf
                obtain ⟨hg32, hf⟩ := xifn hf
                obtain ⟨hm33, hf⟩ := xmoE hf
                obtain rfl := Option.some.inj hf
                exact absurd (show (1 : Nat) = 2 from hkd) (by decide)
              rw [if_neg hk31] at hf
              exact nomatch hf
          · rw [if_neg hc] at hf
            refine lv_iload_n hx hb dM_indices_151 rfl (lv_at hl 4 rfl) ?_
            refine lv_if_ne (tgt := 218) hx hb dM_indices_152 (by decide) (fun hc => ?_) (fun hc => ?_)
            · rw [if_neg hc] at hf
              refine lv_iload hx hb dM_indices_218 (lv_at hl 0 rfl) ?_
              refine lv_if_eq (tgt := 235) hx hb dM_indices_220 (by decide) (fun hc => ?_) (fun hc => ?_)
              · rw [if_pos hc] at hf
                refine lv_iinc (v := (y6 + 1)) (lv' := [(6, .int (y6 + 1)), (7, .int o2), (5, .int y5), (4, .int y4), (3, .int y3), (0, .ref aM), (1, xv vadL y1), (2, xv vadL y2)]) hx hb dM_indices_235 hl (k := 1) rfl rfl (by decide) rfl (fun ls hl => ?_)
                refine lv_goto (tgt := 95) hx hb dM_indices_238 (by decide) ?_
                exact ih (1, (y6 + 1), y5, y4, y3, y1, y2, 0, o2, ws9, wc, wn) _ _ ls (Or.inl ⟨adL, gdL, vadL, rfl, hf, hP, hD, hS, lv_sub hl [0, 2, 3, 4, 5, 6, 7] rfl, hE, hN⟩)
              · rw [if_neg hc] at hf
                refine lv_aload_n hx hb dM_indices_223 rfl (lv_at hl 5 rfl) ?_
                refine lv_null hx hb dM_indices_224 ?_
                refine lv_aload_n hx hb dM_indices_225 rfl (lv_at hl 5 rfl) ?_
                refine lv_iload hx hb dM_indices_226 (lv_at hl 1 rfl) ?_
                refine lv_i2l hx hb dM_indices_228 rfl ?_
                obtain ⟨o5, hq6, hf⟩ := xbind hf
                by_cases hk7 : o5.1 = 0
                · rw [if_pos hk7] at hf
                  obtain ⟨hg8, hf⟩ := xifn hf
                  obtain ⟨hm9, hf⟩ := xmoE hf
                  have hFc := xm_free hD hS hA
                  refine va_callq (va_runV (C := "ValueBenchModel") (As := [.long y6.toInt64]) (rest := [.null, .ref aM]) ⟨hx, hb, hml, hown, htx⟩ (gM_number l hl9 D cT aK aV H.size n aM adL rd gdL vadL ws9 y6.toInt64 o5 hq6 hk7) ⟨callB_of 1 htx (xw_goodC kw_6_88) rfl rfl rfl (htx _ kw_1_5) (htx _ kw_6_85) ⟨by decide, by decide, by decide +kernel⟩ ⟨Nat.le_of_ble_eq_true rfl, Nat.le_of_ble_eq_true rfl⟩, (htx _ kw_6_87), (htx _ kp_M_number)⟩ ⟨xPre_blind, va_recv hK hP (ci := 5) rfl (q0 := 0) rfl, (fun U hU hW => ⟨rfl, xPre_of hZ hS hFc hP hD hK U hU hW⟩)⟩ rfl rfl hl.1 rfl (xm_room (Nat.le_of_ble_eq_true rfl)) dM_indices_229 ⟨hm9.1, hm9.2⟩) hS (fun q _ h => hFc q h) hFc (fun r10 u9 t H1 locs ht hvm hr9 hB hz1 hk1 hS => ?_)
                  obtain ⟨hP1, hK1, hD1⟩ := hB
                  rw [ht] at hP1
                  obtain ⟨ad11, gd12, vad13⟩ := u9
                  obtain ⟨hr9, hv14, hn15⟩ := hr9
                  have hP : va_P D xcl (xMw cT aM ad11 rd gd12 vad13 o5.2.2.2.2 []) H1 := hP1
                  have hD : va_D A (xMw cT aM ad11 rd gd12 vad13 o5.2.2.2.2 []) := hD1.weaken (fun k q _ h => hFc q.1 h)
                  generalize H1 = H at hP hS ⊢
                  have hE9 : ∀ p, p < xct st → vad13 p = vad p := fun p h => (hv14 p (Nat.lt_of_lt_of_le h hN)).trans (hE p h)
                  have hE := hE9
                  have hN : xct st ≤ xct o5.2.2.2.2 := Nat.le_trans hN hn15
                  have ev16 : xv vadL y1 = xv vad13 y1 := xvE hv14 (fun h => hg1 (Or.inr h))
                  have ev17 : xv vadL y2 = xv vad13 y2 := xvE hv14 hg8
                  have hl : lv_has ls 9 [(7, .int o2), (6, .int y6), (5, .int y5), (4, .int y4), (3, .int y3), (0, .ref aM), (1, xv vad13 y1), (2, xv vad13 y2)] := by first | exact hl | ((try (rw [← ev16])); (try (rw [← ev17])); exact hl)
                  rw [hr9]
                  refine W.eq (g2 := F0 m 232 ls [xv vad13 o5.2.2.2.1, .null, .ref aM]) (by first | rfl | ((try (rw [ev16])); (try (rw [ev17])); rfl)) ?_
                  obtain ⟨o18, hq19, hf⟩ := xbind hf
                  obtain ⟨hg20, hf⟩ := xifn hf
                  obtain ⟨hg21, hf⟩ := xifn hf
                  obtain ⟨hm22, hf⟩ := xmoE hf
                  have hFc := xm_free hD hS hA
                  refine va_callv (va_runV (C := "ValueBenchModel") (As := [.null, xv vad13 o5.2.2.2.1]) (rest := []) ⟨hx, hb, hml, hown, htx⟩ (gM_wait l hl9 D cT aK aV H.size n aM ad11 rd gd12 vad13 o5.2.2.2.2 0 o5.2.2.2.1 o18 hq19) ⟨callB_of 2 htx (xw_goodC kw_6_112) rfl rfl rfl (htx _ kw_1_5) (htx _ kw_6_109) ⟨by decide, by decide, by decide +kernel⟩ ⟨Nat.le_of_ble_eq_true rfl, Nat.le_of_ble_eq_true rfl⟩, (htx _ kw_6_111), (htx _ kp_M_wait)⟩ ⟨xPre_blind, va_recv hK hP (ci := 5) rfl (q0 := 0) rfl, (fun U hU hW => ⟨rfl, xPre_of hZ hS hFc hP hD hK U hU hW⟩)⟩ rfl rfl hl.1 rfl (xm_room (Nat.le_of_ble_eq_true rfl)) dM_indices_232 ⟨hm22.1, hm22.2⟩) hS (fun q _ h => hFc q h) hFc (fun u9 t H1 locs ht hvm hr9 hB hz1 hk1 hS => ?_)
                  obtain ⟨hP1, hK1, hD1⟩ := hB
                  rw [ht] at hP1
                  obtain ⟨ad24, gd25, vad26⟩ := u9
                  obtain ⟨hv27, hn28⟩ := hr9
                  have hP : va_P D xcl (xMw cT aM ad24 rd gd25 vad26 o18.2.2 []) H1 := hP1
                  have hD : va_D A (xMw cT aM ad24 rd gd25 vad26 o18.2.2 []) := hD1.weaken (fun k q _ h => hFc q.1 h)
                  generalize H1 = H at hP hS ⊢
                  have hE9 : ∀ p, p < xct st → vad26 p = vad p := fun p h => (hv27 p (Nat.lt_of_lt_of_le h hN)).trans (hE p h)
                  have hE := hE9
                  have hN : xct st ≤ xct o18.2.2 := Nat.le_trans hN hn28
                  have ev29 : xv vad13 y1 = xv vad26 y1 := xvE hv27 hg20
                  have ev30 : xv vad13 y2 = xv vad26 y2 := xvE hv27 hg21
                  have hl : lv_has ls 9 [(7, .int o2), (6, .int y6), (5, .int y5), (4, .int y4), (3, .int y3), (0, .ref aM), (1, xv vad26 y1), (2, xv vad26 y2)] := by first | exact hl | ((try (rw [← ev29])); (try (rw [← ev30])); exact hl)
                  refine W.eq (g2 := F0 m 235 ls []) (by first | rfl | ((try (rw [ev29])); (try (rw [ev30])); rfl)) ?_
                  refine lv_iinc (v := (y6 + 1)) (lv' := [(6, .int (y6 + 1)), (7, .int o2), (5, .int y5), (4, .int y4), (3, .int y3), (0, .ref aM), (1, xv vad26 y1), (2, xv vad26 y2)]) hx hb dM_indices_235 hl (k := 1) rfl rfl (by decide) rfl (fun ls hl => ?_)
                  refine lv_goto (tgt := 95) hx hb dM_indices_238 (by decide) ?_
                  exact ih (1, (y6 + 1), y5, y4, y3, y1, y2, 0, o2, o18.2.2, ((wc + o5.2.1) + o18.1), ((wn + o5.2.2.1) + o18.2.1)) _ _ ls (Or.inl ⟨ad24, gd25, vad26, rfl, hf, hP, hD, hS, lv_sub hl [0, 2, 3, 4, 5, 6, 7] rfl, hE, hN⟩)
                rw [if_neg hk7] at hf
                by_cases hk31 : o5.1 = 1
                · rw [if_pos hk31] at hf
                  obtain ⟨hg32, hf⟩ := xifn hf
                  obtain ⟨hm33, hf⟩ := xmoE hf
                  obtain rfl := Option.some.inj hf
                  exact absurd (show (1 : Nat) = 2 from hkd) (by decide)
                rw [if_neg hk31] at hf
                exact nomatch hf
            · rw [if_pos hc] at hf
              refine lv_iload hx hb dM_indices_155 (lv_at hl 1 rfl) ?_
              refine xm_aload_n hx hb (xvor _ _) dM_indices_157 rfl (lv_at hl 7 rfl) ?_
              obtain ⟨hg5, hf⟩ := xifn hf
              refine xm_vget (v := .int ((xpi ws9 3) (y2 - 1))) hx hb htx hown hK hP 3 (by decide) hg5 rfl ((hZ.1 (103, "count", "I") (List.mem_of_getElem? (i := 3) rfl)).use rfl) rfl dM_indices_158 ?_
              refine lv_iadd hx hb dM_indices_161 ?_
              refine xm_aload_n hx hb (xvor _ _) dM_indices_162 rfl (lv_at hl 6 rfl) ?_
              refine xm_vget (v := .int ((xpi ws9 3) (y1 - 1))) hx hb htx hown hK hP 3 (by decide) hg1 rfl ((hZ.1 (103, "count", "I") (List.mem_of_getElem? (i := 3) rfl)).use rfl) rfl dM_indices_163 ?_
              refine lv_icmp_gt (tgt := 218) hx hb dM_indices_166 (by decide) (fun hc => ?_) (fun hc => ?_)
              · rw [if_pos hc] at hf
                refine lv_iload hx hb dM_indices_218 (lv_at hl 0 rfl) ?_
                refine lv_if_eq (tgt := 235) hx hb dM_indices_220 (by decide) (fun hc => ?_) (fun hc => ?_)
                · rw [if_pos hc] at hf
                  refine lv_iinc (v := (y6 + 1)) (lv' := [(6, .int (y6 + 1)), (7, .int o2), (5, .int y5), (4, .int y4), (3, .int y3), (0, .ref aM), (1, xv vadL y1), (2, xv vadL y2)]) hx hb dM_indices_235 hl (k := 1) rfl rfl (by decide) rfl (fun ls hl => ?_)
                  refine lv_goto (tgt := 95) hx hb dM_indices_238 (by decide) ?_
                  exact ih (1, (y6 + 1), y5, y4, y3, y1, y2, 0, o2, ws9, wc, wn) _ _ ls (Or.inl ⟨adL, gdL, vadL, rfl, hf, hP, hD, hS, lv_sub hl [0, 2, 3, 4, 5, 6, 7] rfl, hE, hN⟩)
                · rw [if_neg hc] at hf
                  refine lv_aload_n hx hb dM_indices_223 rfl (lv_at hl 5 rfl) ?_
                  refine lv_null hx hb dM_indices_224 ?_
                  refine lv_aload_n hx hb dM_indices_225 rfl (lv_at hl 5 rfl) ?_
                  refine lv_iload hx hb dM_indices_226 (lv_at hl 1 rfl) ?_
                  refine lv_i2l hx hb dM_indices_228 rfl ?_
                  obtain ⟨o6, hq7, hf⟩ := xbind hf
                  by_cases hk8 : o6.1 = 0
                  · rw [if_pos hk8] at hf
                    obtain ⟨hm9, hf⟩ := xmoE hf
                    have hFc := xm_free hD hS hA
                    refine va_callq (va_runV (C := "ValueBenchModel") (As := [.long y6.toInt64]) (rest := [.null, .ref aM]) ⟨hx, hb, hml, hown, htx⟩ (gM_number l hl9 D cT aK aV H.size n aM adL rd gdL vadL ws9 y6.toInt64 o6 hq7 hk8) ⟨callB_of 1 htx (xw_goodC kw_6_88) rfl rfl rfl (htx _ kw_1_5) (htx _ kw_6_85) ⟨by decide, by decide, by decide +kernel⟩ ⟨Nat.le_of_ble_eq_true rfl, Nat.le_of_ble_eq_true rfl⟩, (htx _ kw_6_87), (htx _ kp_M_number)⟩ ⟨xPre_blind, va_recv hK hP (ci := 5) rfl (q0 := 0) rfl, (fun U hU hW => ⟨rfl, xPre_of hZ hS hFc hP hD hK U hU hW⟩)⟩ rfl rfl hl.1 rfl (xm_room (Nat.le_of_ble_eq_true rfl)) dM_indices_229 ⟨hm9.1, hm9.2⟩) hS (fun q _ h => hFc q h) hFc (fun r10 u9 t H1 locs ht hvm hr9 hB hz1 hk1 hS => ?_)
                    obtain ⟨hP1, hK1, hD1⟩ := hB
                    rw [ht] at hP1
                    obtain ⟨ad11, gd12, vad13⟩ := u9
                    obtain ⟨hr9, hv14, hn15⟩ := hr9
                    have hP : va_P D xcl (xMw cT aM ad11 rd gd12 vad13 o6.2.2.2.2 []) H1 := hP1
                    have hD : va_D A (xMw cT aM ad11 rd gd12 vad13 o6.2.2.2.2 []) := hD1.weaken (fun k q _ h => hFc q.1 h)
                    generalize H1 = H at hP hS ⊢
                    have hE9 : ∀ p, p < xct st → vad13 p = vad p := fun p h => (hv14 p (Nat.lt_of_lt_of_le h hN)).trans (hE p h)
                    have hE := hE9
                    have hN : xct st ≤ xct o6.2.2.2.2 := Nat.le_trans hN hn15
                    have ev16 : xv vadL y1 = xv vad13 y1 := xvE hv14 (fun h => hg1 (Or.inr h))
                    have ev17 : xv vadL y2 = xv vad13 y2 := xvE hv14 (fun h => hg5 (Or.inr h))
                    have hl : lv_has ls 9 [(7, .int o2), (6, .int y6), (5, .int y5), (4, .int y4), (3, .int y3), (0, .ref aM), (1, xv vad13 y1), (2, xv vad13 y2)] := by first | exact hl | ((try (rw [← ev16])); (try (rw [← ev17])); exact hl)
                    rw [hr9]
                    refine W.eq (g2 := F0 m 232 ls [xv vad13 o6.2.2.2.1, .null, .ref aM]) (by first | rfl | ((try (rw [ev16])); (try (rw [ev17])); rfl)) ?_
                    obtain ⟨o18, hq19, hf⟩ := xbind hf
                    obtain ⟨hg20, hf⟩ := xifn hf
                    obtain ⟨hg21, hf⟩ := xifn hf
                    obtain ⟨hm22, hf⟩ := xmoE hf
                    have hFc := xm_free hD hS hA
                    refine va_callv (va_runV (C := "ValueBenchModel") (As := [.null, xv vad13 o6.2.2.2.1]) (rest := []) ⟨hx, hb, hml, hown, htx⟩ (gM_wait l hl9 D cT aK aV H.size n aM ad11 rd gd12 vad13 o6.2.2.2.2 0 o6.2.2.2.1 o18 hq19) ⟨callB_of 2 htx (xw_goodC kw_6_112) rfl rfl rfl (htx _ kw_1_5) (htx _ kw_6_109) ⟨by decide, by decide, by decide +kernel⟩ ⟨Nat.le_of_ble_eq_true rfl, Nat.le_of_ble_eq_true rfl⟩, (htx _ kw_6_111), (htx _ kp_M_wait)⟩ ⟨xPre_blind, va_recv hK hP (ci := 5) rfl (q0 := 0) rfl, (fun U hU hW => ⟨rfl, xPre_of hZ hS hFc hP hD hK U hU hW⟩)⟩ rfl rfl hl.1 rfl (xm_room (Nat.le_of_ble_eq_true rfl)) dM_indices_232 ⟨hm22.1, hm22.2⟩) hS (fun q _ h => hFc q h) hFc (fun u9 t H1 locs ht hvm hr9 hB hz1 hk1 hS => ?_)
                    obtain ⟨hP1, hK1, hD1⟩ := hB
                    rw [ht] at hP1
                    obtain ⟨ad24, gd25, vad26⟩ := u9
                    obtain ⟨hv27, hn28⟩ := hr9
                    have hP : va_P D xcl (xMw cT aM ad24 rd gd25 vad26 o18.2.2 []) H1 := hP1
                    have hD : va_D A (xMw cT aM ad24 rd gd25 vad26 o18.2.2 []) := hD1.weaken (fun k q _ h => hFc q.1 h)
                    generalize H1 = H at hP hS ⊢
                    have hE9 : ∀ p, p < xct st → vad26 p = vad p := fun p h => (hv27 p (Nat.lt_of_lt_of_le h hN)).trans (hE p h)
                    have hE := hE9
                    have hN : xct st ≤ xct o18.2.2 := Nat.le_trans hN hn28
                    have ev29 : xv vad13 y1 = xv vad26 y1 := xvE hv27 hg20
                    have ev30 : xv vad13 y2 = xv vad26 y2 := xvE hv27 hg21
                    have hl : lv_has ls 9 [(7, .int o2), (6, .int y6), (5, .int y5), (4, .int y4), (3, .int y3), (0, .ref aM), (1, xv vad26 y1), (2, xv vad26 y2)] := by first | exact hl | ((try (rw [← ev29])); (try (rw [← ev30])); exact hl)
                    refine W.eq (g2 := F0 m 235 ls []) (by first | rfl | ((try (rw [ev29])); (try (rw [ev30])); rfl)) ?_
                    refine lv_iinc (v := (y6 + 1)) (lv' := [(6, .int (y6 + 1)), (7, .int o2), (5, .int y5), (4, .int y4), (3, .int y3), (0, .ref aM), (1, xv vad26 y1), (2, xv vad26 y2)]) hx hb dM_indices_235 hl (k := 1) rfl rfl (by decide) rfl (fun ls hl => ?_)
                    refine lv_goto (tgt := 95) hx hb dM_indices_238 (by decide) ?_
                    exact ih (1, (y6 + 1), y5, y4, y3, y1, y2, 0, o2, o18.2.2, ((wc + o6.2.1) + o18.1), ((wn + o6.2.2.1) + o18.2.1)) _ _ ls (Or.inl ⟨ad24, gd25, vad26, rfl, hf, hP, hD, hS, lv_sub hl [0, 2, 3, 4, 5, 6, 7] rfl, hE, hN⟩)
                  rw [if_neg hk8] at hf
                  by_cases hk31 : o6.1 = 1
                  · rw [if_pos hk31] at hf
                    obtain ⟨hm32, hf⟩ := xmoE hf
                    obtain rfl := Option.some.inj hf
                    exact absurd (show (1 : Nat) = 2 from hkd) (by decide)
                  rw [if_neg hk31] at hf
                  exact nomatch hf
              · rw [if_neg hc] at hf
                refine lv_iconst (v := 1) hx hb dM_indices_169 (by decide) ?_
                refine lv_istore (lv' := [(7, .int 1), (6, .int y6), (5, .int y5), (4, .int y4), (3, .int y3), (0, .ref aM), (1, xv vadL y1), (2, xv vadL y2)]) hx hb dM_indices_170 hl (by decide) rfl (fun ls hl => ?_)
                refine lv_iconst (v := 0) hx hb dM_indices_172 (by decide) ?_
                refine lv_istore (lv' := [(8, .int 0), (7, .int 1), (6, .int y6), (5, .int y5), (4, .int y4), (3, .int y3), (0, .ref aM), (1, xv vadL y1), (2, xv vadL y2)]) hx hb dM_indices_173 hl (by decide) rfl (fun ls hl => ?_)
                exact ih (2, y6, y5, y4, y3, y1, y2, (0 : Int32), (1 : Int32), ws9, wc, wn) _ _ ls (Or.inr (⟨adL, gdL, vadL, rfl, hf, hP, hD, hS, lv_sub hl [0, 1, 2, 3, 4, 5, 6, 7, 8] rfl, hE, hN⟩))
    · subst hj
      have hf : fM_indices_b d (n + 1) 2 y6 y5 y4 y3 y1 y2 y8 y7 ws9 wc wn = some out := hf
      rw [fM_indices_b, if_neg (by decide)] at hf
      obtain ⟨hP, hD⟩ : xPD D xcl A (xMw cT aM adL rd gdL vadL ws9 []) H := ⟨hP, hD⟩
      have hl : lv_has ls 9 [(8, .int y8), (7, .int y7), (6, .int y6), (5, .int y5), (4, .int y4), (3, .int y3), (0, .ref aM), (1, xv vadL y1), (2, xv vadL y2)] := hl
      refine W.eq (g2 := F0 m 175 ls []) rfl ?_
      show W p l e _ s m _ below meth c H locs wc wn _ _
      obtain ⟨hm0, hf⟩ := xmoE hf
      refine lv_iload hx hb dM_indices_175 (lv_at hl 0 rfl) ?_
      refine xm_aload_n hx hb (xvor _ _) dM_indices_177 rfl (lv_at hl 8 rfl) ?_
      obtain ⟨hg1, hf⟩ := xifn hf
      refine xm_vget (v := .int ((xpi ws9 3) (y2 - 1))) hx hb htx hown hK hP 3 (by decide) hg1 rfl ((hZ.1 (103, "count", "I") (List.mem_of_getElem? (i := 3) rfl)).use rfl) rfl dM_indices_178 ?_
      refine lv_icmp_ge (tgt := 218) hx hb dM_indices_181 (by decide) (fun hc => ?_) (fun hc => ?_)
      · rw [if_pos hc] at hf
        refine lv_iload hx hb dM_indices_218 (lv_at hl 1 rfl) ?_
        refine lv_if_eq (tgt := 235) hx hb dM_indices_220 (by decide) (fun hc => ?_) (fun hc => ?_)
        · rw [if_pos hc] at hf
          refine lv_iinc (v := (y6 + 1)) (lv' := [(6, .int (y6 + 1)), (8, .int y8), (7, .int y7), (5, .int y5), (4, .int y4), (3, .int y3), (0, .ref aM), (1, xv vadL y1), (2, xv vadL y2)]) hx hb dM_indices_235 hl (k := 2) rfl rfl (by decide) rfl (fun ls hl => ?_)
          refine lv_goto (tgt := 95) hx hb dM_indices_238 (by decide) ?_
          exact ih (1, (y6 + 1), y5, y4, y3, y1, y2, y8, y7, ws9, wc, wn) _ _ ls (Or.inl ⟨adL, gdL, vadL, rfl, hf, hP, hD, hS, lv_sub hl [0, 3, 4, 5, 6, 7, 8] rfl, hE, hN⟩)
        · rw [if_neg hc] at hf
          refine lv_aload_n hx hb dM_indices_223 rfl (lv_at hl 6 rfl) ?_
          refine lv_null hx hb dM_indices_224 ?_
          refine lv_aload_n hx hb dM_indices_225 rfl (lv_at hl 6 rfl) ?_
          refine lv_iload hx hb dM_indices_226 (lv_at hl 2 rfl) ?_
          refine lv_i2l hx hb dM_indices_228 rfl ?_
          obtain ⟨o2, hq3, hf⟩ := xbind hf
          by_cases hk4 : o2.1 = 0
          · rw [if_pos hk4] at hf
            obtain ⟨hg5, hf⟩ := xifn hf
            obtain ⟨hm6, hf⟩ := xmoE hf
            have hFc := xm_free hD hS hA
            refine va_callq (va_runV (C := "ValueBenchModel") (As := [.long y6.toInt64]) (rest := [.null, .ref aM]) ⟨hx, hb, hml, hown, htx⟩ (gM_number l hl9 D cT aK aV H.size n aM adL rd gdL vadL ws9 y6.toInt64 o2 hq3 hk4) ⟨callB_of 1 htx (xw_goodC kw_6_88) rfl rfl rfl (htx _ kw_1_5) (htx _ kw_6_85) ⟨by decide, by decide, by decide +kernel⟩ ⟨Nat.le_of_ble_eq_true rfl, Nat.le_of_ble_eq_true rfl⟩, (htx _ kw_6_87), (htx _ kp_M_number)⟩ ⟨xPre_blind, va_recv hK hP (ci := 5) rfl (q0 := 0) rfl, (fun U hU hW => ⟨rfl, xPre_of hZ hS hFc hP hD hK U hU hW⟩)⟩ rfl rfl hl.1 rfl (xm_room (Nat.le_of_ble_eq_true rfl)) dM_indices_229 ⟨hm6.1, hm6.2⟩) hS (fun q _ h => hFc q h) hFc (fun r7 u9 t H1 locs ht hvm hr9 hB hz1 hk1 hS => ?_)
            obtain ⟨hP1, hK1, hD1⟩ := hB
            rw [ht] at hP1
            obtain ⟨ad8, gd9, vad10⟩ := u9
            obtain ⟨hr9, hv11, hn12⟩ := hr9
            have hP : va_P D xcl (xMw cT aM ad8 rd gd9 vad10 o2.2.2.2.2 []) H1 := hP1
            have hD : va_D A (xMw cT aM ad8 rd gd9 vad10 o2.2.2.2.2 []) := hD1.weaken (fun k q _ h => hFc q.1 h)
            generalize H1 = H at hP hS ⊢
            have hE9 : ∀ p, p < xct st → vad10 p = vad p := fun p h => (hv11 p (Nat.lt_of_lt_of_le h hN)).trans (hE p h)
            have hE := hE9
            have hN : xct st ≤ xct o2.2.2.2.2 := Nat.le_trans hN hn12
            have ev13 : xv vadL y1 = xv vad10 y1 := xvE hv11 hg5
            have ev14 : xv vadL y2 = xv vad10 y2 := xvE hv11 (fun h => hg1 (Or.inr h))
            have hl : lv_has ls 9 [(8, .int y8), (7, .int y7), (6, .int y6), (5, .int y5), (4, .int y4), (3, .int y3), (0, .ref aM), (1, xv vad10 y1), (2, xv vad10 y2)] := by first | exact hl | ((try (rw [← ev13])); (try (rw [← ev14])); exact hl)
            rw [hr9]
            refine W.eq (g2 := F0 m 232 ls [xv vad10 o2.2.2.2.1, .null, .ref aM]) (by first | rfl | ((try (rw [ev13])); (try (rw [ev14])); rfl)) ?_
            obtain ⟨o15, hq16, hf⟩ := xbind hf
            obtain ⟨hg17, hf⟩ := xifn hf
            obtain ⟨hg18, hf⟩ := xifn hf
            obtain ⟨hm19, hf⟩ := xmoE hf
            have hFc := xm_free hD hS hA
            refine va_callv (va_runV (C := "ValueBenchModel") (As := [.null, xv vad10 o2.2.2.2.1]) (rest := []) ⟨hx, hb, hml, hown, htx⟩ (gM_wait l hl9 D cT aK aV H.size n aM ad8 rd gd9 vad10 o2.2.2.2.2 0 o2.2.2.2.1 o15 hq16) ⟨callB_of 2 htx (xw_goodC kw_6_112) rfl rfl rfl (htx _ kw_1_5) (htx _ kw_6_109) ⟨by decide, by decide, by decide +kernel⟩ ⟨Nat.le_of_ble_eq_true rfl, Nat.le_of_ble_eq_true rfl⟩, (htx _ kw_6_111), (htx _ kp_M_wait)⟩ ⟨xPre_blind, va_recv hK hP (ci := 5) rfl (q0 := 0) rfl, (fun U hU hW => ⟨rfl, xPre_of hZ hS hFc hP hD hK U hU hW⟩)⟩ rfl rfl hl.1 rfl (xm_room (Nat.le_of_ble_eq_true rfl)) dM_indices_232 ⟨hm19.1, hm19.2⟩) hS (fun q _ h => hFc q h) hFc (fun u9 t H1 locs ht hvm hr9 hB hz1 hk1 hS => ?_)
            obtain ⟨hP1, hK1, hD1⟩ := hB
            rw [ht] at hP1
            obtain ⟨ad21, gd22, vad23⟩ := u9
            obtain ⟨hv24, hn25⟩ := hr9
            have hP : va_P D xcl (xMw cT aM ad21 rd gd22 vad23 o15.2.2 []) H1 := hP1
            have hD : va_D A (xMw cT aM ad21 rd gd22 vad23 o15.2.2 []) := hD1.weaken (fun k q _ h => hFc q.1 h)
            generalize H1 = H at hP hS ⊢
            have hE9 : ∀ p, p < xct st → vad23 p = vad p := fun p h => (hv24 p (Nat.lt_of_lt_of_le h hN)).trans (hE p h)
            have hE := hE9
            have hN : xct st ≤ xct o15.2.2 := Nat.le_trans hN hn25
            have ev26 : xv vad10 y1 = xv vad23 y1 := xvE hv24 hg17
            have ev27 : xv vad10 y2 = xv vad23 y2 := xvE hv24 hg18
            have hl : lv_has ls 9 [(8, .int y8), (7, .int y7), (6, .int y6), (5, .int y5), (4, .int y4), (3, .int y3), (0, .ref aM), (1, xv vad23 y1), (2, xv vad23 y2)] := by first | exact hl | ((try (rw [← ev26])); (try (rw [← ev27])); exact hl)
            refine W.eq (g2 := F0 m 235 ls []) (by first | rfl | ((try (rw [ev26])); (try (rw [ev27])); rfl)) ?_
            refine lv_iinc (v := (y6 + 1)) (lv' := [(6, .int (y6 + 1)), (8, .int y8), (7, .int y7), (5, .int y5), (4, .int y4), (3, .int y3), (0, .ref aM), (1, xv vad23 y1), (2, xv vad23 y2)]) hx hb dM_indices_235 hl (k := 2) rfl rfl (by decide) rfl (fun ls hl => ?_)
            refine lv_goto (tgt := 95) hx hb dM_indices_238 (by decide) ?_
            exact ih (1, (y6 + 1), y5, y4, y3, y1, y2, y8, y7, o15.2.2, ((wc + o2.2.1) + o15.1), ((wn + o2.2.2.1) + o15.2.1)) _ _ ls (Or.inl ⟨ad21, gd22, vad23, rfl, hf, hP, hD, hS, lv_sub hl [0, 3, 4, 5, 6, 7, 8] rfl, hE, hN⟩)
          rw [if_neg hk4] at hf
          by_cases hk28 : o2.1 = 1
          · rw [if_pos hk28] at hf
            obtain ⟨hg29, hf⟩ := xifn hf
            obtain ⟨hm30, hf⟩ := xmoE hf
            obtain rfl := Option.some.inj hf
            exact absurd (show (1 : Nat) = 2 from hkd) (by decide)
          rw [if_neg hk28] at hf
          exact nomatch hf
      · rw [if_neg hc] at hf
        refine lv_iload hx hb dM_indices_184 (lv_at hl 1 rfl) ?_
        refine lv_if_eq (tgt := 218) hx hb dM_indices_186 (by decide) (fun hc => ?_) (fun hc => ?_)
        · rw [if_pos hc] at hf
          refine lv_iload hx hb dM_indices_218 (lv_at hl 1 rfl) ?_
          refine lv_if_eq (tgt := 235) hx hb dM_indices_220 (by decide) (fun hc => ?_) (fun hc => ?_)
          · rw [if_pos hc] at hf
            refine lv_iinc (v := (y6 + 1)) (lv' := [(6, .int (y6 + 1)), (8, .int y8), (7, .int y7), (5, .int y5), (4, .int y4), (3, .int y3), (0, .ref aM), (1, xv vadL y1), (2, xv vadL y2)]) hx hb dM_indices_235 hl (k := 2) rfl rfl (by decide) rfl (fun ls hl => ?_)
            refine lv_goto (tgt := 95) hx hb dM_indices_238 (by decide) ?_
            exact ih (1, (y6 + 1), y5, y4, y3, y1, y2, y8, y7, ws9, wc, wn) _ _ ls (Or.inl ⟨adL, gdL, vadL, rfl, hf, hP, hD, hS, lv_sub hl [0, 3, 4, 5, 6, 7, 8] rfl, hE, hN⟩)
          · rw [if_neg hc] at hf
            refine lv_aload_n hx hb dM_indices_223 rfl (lv_at hl 6 rfl) ?_
            refine lv_null hx hb dM_indices_224 ?_
            refine lv_aload_n hx hb dM_indices_225 rfl (lv_at hl 6 rfl) ?_
            refine lv_iload hx hb dM_indices_226 (lv_at hl 2 rfl) ?_
            refine lv_i2l hx hb dM_indices_228 rfl ?_
            obtain ⟨o2, hq3, hf⟩ := xbind hf
            by_cases hk4 : o2.1 = 0
            · rw [if_pos hk4] at hf
              obtain ⟨hg5, hf⟩ := xifn hf
              obtain ⟨hm6, hf⟩ := xmoE hf
              have hFc := xm_free hD hS hA
              refine va_callq (va_runV (C := "ValueBenchModel") (As := [.long y6.toInt64]) (rest := [.null, .ref aM]) ⟨hx, hb, hml, hown, htx⟩ (gM_number l hl9 D cT aK aV H.size n aM adL rd gdL vadL ws9 y6.toInt64 o2 hq3 hk4) ⟨callB_of 1 htx (xw_goodC kw_6_88) rfl rfl rfl (htx _ kw_1_5) (htx _ kw_6_85) ⟨by decide, by decide, by decide +kernel⟩ ⟨Nat.le_of_ble_eq_true rfl, Nat.le_of_ble_eq_true rfl⟩, (htx _ kw_6_87), (htx _ kp_M_number)⟩ ⟨xPre_blind, va_recv hK hP (ci := 5) rfl (q0 := 0) rfl, (fun U hU hW => ⟨rfl, xPre_of hZ hS hFc hP hD hK U hU hW⟩)⟩ rfl rfl hl.1 rfl (xm_room (Nat.le_of_ble_eq_true rfl)) dM_indices_229 ⟨hm6.1, hm6.2⟩) hS (fun q _ h => hFc q h) hFc (fun r7 u9 t H1 locs ht hvm hr9 hB hz1 hk1 hS => ?_)
              obtain ⟨hP1, hK1, hD1⟩ := hB
              rw [ht] at hP1
              obtain ⟨ad8, gd9, vad10⟩ := u9
              obtain ⟨hr9, hv11, hn12⟩ := hr9
              have hP : va_P D xcl (xMw cT aM ad8 rd gd9 vad10 o2.2.2.2.2 []) H1 := hP1
              have hD : va_D A (xMw cT aM ad8 rd gd9 vad10 o2.2.2.2.2 []) := hD1.weaken (fun k q _ h => hFc q.1 h)
              generalize H1 = H at hP hS ⊢
              have hE9 : ∀ p, p < xct st → vad10 p = vad p := fun p h => (hv11 p (Nat.lt_of_lt_of_le h hN)).trans (hE p h)
              have hE := hE9
              have hN : xct st ≤ xct o2.2.2.2.2 := Nat.le_trans hN hn12
              have ev13 : xv vadL y1 = xv vad10 y1 := xvE hv11 hg5
              have ev14 : xv vadL y2 = xv vad10 y2 := xvE hv11 (fun h => hg1 (Or.inr h))
              have hl : lv_has ls 9 [(8, .int y8), (7, .int y7), (6, .int y6), (5, .int y5), (4, .int y4), (3, .int y3), (0, .ref aM), (1, xv vad10 y1), (2, xv vad10 y2)] := by first | exact hl | ((try (rw [← ev13])); (try (rw [← ev14])); exact hl)
              rw [hr9]
              refine W.eq (g2 := F0 m 232 ls [xv vad10 o2.2.2.2.1, .null, .ref aM]) (by first | rfl | ((try (rw [ev13])); (try (rw [ev14])); rfl)) ?_
              obtain ⟨o15, hq16, hf⟩ := xbind hf
              obtain ⟨hg17, hf⟩ := xifn hf
              obtain ⟨hg18, hf⟩ := xifn hf
              obtain ⟨hm19, hf⟩ := xmoE hf
              have hFc := xm_free hD hS hA
              refine va_callv (va_runV (C := "ValueBenchModel") (As := [.null, xv vad10 o2.2.2.2.1]) (rest := []) ⟨hx, hb, hml, hown, htx⟩ (gM_wait l hl9 D cT aK aV H.size n aM ad8 rd gd9 vad10 o2.2.2.2.2 0 o2.2.2.2.1 o15 hq16) ⟨callB_of 2 htx (xw_goodC kw_6_112) rfl rfl rfl (htx _ kw_1_5) (htx _ kw_6_109) ⟨by decide, by decide, by decide +kernel⟩ ⟨Nat.le_of_ble_eq_true rfl, Nat.le_of_ble_eq_true rfl⟩, (htx _ kw_6_111), (htx _ kp_M_wait)⟩ ⟨xPre_blind, va_recv hK hP (ci := 5) rfl (q0 := 0) rfl, (fun U hU hW => ⟨rfl, xPre_of hZ hS hFc hP hD hK U hU hW⟩)⟩ rfl rfl hl.1 rfl (xm_room (Nat.le_of_ble_eq_true rfl)) dM_indices_232 ⟨hm19.1, hm19.2⟩) hS (fun q _ h => hFc q h) hFc (fun u9 t H1 locs ht hvm hr9 hB hz1 hk1 hS => ?_)
              obtain ⟨hP1, hK1, hD1⟩ := hB
              rw [ht] at hP1
              obtain ⟨ad21, gd22, vad23⟩ := u9
              obtain ⟨hv24, hn25⟩ := hr9
              have hP : va_P D xcl (xMw cT aM ad21 rd gd22 vad23 o15.2.2 []) H1 := hP1
              have hD : va_D A (xMw cT aM ad21 rd gd22 vad23 o15.2.2 []) := hD1.weaken (fun k q _ h => hFc q.1 h)
              generalize H1 = H at hP hS ⊢
              have hE9 : ∀ p, p < xct st → vad23 p = vad p := fun p h => (hv24 p (Nat.lt_of_lt_of_le h hN)).trans (hE p h)
              have hE := hE9
              have hN : xct st ≤ xct o15.2.2 := Nat.le_trans hN hn25
              have ev26 : xv vad10 y1 = xv vad23 y1 := xvE hv24 hg17
              have ev27 : xv vad10 y2 = xv vad23 y2 := xvE hv24 hg18
              have hl : lv_has ls 9 [(8, .int y8), (7, .int y7), (6, .int y6), (5, .int y5), (4, .int y4), (3, .int y3), (0, .ref aM), (1, xv vad23 y1), (2, xv vad23 y2)] := by first | exact hl | ((try (rw [← ev26])); (try (rw [← ev27])); exact hl)
              refine W.eq (g2 := F0 m 235 ls []) (by first | rfl | ((try (rw [ev26])); (try (rw [ev27])); rfl)) ?_
              refine lv_iinc (v := (y6 + 1)) (lv' := [(6, .int (y6 + 1)), (8, .int y8), (7, .int y7), (5, .int y5), (4, .int y4), (3, .int y3), (0, .ref aM), (1, xv vad23 y1), (2, xv vad23 y2)]) hx hb dM_indices_235 hl (k := 2) rfl rfl (by decide) rfl (fun ls hl => ?_)
              refine lv_goto (tgt := 95) hx hb dM_indices_238 (by decide) ?_
              exact ih (1, (y6 + 1), y5, y4, y3, y1, y2, y8, y7, o15.2.2, ((wc + o2.2.1) + o15.1), ((wn + o2.2.2.1) + o15.2.1)) _ _ ls (Or.inl ⟨ad21, gd22, vad23, rfl, hf, hP, hD, hS, lv_sub hl [0, 3, 4, 5, 6, 7, 8] rfl, hE, hN⟩)
            rw [if_neg hk4] at hf
            by_cases hk28 : o2.1 = 1
            · rw [if_pos hk28] at hf
              obtain ⟨hg29, hf⟩ := xifn hf
              obtain ⟨hm30, hf⟩ := xmoE hf
              obtain rfl := Option.some.inj hf
              exact absurd (show (1 : Nat) = 2 from hkd) (by decide)
            rw [if_neg hk28] at hf
            exact nomatch hf
        · rw [if_neg hc] at hf
          refine lv_aload_n hx hb dM_indices_189 rfl (lv_at hl 6 rfl) ?_
          refine lv_aload_n hx hb dM_indices_190 rfl (lv_at hl 6 rfl) ?_
          refine xm_aload_n hx hb (xvor _ _) dM_indices_191 rfl (lv_at hl 7 rfl) ?_
          refine lv_iload hx hb dM_indices_192 (lv_at hl 2 rfl) ?_
          refine lv_iload hx hb dM_indices_194 (lv_at hl 0 rfl) ?_
          refine lv_iadd hx hb dM_indices_196 ?_
          obtain ⟨o2, hq3, hf⟩ := xbind hf
          have hFc := xm_free hD hS hA
          refine va_callq (va_runV (C := "ValueBenchModel") (As := [xv vadL y1, .int (y6 + y8)]) (rest := [.ref aM]) ⟨hx, hb, hml, hown, htx⟩ (gM_kid l hl9 D cT aK aV H.size n aM adL rd gdL vadL ws9 y1 (y6 + y8) o2 hq3) ⟨callB_of 2 htx (xw_goodC kw_6_158) rfl rfl rfl (htx _ kw_1_5) (htx _ kw_6_155) ⟨by decide, by decide, by decide +kernel⟩ ⟨Nat.le_of_ble_eq_true rfl, Nat.le_of_ble_eq_true rfl⟩, (htx _ kw_6_157), (htx _ kp_M_kid)⟩ ⟨xPre_blind, va_recv hK hP (ci := 5) rfl (q0 := 0) rfl, (fun U hU hW => ⟨rfl, xPre_of hZ hS hFc hP hD hK U hU hW⟩)⟩ rfl rfl hl.1 rfl (xm_room (Nat.le_of_ble_eq_true rfl)) dM_indices_197 ⟨hm0.1, hm0.2⟩) hS (fun q _ h => hFc q h) hFc (fun r4 u9 t H1 locs ht hvm hr9 hB hz1 hk1 hS => ?_)
          obtain ⟨hP1, hK1, hD1⟩ := hB
          rw [ht] at hP1
          have hP : va_P D xcl (xMw cT aM adL rd gdL vadL ws9 []) H1 := hP1
          have hD : va_D A (xMw cT aM adL rd gdL vadL ws9 []) := hD1.weaken (fun k q _ h => hFc q.1 h)
          generalize H1 = H at hP hS ⊢
          rw [hr9]
          refine W.eq (g2 := F0 m 200 ls [xv vadL o2, .ref aM]) (by first | rfl | (skip; rfl)) ?_
          refine lv_aload_n hx hb dM_indices_200 rfl (lv_at hl 6 rfl) ?_
          refine xm_aload_n hx hb (xvor _ _) dM_indices_201 rfl (lv_at hl 8 rfl) ?_
          refine lv_iload hx hb dM_indices_202 (lv_at hl 0 rfl) ?_
          obtain ⟨o5, hq6, hf⟩ := xbind hf
          have hFc := xm_free hD hS hA
          refine va_callq (va_runV (C := "ValueBenchModel") (As := [xv vadL y2, .int y8]) (rest := [xv vadL o2, .ref aM]) ⟨hx, hb, hml, hown, htx⟩ (gM_kid l hl9 D cT aK aV H.size n aM adL rd gdL vadL ws9 y2 y8 o5 hq6) ⟨callB_of 2 htx (xw_goodC kw_6_158) rfl rfl rfl (htx _ kw_1_5) (htx _ kw_6_155) ⟨by decide, by decide, by decide +kernel⟩ ⟨Nat.le_of_ble_eq_true rfl, Nat.le_of_ble_eq_true rfl⟩, (htx _ kw_6_157), (htx _ kp_M_kid)⟩ ⟨xPre_blind, va_recv hK hP (ci := 5) rfl (q0 := 0) rfl, (fun U hU hW => ⟨rfl, xPre_of hZ hS hFc hP hD hK U hU hW⟩)⟩ rfl rfl hl.1 rfl (xm_room (by simp [xvcat, xrscat, xcI, xcL, xcR, xcN])) dM_indices_204 ⟨hm0.1, hm0.2⟩) hS (fun q _ h => hFc q h) hFc (fun r7 u9 t H1 locs ht hvm hr9 hB hz1 hk1 hS => ?_)
          obtain ⟨hP1, hK1, hD1⟩ := hB
          rw [ht] at hP1
          have hP : va_P D xcl (xMw cT aM adL rd gdL vadL ws9 []) H1 := hP1
          have hD : va_D A (xMw cT aM adL rd gdL vadL ws9 []) := hD1.weaken (fun k q _ h => hFc q.1 h)
          generalize H1 = H at hP hS ⊢
          rw [hr9]
          refine W.eq (g2 := F0 m 207 ls [xv vadL o5, xv vadL o2, .ref aM]) (by first | rfl | (skip; rfl)) ?_
          obtain ⟨o8, hq9, hf⟩ := xbind hf
          have hFc := xm_free hD hS hA
          refine va_calli (va_runV (C := "ValueBenchModel") (As := [xv vadL o2, xv vadL o5]) (rest := []) ⟨hx, hb, hml, hown, htx⟩ (gM_same1 l hl9 D cT aK aV d H.size n aM adL rd gdL vadL ws9 o2 o5 o8 hq9) ⟨callB_of 2 htx (xw_goodC kw_6_174) rfl rfl rfl (htx _ kw_1_5) (htx _ kw_6_171) ⟨by decide, by decide, by decide +kernel⟩ ⟨(by show (16 * d) + 1 ≤ 16 * d + 8; omega), (by show 8 + (5 + 11) + (400 * d) ≤ 400 * d + 147; omega)⟩, (htx _ kw_6_173), (htx _ kp_M_same1)⟩ ⟨xPre_blind, va_recv hK hP (ci := 5) rfl (q0 := 0) rfl, (fun U hU hW => ⟨rfl, xPre_of hZ hS hFc hP hD hK U hU hW⟩)⟩ rfl rfl hl.1 rfl (xm_room (Nat.le_of_ble_eq_true rfl)) dM_indices_207 ⟨hm0.1, hm0.2⟩) hS (fun q _ h => hFc q h) hFc (fun r10 u9 t H1 locs ht hvm hr9 hB hz1 hk1 hS => ?_)
          obtain ⟨hP1, hK1, hD1⟩ := hB
          rw [ht] at hP1
          have hP : va_P D xcl (xMw cT aM adL rd gdL vadL ws9 []) H1 := hP1
          have hD : va_D A (xMw cT aM adL rd gdL vadL ws9 []) := hD1.weaken (fun k q _ h => hFc q.1 h)
          generalize H1 = H at hP hS ⊢
          rw [hr9]
          refine W.eq (g2 := F0 m 210 ls [.int o8]) (by first | rfl | (skip; rfl)) ?_
          refine lv_istore (lv' := [(7, .int o8), (8, .int y8), (6, .int y6), (5, .int y5), (4, .int y4), (3, .int y3), (0, .ref aM), (1, xv vadL y1), (2, xv vadL y2)]) hx hb dM_indices_210 hl (by decide) rfl (fun ls hl => ?_)
          refine lv_iinc (v := (y8 + 1)) (lv' := [(8, .int (y8 + 1)), (7, .int o8), (6, .int y6), (5, .int y5), (4, .int y4), (3, .int y3), (0, .ref aM), (1, xv vadL y1), (2, xv vadL y2)]) hx hb dM_indices_212 hl (k := 1) rfl rfl (by decide) rfl (fun ls hl => ?_)
          refine lv_goto (tgt := 175) hx hb dM_indices_215 (by decide) ?_
          exact ih (2, y6, y5, y4, y3, y1, y2, (y8 + 1), o8, ws9, wc, wn) _ _ ls (Or.inr (⟨adL, gdL, vadL, rfl, hf, hP, hD, hS, lv_sub hl [0, 1, 2, 3, 4, 5, 6, 7, 8] rfl, hE, hN⟩))
  refine xm_aload_n hx hb (xvor _ _) dM_indices_0 rfl (lv_at hl 1 rfl) ?_
  obtain ⟨hg1, hf⟩ := xifn hf
  refine xm_vget (v := .int ((xpi st 0) (c0 - 1))) hx hb htx hown hK hP 0 (by decide) hg1 rfl ((hZ.1 (93, "kind", "I") (List.mem_of_getElem? (i := 0) rfl)).use rfl) rfl dM_indices_1 ?_
  refine lv_if_ne (tgt := 9) hx hb dM_indices_4 (by decide) (fun hc => ?_) (fun hc => ?_)
  · rw [if_neg hc] at hf
    refine xm_aload_n hx hb (xvor _ _) dM_indices_9 rfl (lv_at hl 1 rfl) ?_
    refine xm_vget (v := .int ((xpi st 0) (c0 - 1))) hx hb htx hown hK hP 0 (by decide) hg1 rfl ((hZ.1 (93, "kind", "I") (List.mem_of_getElem? (i := 0) rfl)).use rfl) rfl dM_indices_10 ?_
    refine lv_iconst (v := 4) hx hb dM_indices_13 (by decide) ?_
    refine lv_icmp_ne (tgt := 29) hx hb dM_indices_14 (by decide) (fun hc => ?_) (fun hc => ?_)
    · rw [if_neg hc] at hf
      refine lv_iconst (v := 0) hx hb dM_indices_29 (by decide) ?_
      refine lv_istore_n (lv' := [(3, .int 0), (0, .ref aM), (1, xv vad c0), (2, xv vad c1)]) hx hb dM_indices_30 rfl hl (by decide) (by simp only [List.filter, xvcat, xrscat, xcI, xcL, xcR, xcN]; rfl) (fun ls hl => ?_)
      refine lv_iload_n hx hb dM_indices_31 rfl (lv_at hl 0 rfl) ?_
      refine lv_if_ne (tgt := 49) hx hb dM_indices_32 (by decide) (fun h => ((by revert h; decide : False)).elim) (fun _ => ?_)
      refine xm_aload_n hx hb (xvor _ _) dM_indices_35 rfl (lv_at hl 2 rfl) ?_
      refine xm_vget (v := .int ((xpi st 0) (c0 - 1))) hx hb htx hown hK hP 0 (by decide) hg1 rfl ((hZ.1 (93, "kind", "I") (List.mem_of_getElem? (i := 0) rfl)).use rfl) rfl dM_indices_36 ?_
      refine lv_iconst (v := 5) hx hb dM_indices_39 (by decide) ?_
      refine lv_icmp_eq (tgt := 49) hx hb dM_indices_40 (by decide) (fun hc => ?_) (fun hc => ?_)
      · rw [if_pos hc] at hf
        refine xm_aload_n hx hb (xvor _ _) dM_indices_49 rfl (lv_at hl 3 rfl) ?_
        obtain ⟨hg2, hf⟩ := xifn hf
        refine xm_vget (v := .int ((xpi st 0) (c1 - 1))) hx hb htx hown hK hP 0 (by decide) hg2 rfl ((hZ.1 (93, "kind", "I") (List.mem_of_getElem? (i := 0) rfl)).use rfl) rfl dM_indices_50 ?_
        refine lv_iconst (v := 5) hx hb dM_indices_53 (by decide) ?_
        refine lv_icmp_ne (tgt := 61) hx hb dM_indices_54 (by decide) (fun hc => ?_) (fun hc => ?_)
        · rw [if_neg hc] at hf
          refine lv_iconst (v := 0) hx hb dM_indices_61 (by decide) ?_
          refine lv_istore (lv' := [(4, .int 0), (3, .int 0), (0, .ref aM), (1, xv vad c0), (2, xv vad c1)]) hx hb dM_indices_62 hl (by decide) rfl (fun ls hl => ?_)
          refine lv_iload_n hx hb dM_indices_64 rfl (lv_at hl 1 rfl) ?_
          refine lv_if_ne (tgt := 73) hx hb dM_indices_65 (by decide) (fun h => ((by revert h; decide : False)).elim) (fun _ => ?_)
          refine lv_iload hx hb dM_indices_68 (lv_at hl 0 rfl) ?_
          refine lv_if_eq (tgt := 86) hx hb dM_indices_70 (by decide) (fun _ => ?_) (fun h => ((by revert h; decide : False)).elim)
          refine lv_aload_n hx hb dM_indices_86 rfl (lv_at hl 2 rfl) ?_
          refine xm_get (v := .int (xsi st 12)) hx hb htx hown hK hP 12 (by decide) rfl (htx _ kw_5_99) rfl dM_indices_87 ?_
          refine lv_istore (lv' := [(5, .int (xsi st 12)), (4, .int 0), (3, .int 0), (0, .ref aM), (1, xv vad c0), (2, xv vad c1)]) hx hb dM_indices_90 hl (by decide) rfl (fun ls hl => ?_)
          refine lv_iconst (v := 0) hx hb dM_indices_92 (by decide) ?_
          refine lv_istore (lv' := [(6, .int 0), (5, .int (xsi st 12)), (4, .int 0), (3, .int 0), (0, .ref aM), (1, xv vad c0), (2, xv vad c1)]) hx hb dM_indices_93 hl (by decide) rfl (fun ls hl => ?_)
          exact key n (1, (0 : Int32), (xsi st 12), (0 : Int32), (0 : Int32), c0, c1, 0, 0, st, 0, 0) _ _ ls (Or.inl ⟨ad, gd, vad, rfl, hf, hP, hD, hS, lv_sub hl [0, 1, 2, 3, 4, 5, 6] rfl, hE, hN⟩)
        · rw [if_pos hc] at hf
          refine lv_iconst (v := 1) hx hb dM_indices_57 (by decide) ?_
          refine lv_goto (tgt := 62) hx hb dM_indices_58 (by decide) ?_
          refine lv_istore (lv' := [(4, .int 1), (3, .int 0), (0, .ref aM), (1, xv vad c0), (2, xv vad c1)]) hx hb dM_indices_62 hl (by decide) rfl (fun ls hl => ?_)
          refine lv_iload_n hx hb dM_indices_64 rfl (lv_at hl 1 rfl) ?_
          refine lv_if_ne (tgt := 73) hx hb dM_indices_65 (by decide) (fun h => ((by revert h; decide : False)).elim) (fun _ => ?_)
          refine lv_iload hx hb dM_indices_68 (lv_at hl 0 rfl) ?_
          refine lv_if_eq (tgt := 86) hx hb dM_indices_70 (by decide) (fun h => ((by revert h; decide : False)).elim) (fun _ => ?_)
          refine xm_aload_n hx hb (xvor _ _) dM_indices_73 rfl (lv_at hl 4 rfl) ?_
          refine xm_vget (v := .int ((xpi st 3) (c1 - 1))) hx hb htx hown hK hP 3 (by decide) hg2 rfl ((hZ.1 (103, "count", "I") (List.mem_of_getElem? (i := 3) rfl)).use rfl) rfl dM_indices_74 ?_
          refine lv_if_ne (tgt := 86) hx hb dM_indices_77 (by decide) (fun hc => ?_) (fun hc => ?_)
          · rw [if_neg hc] at hf
            refine lv_aload_n hx hb dM_indices_86 rfl (lv_at hl 2 rfl) ?_
            refine xm_get (v := .int (xsi st 12)) hx hb htx hown hK hP 12 (by decide) rfl (htx _ kw_5_99) rfl dM_indices_87 ?_
            refine lv_istore (lv' := [(5, .int (xsi st 12)), (4, .int 1), (3, .int 0), (0, .ref aM), (1, xv vad c0), (2, xv vad c1)]) hx hb dM_indices_90 hl (by decide) rfl (fun ls hl => ?_)
            refine lv_iconst (v := 0) hx hb dM_indices_92 (by decide) ?_
            refine lv_istore (lv' := [(6, .int 0), (5, .int (xsi st 12)), (4, .int 1), (3, .int 0), (0, .ref aM), (1, xv vad c0), (2, xv vad c1)]) hx hb dM_indices_93 hl (by decide) rfl (fun ls hl => ?_)
            exact key n (1, (0 : Int32), (xsi st 12), (1 : Int32), (0 : Int32), c0, c1, 0, 0, st, 0, 0) _ _ ls (Or.inl ⟨ad, gd, vad, rfl, hf, hP, hD, hS, lv_sub hl [0, 1, 2, 3, 4, 5, 6] rfl, hE, hN⟩)
          · rw [if_pos hc] at hf
            refine lv_aload_n hx hb dM_indices_80 rfl (lv_at hl 2 rfl) ?_
            refine lv_iconst (v := 0) hx hb dM_indices_81 (by decide) ?_
            obtain ⟨o3, hq4, hf⟩ := xbind hf
            have hl := lv_sub (l' := [(4, .int 1), (3, .int 0), (0, .ref aM)]) hl [0, 1, 2] rfl
            obtain ⟨hm5, hf⟩ := xmoE hf
            have hFc := xm_free hD hS hA
            refine va_callq (va_runV (C := "ValueBenchModel") (As := [.int 0]) (rest := []) ⟨hx, hb, hml, hown, htx⟩ (gM_fresh l hl9 D cT aK aV s.heap.size n aM ad rd gd vad st (0 : Int32) o3 hq4) ⟨callB_of 1 htx (xw_goodC kw_6_16) rfl rfl rfl (htx _ kw_1_5) (htx _ kw_6_13) ⟨by decide, by decide, by decide +kernel⟩ ⟨Nat.le_of_ble_eq_true rfl, Nat.le_of_ble_eq_true rfl⟩, (htx _ kw_6_15), (htx _ kp_M_fresh)⟩ ⟨xPre_blind, va_recv hK hP (ci := 5) rfl (q0 := 0) rfl, (fun U hU hW => ⟨rfl, xPre_of hZ hS hFc hP hD hK U hU hW⟩)⟩ rfl rfl hl.1 rfl (xm_room (Nat.le_of_ble_eq_true rfl)) dM_indices_82 ⟨hm5.1, hm5.2⟩) hS (fun q _ h => hFc q h) hFc (fun r6 u9 t H1 locs ht hvm hr9 hB hz1 hk1 hS => ?_)
            obtain ⟨hP1, hK1, hD1⟩ := hB
            rw [ht] at hP1
            obtain ⟨ad7, gd8, vad9⟩ := u9
            obtain ⟨hr9, hv10, hn11⟩ := hr9
            have hP : va_P D xcl (xMw cT aM ad7 rd gd8 vad9 o3.2.2.2 []) H1 := hP1
            have hD : va_D A (xMw cT aM ad7 rd gd8 vad9 o3.2.2.2 []) := hD1.weaken (fun k q _ h => hFc q.1 h)
            generalize H1 = H at hP hS ⊢
            have hE9 : ∀ p, p < xct st → vad9 p = vad p := fun p h => (hv10 p (Nat.lt_of_lt_of_le h hN)).trans (hE p h)
            have hE := hE9
            have hN : xct st ≤ xct o3.2.2.2 := Nat.le_trans hN hn11
            rw [hr9]
            refine W.eq (g2 := F0 m 85 ls [xv vad9 o3.2.2.1]) (by first | rfl | (skip; rfl)) ?_
            obtain rfl := Option.some.inj hf
            exact absurd (show (0 : Nat) = 2 from hkd) (by decide)
      · rw [if_neg hc] at hf
        refine lv_aload_n hx hb dM_indices_43 rfl (lv_at hl 1 rfl) ?_
        refine lv_iconst (v := 1) hx hb dM_indices_44 (by decide) ?_
        obtain ⟨o2, hq3, hf⟩ := xbind hf
        have hl := lv_sub (l' := [(3, .int 0), (0, .ref aM)]) hl [0, 1] rfl
        by_cases hk4 : o2.1 = 1
        · rw [if_pos hk4] at hf
          obtain ⟨hm5, hf⟩ := xmoE hf
          obtain rfl := Option.some.inj hf
          exact absurd (show (1 : Nat) = 2 from hkd) (by decide)
        rw [if_neg hk4] at hf
        exact nomatch hf
    · rw [if_pos hc] at hf
      refine xm_aload_n hx hb (xvor _ _) dM_indices_17 rfl (lv_at hl 2 rfl) ?_
      obtain ⟨hg2, hf⟩ := xifn hf
      refine xm_vget (v := .int ((xpi st 0) (c1 - 1))) hx hb htx hown hK hP 0 (by decide) hg2 rfl ((hZ.1 (93, "kind", "I") (List.mem_of_getElem? (i := 0) rfl)).use rfl) rfl dM_indices_18 ?_
      refine lv_iconst (v := 4) hx hb dM_indices_21 (by decide) ?_
      refine lv_icmp_ne (tgt := 29) hx hb dM_indices_22 (by decide) (fun hc => ?_) (fun hc => ?_)
      · rw [if_neg hc] at hf
        refine lv_iconst (v := 0) hx hb dM_indices_29 (by decide) ?_
        refine lv_istore_n (lv' := [(3, .int 0), (0, .ref aM), (1, xv vad c0), (2, xv vad c1)]) hx hb dM_indices_30 rfl hl (by decide) (by simp only [List.filter, xvcat, xrscat, xcI, xcL, xcR, xcN]; rfl) (fun ls hl => ?_)
        refine lv_iload_n hx hb dM_indices_31 rfl (lv_at hl 0 rfl) ?_
        refine lv_if_ne (tgt := 49) hx hb dM_indices_32 (by decide) (fun h => ((by revert h; decide : False)).elim) (fun _ => ?_)
        refine xm_aload_n hx hb (xvor _ _) dM_indices_35 rfl (lv_at hl 2 rfl) ?_
        refine xm_vget (v := .int ((xpi st 0) (c0 - 1))) hx hb htx hown hK hP 0 (by decide) hg1 rfl ((hZ.1 (93, "kind", "I") (List.mem_of_getElem? (i := 0) rfl)).use rfl) rfl dM_indices_36 ?_
        refine lv_iconst (v := 5) hx hb dM_indices_39 (by decide) ?_
        refine lv_icmp_eq (tgt := 49) hx hb dM_indices_40 (by decide) (fun hc => ?_) (fun hc => ?_)
        · rw [if_pos hc] at hf
          refine xm_aload_n hx hb (xvor _ _) dM_indices_49 rfl (lv_at hl 3 rfl) ?_
          refine xm_vget (v := .int ((xpi st 0) (c1 - 1))) hx hb htx hown hK hP 0 (by decide) hg2 rfl ((hZ.1 (93, "kind", "I") (List.mem_of_getElem? (i := 0) rfl)).use rfl) rfl dM_indices_50 ?_
          refine lv_iconst (v := 5) hx hb dM_indices_53 (by decide) ?_
          refine lv_icmp_ne (tgt := 61) hx hb dM_indices_54 (by decide) (fun hc => ?_) (fun hc => ?_)
          · rw [if_neg hc] at hf
            refine lv_iconst (v := 0) hx hb dM_indices_61 (by decide) ?_
            refine lv_istore (lv' := [(4, .int 0), (3, .int 0), (0, .ref aM), (1, xv vad c0), (2, xv vad c1)]) hx hb dM_indices_62 hl (by decide) rfl (fun ls hl => ?_)
            refine lv_iload_n hx hb dM_indices_64 rfl (lv_at hl 1 rfl) ?_
            refine lv_if_ne (tgt := 73) hx hb dM_indices_65 (by decide) (fun h => ((by revert h; decide : False)).elim) (fun _ => ?_)
            refine lv_iload hx hb dM_indices_68 (lv_at hl 0 rfl) ?_
            refine lv_if_eq (tgt := 86) hx hb dM_indices_70 (by decide) (fun _ => ?_) (fun h => ((by revert h; decide : False)).elim)
            refine lv_aload_n hx hb dM_indices_86 rfl (lv_at hl 2 rfl) ?_
            refine xm_get (v := .int (xsi st 12)) hx hb htx hown hK hP 12 (by decide) rfl (htx _ kw_5_99) rfl dM_indices_87 ?_
            refine lv_istore (lv' := [(5, .int (xsi st 12)), (4, .int 0), (3, .int 0), (0, .ref aM), (1, xv vad c0), (2, xv vad c1)]) hx hb dM_indices_90 hl (by decide) rfl (fun ls hl => ?_)
            refine lv_iconst (v := 0) hx hb dM_indices_92 (by decide) ?_
            refine lv_istore (lv' := [(6, .int 0), (5, .int (xsi st 12)), (4, .int 0), (3, .int 0), (0, .ref aM), (1, xv vad c0), (2, xv vad c1)]) hx hb dM_indices_93 hl (by decide) rfl (fun ls hl => ?_)
            exact key n (1, (0 : Int32), (xsi st 12), (0 : Int32), (0 : Int32), c0, c1, 0, 0, st, 0, 0) _ _ ls (Or.inl ⟨ad, gd, vad, rfl, hf, hP, hD, hS, lv_sub hl [0, 1, 2, 3, 4, 5, 6] rfl, hE, hN⟩)
          · rw [if_pos hc] at hf
            refine lv_iconst (v := 1) hx hb dM_indices_57 (by decide) ?_
            refine lv_goto (tgt := 62) hx hb dM_indices_58 (by decide) ?_
            refine lv_istore (lv' := [(4, .int 1), (3, .int 0), (0, .ref aM), (1, xv vad c0), (2, xv vad c1)]) hx hb dM_indices_62 hl (by decide) rfl (fun ls hl => ?_)
            refine lv_iload_n hx hb dM_indices_64 rfl (lv_at hl 1 rfl) ?_
            refine lv_if_ne (tgt := 73) hx hb dM_indices_65 (by decide) (fun h => ((by revert h; decide : False)).elim) (fun _ => ?_)
            refine lv_iload hx hb dM_indices_68 (lv_at hl 0 rfl) ?_
            refine lv_if_eq (tgt := 86) hx hb dM_indices_70 (by decide) (fun h => ((by revert h; decide : False)).elim) (fun _ => ?_)
            refine xm_aload_n hx hb (xvor _ _) dM_indices_73 rfl (lv_at hl 4 rfl) ?_
            refine xm_vget (v := .int ((xpi st 3) (c1 - 1))) hx hb htx hown hK hP 3 (by decide) hg2 rfl ((hZ.1 (103, "count", "I") (List.mem_of_getElem? (i := 3) rfl)).use rfl) rfl dM_indices_74 ?_
            refine lv_if_ne (tgt := 86) hx hb dM_indices_77 (by decide) (fun hc => ?_) (fun hc => ?_)
            · rw [if_neg hc] at hf
              refine lv_aload_n hx hb dM_indices_86 rfl (lv_at hl 2 rfl) ?_
              refine xm_get (v := .int (xsi st 12)) hx hb htx hown hK hP 12 (by decide) rfl (htx _ kw_5_99) rfl dM_indices_87 ?_
              refine lv_istore (lv' := [(5, .int (xsi st 12)), (4, .int 1), (3, .int 0), (0, .ref aM), (1, xv vad c0), (2, xv vad c1)]) hx hb dM_indices_90 hl (by decide) rfl (fun ls hl => ?_)
              refine lv_iconst (v := 0) hx hb dM_indices_92 (by decide) ?_
              refine lv_istore (lv' := [(6, .int 0), (5, .int (xsi st 12)), (4, .int 1), (3, .int 0), (0, .ref aM), (1, xv vad c0), (2, xv vad c1)]) hx hb dM_indices_93 hl (by decide) rfl (fun ls hl => ?_)
              exact key n (1, (0 : Int32), (xsi st 12), (1 : Int32), (0 : Int32), c0, c1, 0, 0, st, 0, 0) _ _ ls (Or.inl ⟨ad, gd, vad, rfl, hf, hP, hD, hS, lv_sub hl [0, 1, 2, 3, 4, 5, 6] rfl, hE, hN⟩)
            · rw [if_pos hc] at hf
              refine lv_aload_n hx hb dM_indices_80 rfl (lv_at hl 2 rfl) ?_
              refine lv_iconst (v := 0) hx hb dM_indices_81 (by decide) ?_
              obtain ⟨o3, hq4, hf⟩ := xbind hf
              have hl := lv_sub (l' := [(4, .int 1), (3, .int 0), (0, .ref aM)]) hl [0, 1, 2] rfl
              obtain ⟨hm5, hf⟩ := xmoE hf
              have hFc := xm_free hD hS hA
              refine va_callq (va_runV (C := "ValueBenchModel") (As := [.int 0]) (rest := []) ⟨hx, hb, hml, hown, htx⟩ (gM_fresh l hl9 D cT aK aV s.heap.size n aM ad rd gd vad st (0 : Int32) o3 hq4) ⟨callB_of 1 htx (xw_goodC kw_6_16) rfl rfl rfl (htx _ kw_1_5) (htx _ kw_6_13) ⟨by decide, by decide, by decide +kernel⟩ ⟨Nat.le_of_ble_eq_true rfl, Nat.le_of_ble_eq_true rfl⟩, (htx _ kw_6_15), (htx _ kp_M_fresh)⟩ ⟨xPre_blind, va_recv hK hP (ci := 5) rfl (q0 := 0) rfl, (fun U hU hW => ⟨rfl, xPre_of hZ hS hFc hP hD hK U hU hW⟩)⟩ rfl rfl hl.1 rfl (xm_room (Nat.le_of_ble_eq_true rfl)) dM_indices_82 ⟨hm5.1, hm5.2⟩) hS (fun q _ h => hFc q h) hFc (fun r6 u9 t H1 locs ht hvm hr9 hB hz1 hk1 hS => ?_)
              obtain ⟨hP1, hK1, hD1⟩ := hB
              rw [ht] at hP1
              obtain ⟨ad7, gd8, vad9⟩ := u9
              obtain ⟨hr9, hv10, hn11⟩ := hr9
              have hP : va_P D xcl (xMw cT aM ad7 rd gd8 vad9 o3.2.2.2 []) H1 := hP1
              have hD : va_D A (xMw cT aM ad7 rd gd8 vad9 o3.2.2.2 []) := hD1.weaken (fun k q _ h => hFc q.1 h)
              generalize H1 = H at hP hS ⊢
              have hE9 : ∀ p, p < xct st → vad9 p = vad p := fun p h => (hv10 p (Nat.lt_of_lt_of_le h hN)).trans (hE p h)
              have hE := hE9
              have hN : xct st ≤ xct o3.2.2.2 := Nat.le_trans hN hn11
              rw [hr9]
              refine W.eq (g2 := F0 m 85 ls [xv vad9 o3.2.2.1]) (by first | rfl | (skip; rfl)) ?_
              obtain rfl := Option.some.inj hf
              exact absurd (show (0 : Nat) = 2 from hkd) (by decide)
        · rw [if_neg hc] at hf
          refine lv_aload_n hx hb dM_indices_43 rfl (lv_at hl 1 rfl) ?_
          refine lv_iconst (v := 1) hx hb dM_indices_44 (by decide) ?_
          obtain ⟨o3, hq4, hf⟩ := xbind hf
          have hl := lv_sub (l' := [(3, .int 0), (0, .ref aM)]) hl [0, 1] rfl
          by_cases hk5 : o3.1 = 1
          · rw [if_pos hk5] at hf
            obtain ⟨hm6, hf⟩ := xmoE hf
            obtain rfl := Option.some.inj hf
            exact absurd (show (1 : Nat) = 2 from hkd) (by decide)
          rw [if_neg hk5] at hf
          exact nomatch hf
      · rw [if_pos hc] at hf
        refine lv_iconst (v := 1) hx hb dM_indices_25 (by decide) ?_
        refine lv_goto (tgt := 30) hx hb dM_indices_26 (by decide) ?_
        refine lv_istore_n (lv' := [(3, .int 1), (0, .ref aM), (1, xv vad c0), (2, xv vad c1)]) hx hb dM_indices_30 rfl hl (by decide) (by simp only [List.filter, xvcat, xrscat, xcI, xcL, xcR, xcN]; rfl) (fun ls hl => ?_)
        refine lv_iload_n hx hb dM_indices_31 rfl (lv_at hl 0 rfl) ?_
        refine lv_if_ne (tgt := 49) hx hb dM_indices_32 (by decide) (fun _ => ?_) (fun h => ((by revert h; decide : False)).elim)
        refine xm_aload_n hx hb (xvor _ _) dM_indices_49 rfl (lv_at hl 3 rfl) ?_
        refine xm_vget (v := .int ((xpi st 0) (c1 - 1))) hx hb htx hown hK hP 0 (by decide) hg2 rfl ((hZ.1 (93, "kind", "I") (List.mem_of_getElem? (i := 0) rfl)).use rfl) rfl dM_indices_50 ?_
        refine lv_iconst (v := 5) hx hb dM_indices_53 (by decide) ?_
        refine lv_icmp_ne (tgt := 61) hx hb dM_indices_54 (by decide) (fun hc => ?_) (fun hc => ?_)
        · rw [if_neg hc] at hf
          refine lv_iconst (v := 0) hx hb dM_indices_61 (by decide) ?_
          refine lv_istore (lv' := [(4, .int 0), (3, .int 1), (0, .ref aM), (1, xv vad c0), (2, xv vad c1)]) hx hb dM_indices_62 hl (by decide) rfl (fun ls hl => ?_)
          refine lv_iload_n hx hb dM_indices_64 rfl (lv_at hl 1 rfl) ?_
          refine lv_if_ne (tgt := 73) hx hb dM_indices_65 (by decide) (fun _ => ?_) (fun h => ((by revert h; decide : False)).elim)
          refine xm_aload_n hx hb (xvor _ _) dM_indices_73 rfl (lv_at hl 4 rfl) ?_
          refine xm_vget (v := .int ((xpi st 3) (c1 - 1))) hx hb htx hown hK hP 3 (by decide) hg2 rfl ((hZ.1 (103, "count", "I") (List.mem_of_getElem? (i := 3) rfl)).use rfl) rfl dM_indices_74 ?_
          refine lv_if_ne (tgt := 86) hx hb dM_indices_77 (by decide) (fun hc => ?_) (fun hc => ?_)
          · rw [if_neg hc] at hf
            refine lv_aload_n hx hb dM_indices_86 rfl (lv_at hl 2 rfl) ?_
            refine xm_get (v := .int (xsi st 12)) hx hb htx hown hK hP 12 (by decide) rfl (htx _ kw_5_99) rfl dM_indices_87 ?_
            refine lv_istore (lv' := [(5, .int (xsi st 12)), (4, .int 0), (3, .int 1), (0, .ref aM), (1, xv vad c0), (2, xv vad c1)]) hx hb dM_indices_90 hl (by decide) rfl (fun ls hl => ?_)
            refine lv_iconst (v := 0) hx hb dM_indices_92 (by decide) ?_
            refine lv_istore (lv' := [(6, .int 0), (5, .int (xsi st 12)), (4, .int 0), (3, .int 1), (0, .ref aM), (1, xv vad c0), (2, xv vad c1)]) hx hb dM_indices_93 hl (by decide) rfl (fun ls hl => ?_)
            exact key n (1, (0 : Int32), (xsi st 12), (0 : Int32), (1 : Int32), c0, c1, 0, 0, st, 0, 0) _ _ ls (Or.inl ⟨ad, gd, vad, rfl, hf, hP, hD, hS, lv_sub hl [0, 1, 2, 3, 4, 5, 6] rfl, hE, hN⟩)
          · rw [if_pos hc] at hf
            refine lv_aload_n hx hb dM_indices_80 rfl (lv_at hl 2 rfl) ?_
            refine lv_iconst (v := 0) hx hb dM_indices_81 (by decide) ?_
            obtain ⟨o3, hq4, hf⟩ := xbind hf
            have hl := lv_sub (l' := [(4, .int 0), (3, .int 1), (0, .ref aM)]) hl [0, 1, 2] rfl
            obtain ⟨hm5, hf⟩ := xmoE hf
            have hFc := xm_free hD hS hA
            refine va_callq (va_runV (C := "ValueBenchModel") (As := [.int 0]) (rest := []) ⟨hx, hb, hml, hown, htx⟩ (gM_fresh l hl9 D cT aK aV s.heap.size n aM ad rd gd vad st (0 : Int32) o3 hq4) ⟨callB_of 1 htx (xw_goodC kw_6_16) rfl rfl rfl (htx _ kw_1_5) (htx _ kw_6_13) ⟨by decide, by decide, by decide +kernel⟩ ⟨Nat.le_of_ble_eq_true rfl, Nat.le_of_ble_eq_true rfl⟩, (htx _ kw_6_15), (htx _ kp_M_fresh)⟩ ⟨xPre_blind, va_recv hK hP (ci := 5) rfl (q0 := 0) rfl, (fun U hU hW => ⟨rfl, xPre_of hZ hS hFc hP hD hK U hU hW⟩)⟩ rfl rfl hl.1 rfl (xm_room (Nat.le_of_ble_eq_true rfl)) dM_indices_82 ⟨hm5.1, hm5.2⟩) hS (fun q _ h => hFc q h) hFc (fun r6 u9 t H1 locs ht hvm hr9 hB hz1 hk1 hS => ?_)
            obtain ⟨hP1, hK1, hD1⟩ := hB
            rw [ht] at hP1
            obtain ⟨ad7, gd8, vad9⟩ := u9
            obtain ⟨hr9, hv10, hn11⟩ := hr9
            have hP : va_P D xcl (xMw cT aM ad7 rd gd8 vad9 o3.2.2.2 []) H1 := hP1
            have hD : va_D A (xMw cT aM ad7 rd gd8 vad9 o3.2.2.2 []) := hD1.weaken (fun k q _ h => hFc q.1 h)
            generalize H1 = H at hP hS ⊢
            have hE9 : ∀ p, p < xct st → vad9 p = vad p := fun p h => (hv10 p (Nat.lt_of_lt_of_le h hN)).trans (hE p h)
            have hE := hE9
            have hN : xct st ≤ xct o3.2.2.2 := Nat.le_trans hN hn11
            rw [hr9]
            refine W.eq (g2 := F0 m 85 ls [xv vad9 o3.2.2.1]) (by first | rfl | (skip; rfl)) ?_
            obtain rfl := Option.some.inj hf
            exact absurd (show (0 : Nat) = 2 from hkd) (by decide)
        · rw [if_pos hc] at hf
          refine lv_iconst (v := 1) hx hb dM_indices_57 (by decide) ?_
          refine lv_goto (tgt := 62) hx hb dM_indices_58 (by decide) ?_
          refine lv_istore (lv' := [(4, .int 1), (3, .int 1), (0, .ref aM), (1, xv vad c0), (2, xv vad c1)]) hx hb dM_indices_62 hl (by decide) rfl (fun ls hl => ?_)
          refine lv_iload_n hx hb dM_indices_64 rfl (lv_at hl 1 rfl) ?_
          refine lv_if_ne (tgt := 73) hx hb dM_indices_65 (by decide) (fun _ => ?_) (fun h => ((by revert h; decide : False)).elim)
          refine xm_aload_n hx hb (xvor _ _) dM_indices_73 rfl (lv_at hl 4 rfl) ?_
          refine xm_vget (v := .int ((xpi st 3) (c1 - 1))) hx hb htx hown hK hP 3 (by decide) hg2 rfl ((hZ.1 (103, "count", "I") (List.mem_of_getElem? (i := 3) rfl)).use rfl) rfl dM_indices_74 ?_
          refine lv_if_ne (tgt := 86) hx hb dM_indices_77 (by decide) (fun hc => ?_) (fun hc => ?_)
          · rw [if_neg hc] at hf
            refine lv_aload_n hx hb dM_indices_86 rfl (lv_at hl 2 rfl) ?_
            refine xm_get (v := .int (xsi st 12)) hx hb htx hown hK hP 12 (by decide) rfl (htx _ kw_5_99) rfl dM_indices_87 ?_
            refine lv_istore (lv' := [(5, .int (xsi st 12)), (4, .int 1), (3, .int 1), (0, .ref aM), (1, xv vad c0), (2, xv vad c1)]) hx hb dM_indices_90 hl (by decide) rfl (fun ls hl => ?_)
            refine lv_iconst (v := 0) hx hb dM_indices_92 (by decide) ?_
            refine lv_istore (lv' := [(6, .int 0), (5, .int (xsi st 12)), (4, .int 1), (3, .int 1), (0, .ref aM), (1, xv vad c0), (2, xv vad c1)]) hx hb dM_indices_93 hl (by decide) rfl (fun ls hl => ?_)
            exact key n (1, (0 : Int32), (xsi st 12), (1 : Int32), (1 : Int32), c0, c1, 0, 0, st, 0, 0) _ _ ls (Or.inl ⟨ad, gd, vad, rfl, hf, hP, hD, hS, lv_sub hl [0, 1, 2, 3, 4, 5, 6] rfl, hE, hN⟩)
          · rw [if_pos hc] at hf
            refine lv_aload_n hx hb dM_indices_80 rfl (lv_at hl 2 rfl) ?_
            refine lv_iconst (v := 0) hx hb dM_indices_81 (by decide) ?_
            obtain ⟨o3, hq4, hf⟩ := xbind hf
            have hl := lv_sub (l' := [(4, .int 1), (3, .int 1), (0, .ref aM)]) hl [0, 1, 2] rfl
            obtain ⟨hm5, hf⟩ := xmoE hf
            have hFc := xm_free hD hS hA
            refine va_callq (va_runV (C := "ValueBenchModel") (As := [.int 0]) (rest := []) ⟨hx, hb, hml, hown, htx⟩ (gM_fresh l hl9 D cT aK aV s.heap.size n aM ad rd gd vad st (0 : Int32) o3 hq4) ⟨callB_of 1 htx (xw_goodC kw_6_16) rfl rfl rfl (htx _ kw_1_5) (htx _ kw_6_13) ⟨by decide, by decide, by decide +kernel⟩ ⟨Nat.le_of_ble_eq_true rfl, Nat.le_of_ble_eq_true rfl⟩, (htx _ kw_6_15), (htx _ kp_M_fresh)⟩ ⟨xPre_blind, va_recv hK hP (ci := 5) rfl (q0 := 0) rfl, (fun U hU hW => ⟨rfl, xPre_of hZ hS hFc hP hD hK U hU hW⟩)⟩ rfl rfl hl.1 rfl (xm_room (Nat.le_of_ble_eq_true rfl)) dM_indices_82 ⟨hm5.1, hm5.2⟩) hS (fun q _ h => hFc q h) hFc (fun r6 u9 t H1 locs ht hvm hr9 hB hz1 hk1 hS => ?_)
            obtain ⟨hP1, hK1, hD1⟩ := hB
            rw [ht] at hP1
            obtain ⟨ad7, gd8, vad9⟩ := u9
            obtain ⟨hr9, hv10, hn11⟩ := hr9
            have hP : va_P D xcl (xMw cT aM ad7 rd gd8 vad9 o3.2.2.2 []) H1 := hP1
            have hD : va_D A (xMw cT aM ad7 rd gd8 vad9 o3.2.2.2 []) := hD1.weaken (fun k q _ h => hFc q.1 h)
            generalize H1 = H at hP hS ⊢
            have hE9 : ∀ p, p < xct st → vad9 p = vad p := fun p h => (hv10 p (Nat.lt_of_lt_of_le h hN)).trans (hE p h)
            have hE := hE9
            have hN : xct st ≤ xct o3.2.2.2 := Nat.le_trans hN hn11
            rw [hr9]
            refine W.eq (g2 := F0 m 85 ls [xv vad9 o3.2.2.1]) (by first | rfl | (skip; rfl)) ?_
            obtain rfl := Option.some.inj hf
            exact absurd (show (0 : Nat) = 2 from hkd) (by decide)
  · rw [if_pos hc] at hf
    refine xm_aload_n hx hb (xvor _ _) dM_indices_7 rfl (lv_at hl 1 rfl) ?_
    obtain rfl := Option.some.inj hf
    exact absurd (show (0 : Nat) = 2 from hkd) (by decide)
set_option maxHeartbeats 400000000 in
set_option maxRecDepth 100000 in
theorem gM_at (l : Launch) (hl9 : l.stackTraces = false) (D : va_G) (cT : Nat → ClassId) (aK aV : Nat → Nat) (sz d n : Nat) (aM : Nat) (ad rd gd vad : Nat → Nat) (st : xS) (c0 : Nat) (c1 : Nat) (out : Nat × Nat × Nat × Nat × xS) (hf : fM_at d n st c0 c1 = some out) (hkd : out.1 = 0) : xMet l yM_at wyM_at (16 * d + 9) out.2.1 out.2.2.1 (400 * d + 175) D cT aK aV sz [.ref aM, xv vad c0, xv vad c1] (xMw cT aM ad rd gd vad st []) (fun A => va_Qq (fun (r : Option Nat) (u : xU) => r = xca u.2.2 out.2.2.2.1 ∧ xE vad st out.2.2.2.2 u) (fun u t => xB D xcl cT A (xMw cT aM u.1 rd u.2.1 u.2.2 out.2.2.2.2 []) t) A) := by
  refine Met.ofW (cc := prog_13_method_75_code) (maxL := 5) (ret := (some (.object "ValueBenchModel$V"))) (by decide) rfl ?_
  intro p e s m args below meth c s₁ B hml hv
  obtain ⟨rfl, hsz, hZ, hP, hK, hD0⟩ := hv
  have hx := B.exec
  have hb := B.bytes
  have hr := B.returns
  have hts := atoms_spec (ws := wyM_at) B.pre
  have htx := fun w h => hts w (List.mem_cons_of_mem _ h)
  have hown : s.vm.findClass "ValueBenchModel" = some m.cls := findClass_of_methodNamed B.named
  have hlocks := B.notSynchronized
  subst hsz
  have hD := hD0.self (sz := s.heap.size)
  generalize hAe : va_A (xMw cT aM ad rd gd vad st []) s.heap.size = A at hD hZ ⊢
  have hA : ∀ q : Nat, s.heap.size ≤ q → A q := fun q h => by rw [← hAe]; exact Or.inr h
  have hS : va_S A s.heap s.heap [] := va_S.rf
  have hl := lv_entry ([.ref aM, xv vad c0, xv vad c1]) (n := 5) (by simp [lg_sl, xvcat, xrscat, xcI, xcL, xcR, xcN])
  rw [show lv_args 0 [.ref aM, xv vad c0, xv vad c1] = [(0, .ref aM), (1, xv vad c0), (2, xv vad c1)] from by simp [lv_args, xvcat, xrscat, xcI, xcL, xcR, xcN]] at hl
  rw [lg_entry_eq]
  generalize (lg_sl ([.ref aM, xv vad c0, xv vad c1]) ++ List.replicate (5 - (lg_sl ([.ref aM, xv vad c0, xv vad c1])).length) Slot.unset).toArray = ls at hl ⊢
  have hl : lv_has ls 5 [(0, .ref aM), (1, xv vad c0), (2, xv vad c1)] := hl
  have hE : ∀ p, p < xct st → vad p = vad p := fun _ _ => rfl
  have hN : xct st ≤ xct st := Nat.le_refl _
  unfold fM_at at hf
  refine xm_aload_n hx hb (xvor _ _) dM_at_0 rfl (lv_at hl 1 rfl) ?_
  obtain ⟨hg1, hf⟩ := xifn hf
  refine xm_vget (v := .int ((xpi st 0) (c0 - 1))) hx hb htx hown hK hP 0 (by decide) hg1 rfl ((hZ.1 (93, "kind", "I") (List.mem_of_getElem? (i := 0) rfl)).use rfl) rfl dM_at_1 ?_
  refine lv_if_ne (tgt := 32) hx hb dM_at_4 (by decide) (fun hc => ?_) (fun hc => ?_)
  · rw [if_neg hc] at hf
    refine xm_aload_n hx hb (xvor _ _) dM_at_32 rfl (lv_at hl 1 rfl) ?_
    refine xm_vget (v := .int ((xpi st 0) (c0 - 1))) hx hb htx hown hK hP 0 (by decide) hg1 rfl ((hZ.1 (93, "kind", "I") (List.mem_of_getElem? (i := 0) rfl)).use rfl) rfl dM_at_33 ?_
    refine lv_bipush (v := 6) hx hb dM_at_36 (by decide) ?_
    refine lv_icmp_ne (tgt := 75) hx hb dM_at_38 (by decide) (fun hc => ?_) (fun hc => ?_)
    · rw [if_neg hc] at hf
      refine xm_aload_n hx hb (xvor _ _) dM_at_75 rfl (lv_at hl 1 rfl) ?_
      refine xm_vget (v := .int ((xpi st 0) (c0 - 1))) hx hb htx hown hK hP 0 (by decide) hg1 rfl ((hZ.1 (93, "kind", "I") (List.mem_of_getElem? (i := 0) rfl)).use rfl) rfl dM_at_76 ?_
      refine lv_iconst (v := 5) hx hb dM_at_79 (by decide) ?_
      refine lv_icmp_eq (tgt := 89) hx hb dM_at_80 (by decide) (fun hc => ?_) (fun hc => ?_)
      · rw [if_pos hc] at hf
        refine xm_aload_n hx hb (xvor _ _) dM_at_89 rfl (lv_at hl 2 rfl) ?_
        obtain ⟨hg2, hf⟩ := xifn hf
        refine xm_vget (v := .int ((xpi st 0) (c1 - 1))) hx hb htx hown hK hP 0 (by decide) hg2 rfl ((hZ.1 (93, "kind", "I") (List.mem_of_getElem? (i := 0) rfl)).use rfl) rfl dM_at_90 ?_
        refine lv_iconst (v := 5) hx hb dM_at_93 (by decide) ?_
        refine lv_icmp_ne (tgt := 104) hx hb dM_at_94 (by decide) (fun hc => ?_) (fun hc => ?_)
        · rw [if_neg hc] at hf
          refine xm_aload_n hx hb (xvor _ _) dM_at_104 rfl (lv_at hl 2 rfl) ?_
          refine xm_vget (v := .int ((xpi st 0) (c1 - 1))) hx hb htx hown hK hP 0 (by decide) hg2 rfl ((hZ.1 (93, "kind", "I") (List.mem_of_getElem? (i := 0) rfl)).use rfl) rfl dM_at_105 ?_
          refine lv_iconst (v := 3) hx hb dM_at_108 (by decide) ?_
          refine lv_icmp_eq (tgt := 118) hx hb dM_at_109 (by decide) (fun hc => ?_) (fun hc => ?_)
          · rw [if_pos hc] at hf
            refine xm_aload_n hx hb (xvor _ _) dM_at_118 rfl (lv_at hl 2 rfl) ?_
            refine xm_vget (v := .long ((xpl st) (c1 - 1))) hx hb htx hown hK hP 1 (by decide) hg2 rfl ((hZ.1 (96, "n", "J") (List.mem_of_getElem? (i := 1) rfl)).use rfl) rfl dM_at_119 ?_
            refine lv_lconst (v := 0) hx hb dM_at_122 (by decide) ?_
            refine W.lcmp hx hb dM_at_123 ?_
            refine lv_if_ge (tgt := 140) hx hb dM_at_124 (by decide) (fun hc => ?_) (fun hc => ?_)
            · rw [if_pos hc] at hf
              refine xm_aload_n hx hb (xvor _ _) dM_at_140 rfl (lv_at hl 2 rfl) ?_
              refine xm_vget (v := .long ((xpl st) (c1 - 1))) hx hb htx hown hK hP 1 (by decide) hg2 rfl ((hZ.1 (96, "n", "J") (List.mem_of_getElem? (i := 1) rfl)).use rfl) rfl dM_at_141 ?_
              refine lv_lstore_n (lv' := [(3, .long ((xpl st) (c1 - 1))), (0, .ref aM), (1, xv vad c0), (2, xv vad c1)]) hx hb dM_at_144 rfl hl (by decide) (by simp only [List.filter, xvcat, xrscat, xcI, xcL, xcR, xcN]; rfl) (fun ls hl => ?_)
              refine lv_lload_n hx hb dM_at_145 rfl (lv_at hl 0 rfl) ?_
              refine lv_lconst (v := 0) hx hb dM_at_146 (by decide) ?_
              refine W.lcmp hx hb dM_at_147 ?_
              refine lv_if_lt (tgt := 161) hx hb dM_at_148 (by decide) (fun hc => ?_) (fun hc => ?_)
              · rw [if_pos hc] at hf
                refine lv_aload_n hx hb dM_at_161 rfl (lv_at hl 1 rfl) ?_
                refine lv_iconst (v := 0) hx hb dM_at_162 (by decide) ?_
                obtain ⟨o3, hq4, hf⟩ := xbind hf
                have hl := lv_sub (l' := [(3, .long ((xpl st) (c1 - 1))), (0, .ref aM)]) hl [0, 1] rfl
                obtain ⟨hm5, hf⟩ := xmoE hf
                have hFc := xm_free hD hS hA
                refine va_callq (va_runV (C := "ValueBenchModel") (As := [.int 0]) (rest := []) ⟨hx, hb, hml, hown, htx⟩ (gM_fresh l hl9 D cT aK aV s.heap.size n aM ad rd gd vad st (0 : Int32) o3 hq4) ⟨callB_of 1 htx (xw_goodC kw_6_16) rfl rfl rfl (htx _ kw_1_5) (htx _ kw_6_13) ⟨by decide, by decide, by decide +kernel⟩ ⟨Nat.le_of_ble_eq_true rfl, Nat.le_of_ble_eq_true rfl⟩, (htx _ kw_6_15), (htx _ kp_M_fresh)⟩ ⟨xPre_blind, va_recv hK hP (ci := 5) rfl (q0 := 0) rfl, (fun U hU hW => ⟨rfl, xPre_of hZ hS hFc hP hD hK U hU hW⟩)⟩ rfl rfl hl.1 rfl (xm_room (Nat.le_of_ble_eq_true rfl)) dM_at_163 ⟨hm5.1, hm5.2⟩) hS (fun q _ h => hFc q h) hFc (fun r6 u9 t H1 locs ht hvm hr9 hB hz1 hk1 hS => ?_)
                obtain ⟨hP1, hK1, hD1⟩ := hB
                rw [ht] at hP1
                obtain ⟨ad7, gd8, vad9⟩ := u9
                obtain ⟨hr9, hv10, hn11⟩ := hr9
                have hP : va_P D xcl (xMw cT aM ad7 rd gd8 vad9 o3.2.2.2 []) H1 := hP1
                have hD : va_D A (xMw cT aM ad7 rd gd8 vad9 o3.2.2.2 []) := hD1.weaken (fun k q _ h => hFc q.1 h)
                generalize H1 = H at hP hS ⊢
                have hE9 : ∀ p, p < xct st → vad9 p = vad p := fun p h => (hv10 p (Nat.lt_of_lt_of_le h hN)).trans (hE p h)
                have hE := hE9
                have hN : xct st ≤ xct o3.2.2.2 := Nat.le_trans hN hn11
                rw [hr9]
                refine W.eq (g2 := F0 m 166 ls [xv vad9 o3.2.2.1]) (by first | rfl | (skip; rfl)) ?_
                refine lv_goto (tgt := 176) hx hb dM_at_166 (by decide) ?_
                obtain rfl := Option.some.inj hf
                exact W.aret (v := xv vad9 o3.2.2.1) hx hb hr (Or.inl ⟨_, rfl⟩) (xvor _ _) (fun t ht hW => ⟨⟨xca vad9 o3.2.2.1, (ad7, gd8, vad9), rfl, ⟨rfl, hE, hN⟩, by rw [ht]; exact hP, va_K.moved hW.alike hK, hD⟩, hS.F ht⟩) hS.2.2 dM_at_176
              · rw [if_neg hc] at hf
                refine lv_lload_n hx hb dM_at_151 rfl (lv_at hl 0 rfl) ?_
                refine xm_aload_n hx hb (xvor _ _) dM_at_152 rfl (lv_at hl 2 rfl) ?_
                refine xm_vget (v := .int ((xpi st 3) (c0 - 1))) hx hb htx hown hK hP 3 (by decide) hg1 rfl ((hZ.1 (103, "count", "I") (List.mem_of_getElem? (i := 3) rfl)).use rfl) rfl dM_at_153 ?_
                refine lv_i2l hx hb dM_at_156 rfl ?_
                refine W.lcmp hx hb dM_at_157 ?_
                refine lv_if_lt (tgt := 169) hx hb dM_at_158 (by decide) (fun hc => ?_) (fun hc => ?_)
                · rw [if_pos hc] at hf
                  refine lv_aload_n hx hb dM_at_169 rfl (lv_at hl 1 rfl) ?_
                  refine xm_aload_n hx hb (xvor _ _) dM_at_170 rfl (lv_at hl 2 rfl) ?_
                  refine lv_lload_n hx hb dM_at_171 rfl (lv_at hl 0 rfl) ?_
                  refine lv_l2i hx hb dM_at_172 rfl ?_
                  obtain ⟨o3, hq4, hf⟩ := xbind hf
                  have hl := lv_sub (l' := [(3, .long ((xpl st) (c1 - 1))), (0, .ref aM)]) hl [0, 1] rfl
                  have hFc := xm_free hD hS hA
                  refine va_callq (va_runV (C := "ValueBenchModel") (As := [xv vad c0, .int ((xpl st) (c1 - 1)).toInt32]) (rest := []) ⟨hx, hb, hml, hown, htx⟩ (gM_kid l hl9 D cT aK aV s.heap.size n aM ad rd gd vad st c0 (((xpl st) (c1 - 1)).toInt32) o3 hq4) ⟨callB_of 2 htx (xw_goodC kw_6_158) rfl rfl rfl (htx _ kw_1_5) (htx _ kw_6_155) ⟨by decide, by decide, by decide +kernel⟩ ⟨Nat.le_of_ble_eq_true rfl, Nat.le_of_ble_eq_true rfl⟩, (htx _ kw_6_157), (htx _ kp_M_kid)⟩ ⟨xPre_blind, va_recv hK hP (ci := 5) rfl (q0 := 0) rfl, (fun U hU hW => ⟨rfl, xPre_of hZ hS hFc hP hD hK U hU hW⟩)⟩ rfl rfl hl.1 rfl (xm_room (Nat.le_of_ble_eq_true rfl)) dM_at_173 ⟨Nat.zero_le _, Nat.zero_le _⟩) hS (fun q _ h => hFc q h) hFc (fun r5 u9 t H1 locs ht hvm hr9 hB hz1 hk1 hS => ?_)
                  obtain ⟨hP1, hK1, hD1⟩ := hB
                  rw [ht] at hP1
                  have hP : va_P D xcl (xMw cT aM ad rd gd vad st []) H1 := hP1
                  have hD : va_D A (xMw cT aM ad rd gd vad st []) := hD1.weaken (fun k q _ h => hFc q.1 h)
                  generalize H1 = H at hP hS ⊢
                  rw [hr9]
                  refine W.eq (g2 := F0 m 176 ls [xv vad o3]) (by first | rfl | (skip; rfl)) ?_
                  obtain rfl := Option.some.inj hf
                  exact W.aret (v := xv vad o3) hx hb hr (Or.inl ⟨_, rfl⟩) (xvor _ _) (fun t ht hW => ⟨⟨xca vad o3, (ad, gd, vad), rfl, ⟨rfl, hE, hN⟩, by rw [ht]; exact hP, va_K.moved hW.alike hK, hD⟩, hS.F ht⟩) hS.2.2 dM_at_176
                · rw [if_neg hc] at hf
                  refine lv_aload_n hx hb dM_at_161 rfl (lv_at hl 1 rfl) ?_
                  refine lv_iconst (v := 0) hx hb dM_at_162 (by decide) ?_
                  obtain ⟨o3, hq4, hf⟩ := xbind hf
                  have hl := lv_sub (l' := [(3, .long ((xpl st) (c1 - 1))), (0, .ref aM)]) hl [0, 1] rfl
                  obtain ⟨hm5, hf⟩ := xmoE hf
                  have hFc := xm_free hD hS hA
                  refine va_callq (va_runV (C := "ValueBenchModel") (As := [.int 0]) (rest := []) ⟨hx, hb, hml, hown, htx⟩ (gM_fresh l hl9 D cT aK aV s.heap.size n aM ad rd gd vad st (0 : Int32) o3 hq4) ⟨callB_of 1 htx (xw_goodC kw_6_16) rfl rfl rfl (htx _ kw_1_5) (htx _ kw_6_13) ⟨by decide, by decide, by decide +kernel⟩ ⟨Nat.le_of_ble_eq_true rfl, Nat.le_of_ble_eq_true rfl⟩, (htx _ kw_6_15), (htx _ kp_M_fresh)⟩ ⟨xPre_blind, va_recv hK hP (ci := 5) rfl (q0 := 0) rfl, (fun U hU hW => ⟨rfl, xPre_of hZ hS hFc hP hD hK U hU hW⟩)⟩ rfl rfl hl.1 rfl (xm_room (Nat.le_of_ble_eq_true rfl)) dM_at_163 ⟨hm5.1, hm5.2⟩) hS (fun q _ h => hFc q h) hFc (fun r6 u9 t H1 locs ht hvm hr9 hB hz1 hk1 hS => ?_)
                  obtain ⟨hP1, hK1, hD1⟩ := hB
                  rw [ht] at hP1
                  obtain ⟨ad7, gd8, vad9⟩ := u9
                  obtain ⟨hr9, hv10, hn11⟩ := hr9
                  have hP : va_P D xcl (xMw cT aM ad7 rd gd8 vad9 o3.2.2.2 []) H1 := hP1
                  have hD : va_D A (xMw cT aM ad7 rd gd8 vad9 o3.2.2.2 []) := hD1.weaken (fun k q _ h => hFc q.1 h)
                  generalize H1 = H at hP hS ⊢
                  have hE9 : ∀ p, p < xct st → vad9 p = vad p := fun p h => (hv10 p (Nat.lt_of_lt_of_le h hN)).trans (hE p h)
                  have hE := hE9
                  have hN : xct st ≤ xct o3.2.2.2 := Nat.le_trans hN hn11
                  rw [hr9]
                  refine W.eq (g2 := F0 m 166 ls [xv vad9 o3.2.2.1]) (by first | rfl | (skip; rfl)) ?_
                  refine lv_goto (tgt := 176) hx hb dM_at_166 (by decide) ?_
                  obtain rfl := Option.some.inj hf
                  exact W.aret (v := xv vad9 o3.2.2.1) hx hb hr (Or.inl ⟨_, rfl⟩) (xvor _ _) (fun t ht hW => ⟨⟨xca vad9 o3.2.2.1, (ad7, gd8, vad9), rfl, ⟨rfl, hE, hN⟩, by rw [ht]; exact hP, va_K.moved hW.alike hK, hD⟩, hS.F ht⟩) hS.2.2 dM_at_176
            · rw [if_neg hc] at hf
              refine xm_aload_n hx hb (xvor _ _) dM_at_127 rfl (lv_at hl 2 rfl) ?_
              refine xm_vget (v := .long ((xpl st) (c1 - 1))) hx hb htx hown hK hP 1 (by decide) hg2 rfl ((hZ.1 (96, "n", "J") (List.mem_of_getElem? (i := 1) rfl)).use rfl) rfl dM_at_128 ?_
              refine xm_aload_n hx hb (xvor _ _) dM_at_131 rfl (lv_at hl 1 rfl) ?_
              refine xm_vget (v := .int ((xpi st 3) (c0 - 1))) hx hb htx hown hK hP 3 (by decide) hg1 rfl ((hZ.1 (103, "count", "I") (List.mem_of_getElem? (i := 3) rfl)).use rfl) rfl dM_at_132 ?_
              refine lv_i2l hx hb dM_at_135 rfl ?_
              refine lv_ladd hx hb dM_at_136 ?_
              refine lv_goto (tgt := 144) hx hb dM_at_137 (by decide) ?_
              refine lv_lstore_n (lv' := [(3, .long (((xpl st) (c1 - 1)) + ((xpi st 3) (c0 - 1)).toInt64)), (0, .ref aM), (1, xv vad c0), (2, xv vad c1)]) hx hb dM_at_144 rfl hl (by decide) (by simp only [List.filter, xvcat, xrscat, xcI, xcL, xcR, xcN]; rfl) (fun ls hl => ?_)
              refine lv_lload_n hx hb dM_at_145 rfl (lv_at hl 0 rfl) ?_
              refine lv_lconst (v := 0) hx hb dM_at_146 (by decide) ?_
              refine W.lcmp hx hb dM_at_147 ?_
              refine lv_if_lt (tgt := 161) hx hb dM_at_148 (by decide) (fun hc => ?_) (fun hc => ?_)
              · rw [if_pos hc] at hf
                refine lv_aload_n hx hb dM_at_161 rfl (lv_at hl 1 rfl) ?_
                refine lv_iconst (v := 0) hx hb dM_at_162 (by decide) ?_
                obtain ⟨o3, hq4, hf⟩ := xbind hf
                have hl := lv_sub (l' := [(3, .long (((xpl st) (c1 - 1)) + ((xpi st 3) (c0 - 1)).toInt64)), (0, .ref aM)]) hl [0, 1] rfl
                obtain ⟨hm5, hf⟩ := xmoE hf
                have hFc := xm_free hD hS hA
                refine va_callq (va_runV (C := "ValueBenchModel") (As := [.int 0]) (rest := []) ⟨hx, hb, hml, hown, htx⟩ (gM_fresh l hl9 D cT aK aV s.heap.size n aM ad rd gd vad st (0 : Int32) o3 hq4) ⟨callB_of 1 htx (xw_goodC kw_6_16) rfl rfl rfl (htx _ kw_1_5) (htx _ kw_6_13) ⟨by decide, by decide, by decide +kernel⟩ ⟨Nat.le_of_ble_eq_true rfl, Nat.le_of_ble_eq_true rfl⟩, (htx _ kw_6_15), (htx _ kp_M_fresh)⟩ ⟨xPre_blind, va_recv hK hP (ci := 5) rfl (q0 := 0) rfl, (fun U hU hW => ⟨rfl, xPre_of hZ hS hFc hP hD hK U hU hW⟩)⟩ rfl rfl hl.1 rfl (xm_room (Nat.le_of_ble_eq_true rfl)) dM_at_163 ⟨hm5.1, hm5.2⟩) hS (fun q _ h => hFc q h) hFc (fun r6 u9 t H1 locs ht hvm hr9 hB hz1 hk1 hS => ?_)
                obtain ⟨hP1, hK1, hD1⟩ := hB
                rw [ht] at hP1
                obtain ⟨ad7, gd8, vad9⟩ := u9
                obtain ⟨hr9, hv10, hn11⟩ := hr9
                have hP : va_P D xcl (xMw cT aM ad7 rd gd8 vad9 o3.2.2.2 []) H1 := hP1
                have hD : va_D A (xMw cT aM ad7 rd gd8 vad9 o3.2.2.2 []) := hD1.weaken (fun k q _ h => hFc q.1 h)
                generalize H1 = H at hP hS ⊢
                have hE9 : ∀ p, p < xct st → vad9 p = vad p := fun p h => (hv10 p (Nat.lt_of_lt_of_le h hN)).trans (hE p h)
                have hE := hE9
                have hN : xct st ≤ xct o3.2.2.2 := Nat.le_trans hN hn11
                rw [hr9]
                refine W.eq (g2 := F0 m 166 ls [xv vad9 o3.2.2.1]) (by first | rfl | (skip; rfl)) ?_
                refine lv_goto (tgt := 176) hx hb dM_at_166 (by decide) ?_
                obtain rfl := Option.some.inj hf
                exact W.aret (v := xv vad9 o3.2.2.1) hx hb hr (Or.inl ⟨_, rfl⟩) (xvor _ _) (fun t ht hW => ⟨⟨xca vad9 o3.2.2.1, (ad7, gd8, vad9), rfl, ⟨rfl, hE, hN⟩, by rw [ht]; exact hP, va_K.moved hW.alike hK, hD⟩, hS.F ht⟩) hS.2.2 dM_at_176
              · rw [if_neg hc] at hf
                refine lv_lload_n hx hb dM_at_151 rfl (lv_at hl 0 rfl) ?_
                refine xm_aload_n hx hb (xvor _ _) dM_at_152 rfl (lv_at hl 2 rfl) ?_
                refine xm_vget (v := .int ((xpi st 3) (c0 - 1))) hx hb htx hown hK hP 3 (by decide) hg1 rfl ((hZ.1 (103, "count", "I") (List.mem_of_getElem? (i := 3) rfl)).use rfl) rfl dM_at_153 ?_
                refine lv_i2l hx hb dM_at_156 rfl ?_
                refine W.lcmp hx hb dM_at_157 ?_
                refine lv_if_lt (tgt := 169) hx hb dM_at_158 (by decide) (fun hc => ?_) (fun hc => ?_)
                · rw [if_pos hc] at hf
                  refine lv_aload_n hx hb dM_at_169 rfl (lv_at hl 1 rfl) ?_
                  refine xm_aload_n hx hb (xvor _ _) dM_at_170 rfl (lv_at hl 2 rfl) ?_
                  refine lv_lload_n hx hb dM_at_171 rfl (lv_at hl 0 rfl) ?_
                  refine lv_l2i hx hb dM_at_172 rfl ?_
                  obtain ⟨o3, hq4, hf⟩ := xbind hf
                  have hl := lv_sub (l' := [(3, .long (((xpl st) (c1 - 1)) + ((xpi st 3) (c0 - 1)).toInt64)), (0, .ref aM)]) hl [0, 1] rfl
                  have hFc := xm_free hD hS hA
                  refine va_callq (va_runV (C := "ValueBenchModel") (As := [xv vad c0, .int (((xpl st) (c1 - 1)) + ((xpi st 3) (c0 - 1)).toInt64).toInt32]) (rest := []) ⟨hx, hb, hml, hown, htx⟩ (gM_kid l hl9 D cT aK aV s.heap.size n aM ad rd gd vad st c0 ((((xpl st) (c1 - 1)) + ((xpi st 3) (c0 - 1)).toInt64).toInt32) o3 hq4) ⟨callB_of 2 htx (xw_goodC kw_6_158) rfl rfl rfl (htx _ kw_1_5) (htx _ kw_6_155) ⟨by decide, by decide, by decide +kernel⟩ ⟨Nat.le_of_ble_eq_true rfl, Nat.le_of_ble_eq_true rfl⟩, (htx _ kw_6_157), (htx _ kp_M_kid)⟩ ⟨xPre_blind, va_recv hK hP (ci := 5) rfl (q0 := 0) rfl, (fun U hU hW => ⟨rfl, xPre_of hZ hS hFc hP hD hK U hU hW⟩)⟩ rfl rfl hl.1 rfl (xm_room (Nat.le_of_ble_eq_true rfl)) dM_at_173 ⟨Nat.zero_le _, Nat.zero_le _⟩) hS (fun q _ h => hFc q h) hFc (fun r5 u9 t H1 locs ht hvm hr9 hB hz1 hk1 hS => ?_)
                  obtain ⟨hP1, hK1, hD1⟩ := hB
                  rw [ht] at hP1
                  have hP : va_P D xcl (xMw cT aM ad rd gd vad st []) H1 := hP1
                  have hD : va_D A (xMw cT aM ad rd gd vad st []) := hD1.weaken (fun k q _ h => hFc q.1 h)
                  generalize H1 = H at hP hS ⊢
                  rw [hr9]
                  refine W.eq (g2 := F0 m 176 ls [xv vad o3]) (by first | rfl | (skip; rfl)) ?_
                  obtain rfl := Option.some.inj hf
                  exact W.aret (v := xv vad o3) hx hb hr (Or.inl ⟨_, rfl⟩) (xvor _ _) (fun t ht hW => ⟨⟨xca vad o3, (ad, gd, vad), rfl, ⟨rfl, hE, hN⟩, by rw [ht]; exact hP, va_K.moved hW.alike hK, hD⟩, hS.F ht⟩) hS.2.2 dM_at_176
                · rw [if_neg hc] at hf
                  refine lv_aload_n hx hb dM_at_161 rfl (lv_at hl 1 rfl) ?_
                  refine lv_iconst (v := 0) hx hb dM_at_162 (by decide) ?_
                  obtain ⟨o3, hq4, hf⟩ := xbind hf
                  have hl := lv_sub (l' := [(3, .long (((xpl st) (c1 - 1)) + ((xpi st 3) (c0 - 1)).toInt64)), (0, .ref aM)]) hl [0, 1] rfl
                  obtain ⟨hm5, hf⟩ := xmoE hf
                  have hFc := xm_free hD hS hA
                  refine va_callq (va_runV (C := "ValueBenchModel") (As := [.int 0]) (rest := []) ⟨hx, hb, hml, hown, htx⟩ (gM_fresh l hl9 D cT aK aV s.heap.size n aM ad rd gd vad st (0 : Int32) o3 hq4) ⟨callB_of 1 htx (xw_goodC kw_6_16) rfl rfl rfl (htx _ kw_1_5) (htx _ kw_6_13) ⟨by decide, by decide, by decide +kernel⟩ ⟨Nat.le_of_ble_eq_true rfl, Nat.le_of_ble_eq_true rfl⟩, (htx _ kw_6_15), (htx _ kp_M_fresh)⟩ ⟨xPre_blind, va_recv hK hP (ci := 5) rfl (q0 := 0) rfl, (fun U hU hW => ⟨rfl, xPre_of hZ hS hFc hP hD hK U hU hW⟩)⟩ rfl rfl hl.1 rfl (xm_room (Nat.le_of_ble_eq_true rfl)) dM_at_163 ⟨hm5.1, hm5.2⟩) hS (fun q _ h => hFc q h) hFc (fun r6 u9 t H1 locs ht hvm hr9 hB hz1 hk1 hS => ?_)
                  obtain ⟨hP1, hK1, hD1⟩ := hB
                  rw [ht] at hP1
                  obtain ⟨ad7, gd8, vad9⟩ := u9
                  obtain ⟨hr9, hv10, hn11⟩ := hr9
                  have hP : va_P D xcl (xMw cT aM ad7 rd gd8 vad9 o3.2.2.2 []) H1 := hP1
                  have hD : va_D A (xMw cT aM ad7 rd gd8 vad9 o3.2.2.2 []) := hD1.weaken (fun k q _ h => hFc q.1 h)
                  generalize H1 = H at hP hS ⊢
                  have hE9 : ∀ p, p < xct st → vad9 p = vad p := fun p h => (hv10 p (Nat.lt_of_lt_of_le h hN)).trans (hE p h)
                  have hE := hE9
                  have hN : xct st ≤ xct o3.2.2.2 := Nat.le_trans hN hn11
                  rw [hr9]
                  refine W.eq (g2 := F0 m 166 ls [xv vad9 o3.2.2.1]) (by first | rfl | (skip; rfl)) ?_
                  refine lv_goto (tgt := 176) hx hb dM_at_166 (by decide) ?_
                  obtain rfl := Option.some.inj hf
                  exact W.aret (v := xv vad9 o3.2.2.1) hx hb hr (Or.inl ⟨_, rfl⟩) (xvor _ _) (fun t ht hW => ⟨⟨xca vad9 o3.2.2.1, (ad7, gd8, vad9), rfl, ⟨rfl, hE, hN⟩, by rw [ht]; exact hP, va_K.moved hW.alike hK, hD⟩, hS.F ht⟩) hS.2.2 dM_at_176
          · rw [if_neg hc] at hf
            refine lv_aload_n hx hb dM_at_112 rfl (lv_at hl 0 rfl) ?_
            refine lv_iconst (v := 1) hx hb dM_at_113 (by decide) ?_
            obtain ⟨o3, hq4, hf⟩ := xbind hf
            have hl := lv_sub (l' := [(0, .ref aM)]) hl [0] rfl
            by_cases hk5 : o3.1 = 1
            · rw [if_pos hk5] at hf
              obtain ⟨hm6, hf⟩ := xmoE hf
              obtain rfl := Option.some.inj hf
              exact absurd (show (1 : Nat) = 0 from hkd) (by decide)
            rw [if_neg hk5] at hf
            exact nomatch hf
        · rw [if_pos hc] at hf
          refine lv_aload_n hx hb dM_at_97 rfl (lv_at hl 0 rfl) ?_
          refine xm_aload_n hx hb (xvor _ _) dM_at_98 rfl (lv_at hl 1 rfl) ?_
          refine xm_aload_n hx hb (xvor _ _) dM_at_99 rfl (lv_at hl 2 rfl) ?_
          obtain ⟨o3, hq4, hf⟩ := xbind hf
          have hl := lv_sub (l' := [(0, .ref aM)]) hl [0] rfl
          by_cases hk5 : o3.1 = 0
          · rw [if_pos hk5] at hf
            obtain ⟨hm6, hf⟩ := xmoE hf
            have hFc := xm_free hD hS hA
            refine va_callq (va_runV (C := "ValueBenchModel") (As := [xv vad c0, xv vad c1]) (rest := []) ⟨hx, hb, hml, hown, htx⟩ (gM_indices l hl9 D cT aK aV s.heap.size d n aM ad rd gd vad st c0 c1 o3 hq4 hk5) ⟨callB_of 2 htx (xw_goodC kw_7_103) rfl rfl rfl (htx _ kw_1_5) (htx _ kw_7_100) ⟨by decide, by decide, by decide +kernel⟩ ⟨(by show (16 * d + 8) + 1 ≤ 16 * d + 9; omega), (by show 8 + (9 + 11) + (400 * d + 147) ≤ 400 * d + 175; omega)⟩, (htx _ kw_7_102), (htx _ kp_M_indices)⟩ ⟨xPre_blind, va_recv hK hP (ci := 5) rfl (q0 := 0) rfl, (fun U hU hW => ⟨rfl, xPre_of hZ hS hFc hP hD hK U hU hW⟩)⟩ rfl rfl hl.1 rfl (xm_room (Nat.le_of_ble_eq_true rfl)) dM_at_100 ⟨hm6.1, hm6.2⟩) hS (fun q _ h => hFc q h) hFc (fun r7 u9 t H1 locs ht hvm hr9 hB hz1 hk1 hS => ?_)
            obtain ⟨hP1, hK1, hD1⟩ := hB
            rw [ht] at hP1
            obtain ⟨ad8, gd9, vad10⟩ := u9
            obtain ⟨hr9, hv11, hn12⟩ := hr9
            have hP : va_P D xcl (xMw cT aM ad8 rd gd9 vad10 o3.2.2.2.2 []) H1 := hP1
            have hD : va_D A (xMw cT aM ad8 rd gd9 vad10 o3.2.2.2.2 []) := hD1.weaken (fun k q _ h => hFc q.1 h)
            generalize H1 = H at hP hS ⊢
            have hE9 : ∀ p, p < xct st → vad10 p = vad p := fun p h => (hv11 p (Nat.lt_of_lt_of_le h hN)).trans (hE p h)
            have hE := hE9
            have hN : xct st ≤ xct o3.2.2.2.2 := Nat.le_trans hN hn12
            rw [hr9]
            refine W.eq (g2 := F0 m 103 ls [xv vad10 o3.2.2.2.1]) (by first | rfl | (skip; rfl)) ?_
            obtain rfl := Option.some.inj hf
            exact W.aret (v := xv vad10 o3.2.2.2.1) hx hb hr (Or.inl ⟨_, rfl⟩) (xvor _ _) (fun t ht hW => ⟨⟨xca vad10 o3.2.2.2.1, (ad8, gd9, vad10), rfl, ⟨rfl, hE, hN⟩, by rw [ht]; exact hP, va_K.moved hW.alike hK, hD⟩, hS.F ht⟩) hS.2.2 dM_at_103
          rw [if_neg hk5] at hf
          by_cases hk13 : o3.1 = 1
          · rw [if_pos hk13] at hf
            obtain ⟨hm14, hf⟩ := xmoE hf
            obtain rfl := Option.some.inj hf
            exact absurd (show (1 : Nat) = 0 from hkd) (by decide)
          rw [if_neg hk13] at hf
          by_cases hk21 : o3.1 = 2
          · rw [if_pos hk21] at hf
            obtain ⟨hm22, hf⟩ := xmoE hf
            obtain rfl := Option.some.inj hf
            exact absurd (show (2 : Nat) = 0 from hkd) (by decide)
          rw [if_neg hk21] at hf
          exact nomatch hf
      · rw [if_neg hc] at hf
        refine lv_aload_n hx hb dM_at_83 rfl (lv_at hl 0 rfl) ?_
        refine lv_iconst (v := 1) hx hb dM_at_84 (by decide) ?_
        obtain ⟨o2, hq3, hf⟩ := xbind hf
        have hl := lv_sub (l' := [(0, .ref aM)]) hl [0] rfl
        by_cases hk4 : o2.1 = 1
        · rw [if_pos hk4] at hf
          obtain ⟨hm5, hf⟩ := xmoE hf
          obtain rfl := Option.some.inj hf
          exact absurd (show (1 : Nat) = 0 from hkd) (by decide)
        rw [if_neg hk4] at hf
        exact nomatch hf
    · rw [if_pos hc] at hf
      refine xm_aload_n hx hb (xvor _ _) dM_at_41 rfl (lv_at hl 2 rfl) ?_
      obtain ⟨hg2, hf⟩ := xifn hf
      refine xm_vget (v := .int ((xpi st 0) (c1 - 1))) hx hb htx hown hK hP 0 (by decide) hg2 rfl ((hZ.1 (93, "kind", "I") (List.mem_of_getElem? (i := 0) rfl)).use rfl) rfl dM_at_42 ?_
      refine lv_iconst (v := 4) hx hb dM_at_45 (by decide) ?_
      refine lv_icmp_ne (tgt := 75) hx hb dM_at_46 (by decide) (fun hc => ?_) (fun hc => ?_)
      · rw [if_neg hc] at hf
        refine xm_aload_n hx hb (xvor _ _) dM_at_75 rfl (lv_at hl 1 rfl) ?_
        refine xm_vget (v := .int ((xpi st 0) (c0 - 1))) hx hb htx hown hK hP 0 (by decide) hg1 rfl ((hZ.1 (93, "kind", "I") (List.mem_of_getElem? (i := 0) rfl)).use rfl) rfl dM_at_76 ?_
        refine lv_iconst (v := 5) hx hb dM_at_79 (by decide) ?_
        refine lv_icmp_eq (tgt := 89) hx hb dM_at_80 (by decide) (fun hc => ?_) (fun hc => ?_)
        · rw [if_pos hc] at hf
          refine xm_aload_n hx hb (xvor _ _) dM_at_89 rfl (lv_at hl 2 rfl) ?_
          refine xm_vget (v := .int ((xpi st 0) (c1 - 1))) hx hb htx hown hK hP 0 (by decide) hg2 rfl ((hZ.1 (93, "kind", "I") (List.mem_of_getElem? (i := 0) rfl)).use rfl) rfl dM_at_90 ?_
          refine lv_iconst (v := 5) hx hb dM_at_93 (by decide) ?_
          refine lv_icmp_ne (tgt := 104) hx hb dM_at_94 (by decide) (fun hc => ?_) (fun hc => ?_)
          · rw [if_neg hc] at hf
            refine xm_aload_n hx hb (xvor _ _) dM_at_104 rfl (lv_at hl 2 rfl) ?_
            refine xm_vget (v := .int ((xpi st 0) (c1 - 1))) hx hb htx hown hK hP 0 (by decide) hg2 rfl ((hZ.1 (93, "kind", "I") (List.mem_of_getElem? (i := 0) rfl)).use rfl) rfl dM_at_105 ?_
            refine lv_iconst (v := 3) hx hb dM_at_108 (by decide) ?_
            refine lv_icmp_eq (tgt := 118) hx hb dM_at_109 (by decide) (fun hc => ?_) (fun hc => ?_)
            · rw [if_pos hc] at hf
              refine xm_aload_n hx hb (xvor _ _) dM_at_118 rfl (lv_at hl 2 rfl) ?_
              refine xm_vget (v := .long ((xpl st) (c1 - 1))) hx hb htx hown hK hP 1 (by decide) hg2 rfl ((hZ.1 (96, "n", "J") (List.mem_of_getElem? (i := 1) rfl)).use rfl) rfl dM_at_119 ?_
              refine lv_lconst (v := 0) hx hb dM_at_122 (by decide) ?_
              refine W.lcmp hx hb dM_at_123 ?_
              refine lv_if_ge (tgt := 140) hx hb dM_at_124 (by decide) (fun hc => ?_) (fun hc => ?_)
              · rw [if_pos hc] at hf
                refine xm_aload_n hx hb (xvor _ _) dM_at_140 rfl (lv_at hl 2 rfl) ?_
                refine xm_vget (v := .long ((xpl st) (c1 - 1))) hx hb htx hown hK hP 1 (by decide) hg2 rfl ((hZ.1 (96, "n", "J") (List.mem_of_getElem? (i := 1) rfl)).use rfl) rfl dM_at_141 ?_
                refine lv_lstore_n (lv' := [(3, .long ((xpl st) (c1 - 1))), (0, .ref aM), (1, xv vad c0), (2, xv vad c1)]) hx hb dM_at_144 rfl hl (by decide) (by simp only [List.filter, xvcat, xrscat, xcI, xcL, xcR, xcN]; rfl) (fun ls hl => ?_)
                refine lv_lload_n hx hb dM_at_145 rfl (lv_at hl 0 rfl) ?_
                refine lv_lconst (v := 0) hx hb dM_at_146 (by decide) ?_
                refine W.lcmp hx hb dM_at_147 ?_
                refine lv_if_lt (tgt := 161) hx hb dM_at_148 (by decide) (fun hc => ?_) (fun hc => ?_)
                · rw [if_pos hc] at hf
                  refine lv_aload_n hx hb dM_at_161 rfl (lv_at hl 1 rfl) ?_
                  refine lv_iconst (v := 0) hx hb dM_at_162 (by decide) ?_
                  obtain ⟨o3, hq4, hf⟩ := xbind hf
                  have hl := lv_sub (l' := [(3, .long ((xpl st) (c1 - 1))), (0, .ref aM)]) hl [0, 1] rfl
                  obtain ⟨hm5, hf⟩ := xmoE hf
                  have hFc := xm_free hD hS hA
                  refine va_callq (va_runV (C := "ValueBenchModel") (As := [.int 0]) (rest := []) ⟨hx, hb, hml, hown, htx⟩ (gM_fresh l hl9 D cT aK aV s.heap.size n aM ad rd gd vad st (0 : Int32) o3 hq4) ⟨callB_of 1 htx (xw_goodC kw_6_16) rfl rfl rfl (htx _ kw_1_5) (htx _ kw_6_13) ⟨by decide, by decide, by decide +kernel⟩ ⟨Nat.le_of_ble_eq_true rfl, Nat.le_of_ble_eq_true rfl⟩, (htx _ kw_6_15), (htx _ kp_M_fresh)⟩ ⟨xPre_blind, va_recv hK hP (ci := 5) rfl (q0 := 0) rfl, (fun U hU hW => ⟨rfl, xPre_of hZ hS hFc hP hD hK U hU hW⟩)⟩ rfl rfl hl.1 rfl (xm_room (Nat.le_of_ble_eq_true rfl)) dM_at_163 ⟨hm5.1, hm5.2⟩) hS (fun q _ h => hFc q h) hFc (fun r6 u9 t H1 locs ht hvm hr9 hB hz1 hk1 hS => ?_)
                  obtain ⟨hP1, hK1, hD1⟩ := hB
                  rw [ht] at hP1
                  obtain ⟨ad7, gd8, vad9⟩ := u9
                  obtain ⟨hr9, hv10, hn11⟩ := hr9
                  have hP : va_P D xcl (xMw cT aM ad7 rd gd8 vad9 o3.2.2.2 []) H1 := hP1
                  have hD : va_D A (xMw cT aM ad7 rd gd8 vad9 o3.2.2.2 []) := hD1.weaken (fun k q _ h => hFc q.1 h)
                  generalize H1 = H at hP hS ⊢
                  have hE9 : ∀ p, p < xct st → vad9 p = vad p := fun p h => (hv10 p (Nat.lt_of_lt_of_le h hN)).trans (hE p h)
                  have hE := hE9
                  have hN : xct st ≤ xct o3.2.2.2 := Nat.le_trans hN hn11
                  rw [hr9]
                  refine W.eq (g2 := F0 m 166 ls [xv vad9 o3.2.2.1]) (by first | rfl | (skip; rfl)) ?_
                  refine lv_goto (tgt := 176) hx hb dM_at_166 (by decide) ?_
                  obtain rfl := Option.some.inj hf
                  exact W.aret (v := xv vad9 o3.2.2.1) hx hb hr (Or.inl ⟨_, rfl⟩) (xvor _ _) (fun t ht hW => ⟨⟨xca vad9 o3.2.2.1, (ad7, gd8, vad9), rfl, ⟨rfl, hE, hN⟩, by rw [ht]; exact hP, va_K.moved hW.alike hK, hD⟩, hS.F ht⟩) hS.2.2 dM_at_176
                · rw [if_neg hc] at hf
                  refine lv_lload_n hx hb dM_at_151 rfl (lv_at hl 0 rfl) ?_
                  refine xm_aload_n hx hb (xvor _ _) dM_at_152 rfl (lv_at hl 2 rfl) ?_
                  refine xm_vget (v := .int ((xpi st 3) (c0 - 1))) hx hb htx hown hK hP 3 (by decide) hg1 rfl ((hZ.1 (103, "count", "I") (List.mem_of_getElem? (i := 3) rfl)).use rfl) rfl dM_at_153 ?_
                  refine lv_i2l hx hb dM_at_156 rfl ?_
                  refine W.lcmp hx hb dM_at_157 ?_
                  refine lv_if_lt (tgt := 169) hx hb dM_at_158 (by decide) (fun hc => ?_) (fun hc => ?_)
                  · rw [if_pos hc] at hf
                    refine lv_aload_n hx hb dM_at_169 rfl (lv_at hl 1 rfl) ?_
                    refine xm_aload_n hx hb (xvor _ _) dM_at_170 rfl (lv_at hl 2 rfl) ?_
                    refine lv_lload_n hx hb dM_at_171 rfl (lv_at hl 0 rfl) ?_
                    refine lv_l2i hx hb dM_at_172 rfl ?_
                    obtain ⟨o3, hq4, hf⟩ := xbind hf
                    have hl := lv_sub (l' := [(3, .long ((xpl st) (c1 - 1))), (0, .ref aM)]) hl [0, 1] rfl
                    have hFc := xm_free hD hS hA
                    refine va_callq (va_runV (C := "ValueBenchModel") (As := [xv vad c0, .int ((xpl st) (c1 - 1)).toInt32]) (rest := []) ⟨hx, hb, hml, hown, htx⟩ (gM_kid l hl9 D cT aK aV s.heap.size n aM ad rd gd vad st c0 (((xpl st) (c1 - 1)).toInt32) o3 hq4) ⟨callB_of 2 htx (xw_goodC kw_6_158) rfl rfl rfl (htx _ kw_1_5) (htx _ kw_6_155) ⟨by decide, by decide, by decide +kernel⟩ ⟨Nat.le_of_ble_eq_true rfl, Nat.le_of_ble_eq_true rfl⟩, (htx _ kw_6_157), (htx _ kp_M_kid)⟩ ⟨xPre_blind, va_recv hK hP (ci := 5) rfl (q0 := 0) rfl, (fun U hU hW => ⟨rfl, xPre_of hZ hS hFc hP hD hK U hU hW⟩)⟩ rfl rfl hl.1 rfl (xm_room (Nat.le_of_ble_eq_true rfl)) dM_at_173 ⟨Nat.zero_le _, Nat.zero_le _⟩) hS (fun q _ h => hFc q h) hFc (fun r5 u9 t H1 locs ht hvm hr9 hB hz1 hk1 hS => ?_)
                    obtain ⟨hP1, hK1, hD1⟩ := hB
                    rw [ht] at hP1
                    have hP : va_P D xcl (xMw cT aM ad rd gd vad st []) H1 := hP1
                    have hD : va_D A (xMw cT aM ad rd gd vad st []) := hD1.weaken (fun k q _ h => hFc q.1 h)
                    generalize H1 = H at hP hS ⊢
                    rw [hr9]
                    refine W.eq (g2 := F0 m 176 ls [xv vad o3]) (by first | rfl | (skip; rfl)) ?_
                    obtain rfl := Option.some.inj hf
                    exact W.aret (v := xv vad o3) hx hb hr (Or.inl ⟨_, rfl⟩) (xvor _ _) (fun t ht hW => ⟨⟨xca vad o3, (ad, gd, vad), rfl, ⟨rfl, hE, hN⟩, by rw [ht]; exact hP, va_K.moved hW.alike hK, hD⟩, hS.F ht⟩) hS.2.2 dM_at_176
                  · rw [if_neg hc] at hf
                    refine lv_aload_n hx hb dM_at_161 rfl (lv_at hl 1 rfl) ?_
                    refine lv_iconst (v := 0) hx hb dM_at_162 (by decide) ?_
                    obtain ⟨o3, hq4, hf⟩ := xbind hf
                    have hl := lv_sub (l' := [(3, .long ((xpl st) (c1 - 1))), (0, .ref aM)]) hl [0, 1] rfl
                    obtain ⟨hm5, hf⟩ := xmoE hf
                    have hFc := xm_free hD hS hA
                    refine va_callq (va_runV (C := "ValueBenchModel") (As := [.int 0]) (rest := []) ⟨hx, hb, hml, hown, htx⟩ (gM_fresh l hl9 D cT aK aV s.heap.size n aM ad rd gd vad st (0 : Int32) o3 hq4) ⟨callB_of 1 htx (xw_goodC kw_6_16) rfl rfl rfl (htx _ kw_1_5) (htx _ kw_6_13) ⟨by decide, by decide, by decide +kernel⟩ ⟨Nat.le_of_ble_eq_true rfl, Nat.le_of_ble_eq_true rfl⟩, (htx _ kw_6_15), (htx _ kp_M_fresh)⟩ ⟨xPre_blind, va_recv hK hP (ci := 5) rfl (q0 := 0) rfl, (fun U hU hW => ⟨rfl, xPre_of hZ hS hFc hP hD hK U hU hW⟩)⟩ rfl rfl hl.1 rfl (xm_room (Nat.le_of_ble_eq_true rfl)) dM_at_163 ⟨hm5.1, hm5.2⟩) hS (fun q _ h => hFc q h) hFc (fun r6 u9 t H1 locs ht hvm hr9 hB hz1 hk1 hS => ?_)
                    obtain ⟨hP1, hK1, hD1⟩ := hB
                    rw [ht] at hP1
                    obtain ⟨ad7, gd8, vad9⟩ := u9
                    obtain ⟨hr9, hv10, hn11⟩ := hr9
                    have hP : va_P D xcl (xMw cT aM ad7 rd gd8 vad9 o3.2.2.2 []) H1 := hP1
                    have hD : va_D A (xMw cT aM ad7 rd gd8 vad9 o3.2.2.2 []) := hD1.weaken (fun k q _ h => hFc q.1 h)
                    generalize H1 = H at hP hS ⊢
                    have hE9 : ∀ p, p < xct st → vad9 p = vad p := fun p h => (hv10 p (Nat.lt_of_lt_of_le h hN)).trans (hE p h)
                    have hE := hE9
                    have hN : xct st ≤ xct o3.2.2.2 := Nat.le_trans hN hn11
                    rw [hr9]
                    refine W.eq (g2 := F0 m 166 ls [xv vad9 o3.2.2.1]) (by first | rfl | (skip; rfl)) ?_
                    refine lv_goto (tgt := 176) hx hb dM_at_166 (by decide) ?_
                    obtain rfl := Option.some.inj hf
                    exact W.aret (v := xv vad9 o3.2.2.1) hx hb hr (Or.inl ⟨_, rfl⟩) (xvor _ _) (fun t ht hW => ⟨⟨xca vad9 o3.2.2.1, (ad7, gd8, vad9), rfl, ⟨rfl, hE, hN⟩, by rw [ht]; exact hP, va_K.moved hW.alike hK, hD⟩, hS.F ht⟩) hS.2.2 dM_at_176
              · rw [if_neg hc] at hf
                refine xm_aload_n hx hb (xvor _ _) dM_at_127 rfl (lv_at hl 2 rfl) ?_
                refine xm_vget (v := .long ((xpl st) (c1 - 1))) hx hb htx hown hK hP 1 (by decide) hg2 rfl ((hZ.1 (96, "n", "J") (List.mem_of_getElem? (i := 1) rfl)).use rfl) rfl dM_at_128 ?_
                refine xm_aload_n hx hb (xvor _ _) dM_at_131 rfl (lv_at hl 1 rfl) ?_
                refine xm_vget (v := .int ((xpi st 3) (c0 - 1))) hx hb htx hown hK hP 3 (by decide) hg1 rfl ((hZ.1 (103, "count", "I") (List.mem_of_getElem? (i := 3) rfl)).use rfl) rfl dM_at_132 ?_
                refine lv_i2l hx hb dM_at_135 rfl ?_
                refine lv_ladd hx hb dM_at_136 ?_
                refine lv_goto (tgt := 144) hx hb dM_at_137 (by decide) ?_
                refine lv_lstore_n (lv' := [(3, .long (((xpl st) (c1 - 1)) + ((xpi st 3) (c0 - 1)).toInt64)), (0, .ref aM), (1, xv vad c0), (2, xv vad c1)]) hx hb dM_at_144 rfl hl (by decide) (by simp only [List.filter, xvcat, xrscat, xcI, xcL, xcR, xcN]; rfl) (fun ls hl => ?_)
                refine lv_lload_n hx hb dM_at_145 rfl (lv_at hl 0 rfl) ?_
                refine lv_lconst (v := 0) hx hb dM_at_146 (by decide) ?_
                refine W.lcmp hx hb dM_at_147 ?_
                refine lv_if_lt (tgt := 161) hx hb dM_at_148 (by decide) (fun hc => ?_) (fun hc => ?_)
                · rw [if_pos hc] at hf
                  refine lv_aload_n hx hb dM_at_161 rfl (lv_at hl 1 rfl) ?_
                  refine lv_iconst (v := 0) hx hb dM_at_162 (by decide) ?_
                  obtain ⟨o3, hq4, hf⟩ := xbind hf
                  have hl := lv_sub (l' := [(3, .long (((xpl st) (c1 - 1)) + ((xpi st 3) (c0 - 1)).toInt64)), (0, .ref aM)]) hl [0, 1] rfl
                  obtain ⟨hm5, hf⟩ := xmoE hf
                  have hFc := xm_free hD hS hA
                  refine va_callq (va_runV (C := "ValueBenchModel") (As := [.int 0]) (rest := []) ⟨hx, hb, hml, hown, htx⟩ (gM_fresh l hl9 D cT aK aV s.heap.size n aM ad rd gd vad st (0 : Int32) o3 hq4) ⟨callB_of 1 htx (xw_goodC kw_6_16) rfl rfl rfl (htx _ kw_1_5) (htx _ kw_6_13) ⟨by decide, by decide, by decide +kernel⟩ ⟨Nat.le_of_ble_eq_true rfl, Nat.le_of_ble_eq_true rfl⟩, (htx _ kw_6_15), (htx _ kp_M_fresh)⟩ ⟨xPre_blind, va_recv hK hP (ci := 5) rfl (q0 := 0) rfl, (fun U hU hW => ⟨rfl, xPre_of hZ hS hFc hP hD hK U hU hW⟩)⟩ rfl rfl hl.1 rfl (xm_room (Nat.le_of_ble_eq_true rfl)) dM_at_163 ⟨hm5.1, hm5.2⟩) hS (fun q _ h => hFc q h) hFc (fun r6 u9 t H1 locs ht hvm hr9 hB hz1 hk1 hS => ?_)
                  obtain ⟨hP1, hK1, hD1⟩ := hB
                  rw [ht] at hP1
                  obtain ⟨ad7, gd8, vad9⟩ := u9
                  obtain ⟨hr9, hv10, hn11⟩ := hr9
                  have hP : va_P D xcl (xMw cT aM ad7 rd gd8 vad9 o3.2.2.2 []) H1 := hP1
                  have hD : va_D A (xMw cT aM ad7 rd gd8 vad9 o3.2.2.2 []) := hD1.weaken (fun k q _ h => hFc q.1 h)
                  generalize H1 = H at hP hS ⊢
                  have hE9 : ∀ p, p < xct st → vad9 p = vad p := fun p h => (hv10 p (Nat.lt_of_lt_of_le h hN)).trans (hE p h)
                  have hE := hE9
                  have hN : xct st ≤ xct o3.2.2.2 := Nat.le_trans hN hn11
                  rw [hr9]
                  refine W.eq (g2 := F0 m 166 ls [xv vad9 o3.2.2.1]) (by first | rfl | (skip; rfl)) ?_
                  refine lv_goto (tgt := 176) hx hb dM_at_166 (by decide) ?_
                  obtain rfl := Option.some.inj hf
                  exact W.aret (v := xv vad9 o3.2.2.1) hx hb hr (Or.inl ⟨_, rfl⟩) (xvor _ _) (fun t ht hW => ⟨⟨xca vad9 o3.2.2.1, (ad7, gd8, vad9), rfl, ⟨rfl, hE, hN⟩, by rw [ht]; exact hP, va_K.moved hW.alike hK, hD⟩, hS.F ht⟩) hS.2.2 dM_at_176
                · rw [if_neg hc] at hf
                  refine lv_lload_n hx hb dM_at_151 rfl (lv_at hl 0 rfl) ?_
                  refine xm_aload_n hx hb (xvor _ _) dM_at_152 rfl (lv_at hl 2 rfl) ?_
                  refine xm_vget (v := .int ((xpi st 3) (c0 - 1))) hx hb htx hown hK hP 3 (by decide) hg1 rfl ((hZ.1 (103, "count", "I") (List.mem_of_getElem? (i := 3) rfl)).use rfl) rfl dM_at_153 ?_
                  refine lv_i2l hx hb dM_at_156 rfl ?_
                  refine W.lcmp hx hb dM_at_157 ?_
                  refine lv_if_lt (tgt := 169) hx hb dM_at_158 (by decide) (fun hc => ?_) (fun hc => ?_)
                  · rw [if_pos hc] at hf
                    refine lv_aload_n hx hb dM_at_169 rfl (lv_at hl 1 rfl) ?_
                    refine xm_aload_n hx hb (xvor _ _) dM_at_170 rfl (lv_at hl 2 rfl) ?_
                    refine lv_lload_n hx hb dM_at_171 rfl (lv_at hl 0 rfl) ?_
                    refine lv_l2i hx hb dM_at_172 rfl ?_
                    obtain ⟨o3, hq4, hf⟩ := xbind hf
                    have hl := lv_sub (l' := [(3, .long (((xpl st) (c1 - 1)) + ((xpi st 3) (c0 - 1)).toInt64)), (0, .ref aM)]) hl [0, 1] rfl
                    have hFc := xm_free hD hS hA
                    refine va_callq (va_runV (C := "ValueBenchModel") (As := [xv vad c0, .int (((xpl st) (c1 - 1)) + ((xpi st 3) (c0 - 1)).toInt64).toInt32]) (rest := []) ⟨hx, hb, hml, hown, htx⟩ (gM_kid l hl9 D cT aK aV s.heap.size n aM ad rd gd vad st c0 ((((xpl st) (c1 - 1)) + ((xpi st 3) (c0 - 1)).toInt64).toInt32) o3 hq4) ⟨callB_of 2 htx (xw_goodC kw_6_158) rfl rfl rfl (htx _ kw_1_5) (htx _ kw_6_155) ⟨by decide, by decide, by decide +kernel⟩ ⟨Nat.le_of_ble_eq_true rfl, Nat.le_of_ble_eq_true rfl⟩, (htx _ kw_6_157), (htx _ kp_M_kid)⟩ ⟨xPre_blind, va_recv hK hP (ci := 5) rfl (q0 := 0) rfl, (fun U hU hW => ⟨rfl, xPre_of hZ hS hFc hP hD hK U hU hW⟩)⟩ rfl rfl hl.1 rfl (xm_room (Nat.le_of_ble_eq_true rfl)) dM_at_173 ⟨Nat.zero_le _, Nat.zero_le _⟩) hS (fun q _ h => hFc q h) hFc (fun r5 u9 t H1 locs ht hvm hr9 hB hz1 hk1 hS => ?_)
                    obtain ⟨hP1, hK1, hD1⟩ := hB
                    rw [ht] at hP1
                    have hP : va_P D xcl (xMw cT aM ad rd gd vad st []) H1 := hP1
                    have hD : va_D A (xMw cT aM ad rd gd vad st []) := hD1.weaken (fun k q _ h => hFc q.1 h)
                    generalize H1 = H at hP hS ⊢
                    rw [hr9]
                    refine W.eq (g2 := F0 m 176 ls [xv vad o3]) (by first | rfl | (skip; rfl)) ?_
                    obtain rfl := Option.some.inj hf
                    exact W.aret (v := xv vad o3) hx hb hr (Or.inl ⟨_, rfl⟩) (xvor _ _) (fun t ht hW => ⟨⟨xca vad o3, (ad, gd, vad), rfl, ⟨rfl, hE, hN⟩, by rw [ht]; exact hP, va_K.moved hW.alike hK, hD⟩, hS.F ht⟩) hS.2.2 dM_at_176
                  · rw [if_neg hc] at hf
                    refine lv_aload_n hx hb dM_at_161 rfl (lv_at hl 1 rfl) ?_
                    refine lv_iconst (v := 0) hx hb dM_at_162 (by decide) ?_
                    obtain ⟨o3, hq4, hf⟩ := xbind hf
                    have hl := lv_sub (l' := [(3, .long (((xpl st) (c1 - 1)) + ((xpi st 3) (c0 - 1)).toInt64)), (0, .ref aM)]) hl [0, 1] rfl
                    obtain ⟨hm5, hf⟩ := xmoE hf
                    have hFc := xm_free hD hS hA
                    refine va_callq (va_runV (C := "ValueBenchModel") (As := [.int 0]) (rest := []) ⟨hx, hb, hml, hown, htx⟩ (gM_fresh l hl9 D cT aK aV s.heap.size n aM ad rd gd vad st (0 : Int32) o3 hq4) ⟨callB_of 1 htx (xw_goodC kw_6_16) rfl rfl rfl (htx _ kw_1_5) (htx _ kw_6_13) ⟨by decide, by decide, by decide +kernel⟩ ⟨Nat.le_of_ble_eq_true rfl, Nat.le_of_ble_eq_true rfl⟩, (htx _ kw_6_15), (htx _ kp_M_fresh)⟩ ⟨xPre_blind, va_recv hK hP (ci := 5) rfl (q0 := 0) rfl, (fun U hU hW => ⟨rfl, xPre_of hZ hS hFc hP hD hK U hU hW⟩)⟩ rfl rfl hl.1 rfl (xm_room (Nat.le_of_ble_eq_true rfl)) dM_at_163 ⟨hm5.1, hm5.2⟩) hS (fun q _ h => hFc q h) hFc (fun r6 u9 t H1 locs ht hvm hr9 hB hz1 hk1 hS => ?_)
                    obtain ⟨hP1, hK1, hD1⟩ := hB
                    rw [ht] at hP1
                    obtain ⟨ad7, gd8, vad9⟩ := u9
                    obtain ⟨hr9, hv10, hn11⟩ := hr9
                    have hP : va_P D xcl (xMw cT aM ad7 rd gd8 vad9 o3.2.2.2 []) H1 := hP1
                    have hD : va_D A (xMw cT aM ad7 rd gd8 vad9 o3.2.2.2 []) := hD1.weaken (fun k q _ h => hFc q.1 h)
                    generalize H1 = H at hP hS ⊢
                    have hE9 : ∀ p, p < xct st → vad9 p = vad p := fun p h => (hv10 p (Nat.lt_of_lt_of_le h hN)).trans (hE p h)
                    have hE := hE9
                    have hN : xct st ≤ xct o3.2.2.2 := Nat.le_trans hN hn11
                    rw [hr9]
                    refine W.eq (g2 := F0 m 166 ls [xv vad9 o3.2.2.1]) (by first | rfl | (skip; rfl)) ?_
                    refine lv_goto (tgt := 176) hx hb dM_at_166 (by decide) ?_
                    obtain rfl := Option.some.inj hf
                    exact W.aret (v := xv vad9 o3.2.2.1) hx hb hr (Or.inl ⟨_, rfl⟩) (xvor _ _) (fun t ht hW => ⟨⟨xca vad9 o3.2.2.1, (ad7, gd8, vad9), rfl, ⟨rfl, hE, hN⟩, by rw [ht]; exact hP, va_K.moved hW.alike hK, hD⟩, hS.F ht⟩) hS.2.2 dM_at_176
            · rw [if_neg hc] at hf
              refine lv_aload_n hx hb dM_at_112 rfl (lv_at hl 0 rfl) ?_
              refine lv_iconst (v := 1) hx hb dM_at_113 (by decide) ?_
              obtain ⟨o3, hq4, hf⟩ := xbind hf
              have hl := lv_sub (l' := [(0, .ref aM)]) hl [0] rfl
              by_cases hk5 : o3.1 = 1
              · rw [if_pos hk5] at hf
                obtain ⟨hm6, hf⟩ := xmoE hf
                obtain rfl := Option.some.inj hf
                exact absurd (show (1 : Nat) = 0 from hkd) (by decide)
              rw [if_neg hk5] at hf
              exact nomatch hf
          · rw [if_pos hc] at hf
            refine lv_aload_n hx hb dM_at_97 rfl (lv_at hl 0 rfl) ?_
            refine xm_aload_n hx hb (xvor _ _) dM_at_98 rfl (lv_at hl 1 rfl) ?_
            refine xm_aload_n hx hb (xvor _ _) dM_at_99 rfl (lv_at hl 2 rfl) ?_
            obtain ⟨o3, hq4, hf⟩ := xbind hf
            have hl := lv_sub (l' := [(0, .ref aM)]) hl [0] rfl
            by_cases hk5 : o3.1 = 0
            · rw [if_pos hk5] at hf
              obtain ⟨hm6, hf⟩ := xmoE hf
              have hFc := xm_free hD hS hA
              refine va_callq (va_runV (C := "ValueBenchModel") (As := [xv vad c0, xv vad c1]) (rest := []) ⟨hx, hb, hml, hown, htx⟩ (gM_indices l hl9 D cT aK aV s.heap.size d n aM ad rd gd vad st c0 c1 o3 hq4 hk5) ⟨callB_of 2 htx (xw_goodC kw_7_103) rfl rfl rfl (htx _ kw_1_5) (htx _ kw_7_100) ⟨by decide, by decide, by decide +kernel⟩ ⟨(by show (16 * d + 8) + 1 ≤ 16 * d + 9; omega), (by show 8 + (9 + 11) + (400 * d + 147) ≤ 400 * d + 175; omega)⟩, (htx _ kw_7_102), (htx _ kp_M_indices)⟩ ⟨xPre_blind, va_recv hK hP (ci := 5) rfl (q0 := 0) rfl, (fun U hU hW => ⟨rfl, xPre_of hZ hS hFc hP hD hK U hU hW⟩)⟩ rfl rfl hl.1 rfl (xm_room (Nat.le_of_ble_eq_true rfl)) dM_at_100 ⟨hm6.1, hm6.2⟩) hS (fun q _ h => hFc q h) hFc (fun r7 u9 t H1 locs ht hvm hr9 hB hz1 hk1 hS => ?_)
              obtain ⟨hP1, hK1, hD1⟩ := hB
              rw [ht] at hP1
              obtain ⟨ad8, gd9, vad10⟩ := u9
              obtain ⟨hr9, hv11, hn12⟩ := hr9
              have hP : va_P D xcl (xMw cT aM ad8 rd gd9 vad10 o3.2.2.2.2 []) H1 := hP1
              have hD : va_D A (xMw cT aM ad8 rd gd9 vad10 o3.2.2.2.2 []) := hD1.weaken (fun k q _ h => hFc q.1 h)
              generalize H1 = H at hP hS ⊢
              have hE9 : ∀ p, p < xct st → vad10 p = vad p := fun p h => (hv11 p (Nat.lt_of_lt_of_le h hN)).trans (hE p h)
              have hE := hE9
              have hN : xct st ≤ xct o3.2.2.2.2 := Nat.le_trans hN hn12
              rw [hr9]
              refine W.eq (g2 := F0 m 103 ls [xv vad10 o3.2.2.2.1]) (by first | rfl | (skip; rfl)) ?_
              obtain rfl := Option.some.inj hf
              exact W.aret (v := xv vad10 o3.2.2.2.1) hx hb hr (Or.inl ⟨_, rfl⟩) (xvor _ _) (fun t ht hW => ⟨⟨xca vad10 o3.2.2.2.1, (ad8, gd9, vad10), rfl, ⟨rfl, hE, hN⟩, by rw [ht]; exact hP, va_K.moved hW.alike hK, hD⟩, hS.F ht⟩) hS.2.2 dM_at_103
            rw [if_neg hk5] at hf
            by_cases hk13 : o3.1 = 1
            · rw [if_pos hk13] at hf
              obtain ⟨hm14, hf⟩ := xmoE hf
              obtain rfl := Option.some.inj hf
              exact absurd (show (1 : Nat) = 0 from hkd) (by decide)
            rw [if_neg hk13] at hf
            by_cases hk21 : o3.1 = 2
            · rw [if_pos hk21] at hf
              obtain ⟨hm22, hf⟩ := xmoE hf
              obtain rfl := Option.some.inj hf
              exact absurd (show (2 : Nat) = 0 from hkd) (by decide)
            rw [if_neg hk21] at hf
            exact nomatch hf
        · rw [if_neg hc] at hf
          refine lv_aload_n hx hb dM_at_83 rfl (lv_at hl 0 rfl) ?_
          refine lv_iconst (v := 1) hx hb dM_at_84 (by decide) ?_
          obtain ⟨o3, hq4, hf⟩ := xbind hf
          have hl := lv_sub (l' := [(0, .ref aM)]) hl [0] rfl
          by_cases hk5 : o3.1 = 1
          · rw [if_pos hk5] at hf
            obtain ⟨hm6, hf⟩ := xmoE hf
            obtain rfl := Option.some.inj hf
            exact absurd (show (1 : Nat) = 0 from hkd) (by decide)
          rw [if_neg hk5] at hf
          exact nomatch hf
      · rw [if_pos hc] at hf
        refine lv_aload_n hx hb dM_at_49 rfl (lv_at hl 0 rfl) ?_
        refine xm_aload_n hx hb (xvor _ _) dM_at_50 rfl (lv_at hl 1 rfl) ?_
        refine xm_aload_n hx hb (xvor _ _) dM_at_51 rfl (lv_at hl 2 rfl) ?_
        obtain ⟨o3, hq4, hf⟩ := xbind hf
        have hl := lv_sub (l' := [(0, .ref aM), (1, xv vad c0)]) hl [0, 1] rfl
        have hFc := xm_free hD hS hA
        refine va_calli (va_runV (C := "ValueBenchModel") (As := [xv vad c0, xv vad c1]) (rest := []) ⟨hx, hb, hml, hown, htx⟩ (gM_place l hl9 D cT aK aV s.heap.size n aM ad rd gd vad st c0 c1 o3 hq4) ⟨callB_of 2 htx (xw_goodC kw_6_178) rfl rfl rfl (htx _ kw_1_5) (htx _ kw_6_175) ⟨by decide, by decide, by decide +kernel⟩ ⟨Nat.le_of_ble_eq_true rfl, Nat.le_of_ble_eq_true rfl⟩, (htx _ kw_6_177), (htx _ kp_M_place)⟩ ⟨xPre_blind, va_recv hK hP (ci := 5) rfl (q0 := 0) rfl, (fun U hU hW => ⟨rfl, xPre_of hZ hS hFc hP hD hK U hU hW⟩)⟩ rfl rfl hl.1 rfl (xm_room (Nat.le_of_ble_eq_true rfl)) dM_at_52 ⟨Nat.zero_le _, Nat.zero_le _⟩) hS (fun q _ h => hFc q h) hFc (fun r5 u9 t H1 locs ht hvm hr9 hB hz1 hk1 hS => ?_)
        obtain ⟨hP1, hK1, hD1⟩ := hB
        rw [ht] at hP1
        have hP : va_P D xcl (xMw cT aM ad rd gd vad st []) H1 := hP1
        have hD : va_D A (xMw cT aM ad rd gd vad st []) := hD1.weaken (fun k q _ h => hFc q.1 h)
        generalize H1 = H at hP hS ⊢
        rw [hr9]
        refine W.eq (g2 := F0 m 55 ls [.int o3]) (by first | rfl | (skip; rfl)) ?_
        refine lv_istore_n (lv' := [(3, .int o3), (0, .ref aM), (1, xv vad c0)]) hx hb dM_at_55 rfl hl (by decide) rfl (fun ls hl => ?_)
        refine lv_iload_n hx hb dM_at_56 rfl (lv_at hl 0 rfl) ?_
        refine lv_if_ge (tgt := 68) hx hb dM_at_57 (by decide) (fun hc => ?_) (fun hc => ?_)
        · rw [if_pos hc] at hf
          refine lv_aload_n hx hb dM_at_68 rfl (lv_at hl 1 rfl) ?_
          refine xm_aload_n hx hb (xvor _ _) dM_at_69 rfl (lv_at hl 2 rfl) ?_
          refine lv_iload_n hx hb dM_at_70 rfl (lv_at hl 0 rfl) ?_
          obtain ⟨o6, hq7, hf⟩ := xbind hf
          have hl := lv_sub (l' := [(3, .int o3), (0, .ref aM)]) hl [0, 1] rfl
          have hFc := xm_free hD hS hA
          refine va_callq (va_runV (C := "ValueBenchModel") (As := [xv vad c0, .int o3]) (rest := []) ⟨hx, hb, hml, hown, htx⟩ (gM_kid l hl9 D cT aK aV H.size n aM ad rd gd vad st c0 o3 o6 hq7) ⟨callB_of 2 htx (xw_goodC kw_6_158) rfl rfl rfl (htx _ kw_1_5) (htx _ kw_6_155) ⟨by decide, by decide, by decide +kernel⟩ ⟨Nat.le_of_ble_eq_true rfl, Nat.le_of_ble_eq_true rfl⟩, (htx _ kw_6_157), (htx _ kp_M_kid)⟩ ⟨xPre_blind, va_recv hK hP (ci := 5) rfl (q0 := 0) rfl, (fun U hU hW => ⟨rfl, xPre_of hZ hS hFc hP hD hK U hU hW⟩)⟩ rfl rfl hl.1 rfl (xm_room (Nat.le_of_ble_eq_true rfl)) dM_at_71 ⟨Nat.zero_le _, Nat.zero_le _⟩) hS (fun q _ h => hFc q h) hFc (fun r8 u9 t H1 locs ht hvm hr9 hB hz1 hk1 hS => ?_)
          obtain ⟨hP1, hK1, hD1⟩ := hB
          rw [ht] at hP1
          have hP : va_P D xcl (xMw cT aM ad rd gd vad st []) H1 := hP1
          have hD : va_D A (xMw cT aM ad rd gd vad st []) := hD1.weaken (fun k q _ h => hFc q.1 h)
          generalize H1 = H at hP hS ⊢
          rw [hr9]
          refine W.eq (g2 := F0 m 74 ls [xv vad o6]) (by first | rfl | (skip; rfl)) ?_
          obtain rfl := Option.some.inj hf
          exact W.aret (v := xv vad o6) hx hb hr (Or.inl ⟨_, rfl⟩) (xvor _ _) (fun t ht hW => ⟨⟨xca vad o6, (ad, gd, vad), rfl, ⟨rfl, hE, hN⟩, by rw [ht]; exact hP, va_K.moved hW.alike hK, hD⟩, hS.F ht⟩) hS.2.2 dM_at_74
        · rw [if_neg hc] at hf
          refine lv_aload_n hx hb dM_at_60 rfl (lv_at hl 1 rfl) ?_
          refine lv_iconst (v := 0) hx hb dM_at_61 (by decide) ?_
          obtain ⟨o6, hq7, hf⟩ := xbind hf
          have hl := lv_sub (l' := [(3, .int o3), (0, .ref aM)]) hl [0, 1] rfl
          obtain ⟨hm8, hf⟩ := xmoE hf
          have hFc := xm_free hD hS hA
          refine va_callq (va_runV (C := "ValueBenchModel") (As := [.int 0]) (rest := []) ⟨hx, hb, hml, hown, htx⟩ (gM_fresh l hl9 D cT aK aV H.size n aM ad rd gd vad st (0 : Int32) o6 hq7) ⟨callB_of 1 htx (xw_goodC kw_6_16) rfl rfl rfl (htx _ kw_1_5) (htx _ kw_6_13) ⟨by decide, by decide, by decide +kernel⟩ ⟨Nat.le_of_ble_eq_true rfl, Nat.le_of_ble_eq_true rfl⟩, (htx _ kw_6_15), (htx _ kp_M_fresh)⟩ ⟨xPre_blind, va_recv hK hP (ci := 5) rfl (q0 := 0) rfl, (fun U hU hW => ⟨rfl, xPre_of hZ hS hFc hP hD hK U hU hW⟩)⟩ rfl rfl hl.1 rfl (xm_room (Nat.le_of_ble_eq_true rfl)) dM_at_62 ⟨hm8.1, hm8.2⟩) hS (fun q _ h => hFc q h) hFc (fun r9 u9 t H1 locs ht hvm hr9 hB hz1 hk1 hS => ?_)
          obtain ⟨hP1, hK1, hD1⟩ := hB
          rw [ht] at hP1
          obtain ⟨ad10, gd11, vad12⟩ := u9
          obtain ⟨hr9, hv13, hn14⟩ := hr9
          have hP : va_P D xcl (xMw cT aM ad10 rd gd11 vad12 o6.2.2.2 []) H1 := hP1
          have hD : va_D A (xMw cT aM ad10 rd gd11 vad12 o6.2.2.2 []) := hD1.weaken (fun k q _ h => hFc q.1 h)
          generalize H1 = H at hP hS ⊢
          have hE9 : ∀ p, p < xct st → vad12 p = vad p := fun p h => (hv13 p (Nat.lt_of_lt_of_le h hN)).trans (hE p h)
          have hE := hE9
          have hN : xct st ≤ xct o6.2.2.2 := Nat.le_trans hN hn14
          rw [hr9]
          refine W.eq (g2 := F0 m 65 ls [xv vad12 o6.2.2.1]) (by first | rfl | (skip; rfl)) ?_
          refine lv_goto (tgt := 74) hx hb dM_at_65 (by decide) ?_
          obtain rfl := Option.some.inj hf
          exact W.aret (v := xv vad12 o6.2.2.1) hx hb hr (Or.inl ⟨_, rfl⟩) (xvor _ _) (fun t ht hW => ⟨⟨xca vad12 o6.2.2.1, (ad10, gd11, vad12), rfl, ⟨rfl, hE, hN⟩, by rw [ht]; exact hP, va_K.moved hW.alike hK, hD⟩, hS.F ht⟩) hS.2.2 dM_at_74
  · rw [if_pos hc] at hf
    refine xm_aload_n hx hb (xvor _ _) dM_at_7 rfl (lv_at hl 2 rfl) ?_
    obtain ⟨hg2, hf⟩ := xifn hf
    refine xm_vget (v := .int ((xpi st 0) (c1 - 1))) hx hb htx hown hK hP 0 (by decide) hg2 rfl ((hZ.1 (93, "kind", "I") (List.mem_of_getElem? (i := 0) rfl)).use rfl) rfl dM_at_8 ?_
    refine lv_if_eq (tgt := 30) hx hb dM_at_11 (by decide) (fun hc => ?_) (fun hc => ?_)
    · rw [if_pos hc] at hf
      refine xm_aload_n hx hb (xvor _ _) dM_at_30 rfl (lv_at hl 1 rfl) ?_
      obtain rfl := Option.some.inj hf
      exact W.aret (v := xv vad c0) hx hb hr (Or.inl ⟨_, rfl⟩) (xvor _ _) (fun t ht hW => ⟨⟨xca vad c0, (ad, gd, vad), rfl, ⟨rfl, hE, hN⟩, by rw [ht]; exact hP, va_K.moved hW.alike hK, hD⟩, hS.F ht⟩) hS.2.2 dM_at_31
    · rw [if_neg hc] at hf
      refine xm_aload_n hx hb (xvor _ _) dM_at_14 rfl (lv_at hl 2 rfl) ?_
      refine xm_vget (v := .int ((xpi st 0) (c1 - 1))) hx hb htx hown hK hP 0 (by decide) hg2 rfl ((hZ.1 (93, "kind", "I") (List.mem_of_getElem? (i := 0) rfl)).use rfl) rfl dM_at_15 ?_
      refine lv_iconst (v := 3) hx hb dM_at_18 (by decide) ?_
      refine lv_icmp_eq (tgt := 30) hx hb dM_at_19 (by decide) (fun hc => ?_) (fun hc => ?_)
      · rw [if_pos hc] at hf
        refine xm_aload_n hx hb (xvor _ _) dM_at_30 rfl (lv_at hl 1 rfl) ?_
        obtain rfl := Option.some.inj hf
        exact W.aret (v := xv vad c0) hx hb hr (Or.inl ⟨_, rfl⟩) (xvor _ _) (fun t ht hW => ⟨⟨xca vad c0, (ad, gd, vad), rfl, ⟨rfl, hE, hN⟩, by rw [ht]; exact hP, va_K.moved hW.alike hK, hD⟩, hS.F ht⟩) hS.2.2 dM_at_31
      · rw [if_neg hc] at hf
        refine xm_aload_n hx hb (xvor _ _) dM_at_22 rfl (lv_at hl 2 rfl) ?_
        refine xm_vget (v := .int ((xpi st 0) (c1 - 1))) hx hb htx hown hK hP 0 (by decide) hg2 rfl ((hZ.1 (93, "kind", "I") (List.mem_of_getElem? (i := 0) rfl)).use rfl) rfl dM_at_23 ?_
        refine lv_iconst (v := 4) hx hb dM_at_26 (by decide) ?_
        refine lv_icmp_ne (tgt := 32) hx hb dM_at_27 (by decide) (fun hc => ?_) (fun hc => ?_)
        · rw [if_neg hc] at hf
          refine xm_aload_n hx hb (xvor _ _) dM_at_32 rfl (lv_at hl 1 rfl) ?_
          refine xm_vget (v := .int ((xpi st 0) (c0 - 1))) hx hb htx hown hK hP 0 (by decide) hg1 rfl ((hZ.1 (93, "kind", "I") (List.mem_of_getElem? (i := 0) rfl)).use rfl) rfl dM_at_33 ?_
          refine lv_bipush (v := 6) hx hb dM_at_36 (by decide) ?_
          refine lv_icmp_ne (tgt := 75) hx hb dM_at_38 (by decide) (fun hc => ?_) (fun hc => ?_)
          · rw [if_neg hc] at hf
            refine xm_aload_n hx hb (xvor _ _) dM_at_75 rfl (lv_at hl 1 rfl) ?_
            refine xm_vget (v := .int ((xpi st 0) (c0 - 1))) hx hb htx hown hK hP 0 (by decide) hg1 rfl ((hZ.1 (93, "kind", "I") (List.mem_of_getElem? (i := 0) rfl)).use rfl) rfl dM_at_76 ?_
            refine lv_iconst (v := 5) hx hb dM_at_79 (by decide) ?_
            refine lv_icmp_eq (tgt := 89) hx hb dM_at_80 (by decide) (fun hc => ?_) (fun hc => ?_)
            · rw [if_pos hc] at hf
              refine xm_aload_n hx hb (xvor _ _) dM_at_89 rfl (lv_at hl 2 rfl) ?_
              refine xm_vget (v := .int ((xpi st 0) (c1 - 1))) hx hb htx hown hK hP 0 (by decide) hg2 rfl ((hZ.1 (93, "kind", "I") (List.mem_of_getElem? (i := 0) rfl)).use rfl) rfl dM_at_90 ?_
              refine lv_iconst (v := 5) hx hb dM_at_93 (by decide) ?_
              refine lv_icmp_ne (tgt := 104) hx hb dM_at_94 (by decide) (fun hc => ?_) (fun hc => ?_)
              · rw [if_neg hc] at hf
                refine xm_aload_n hx hb (xvor _ _) dM_at_104 rfl (lv_at hl 2 rfl) ?_
                refine xm_vget (v := .int ((xpi st 0) (c1 - 1))) hx hb htx hown hK hP 0 (by decide) hg2 rfl ((hZ.1 (93, "kind", "I") (List.mem_of_getElem? (i := 0) rfl)).use rfl) rfl dM_at_105 ?_
                refine lv_iconst (v := 3) hx hb dM_at_108 (by decide) ?_
                refine lv_icmp_eq (tgt := 118) hx hb dM_at_109 (by decide) (fun hc => ?_) (fun hc => ?_)
                · rw [if_pos hc] at hf
                  refine xm_aload_n hx hb (xvor _ _) dM_at_118 rfl (lv_at hl 2 rfl) ?_
                  refine xm_vget (v := .long ((xpl st) (c1 - 1))) hx hb htx hown hK hP 1 (by decide) hg2 rfl ((hZ.1 (96, "n", "J") (List.mem_of_getElem? (i := 1) rfl)).use rfl) rfl dM_at_119 ?_
                  refine lv_lconst (v := 0) hx hb dM_at_122 (by decide) ?_
                  refine W.lcmp hx hb dM_at_123 ?_
                  refine lv_if_ge (tgt := 140) hx hb dM_at_124 (by decide) (fun hc => ?_) (fun hc => ?_)
                  · rw [if_pos hc] at hf
                    refine xm_aload_n hx hb (xvor _ _) dM_at_140 rfl (lv_at hl 2 rfl) ?_
                    refine xm_vget (v := .long ((xpl st) (c1 - 1))) hx hb htx hown hK hP 1 (by decide) hg2 rfl ((hZ.1 (96, "n", "J") (List.mem_of_getElem? (i := 1) rfl)).use rfl) rfl dM_at_141 ?_
                    refine lv_lstore_n (lv' := [(3, .long ((xpl st) (c1 - 1))), (0, .ref aM), (1, xv vad c0), (2, xv vad c1)]) hx hb dM_at_144 rfl hl (by decide) (by simp only [List.filter, xvcat, xrscat, xcI, xcL, xcR, xcN]; rfl) (fun ls hl => ?_)
                    refine lv_lload_n hx hb dM_at_145 rfl (lv_at hl 0 rfl) ?_
                    refine lv_lconst (v := 0) hx hb dM_at_146 (by decide) ?_
                    refine W.lcmp hx hb dM_at_147 ?_
                    refine lv_if_lt (tgt := 161) hx hb dM_at_148 (by decide) (fun hc => ?_) (fun hc => ?_)
                    · rw [if_pos hc] at hf
                      refine lv_aload_n hx hb dM_at_161 rfl (lv_at hl 1 rfl) ?_
                      refine lv_iconst (v := 0) hx hb dM_at_162 (by decide) ?_
                      obtain ⟨o3, hq4, hf⟩ := xbind hf
                      have hl := lv_sub (l' := [(3, .long ((xpl st) (c1 - 1))), (0, .ref aM)]) hl [0, 1] rfl
                      obtain ⟨hm5, hf⟩ := xmoE hf
                      have hFc := xm_free hD hS hA
                      refine va_callq (va_runV (C := "ValueBenchModel") (As := [.int 0]) (rest := []) ⟨hx, hb, hml, hown, htx⟩ (gM_fresh l hl9 D cT aK aV s.heap.size n aM ad rd gd vad st (0 : Int32) o3 hq4) ⟨callB_of 1 htx (xw_goodC kw_6_16) rfl rfl rfl (htx _ kw_1_5) (htx _ kw_6_13) ⟨by decide, by decide, by decide +kernel⟩ ⟨Nat.le_of_ble_eq_true rfl, Nat.le_of_ble_eq_true rfl⟩, (htx _ kw_6_15), (htx _ kp_M_fresh)⟩ ⟨xPre_blind, va_recv hK hP (ci := 5) rfl (q0 := 0) rfl, (fun U hU hW => ⟨rfl, xPre_of hZ hS hFc hP hD hK U hU hW⟩)⟩ rfl rfl hl.1 rfl (xm_room (Nat.le_of_ble_eq_true rfl)) dM_at_163 ⟨hm5.1, hm5.2⟩) hS (fun q _ h => hFc q h) hFc (fun r6 u9 t H1 locs ht hvm hr9 hB hz1 hk1 hS => ?_)
                      obtain ⟨hP1, hK1, hD1⟩ := hB
                      rw [ht] at hP1
                      obtain ⟨ad7, gd8, vad9⟩ := u9
                      obtain ⟨hr9, hv10, hn11⟩ := hr9
                      have hP : va_P D xcl (xMw cT aM ad7 rd gd8 vad9 o3.2.2.2 []) H1 := hP1
                      have hD : va_D A (xMw cT aM ad7 rd gd8 vad9 o3.2.2.2 []) := hD1.weaken (fun k q _ h => hFc q.1 h)
                      generalize H1 = H at hP hS ⊢
                      have hE9 : ∀ p, p < xct st → vad9 p = vad p := fun p h => (hv10 p (Nat.lt_of_lt_of_le h hN)).trans (hE p h)
                      have hE := hE9
                      have hN : xct st ≤ xct o3.2.2.2 := Nat.le_trans hN hn11
                      rw [hr9]
                      refine W.eq (g2 := F0 m 166 ls [xv vad9 o3.2.2.1]) (by first | rfl | (skip; rfl)) ?_
                      refine lv_goto (tgt := 176) hx hb dM_at_166 (by decide) ?_
                      obtain rfl := Option.some.inj hf
                      exact W.aret (v := xv vad9 o3.2.2.1) hx hb hr (Or.inl ⟨_, rfl⟩) (xvor _ _) (fun t ht hW => ⟨⟨xca vad9 o3.2.2.1, (ad7, gd8, vad9), rfl, ⟨rfl, hE, hN⟩, by rw [ht]; exact hP, va_K.moved hW.alike hK, hD⟩, hS.F ht⟩) hS.2.2 dM_at_176
                    · rw [if_neg hc] at hf
                      refine lv_lload_n hx hb dM_at_151 rfl (lv_at hl 0 rfl) ?_
                      refine xm_aload_n hx hb (xvor _ _) dM_at_152 rfl (lv_at hl 2 rfl) ?_
                      refine xm_vget (v := .int ((xpi st 3) (c0 - 1))) hx hb htx hown hK hP 3 (by decide) hg1 rfl ((hZ.1 (103, "count", "I") (List.mem_of_getElem? (i := 3) rfl)).use rfl) rfl dM_at_153 ?_
                      refine lv_i2l hx hb dM_at_156 rfl ?_
                      refine W.lcmp hx hb dM_at_157 ?_
                      refine lv_if_lt (tgt := 169) hx hb dM_at_158 (by decide) (fun hc => ?_) (fun hc => ?_)
                      · rw [if_pos hc] at hf
                        refine lv_aload_n hx hb dM_at_169 rfl (lv_at hl 1 rfl) ?_
                        refine xm_aload_n hx hb (xvor _ _) dM_at_170 rfl (lv_at hl 2 rfl) ?_
                        refine lv_lload_n hx hb dM_at_171 rfl (lv_at hl 0 rfl) ?_
                        refine lv_l2i hx hb dM_at_172 rfl ?_
                        obtain ⟨o3, hq4, hf⟩ := xbind hf
                        have hl := lv_sub (l' := [(3, .long ((xpl st) (c1 - 1))), (0, .ref aM)]) hl [0, 1] rfl
                        have hFc := xm_free hD hS hA
                        refine va_callq (va_runV (C := "ValueBenchModel") (As := [xv vad c0, .int ((xpl st) (c1 - 1)).toInt32]) (rest := []) ⟨hx, hb, hml, hown, htx⟩ (gM_kid l hl9 D cT aK aV s.heap.size n aM ad rd gd vad st c0 (((xpl st) (c1 - 1)).toInt32) o3 hq4) ⟨callB_of 2 htx (xw_goodC kw_6_158) rfl rfl rfl (htx _ kw_1_5) (htx _ kw_6_155) ⟨by decide, by decide, by decide +kernel⟩ ⟨Nat.le_of_ble_eq_true rfl, Nat.le_of_ble_eq_true rfl⟩, (htx _ kw_6_157), (htx _ kp_M_kid)⟩ ⟨xPre_blind, va_recv hK hP (ci := 5) rfl (q0 := 0) rfl, (fun U hU hW => ⟨rfl, xPre_of hZ hS hFc hP hD hK U hU hW⟩)⟩ rfl rfl hl.1 rfl (xm_room (Nat.le_of_ble_eq_true rfl)) dM_at_173 ⟨Nat.zero_le _, Nat.zero_le _⟩) hS (fun q _ h => hFc q h) hFc (fun r5 u9 t H1 locs ht hvm hr9 hB hz1 hk1 hS => ?_)
                        obtain ⟨hP1, hK1, hD1⟩ := hB
                        rw [ht] at hP1
                        have hP : va_P D xcl (xMw cT aM ad rd gd vad st []) H1 := hP1
                        have hD : va_D A (xMw cT aM ad rd gd vad st []) := hD1.weaken (fun k q _ h => hFc q.1 h)
                        generalize H1 = H at hP hS ⊢
                        rw [hr9]
                        refine W.eq (g2 := F0 m 176 ls [xv vad o3]) (by first | rfl | (skip; rfl)) ?_
                        obtain rfl := Option.some.inj hf
                        exact W.aret (v := xv vad o3) hx hb hr (Or.inl ⟨_, rfl⟩) (xvor _ _) (fun t ht hW => ⟨⟨xca vad o3, (ad, gd, vad), rfl, ⟨rfl, hE, hN⟩, by rw [ht]; exact hP, va_K.moved hW.alike hK, hD⟩, hS.F ht⟩) hS.2.2 dM_at_176
                      · rw [if_neg hc] at hf
                        refine lv_aload_n hx hb dM_at_161 rfl (lv_at hl 1 rfl) ?_
                        refine lv_iconst (v := 0) hx hb dM_at_162 (by decide) ?_
                        obtain ⟨o3, hq4, hf⟩ := xbind hf
                        have hl := lv_sub (l' := [(3, .long ((xpl st) (c1 - 1))), (0, .ref aM)]) hl [0, 1] rfl
                        obtain ⟨hm5, hf⟩ := xmoE hf
                        have hFc := xm_free hD hS hA
                        refine va_callq (va_runV (C := "ValueBenchModel") (As := [.int 0]) (rest := []) ⟨hx, hb, hml, hown, htx⟩ (gM_fresh l hl9 D cT aK aV s.heap.size n aM ad rd gd vad st (0 : Int32) o3 hq4) ⟨callB_of 1 htx (xw_goodC kw_6_16) rfl rfl rfl (htx _ kw_1_5) (htx _ kw_6_13) ⟨by decide, by decide, by decide +kernel⟩ ⟨Nat.le_of_ble_eq_true rfl, Nat.le_of_ble_eq_true rfl⟩, (htx _ kw_6_15), (htx _ kp_M_fresh)⟩ ⟨xPre_blind, va_recv hK hP (ci := 5) rfl (q0 := 0) rfl, (fun U hU hW => ⟨rfl, xPre_of hZ hS hFc hP hD hK U hU hW⟩)⟩ rfl rfl hl.1 rfl (xm_room (Nat.le_of_ble_eq_true rfl)) dM_at_163 ⟨hm5.1, hm5.2⟩) hS (fun q _ h => hFc q h) hFc (fun r6 u9 t H1 locs ht hvm hr9 hB hz1 hk1 hS => ?_)
                        obtain ⟨hP1, hK1, hD1⟩ := hB
                        rw [ht] at hP1
                        obtain ⟨ad7, gd8, vad9⟩ := u9
                        obtain ⟨hr9, hv10, hn11⟩ := hr9
                        have hP : va_P D xcl (xMw cT aM ad7 rd gd8 vad9 o3.2.2.2 []) H1 := hP1
                        have hD : va_D A (xMw cT aM ad7 rd gd8 vad9 o3.2.2.2 []) := hD1.weaken (fun k q _ h => hFc q.1 h)
                        generalize H1 = H at hP hS ⊢
                        have hE9 : ∀ p, p < xct st → vad9 p = vad p := fun p h => (hv10 p (Nat.lt_of_lt_of_le h hN)).trans (hE p h)
                        have hE := hE9
                        have hN : xct st ≤ xct o3.2.2.2 := Nat.le_trans hN hn11
                        rw [hr9]
                        refine W.eq (g2 := F0 m 166 ls [xv vad9 o3.2.2.1]) (by first | rfl | (skip; rfl)) ?_
                        refine lv_goto (tgt := 176) hx hb dM_at_166 (by decide) ?_
                        obtain rfl := Option.some.inj hf
                        exact W.aret (v := xv vad9 o3.2.2.1) hx hb hr (Or.inl ⟨_, rfl⟩) (xvor _ _) (fun t ht hW => ⟨⟨xca vad9 o3.2.2.1, (ad7, gd8, vad9), rfl, ⟨rfl, hE, hN⟩, by rw [ht]; exact hP, va_K.moved hW.alike hK, hD⟩, hS.F ht⟩) hS.2.2 dM_at_176
                  · rw [if_neg hc] at hf
                    refine xm_aload_n hx hb (xvor _ _) dM_at_127 rfl (lv_at hl 2 rfl) ?_
                    refine xm_vget (v := .long ((xpl st) (c1 - 1))) hx hb htx hown hK hP 1 (by decide) hg2 rfl ((hZ.1 (96, "n", "J") (List.mem_of_getElem? (i := 1) rfl)).use rfl) rfl dM_at_128 ?_
                    refine xm_aload_n hx hb (xvor _ _) dM_at_131 rfl (lv_at hl 1 rfl) ?_
                    refine xm_vget (v := .int ((xpi st 3) (c0 - 1))) hx hb htx hown hK hP 3 (by decide) hg1 rfl ((hZ.1 (103, "count", "I") (List.mem_of_getElem? (i := 3) rfl)).use rfl) rfl dM_at_132 ?_
                    refine lv_i2l hx hb dM_at_135 rfl ?_
                    refine lv_ladd hx hb dM_at_136 ?_
                    refine lv_goto (tgt := 144) hx hb dM_at_137 (by decide) ?_
                    refine lv_lstore_n (lv' := [(3, .long (((xpl st) (c1 - 1)) + ((xpi st 3) (c0 - 1)).toInt64)), (0, .ref aM), (1, xv vad c0), (2, xv vad c1)]) hx hb dM_at_144 rfl hl (by decide) (by simp only [List.filter, xvcat, xrscat, xcI, xcL, xcR, xcN]; rfl) (fun ls hl => ?_)
                    refine lv_lload_n hx hb dM_at_145 rfl (lv_at hl 0 rfl) ?_
                    refine lv_lconst (v := 0) hx hb dM_at_146 (by decide) ?_
                    refine W.lcmp hx hb dM_at_147 ?_
                    refine lv_if_lt (tgt := 161) hx hb dM_at_148 (by decide) (fun hc => ?_) (fun hc => ?_)
                    · rw [if_pos hc] at hf
                      refine lv_aload_n hx hb dM_at_161 rfl (lv_at hl 1 rfl) ?_
                      refine lv_iconst (v := 0) hx hb dM_at_162 (by decide) ?_
                      obtain ⟨o3, hq4, hf⟩ := xbind hf
                      have hl := lv_sub (l' := [(3, .long (((xpl st) (c1 - 1)) + ((xpi st 3) (c0 - 1)).toInt64)), (0, .ref aM)]) hl [0, 1] rfl
                      obtain ⟨hm5, hf⟩ := xmoE hf
                      have hFc := xm_free hD hS hA
                      refine va_callq (va_runV (C := "ValueBenchModel") (As := [.int 0]) (rest := []) ⟨hx, hb, hml, hown, htx⟩ (gM_fresh l hl9 D cT aK aV s.heap.size n aM ad rd gd vad st (0 : Int32) o3 hq4) ⟨callB_of 1 htx (xw_goodC kw_6_16) rfl rfl rfl (htx _ kw_1_5) (htx _ kw_6_13) ⟨by decide, by decide, by decide +kernel⟩ ⟨Nat.le_of_ble_eq_true rfl, Nat.le_of_ble_eq_true rfl⟩, (htx _ kw_6_15), (htx _ kp_M_fresh)⟩ ⟨xPre_blind, va_recv hK hP (ci := 5) rfl (q0 := 0) rfl, (fun U hU hW => ⟨rfl, xPre_of hZ hS hFc hP hD hK U hU hW⟩)⟩ rfl rfl hl.1 rfl (xm_room (Nat.le_of_ble_eq_true rfl)) dM_at_163 ⟨hm5.1, hm5.2⟩) hS (fun q _ h => hFc q h) hFc (fun r6 u9 t H1 locs ht hvm hr9 hB hz1 hk1 hS => ?_)
                      obtain ⟨hP1, hK1, hD1⟩ := hB
                      rw [ht] at hP1
                      obtain ⟨ad7, gd8, vad9⟩ := u9
                      obtain ⟨hr9, hv10, hn11⟩ := hr9
                      have hP : va_P D xcl (xMw cT aM ad7 rd gd8 vad9 o3.2.2.2 []) H1 := hP1
                      have hD : va_D A (xMw cT aM ad7 rd gd8 vad9 o3.2.2.2 []) := hD1.weaken (fun k q _ h => hFc q.1 h)
                      generalize H1 = H at hP hS ⊢
                      have hE9 : ∀ p, p < xct st → vad9 p = vad p := fun p h => (hv10 p (Nat.lt_of_lt_of_le h hN)).trans (hE p h)
                      have hE := hE9
                      have hN : xct st ≤ xct o3.2.2.2 := Nat.le_trans hN hn11
                      rw [hr9]
                      refine W.eq (g2 := F0 m 166 ls [xv vad9 o3.2.2.1]) (by first | rfl | (skip; rfl)) ?_
                      refine lv_goto (tgt := 176) hx hb dM_at_166 (by decide) ?_
                      obtain rfl := Option.some.inj hf
                      exact W.aret (v := xv vad9 o3.2.2.1) hx hb hr (Or.inl ⟨_, rfl⟩) (xvor _ _) (fun t ht hW => ⟨⟨xca vad9 o3.2.2.1, (ad7, gd8, vad9), rfl, ⟨rfl, hE, hN⟩, by rw [ht]; exact hP, va_K.moved hW.alike hK, hD⟩, hS.F ht⟩) hS.2.2 dM_at_176
                    · rw [if_neg hc] at hf
                      refine lv_lload_n hx hb dM_at_151 rfl (lv_at hl 0 rfl) ?_
                      refine xm_aload_n hx hb (xvor _ _) dM_at_152 rfl (lv_at hl 2 rfl) ?_
                      refine xm_vget (v := .int ((xpi st 3) (c0 - 1))) hx hb htx hown hK hP 3 (by decide) hg1 rfl ((hZ.1 (103, "count", "I") (List.mem_of_getElem? (i := 3) rfl)).use rfl) rfl dM_at_153 ?_
                      refine lv_i2l hx hb dM_at_156 rfl ?_
                      refine W.lcmp hx hb dM_at_157 ?_
                      refine lv_if_lt (tgt := 169) hx hb dM_at_158 (by decide) (fun hc => ?_) (fun hc => ?_)
                      · rw [if_pos hc] at hf
                        refine lv_aload_n hx hb dM_at_169 rfl (lv_at hl 1 rfl) ?_
                        refine xm_aload_n hx hb (xvor _ _) dM_at_170 rfl (lv_at hl 2 rfl) ?_
                        refine lv_lload_n hx hb dM_at_171 rfl (lv_at hl 0 rfl) ?_
                        refine lv_l2i hx hb dM_at_172 rfl ?_
                        obtain ⟨o3, hq4, hf⟩ := xbind hf
                        have hl := lv_sub (l' := [(3, .long (((xpl st) (c1 - 1)) + ((xpi st 3) (c0 - 1)).toInt64)), (0, .ref aM)]) hl [0, 1] rfl
                        have hFc := xm_free hD hS hA
                        refine va_callq (va_runV (C := "ValueBenchModel") (As := [xv vad c0, .int (((xpl st) (c1 - 1)) + ((xpi st 3) (c0 - 1)).toInt64).toInt32]) (rest := []) ⟨hx, hb, hml, hown, htx⟩ (gM_kid l hl9 D cT aK aV s.heap.size n aM ad rd gd vad st c0 ((((xpl st) (c1 - 1)) + ((xpi st 3) (c0 - 1)).toInt64).toInt32) o3 hq4) ⟨callB_of 2 htx (xw_goodC kw_6_158) rfl rfl rfl (htx _ kw_1_5) (htx _ kw_6_155) ⟨by decide, by decide, by decide +kernel⟩ ⟨Nat.le_of_ble_eq_true rfl, Nat.le_of_ble_eq_true rfl⟩, (htx _ kw_6_157), (htx _ kp_M_kid)⟩ ⟨xPre_blind, va_recv hK hP (ci := 5) rfl (q0 := 0) rfl, (fun U hU hW => ⟨rfl, xPre_of hZ hS hFc hP hD hK U hU hW⟩)⟩ rfl rfl hl.1 rfl (xm_room (Nat.le_of_ble_eq_true rfl)) dM_at_173 ⟨Nat.zero_le _, Nat.zero_le _⟩) hS (fun q _ h => hFc q h) hFc (fun r5 u9 t H1 locs ht hvm hr9 hB hz1 hk1 hS => ?_)
                        obtain ⟨hP1, hK1, hD1⟩ := hB
                        rw [ht] at hP1
                        have hP : va_P D xcl (xMw cT aM ad rd gd vad st []) H1 := hP1
                        have hD : va_D A (xMw cT aM ad rd gd vad st []) := hD1.weaken (fun k q _ h => hFc q.1 h)
                        generalize H1 = H at hP hS ⊢
                        rw [hr9]
                        refine W.eq (g2 := F0 m 176 ls [xv vad o3]) (by first | rfl | (skip; rfl)) ?_
                        obtain rfl := Option.some.inj hf
                        exact W.aret (v := xv vad o3) hx hb hr (Or.inl ⟨_, rfl⟩) (xvor _ _) (fun t ht hW => ⟨⟨xca vad o3, (ad, gd, vad), rfl, ⟨rfl, hE, hN⟩, by rw [ht]; exact hP, va_K.moved hW.alike hK, hD⟩, hS.F ht⟩) hS.2.2 dM_at_176
                      · rw [if_neg hc] at hf
                        refine lv_aload_n hx hb dM_at_161 rfl (lv_at hl 1 rfl) ?_
                        refine lv_iconst (v := 0) hx hb dM_at_162 (by decide) ?_
                        obtain ⟨o3, hq4, hf⟩ := xbind hf
                        have hl := lv_sub (l' := [(3, .long (((xpl st) (c1 - 1)) + ((xpi st 3) (c0 - 1)).toInt64)), (0, .ref aM)]) hl [0, 1] rfl
                        obtain ⟨hm5, hf⟩ := xmoE hf
                        have hFc := xm_free hD hS hA
                        refine va_callq (va_runV (C := "ValueBenchModel") (As := [.int 0]) (rest := []) ⟨hx, hb, hml, hown, htx⟩ (gM_fresh l hl9 D cT aK aV s.heap.size n aM ad rd gd vad st (0 : Int32) o3 hq4) ⟨callB_of 1 htx (xw_goodC kw_6_16) rfl rfl rfl (htx _ kw_1_5) (htx _ kw_6_13) ⟨by decide, by decide, by decide +kernel⟩ ⟨Nat.le_of_ble_eq_true rfl, Nat.le_of_ble_eq_true rfl⟩, (htx _ kw_6_15), (htx _ kp_M_fresh)⟩ ⟨xPre_blind, va_recv hK hP (ci := 5) rfl (q0 := 0) rfl, (fun U hU hW => ⟨rfl, xPre_of hZ hS hFc hP hD hK U hU hW⟩)⟩ rfl rfl hl.1 rfl (xm_room (Nat.le_of_ble_eq_true rfl)) dM_at_163 ⟨hm5.1, hm5.2⟩) hS (fun q _ h => hFc q h) hFc (fun r6 u9 t H1 locs ht hvm hr9 hB hz1 hk1 hS => ?_)
                        obtain ⟨hP1, hK1, hD1⟩ := hB
                        rw [ht] at hP1
                        obtain ⟨ad7, gd8, vad9⟩ := u9
                        obtain ⟨hr9, hv10, hn11⟩ := hr9
                        have hP : va_P D xcl (xMw cT aM ad7 rd gd8 vad9 o3.2.2.2 []) H1 := hP1
                        have hD : va_D A (xMw cT aM ad7 rd gd8 vad9 o3.2.2.2 []) := hD1.weaken (fun k q _ h => hFc q.1 h)
                        generalize H1 = H at hP hS ⊢
                        have hE9 : ∀ p, p < xct st → vad9 p = vad p := fun p h => (hv10 p (Nat.lt_of_lt_of_le h hN)).trans (hE p h)
                        have hE := hE9
                        have hN : xct st ≤ xct o3.2.2.2 := Nat.le_trans hN hn11
                        rw [hr9]
                        refine W.eq (g2 := F0 m 166 ls [xv vad9 o3.2.2.1]) (by first | rfl | (skip; rfl)) ?_
                        refine lv_goto (tgt := 176) hx hb dM_at_166 (by decide) ?_
                        obtain rfl := Option.some.inj hf
                        exact W.aret (v := xv vad9 o3.2.2.1) hx hb hr (Or.inl ⟨_, rfl⟩) (xvor _ _) (fun t ht hW => ⟨⟨xca vad9 o3.2.2.1, (ad7, gd8, vad9), rfl, ⟨rfl, hE, hN⟩, by rw [ht]; exact hP, va_K.moved hW.alike hK, hD⟩, hS.F ht⟩) hS.2.2 dM_at_176
                · rw [if_neg hc] at hf
                  refine lv_aload_n hx hb dM_at_112 rfl (lv_at hl 0 rfl) ?_
                  refine lv_iconst (v := 1) hx hb dM_at_113 (by decide) ?_
                  obtain ⟨o3, hq4, hf⟩ := xbind hf
                  have hl := lv_sub (l' := [(0, .ref aM)]) hl [0] rfl
                  by_cases hk5 : o3.1 = 1
                  · rw [if_pos hk5] at hf
                    obtain ⟨hm6, hf⟩ := xmoE hf
                    obtain rfl := Option.some.inj hf
                    exact absurd (show (1 : Nat) = 0 from hkd) (by decide)
                  rw [if_neg hk5] at hf
                  exact nomatch hf
              · rw [if_pos hc] at hf
                refine lv_aload_n hx hb dM_at_97 rfl (lv_at hl 0 rfl) ?_
                refine xm_aload_n hx hb (xvor _ _) dM_at_98 rfl (lv_at hl 1 rfl) ?_
                refine xm_aload_n hx hb (xvor _ _) dM_at_99 rfl (lv_at hl 2 rfl) ?_
                obtain ⟨o3, hq4, hf⟩ := xbind hf
                have hl := lv_sub (l' := [(0, .ref aM)]) hl [0] rfl
                by_cases hk5 : o3.1 = 0
                · rw [if_pos hk5] at hf
                  obtain ⟨hm6, hf⟩ := xmoE hf
                  have hFc := xm_free hD hS hA
                  refine va_callq (va_runV (C := "ValueBenchModel") (As := [xv vad c0, xv vad c1]) (rest := []) ⟨hx, hb, hml, hown, htx⟩ (gM_indices l hl9 D cT aK aV s.heap.size d n aM ad rd gd vad st c0 c1 o3 hq4 hk5) ⟨callB_of 2 htx (xw_goodC kw_7_103) rfl rfl rfl (htx _ kw_1_5) (htx _ kw_7_100) ⟨by decide, by decide, by decide +kernel⟩ ⟨(by show (16 * d + 8) + 1 ≤ 16 * d + 9; omega), (by show 8 + (9 + 11) + (400 * d + 147) ≤ 400 * d + 175; omega)⟩, (htx _ kw_7_102), (htx _ kp_M_indices)⟩ ⟨xPre_blind, va_recv hK hP (ci := 5) rfl (q0 := 0) rfl, (fun U hU hW => ⟨rfl, xPre_of hZ hS hFc hP hD hK U hU hW⟩)⟩ rfl rfl hl.1 rfl (xm_room (Nat.le_of_ble_eq_true rfl)) dM_at_100 ⟨hm6.1, hm6.2⟩) hS (fun q _ h => hFc q h) hFc (fun r7 u9 t H1 locs ht hvm hr9 hB hz1 hk1 hS => ?_)
                  obtain ⟨hP1, hK1, hD1⟩ := hB
                  rw [ht] at hP1
                  obtain ⟨ad8, gd9, vad10⟩ := u9
                  obtain ⟨hr9, hv11, hn12⟩ := hr9
                  have hP : va_P D xcl (xMw cT aM ad8 rd gd9 vad10 o3.2.2.2.2 []) H1 := hP1
                  have hD : va_D A (xMw cT aM ad8 rd gd9 vad10 o3.2.2.2.2 []) := hD1.weaken (fun k q _ h => hFc q.1 h)
                  generalize H1 = H at hP hS ⊢
                  have hE9 : ∀ p, p < xct st → vad10 p = vad p := fun p h => (hv11 p (Nat.lt_of_lt_of_le h hN)).trans (hE p h)
                  have hE := hE9
                  have hN : xct st ≤ xct o3.2.2.2.2 := Nat.le_trans hN hn12
                  rw [hr9]
                  refine W.eq (g2 := F0 m 103 ls [xv vad10 o3.2.2.2.1]) (by first | rfl | (skip; rfl)) ?_
                  obtain rfl := Option.some.inj hf
                  exact W.aret (v := xv vad10 o3.2.2.2.1) hx hb hr (Or.inl ⟨_, rfl⟩) (xvor _ _) (fun t ht hW => ⟨⟨xca vad10 o3.2.2.2.1, (ad8, gd9, vad10), rfl, ⟨rfl, hE, hN⟩, by rw [ht]; exact hP, va_K.moved hW.alike hK, hD⟩, hS.F ht⟩) hS.2.2 dM_at_103
                rw [if_neg hk5] at hf
                by_cases hk13 : o3.1 = 1
                · rw [if_pos hk13] at hf
                  obtain ⟨hm14, hf⟩ := xmoE hf
                  obtain rfl := Option.some.inj hf
                  exact absurd (show (1 : Nat) = 0 from hkd) (by decide)
                rw [if_neg hk13] at hf
                by_cases hk21 : o3.1 = 2
                · rw [if_pos hk21] at hf
                  obtain ⟨hm22, hf⟩ := xmoE hf
                  obtain rfl := Option.some.inj hf
                  exact absurd (show (2 : Nat) = 0 from hkd) (by decide)
                rw [if_neg hk21] at hf
                exact nomatch hf
            · rw [if_neg hc] at hf
              refine lv_aload_n hx hb dM_at_83 rfl (lv_at hl 0 rfl) ?_
              refine lv_iconst (v := 1) hx hb dM_at_84 (by decide) ?_
              obtain ⟨o3, hq4, hf⟩ := xbind hf
              have hl := lv_sub (l' := [(0, .ref aM)]) hl [0] rfl
              by_cases hk5 : o3.1 = 1
              · rw [if_pos hk5] at hf
                obtain ⟨hm6, hf⟩ := xmoE hf
                obtain rfl := Option.some.inj hf
                exact absurd (show (1 : Nat) = 0 from hkd) (by decide)
              rw [if_neg hk5] at hf
              exact nomatch hf
          · rw [if_pos hc] at hf
            refine xm_aload_n hx hb (xvor _ _) dM_at_41 rfl (lv_at hl 2 rfl) ?_
            refine xm_vget (v := .int ((xpi st 0) (c1 - 1))) hx hb htx hown hK hP 0 (by decide) hg2 rfl ((hZ.1 (93, "kind", "I") (List.mem_of_getElem? (i := 0) rfl)).use rfl) rfl dM_at_42 ?_
            refine lv_iconst (v := 4) hx hb dM_at_45 (by decide) ?_
            refine lv_icmp_ne (tgt := 75) hx hb dM_at_46 (by decide) (fun hc => ?_) (fun hc => ?_)
            · rw [if_neg hc] at hf
              refine xm_aload_n hx hb (xvor _ _) dM_at_75 rfl (lv_at hl 1 rfl) ?_
              refine xm_vget (v := .int ((xpi st 0) (c0 - 1))) hx hb htx hown hK hP 0 (by decide) hg1 rfl ((hZ.1 (93, "kind", "I") (List.mem_of_getElem? (i := 0) rfl)).use rfl) rfl dM_at_76 ?_
              refine lv_iconst (v := 5) hx hb dM_at_79 (by decide) ?_
              refine lv_icmp_eq (tgt := 89) hx hb dM_at_80 (by decide) (fun hc => ?_) (fun hc => ?_)
              · rw [if_pos hc] at hf
                refine xm_aload_n hx hb (xvor _ _) dM_at_89 rfl (lv_at hl 2 rfl) ?_
                refine xm_vget (v := .int ((xpi st 0) (c1 - 1))) hx hb htx hown hK hP 0 (by decide) hg2 rfl ((hZ.1 (93, "kind", "I") (List.mem_of_getElem? (i := 0) rfl)).use rfl) rfl dM_at_90 ?_
                refine lv_iconst (v := 5) hx hb dM_at_93 (by decide) ?_
                refine lv_icmp_ne (tgt := 104) hx hb dM_at_94 (by decide) (fun hc => ?_) (fun hc => ?_)
                · rw [if_neg hc] at hf
                  refine xm_aload_n hx hb (xvor _ _) dM_at_104 rfl (lv_at hl 2 rfl) ?_
                  refine xm_vget (v := .int ((xpi st 0) (c1 - 1))) hx hb htx hown hK hP 0 (by decide) hg2 rfl ((hZ.1 (93, "kind", "I") (List.mem_of_getElem? (i := 0) rfl)).use rfl) rfl dM_at_105 ?_
                  refine lv_iconst (v := 3) hx hb dM_at_108 (by decide) ?_
                  refine lv_icmp_eq (tgt := 118) hx hb dM_at_109 (by decide) (fun hc => ?_) (fun hc => ?_)
                  · rw [if_pos hc] at hf
                    refine xm_aload_n hx hb (xvor _ _) dM_at_118 rfl (lv_at hl 2 rfl) ?_
                    refine xm_vget (v := .long ((xpl st) (c1 - 1))) hx hb htx hown hK hP 1 (by decide) hg2 rfl ((hZ.1 (96, "n", "J") (List.mem_of_getElem? (i := 1) rfl)).use rfl) rfl dM_at_119 ?_
                    refine lv_lconst (v := 0) hx hb dM_at_122 (by decide) ?_
                    refine W.lcmp hx hb dM_at_123 ?_
                    refine lv_if_ge (tgt := 140) hx hb dM_at_124 (by decide) (fun hc => ?_) (fun hc => ?_)
                    · rw [if_pos hc] at hf
                      refine xm_aload_n hx hb (xvor _ _) dM_at_140 rfl (lv_at hl 2 rfl) ?_
                      refine xm_vget (v := .long ((xpl st) (c1 - 1))) hx hb htx hown hK hP 1 (by decide) hg2 rfl ((hZ.1 (96, "n", "J") (List.mem_of_getElem? (i := 1) rfl)).use rfl) rfl dM_at_141 ?_
                      refine lv_lstore_n (lv' := [(3, .long ((xpl st) (c1 - 1))), (0, .ref aM), (1, xv vad c0), (2, xv vad c1)]) hx hb dM_at_144 rfl hl (by decide) (by simp only [List.filter, xvcat, xrscat, xcI, xcL, xcR, xcN]; rfl) (fun ls hl => ?_)
                      refine lv_lload_n hx hb dM_at_145 rfl (lv_at hl 0 rfl) ?_
                      refine lv_lconst (v := 0) hx hb dM_at_146 (by decide) ?_
                      refine W.lcmp hx hb dM_at_147 ?_
                      refine lv_if_lt (tgt := 161) hx hb dM_at_148 (by decide) (fun hc => ?_) (fun hc => ?_)
                      · rw [if_pos hc] at hf
                        refine lv_aload_n hx hb dM_at_161 rfl (lv_at hl 1 rfl) ?_
                        refine lv_iconst (v := 0) hx hb dM_at_162 (by decide) ?_
                        obtain ⟨o3, hq4, hf⟩ := xbind hf
                        have hl := lv_sub (l' := [(3, .long ((xpl st) (c1 - 1))), (0, .ref aM)]) hl [0, 1] rfl
                        obtain ⟨hm5, hf⟩ := xmoE hf
                        have hFc := xm_free hD hS hA
                        refine va_callq (va_runV (C := "ValueBenchModel") (As := [.int 0]) (rest := []) ⟨hx, hb, hml, hown, htx⟩ (gM_fresh l hl9 D cT aK aV s.heap.size n aM ad rd gd vad st (0 : Int32) o3 hq4) ⟨callB_of 1 htx (xw_goodC kw_6_16) rfl rfl rfl (htx _ kw_1_5) (htx _ kw_6_13) ⟨by decide, by decide, by decide +kernel⟩ ⟨Nat.le_of_ble_eq_true rfl, Nat.le_of_ble_eq_true rfl⟩, (htx _ kw_6_15), (htx _ kp_M_fresh)⟩ ⟨xPre_blind, va_recv hK hP (ci := 5) rfl (q0 := 0) rfl, (fun U hU hW => ⟨rfl, xPre_of hZ hS hFc hP hD hK U hU hW⟩)⟩ rfl rfl hl.1 rfl (xm_room (Nat.le_of_ble_eq_true rfl)) dM_at_163 ⟨hm5.1, hm5.2⟩) hS (fun q _ h => hFc q h) hFc (fun r6 u9 t H1 locs ht hvm hr9 hB hz1 hk1 hS => ?_)
                        obtain ⟨hP1, hK1, hD1⟩ := hB
                        rw [ht] at hP1
                        obtain ⟨ad7, gd8, vad9⟩ := u9
                        obtain ⟨hr9, hv10, hn11⟩ := hr9
                        have hP : va_P D xcl (xMw cT aM ad7 rd gd8 vad9 o3.2.2.2 []) H1 := hP1
                        have hD : va_D A (xMw cT aM ad7 rd gd8 vad9 o3.2.2.2 []) := hD1.weaken (fun k q _ h => hFc q.1 h)
                        generalize H1 = H at hP hS ⊢
                        have hE9 : ∀ p, p < xct st → vad9 p = vad p := fun p h => (hv10 p (Nat.lt_of_lt_of_le h hN)).trans (hE p h)
                        have hE := hE9
                        have hN : xct st ≤ xct o3.2.2.2 := Nat.le_trans hN hn11
                        rw [hr9]
                        refine W.eq (g2 := F0 m 166 ls [xv vad9 o3.2.2.1]) (by first | rfl | (skip; rfl)) ?_
                        refine lv_goto (tgt := 176) hx hb dM_at_166 (by decide) ?_
                        obtain rfl := Option.some.inj hf
                        exact W.aret (v := xv vad9 o3.2.2.1) hx hb hr (Or.inl ⟨_, rfl⟩) (xvor _ _) (fun t ht hW => ⟨⟨xca vad9 o3.2.2.1, (ad7, gd8, vad9), rfl, ⟨rfl, hE, hN⟩, by rw [ht]; exact hP, va_K.moved hW.alike hK, hD⟩, hS.F ht⟩) hS.2.2 dM_at_176
                      · rw [if_neg hc] at hf
                        refine lv_lload_n hx hb dM_at_151 rfl (lv_at hl 0 rfl) ?_
                        refine xm_aload_n hx hb (xvor _ _) dM_at_152 rfl (lv_at hl 2 rfl) ?_
                        refine xm_vget (v := .int ((xpi st 3) (c0 - 1))) hx hb htx hown hK hP 3 (by decide) hg1 rfl ((hZ.1 (103, "count", "I") (List.mem_of_getElem? (i := 3) rfl)).use rfl) rfl dM_at_153 ?_
                        refine lv_i2l hx hb dM_at_156 rfl ?_
                        refine W.lcmp hx hb dM_at_157 ?_
                        refine lv_if_lt (tgt := 169) hx hb dM_at_158 (by decide) (fun hc => ?_) (fun hc => ?_)
                        · rw [if_pos hc] at hf
                          refine lv_aload_n hx hb dM_at_169 rfl (lv_at hl 1 rfl) ?_
                          refine xm_aload_n hx hb (xvor _ _) dM_at_170 rfl (lv_at hl 2 rfl) ?_
                          refine lv_lload_n hx hb dM_at_171 rfl (lv_at hl 0 rfl) ?_
                          refine lv_l2i hx hb dM_at_172 rfl ?_
                          obtain ⟨o3, hq4, hf⟩ := xbind hf
                          have hl := lv_sub (l' := [(3, .long ((xpl st) (c1 - 1))), (0, .ref aM)]) hl [0, 1] rfl
                          have hFc := xm_free hD hS hA
                          refine va_callq (va_runV (C := "ValueBenchModel") (As := [xv vad c0, .int ((xpl st) (c1 - 1)).toInt32]) (rest := []) ⟨hx, hb, hml, hown, htx⟩ (gM_kid l hl9 D cT aK aV s.heap.size n aM ad rd gd vad st c0 (((xpl st) (c1 - 1)).toInt32) o3 hq4) ⟨callB_of 2 htx (xw_goodC kw_6_158) rfl rfl rfl (htx _ kw_1_5) (htx _ kw_6_155) ⟨by decide, by decide, by decide +kernel⟩ ⟨Nat.le_of_ble_eq_true rfl, Nat.le_of_ble_eq_true rfl⟩, (htx _ kw_6_157), (htx _ kp_M_kid)⟩ ⟨xPre_blind, va_recv hK hP (ci := 5) rfl (q0 := 0) rfl, (fun U hU hW => ⟨rfl, xPre_of hZ hS hFc hP hD hK U hU hW⟩)⟩ rfl rfl hl.1 rfl (xm_room (Nat.le_of_ble_eq_true rfl)) dM_at_173 ⟨Nat.zero_le _, Nat.zero_le _⟩) hS (fun q _ h => hFc q h) hFc (fun r5 u9 t H1 locs ht hvm hr9 hB hz1 hk1 hS => ?_)
                          obtain ⟨hP1, hK1, hD1⟩ := hB
                          rw [ht] at hP1
                          have hP : va_P D xcl (xMw cT aM ad rd gd vad st []) H1 := hP1
                          have hD : va_D A (xMw cT aM ad rd gd vad st []) := hD1.weaken (fun k q _ h => hFc q.1 h)
                          generalize H1 = H at hP hS ⊢
                          rw [hr9]
                          refine W.eq (g2 := F0 m 176 ls [xv vad o3]) (by first | rfl | (skip; rfl)) ?_
                          obtain rfl := Option.some.inj hf
                          exact W.aret (v := xv vad o3) hx hb hr (Or.inl ⟨_, rfl⟩) (xvor _ _) (fun t ht hW => ⟨⟨xca vad o3, (ad, gd, vad), rfl, ⟨rfl, hE, hN⟩, by rw [ht]; exact hP, va_K.moved hW.alike hK, hD⟩, hS.F ht⟩) hS.2.2 dM_at_176
                        · rw [if_neg hc] at hf
                          refine lv_aload_n hx hb dM_at_161 rfl (lv_at hl 1 rfl) ?_
                          refine lv_iconst (v := 0) hx hb dM_at_162 (by decide) ?_
                          obtain ⟨o3, hq4, hf⟩ := xbind hf
                          have hl := lv_sub (l' := [(3, .long ((xpl st) (c1 - 1))), (0, .ref aM)]) hl [0, 1] rfl
                          obtain ⟨hm5, hf⟩ := xmoE hf
                          have hFc := xm_free hD hS hA
                          refine va_callq (va_runV (C := "ValueBenchModel") (As := [.int 0]) (rest := []) ⟨hx, hb, hml, hown, htx⟩ (gM_fresh l hl9 D cT aK aV s.heap.size n aM ad rd gd vad st (0 : Int32) o3 hq4) ⟨callB_of 1 htx (xw_goodC kw_6_16) rfl rfl rfl (htx _ kw_1_5) (htx _ kw_6_13) ⟨by decide, by decide, by decide +kernel⟩ ⟨Nat.le_of_ble_eq_true rfl, Nat.le_of_ble_eq_true rfl⟩, (htx _ kw_6_15), (htx _ kp_M_fresh)⟩ ⟨xPre_blind, va_recv hK hP (ci := 5) rfl (q0 := 0) rfl, (fun U hU hW => ⟨rfl, xPre_of hZ hS hFc hP hD hK U hU hW⟩)⟩ rfl rfl hl.1 rfl (xm_room (Nat.le_of_ble_eq_true rfl)) dM_at_163 ⟨hm5.1, hm5.2⟩) hS (fun q _ h => hFc q h) hFc (fun r6 u9 t H1 locs ht hvm hr9 hB hz1 hk1 hS => ?_)
                          obtain ⟨hP1, hK1, hD1⟩ := hB
                          rw [ht] at hP1
                          obtain ⟨ad7, gd8, vad9⟩ := u9
                          obtain ⟨hr9, hv10, hn11⟩ := hr9
                          have hP : va_P D xcl (xMw cT aM ad7 rd gd8 vad9 o3.2.2.2 []) H1 := hP1
                          have hD : va_D A (xMw cT aM ad7 rd gd8 vad9 o3.2.2.2 []) := hD1.weaken (fun k q _ h => hFc q.1 h)
                          generalize H1 = H at hP hS ⊢
                          have hE9 : ∀ p, p < xct st → vad9 p = vad p := fun p h => (hv10 p (Nat.lt_of_lt_of_le h hN)).trans (hE p h)
                          have hE := hE9
                          have hN : xct st ≤ xct o3.2.2.2 := Nat.le_trans hN hn11
                          rw [hr9]
                          refine W.eq (g2 := F0 m 166 ls [xv vad9 o3.2.2.1]) (by first | rfl | (skip; rfl)) ?_
                          refine lv_goto (tgt := 176) hx hb dM_at_166 (by decide) ?_
                          obtain rfl := Option.some.inj hf
                          exact W.aret (v := xv vad9 o3.2.2.1) hx hb hr (Or.inl ⟨_, rfl⟩) (xvor _ _) (fun t ht hW => ⟨⟨xca vad9 o3.2.2.1, (ad7, gd8, vad9), rfl, ⟨rfl, hE, hN⟩, by rw [ht]; exact hP, va_K.moved hW.alike hK, hD⟩, hS.F ht⟩) hS.2.2 dM_at_176
                    · rw [if_neg hc] at hf
                      refine xm_aload_n hx hb (xvor _ _) dM_at_127 rfl (lv_at hl 2 rfl) ?_
                      refine xm_vget (v := .long ((xpl st) (c1 - 1))) hx hb htx hown hK hP 1 (by decide) hg2 rfl ((hZ.1 (96, "n", "J") (List.mem_of_getElem? (i := 1) rfl)).use rfl) rfl dM_at_128 ?_
                      refine xm_aload_n hx hb (xvor _ _) dM_at_131 rfl (lv_at hl 1 rfl) ?_
                      refine xm_vget (v := .int ((xpi st 3) (c0 - 1))) hx hb htx hown hK hP 3 (by decide) hg1 rfl ((hZ.1 (103, "count", "I") (List.mem_of_getElem? (i := 3) rfl)).use rfl) rfl dM_at_132 ?_
                      refine lv_i2l hx hb dM_at_135 rfl ?_
                      refine lv_ladd hx hb dM_at_136 ?_
                      refine lv_goto (tgt := 144) hx hb dM_at_137 (by decide) ?_
                      refine lv_lstore_n (lv' := [(3, .long (((xpl st) (c1 - 1)) + ((xpi st 3) (c0 - 1)).toInt64)), (0, .ref aM), (1, xv vad c0), (2, xv vad c1)]) hx hb dM_at_144 rfl hl (by decide) (by simp only [List.filter, xvcat, xrscat, xcI, xcL, xcR, xcN]; rfl) (fun ls hl => ?_)
                      refine lv_lload_n hx hb dM_at_145 rfl (lv_at hl 0 rfl) ?_
                      refine lv_lconst (v := 0) hx hb dM_at_146 (by decide) ?_
                      refine W.lcmp hx hb dM_at_147 ?_
                      refine lv_if_lt (tgt := 161) hx hb dM_at_148 (by decide) (fun hc => ?_) (fun hc => ?_)
                      · rw [if_pos hc] at hf
                        refine lv_aload_n hx hb dM_at_161 rfl (lv_at hl 1 rfl) ?_
                        refine lv_iconst (v := 0) hx hb dM_at_162 (by decide) ?_
                        obtain ⟨o3, hq4, hf⟩ := xbind hf
                        have hl := lv_sub (l' := [(3, .long (((xpl st) (c1 - 1)) + ((xpi st 3) (c0 - 1)).toInt64)), (0, .ref aM)]) hl [0, 1] rfl
                        obtain ⟨hm5, hf⟩ := xmoE hf
                        have hFc := xm_free hD hS hA
                        refine va_callq (va_runV (C := "ValueBenchModel") (As := [.int 0]) (rest := []) ⟨hx, hb, hml, hown, htx⟩ (gM_fresh l hl9 D cT aK aV s.heap.size n aM ad rd gd vad st (0 : Int32) o3 hq4) ⟨callB_of 1 htx (xw_goodC kw_6_16) rfl rfl rfl (htx _ kw_1_5) (htx _ kw_6_13) ⟨by decide, by decide, by decide +kernel⟩ ⟨Nat.le_of_ble_eq_true rfl, Nat.le_of_ble_eq_true rfl⟩, (htx _ kw_6_15), (htx _ kp_M_fresh)⟩ ⟨xPre_blind, va_recv hK hP (ci := 5) rfl (q0 := 0) rfl, (fun U hU hW => ⟨rfl, xPre_of hZ hS hFc hP hD hK U hU hW⟩)⟩ rfl rfl hl.1 rfl (xm_room (Nat.le_of_ble_eq_true rfl)) dM_at_163 ⟨hm5.1, hm5.2⟩) hS (fun q _ h => hFc q h) hFc (fun r6 u9 t H1 locs ht hvm hr9 hB hz1 hk1 hS => ?_)
                        obtain ⟨hP1, hK1, hD1⟩ := hB
                        rw [ht] at hP1
                        obtain ⟨ad7, gd8, vad9⟩ := u9
                        obtain ⟨hr9, hv10, hn11⟩ := hr9
                        have hP : va_P D xcl (xMw cT aM ad7 rd gd8 vad9 o3.2.2.2 []) H1 := hP1
                        have hD : va_D A (xMw cT aM ad7 rd gd8 vad9 o3.2.2.2 []) := hD1.weaken (fun k q _ h => hFc q.1 h)
                        generalize H1 = H at hP hS ⊢
                        have hE9 : ∀ p, p < xct st → vad9 p = vad p := fun p h => (hv10 p (Nat.lt_of_lt_of_le h hN)).trans (hE p h)
                        have hE := hE9
                        have hN : xct st ≤ xct o3.2.2.2 := Nat.le_trans hN hn11
                        rw [hr9]
                        refine W.eq (g2 := F0 m 166 ls [xv vad9 o3.2.2.1]) (by first | rfl | (skip; rfl)) ?_
                        refine lv_goto (tgt := 176) hx hb dM_at_166 (by decide) ?_
                        obtain rfl := Option.some.inj hf
                        exact W.aret (v := xv vad9 o3.2.2.1) hx hb hr (Or.inl ⟨_, rfl⟩) (xvor _ _) (fun t ht hW => ⟨⟨xca vad9 o3.2.2.1, (ad7, gd8, vad9), rfl, ⟨rfl, hE, hN⟩, by rw [ht]; exact hP, va_K.moved hW.alike hK, hD⟩, hS.F ht⟩) hS.2.2 dM_at_176
                      · rw [if_neg hc] at hf
                        refine lv_lload_n hx hb dM_at_151 rfl (lv_at hl 0 rfl) ?_
                        refine xm_aload_n hx hb (xvor _ _) dM_at_152 rfl (lv_at hl 2 rfl) ?_
                        refine xm_vget (v := .int ((xpi st 3) (c0 - 1))) hx hb htx hown hK hP 3 (by decide) hg1 rfl ((hZ.1 (103, "count", "I") (List.mem_of_getElem? (i := 3) rfl)).use rfl) rfl dM_at_153 ?_
                        refine lv_i2l hx hb dM_at_156 rfl ?_
                        refine W.lcmp hx hb dM_at_157 ?_
                        refine lv_if_lt (tgt := 169) hx hb dM_at_158 (by decide) (fun hc => ?_) (fun hc => ?_)
                        · rw [if_pos hc] at hf
                          refine lv_aload_n hx hb dM_at_169 rfl (lv_at hl 1 rfl) ?_
                          refine xm_aload_n hx hb (xvor _ _) dM_at_170 rfl (lv_at hl 2 rfl) ?_
                          refine lv_lload_n hx hb dM_at_171 rfl (lv_at hl 0 rfl) ?_
                          refine lv_l2i hx hb dM_at_172 rfl ?_
                          obtain ⟨o3, hq4, hf⟩ := xbind hf
                          have hl := lv_sub (l' := [(3, .long (((xpl st) (c1 - 1)) + ((xpi st 3) (c0 - 1)).toInt64)), (0, .ref aM)]) hl [0, 1] rfl
                          have hFc := xm_free hD hS hA
                          refine va_callq (va_runV (C := "ValueBenchModel") (As := [xv vad c0, .int (((xpl st) (c1 - 1)) + ((xpi st 3) (c0 - 1)).toInt64).toInt32]) (rest := []) ⟨hx, hb, hml, hown, htx⟩ (gM_kid l hl9 D cT aK aV s.heap.size n aM ad rd gd vad st c0 ((((xpl st) (c1 - 1)) + ((xpi st 3) (c0 - 1)).toInt64).toInt32) o3 hq4) ⟨callB_of 2 htx (xw_goodC kw_6_158) rfl rfl rfl (htx _ kw_1_5) (htx _ kw_6_155) ⟨by decide, by decide, by decide +kernel⟩ ⟨Nat.le_of_ble_eq_true rfl, Nat.le_of_ble_eq_true rfl⟩, (htx _ kw_6_157), (htx _ kp_M_kid)⟩ ⟨xPre_blind, va_recv hK hP (ci := 5) rfl (q0 := 0) rfl, (fun U hU hW => ⟨rfl, xPre_of hZ hS hFc hP hD hK U hU hW⟩)⟩ rfl rfl hl.1 rfl (xm_room (Nat.le_of_ble_eq_true rfl)) dM_at_173 ⟨Nat.zero_le _, Nat.zero_le _⟩) hS (fun q _ h => hFc q h) hFc (fun r5 u9 t H1 locs ht hvm hr9 hB hz1 hk1 hS => ?_)
                          obtain ⟨hP1, hK1, hD1⟩ := hB
                          rw [ht] at hP1
                          have hP : va_P D xcl (xMw cT aM ad rd gd vad st []) H1 := hP1
                          have hD : va_D A (xMw cT aM ad rd gd vad st []) := hD1.weaken (fun k q _ h => hFc q.1 h)
                          generalize H1 = H at hP hS ⊢
                          rw [hr9]
                          refine W.eq (g2 := F0 m 176 ls [xv vad o3]) (by first | rfl | (skip; rfl)) ?_
                          obtain rfl := Option.some.inj hf
                          exact W.aret (v := xv vad o3) hx hb hr (Or.inl ⟨_, rfl⟩) (xvor _ _) (fun t ht hW => ⟨⟨xca vad o3, (ad, gd, vad), rfl, ⟨rfl, hE, hN⟩, by rw [ht]; exact hP, va_K.moved hW.alike hK, hD⟩, hS.F ht⟩) hS.2.2 dM_at_176
                        · rw [if_neg hc] at hf
                          refine lv_aload_n hx hb dM_at_161 rfl (lv_at hl 1 rfl) ?_
                          refine lv_iconst (v := 0) hx hb dM_at_162 (by decide) ?_
                          obtain ⟨o3, hq4, hf⟩ := xbind hf
                          have hl := lv_sub (l' := [(3, .long (((xpl st) (c1 - 1)) + ((xpi st 3) (c0 - 1)).toInt64)), (0, .ref aM)]) hl [0, 1] rfl
                          obtain ⟨hm5, hf⟩ := xmoE hf
                          have hFc := xm_free hD hS hA
                          refine va_callq (va_runV (C := "ValueBenchModel") (As := [.int 0]) (rest := []) ⟨hx, hb, hml, hown, htx⟩ (gM_fresh l hl9 D cT aK aV s.heap.size n aM ad rd gd vad st (0 : Int32) o3 hq4) ⟨callB_of 1 htx (xw_goodC kw_6_16) rfl rfl rfl (htx _ kw_1_5) (htx _ kw_6_13) ⟨by decide, by decide, by decide +kernel⟩ ⟨Nat.le_of_ble_eq_true rfl, Nat.le_of_ble_eq_true rfl⟩, (htx _ kw_6_15), (htx _ kp_M_fresh)⟩ ⟨xPre_blind, va_recv hK hP (ci := 5) rfl (q0 := 0) rfl, (fun U hU hW => ⟨rfl, xPre_of hZ hS hFc hP hD hK U hU hW⟩)⟩ rfl rfl hl.1 rfl (xm_room (Nat.le_of_ble_eq_true rfl)) dM_at_163 ⟨hm5.1, hm5.2⟩) hS (fun q _ h => hFc q h) hFc (fun r6 u9 t H1 locs ht hvm hr9 hB hz1 hk1 hS => ?_)
                          obtain ⟨hP1, hK1, hD1⟩ := hB
                          rw [ht] at hP1
                          obtain ⟨ad7, gd8, vad9⟩ := u9
                          obtain ⟨hr9, hv10, hn11⟩ := hr9
                          have hP : va_P D xcl (xMw cT aM ad7 rd gd8 vad9 o3.2.2.2 []) H1 := hP1
                          have hD : va_D A (xMw cT aM ad7 rd gd8 vad9 o3.2.2.2 []) := hD1.weaken (fun k q _ h => hFc q.1 h)
                          generalize H1 = H at hP hS ⊢
                          have hE9 : ∀ p, p < xct st → vad9 p = vad p := fun p h => (hv10 p (Nat.lt_of_lt_of_le h hN)).trans (hE p h)
                          have hE := hE9
                          have hN : xct st ≤ xct o3.2.2.2 := Nat.le_trans hN hn11
                          rw [hr9]
                          refine W.eq (g2 := F0 m 166 ls [xv vad9 o3.2.2.1]) (by first | rfl | (skip; rfl)) ?_
                          refine lv_goto (tgt := 176) hx hb dM_at_166 (by decide) ?_
                          obtain rfl := Option.some.inj hf
                          exact W.aret (v := xv vad9 o3.2.2.1) hx hb hr (Or.inl ⟨_, rfl⟩) (xvor _ _) (fun t ht hW => ⟨⟨xca vad9 o3.2.2.1, (ad7, gd8, vad9), rfl, ⟨rfl, hE, hN⟩, by rw [ht]; exact hP, va_K.moved hW.alike hK, hD⟩, hS.F ht⟩) hS.2.2 dM_at_176
                  · rw [if_neg hc] at hf
                    refine lv_aload_n hx hb dM_at_112 rfl (lv_at hl 0 rfl) ?_
                    refine lv_iconst (v := 1) hx hb dM_at_113 (by decide) ?_
                    obtain ⟨o3, hq4, hf⟩ := xbind hf
                    have hl := lv_sub (l' := [(0, .ref aM)]) hl [0] rfl
                    by_cases hk5 : o3.1 = 1
                    · rw [if_pos hk5] at hf
                      obtain ⟨hm6, hf⟩ := xmoE hf
                      obtain rfl := Option.some.inj hf
                      exact absurd (show (1 : Nat) = 0 from hkd) (by decide)
                    rw [if_neg hk5] at hf
                    exact nomatch hf
                · rw [if_pos hc] at hf
                  refine lv_aload_n hx hb dM_at_97 rfl (lv_at hl 0 rfl) ?_
                  refine xm_aload_n hx hb (xvor _ _) dM_at_98 rfl (lv_at hl 1 rfl) ?_
                  refine xm_aload_n hx hb (xvor _ _) dM_at_99 rfl (lv_at hl 2 rfl) ?_
                  obtain ⟨o3, hq4, hf⟩ := xbind hf
                  have hl := lv_sub (l' := [(0, .ref aM)]) hl [0] rfl
                  by_cases hk5 : o3.1 = 0
                  · rw [if_pos hk5] at hf
                    obtain ⟨hm6, hf⟩ := xmoE hf
                    have hFc := xm_free hD hS hA
                    refine va_callq (va_runV (C := "ValueBenchModel") (As := [xv vad c0, xv vad c1]) (rest := []) ⟨hx, hb, hml, hown, htx⟩ (gM_indices l hl9 D cT aK aV s.heap.size d n aM ad rd gd vad st c0 c1 o3 hq4 hk5) ⟨callB_of 2 htx (xw_goodC kw_7_103) rfl rfl rfl (htx _ kw_1_5) (htx _ kw_7_100) ⟨by decide, by decide, by decide +kernel⟩ ⟨(by show (16 * d + 8) + 1 ≤ 16 * d + 9; omega), (by show 8 + (9 + 11) + (400 * d + 147) ≤ 400 * d + 175; omega)⟩, (htx _ kw_7_102), (htx _ kp_M_indices)⟩ ⟨xPre_blind, va_recv hK hP (ci := 5) rfl (q0 := 0) rfl, (fun U hU hW => ⟨rfl, xPre_of hZ hS hFc hP hD hK U hU hW⟩)⟩ rfl rfl hl.1 rfl (xm_room (Nat.le_of_ble_eq_true rfl)) dM_at_100 ⟨hm6.1, hm6.2⟩) hS (fun q _ h => hFc q h) hFc (fun r7 u9 t H1 locs ht hvm hr9 hB hz1 hk1 hS => ?_)
                    obtain ⟨hP1, hK1, hD1⟩ := hB
                    rw [ht] at hP1
                    obtain ⟨ad8, gd9, vad10⟩ := u9
                    obtain ⟨hr9, hv11, hn12⟩ := hr9
                    have hP : va_P D xcl (xMw cT aM ad8 rd gd9 vad10 o3.2.2.2.2 []) H1 := hP1
                    have hD : va_D A (xMw cT aM ad8 rd gd9 vad10 o3.2.2.2.2 []) := hD1.weaken (fun k q _ h => hFc q.1 h)
                    generalize H1 = H at hP hS ⊢
                    have hE9 : ∀ p, p < xct st → vad10 p = vad p := fun p h => (hv11 p (Nat.lt_of_lt_of_le h hN)).trans (hE p h)
                    have hE := hE9
                    have hN : xct st ≤ xct o3.2.2.2.2 := Nat.le_trans hN hn12
                    rw [hr9]
                    refine W.eq (g2 := F0 m 103 ls [xv vad10 o3.2.2.2.1]) (by first | rfl | (skip; rfl)) ?_
                    obtain rfl := Option.some.inj hf
                    exact W.aret (v := xv vad10 o3.2.2.2.1) hx hb hr (Or.inl ⟨_, rfl⟩) (xvor _ _) (fun t ht hW => ⟨⟨xca vad10 o3.2.2.2.1, (ad8, gd9, vad10), rfl, ⟨rfl, hE, hN⟩, by rw [ht]; exact hP, va_K.moved hW.alike hK, hD⟩, hS.F ht⟩) hS.2.2 dM_at_103
                  rw [if_neg hk5] at hf
                  by_cases hk13 : o3.1 = 1
                  · rw [if_pos hk13] at hf
                    obtain ⟨hm14, hf⟩ := xmoE hf
                    obtain rfl := Option.some.inj hf
                    exact absurd (show (1 : Nat) = 0 from hkd) (by decide)
                  rw [if_neg hk13] at hf
                  by_cases hk21 : o3.1 = 2
                  · rw [if_pos hk21] at hf
                    obtain ⟨hm22, hf⟩ := xmoE hf
                    obtain rfl := Option.some.inj hf
                    exact absurd (show (2 : Nat) = 0 from hkd) (by decide)
                  rw [if_neg hk21] at hf
                  exact nomatch hf
              · rw [if_neg hc] at hf
                refine lv_aload_n hx hb dM_at_83 rfl (lv_at hl 0 rfl) ?_
                refine lv_iconst (v := 1) hx hb dM_at_84 (by decide) ?_
                obtain ⟨o3, hq4, hf⟩ := xbind hf
                have hl := lv_sub (l' := [(0, .ref aM)]) hl [0] rfl
                by_cases hk5 : o3.1 = 1
                · rw [if_pos hk5] at hf
                  obtain ⟨hm6, hf⟩ := xmoE hf
                  obtain rfl := Option.some.inj hf
                  exact absurd (show (1 : Nat) = 0 from hkd) (by decide)
                rw [if_neg hk5] at hf
                exact nomatch hf
            · rw [if_pos hc] at hf
              refine lv_aload_n hx hb dM_at_49 rfl (lv_at hl 0 rfl) ?_
              refine xm_aload_n hx hb (xvor _ _) dM_at_50 rfl (lv_at hl 1 rfl) ?_
              refine xm_aload_n hx hb (xvor _ _) dM_at_51 rfl (lv_at hl 2 rfl) ?_
              obtain ⟨o3, hq4, hf⟩ := xbind hf
              have hl := lv_sub (l' := [(0, .ref aM), (1, xv vad c0)]) hl [0, 1] rfl
              have hFc := xm_free hD hS hA
              refine va_calli (va_runV (C := "ValueBenchModel") (As := [xv vad c0, xv vad c1]) (rest := []) ⟨hx, hb, hml, hown, htx⟩ (gM_place l hl9 D cT aK aV s.heap.size n aM ad rd gd vad st c0 c1 o3 hq4) ⟨callB_of 2 htx (xw_goodC kw_6_178) rfl rfl rfl (htx _ kw_1_5) (htx _ kw_6_175) ⟨by decide, by decide, by decide +kernel⟩ ⟨Nat.le_of_ble_eq_true rfl, Nat.le_of_ble_eq_true rfl⟩, (htx _ kw_6_177), (htx _ kp_M_place)⟩ ⟨xPre_blind, va_recv hK hP (ci := 5) rfl (q0 := 0) rfl, (fun U hU hW => ⟨rfl, xPre_of hZ hS hFc hP hD hK U hU hW⟩)⟩ rfl rfl hl.1 rfl (xm_room (Nat.le_of_ble_eq_true rfl)) dM_at_52 ⟨Nat.zero_le _, Nat.zero_le _⟩) hS (fun q _ h => hFc q h) hFc (fun r5 u9 t H1 locs ht hvm hr9 hB hz1 hk1 hS => ?_)
              obtain ⟨hP1, hK1, hD1⟩ := hB
              rw [ht] at hP1
              have hP : va_P D xcl (xMw cT aM ad rd gd vad st []) H1 := hP1
              have hD : va_D A (xMw cT aM ad rd gd vad st []) := hD1.weaken (fun k q _ h => hFc q.1 h)
              generalize H1 = H at hP hS ⊢
              rw [hr9]
              refine W.eq (g2 := F0 m 55 ls [.int o3]) (by first | rfl | (skip; rfl)) ?_
              refine lv_istore_n (lv' := [(3, .int o3), (0, .ref aM), (1, xv vad c0)]) hx hb dM_at_55 rfl hl (by decide) rfl (fun ls hl => ?_)
              refine lv_iload_n hx hb dM_at_56 rfl (lv_at hl 0 rfl) ?_
              refine lv_if_ge (tgt := 68) hx hb dM_at_57 (by decide) (fun hc => ?_) (fun hc => ?_)
              · rw [if_pos hc] at hf
                refine lv_aload_n hx hb dM_at_68 rfl (lv_at hl 1 rfl) ?_
                refine xm_aload_n hx hb (xvor _ _) dM_at_69 rfl (lv_at hl 2 rfl) ?_
                refine lv_iload_n hx hb dM_at_70 rfl (lv_at hl 0 rfl) ?_
                obtain ⟨o6, hq7, hf⟩ := xbind hf
                have hl := lv_sub (l' := [(3, .int o3), (0, .ref aM)]) hl [0, 1] rfl
                have hFc := xm_free hD hS hA
                refine va_callq (va_runV (C := "ValueBenchModel") (As := [xv vad c0, .int o3]) (rest := []) ⟨hx, hb, hml, hown, htx⟩ (gM_kid l hl9 D cT aK aV H.size n aM ad rd gd vad st c0 o3 o6 hq7) ⟨callB_of 2 htx (xw_goodC kw_6_158) rfl rfl rfl (htx _ kw_1_5) (htx _ kw_6_155) ⟨by decide, by decide, by decide +kernel⟩ ⟨Nat.le_of_ble_eq_true rfl, Nat.le_of_ble_eq_true rfl⟩, (htx _ kw_6_157), (htx _ kp_M_kid)⟩ ⟨xPre_blind, va_recv hK hP (ci := 5) rfl (q0 := 0) rfl, (fun U hU hW => ⟨rfl, xPre_of hZ hS hFc hP hD hK U hU hW⟩)⟩ rfl rfl hl.1 rfl (xm_room (Nat.le_of_ble_eq_true rfl)) dM_at_71 ⟨Nat.zero_le _, Nat.zero_le _⟩) hS (fun q _ h => hFc q h) hFc (fun r8 u9 t H1 locs ht hvm hr9 hB hz1 hk1 hS => ?_)
                obtain ⟨hP1, hK1, hD1⟩ := hB
                rw [ht] at hP1
                have hP : va_P D xcl (xMw cT aM ad rd gd vad st []) H1 := hP1
                have hD : va_D A (xMw cT aM ad rd gd vad st []) := hD1.weaken (fun k q _ h => hFc q.1 h)
                generalize H1 = H at hP hS ⊢
                rw [hr9]
                refine W.eq (g2 := F0 m 74 ls [xv vad o6]) (by first | rfl | (skip; rfl)) ?_
                obtain rfl := Option.some.inj hf
                exact W.aret (v := xv vad o6) hx hb hr (Or.inl ⟨_, rfl⟩) (xvor _ _) (fun t ht hW => ⟨⟨xca vad o6, (ad, gd, vad), rfl, ⟨rfl, hE, hN⟩, by rw [ht]; exact hP, va_K.moved hW.alike hK, hD⟩, hS.F ht⟩) hS.2.2 dM_at_74
              · rw [if_neg hc] at hf
                refine lv_aload_n hx hb dM_at_60 rfl (lv_at hl 1 rfl) ?_
                refine lv_iconst (v := 0) hx hb dM_at_61 (by decide) ?_
                obtain ⟨o6, hq7, hf⟩ := xbind hf
                have hl := lv_sub (l' := [(3, .int o3), (0, .ref aM)]) hl [0, 1] rfl
                obtain ⟨hm8, hf⟩ := xmoE hf
                have hFc := xm_free hD hS hA
                refine va_callq (va_runV (C := "ValueBenchModel") (As := [.int 0]) (rest := []) ⟨hx, hb, hml, hown, htx⟩ (gM_fresh l hl9 D cT aK aV H.size n aM ad rd gd vad st (0 : Int32) o6 hq7) ⟨callB_of 1 htx (xw_goodC kw_6_16) rfl rfl rfl (htx _ kw_1_5) (htx _ kw_6_13) ⟨by decide, by decide, by decide +kernel⟩ ⟨Nat.le_of_ble_eq_true rfl, Nat.le_of_ble_eq_true rfl⟩, (htx _ kw_6_15), (htx _ kp_M_fresh)⟩ ⟨xPre_blind, va_recv hK hP (ci := 5) rfl (q0 := 0) rfl, (fun U hU hW => ⟨rfl, xPre_of hZ hS hFc hP hD hK U hU hW⟩)⟩ rfl rfl hl.1 rfl (xm_room (Nat.le_of_ble_eq_true rfl)) dM_at_62 ⟨hm8.1, hm8.2⟩) hS (fun q _ h => hFc q h) hFc (fun r9 u9 t H1 locs ht hvm hr9 hB hz1 hk1 hS => ?_)
                obtain ⟨hP1, hK1, hD1⟩ := hB
                rw [ht] at hP1
                obtain ⟨ad10, gd11, vad12⟩ := u9
                obtain ⟨hr9, hv13, hn14⟩ := hr9
                have hP : va_P D xcl (xMw cT aM ad10 rd gd11 vad12 o6.2.2.2 []) H1 := hP1
                have hD : va_D A (xMw cT aM ad10 rd gd11 vad12 o6.2.2.2 []) := hD1.weaken (fun k q _ h => hFc q.1 h)
                generalize H1 = H at hP hS ⊢
                have hE9 : ∀ p, p < xct st → vad12 p = vad p := fun p h => (hv13 p (Nat.lt_of_lt_of_le h hN)).trans (hE p h)
                have hE := hE9
                have hN : xct st ≤ xct o6.2.2.2 := Nat.le_trans hN hn14
                rw [hr9]
                refine W.eq (g2 := F0 m 65 ls [xv vad12 o6.2.2.1]) (by first | rfl | (skip; rfl)) ?_
                refine lv_goto (tgt := 74) hx hb dM_at_65 (by decide) ?_
                obtain rfl := Option.some.inj hf
                exact W.aret (v := xv vad12 o6.2.2.1) hx hb hr (Or.inl ⟨_, rfl⟩) (xvor _ _) (fun t ht hW => ⟨⟨xca vad12 o6.2.2.1, (ad10, gd11, vad12), rfl, ⟨rfl, hE, hN⟩, by rw [ht]; exact hP, va_K.moved hW.alike hK, hD⟩, hS.F ht⟩) hS.2.2 dM_at_74
        · rw [if_pos hc] at hf
          refine xm_aload_n hx hb (xvor _ _) dM_at_30 rfl (lv_at hl 1 rfl) ?_
          obtain rfl := Option.some.inj hf
          exact W.aret (v := xv vad c0) hx hb hr (Or.inl ⟨_, rfl⟩) (xvor _ _) (fun t ht hW => ⟨⟨xca vad c0, (ad, gd, vad), rfl, ⟨rfl, hE, hN⟩, by rw [ht]; exact hP, va_K.moved hW.alike hK, hD⟩, hS.F ht⟩) hS.2.2 dM_at_31
