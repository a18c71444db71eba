set_option maxHeartbeats 400000000 in
set_option maxRecDepth 100000 in
theorem gM_part (l : Launch) (hl9 : l.stackTraces = false) (D : va_G) (cT : Nat → ClassId) (aK aV : Nat → Nat) (sz n : Nat) (aM : Nat) (ad rd gd vad : Nat → Nat) (st : xS) (c0 : Nat) (x1 : Int32) (x2 : Int32) (out : Nat × Nat × Nat × xS) (hf : fM_part n st c0 x1 x2 = some out) : xMet l yM_part wyM_part 4 out.1 out.2.1 79 D cT aK aV sz [.ref aM, xv vad c0, .int x1, .int x2] (xMw cT aM ad rd gd vad st []) (fun A => va_Qq (fun (r : Option Nat) (u : xU) => r = xca u.2.2 out.2.2.1 ∧ xE vad st out.2.2.2 u) (fun u t => xB D xcl cT A (xMw cT aM u.1 rd u.2.1 u.2.2 out.2.2.2 []) t) A) := by
  refine Met.ofW (cc := prog_13_method_54_code) (maxL := 4) (ret := (some (.object "ValueBenchModel$V"))) (by decide) rfl ?_
  intro p e s m args below meth c s₁ B hml hv
  obtain ⟨rfl, hsz, hZ, hP, hK, hD0⟩ := hv
  have hx := B.exec
  have hb := B.bytes
  have hr := B.returns
  have hts := atoms_spec (ws := wyM_part) B.pre
  have htx := fun w h => hts w (List.mem_cons_of_mem _ h)
  have hown : s.vm.findClass "ValueBenchModel" = some m.cls := findClass_of_methodNamed B.named
  have hlocks := B.notSynchronized
  subst hsz
  have hD := hD0.self (sz := s.heap.size)
  generalize hAe : va_A (xMw cT aM ad rd gd vad st []) s.heap.size = A at hD hZ ⊢
  have hA : ∀ q : Nat, s.heap.size ≤ q → A q := fun q h => by rw [← hAe]; exact Or.inr h
  have hS : va_S A s.heap s.heap [] := va_S.rf
  have hl := lv_entry ([.ref aM, xv vad c0, .int x1, .int x2]) (n := 4) (by simp [lg_sl, xvcat, xrscat, xcI, xcL, xcR, xcN])
  rw [show lv_args 0 [.ref aM, xv vad c0, .int x1, .int x2] = [(0, .ref aM), (1, xv vad c0), (2, .int x1), (3, .int x2)] from by simp [lv_args, xvcat, xrscat, xcI, xcL, xcR, xcN]] at hl
  rw [lg_entry_eq]
  generalize (lg_sl ([.ref aM, xv vad c0, .int x1, .int x2]) ++ List.replicate (4 - (lg_sl ([.ref aM, xv vad c0, .int x1, .int x2])).length) Slot.unset).toArray = ls at hl ⊢
  have hl : lv_has ls 4 [(0, .ref aM), (1, xv vad c0), (2, .int x1), (3, .int x2)] := hl
  have hE : ∀ p, p < xct st → vad p = vad p := fun _ _ => rfl
  have hN : xct st ≤ xct st := Nat.le_refl _
  unfold fM_part at hf
  refine lv_aload_n hx hb dM_part_0 rfl (lv_at hl 0 rfl) ?_
  refine lv_dup hx hb dM_part_1 rfl ?_
  refine xm_get (v := .int (xsi st 9)) hx hb htx hown hK hP 9 (by decide) rfl (htx _ kw_5_96) rfl dM_part_2 ?_
  refine lv_iload_n hx hb dM_part_5 rfl (lv_at hl 3 rfl) ?_
  refine lv_iload_n hx hb dM_part_6 rfl (lv_at hl 2 rfl) ?_
  refine lv_isub hx hb dM_part_7 ?_
  refine lv_iadd hx hb dM_part_8 ?_
  refine xm_put (v := .int ((xsi st 9) + (x2 - x1))) (W' := (xMw cT aM ad rd gd vad (xsI st 9 ((xsi st 9) + (x2 - x1))) [])) (ty := .int) hx hb htx hown hK hP hD hS 9 (by decide) rfl (htx _ kw_5_96) rfl rfl (by decide +kernel) rfl rfl dM_part_9 (fun H locs hP hD hS => ?_)
  refine lv_aload_n hx hb dM_part_12 rfl (lv_at hl 0 rfl) ?_
  refine xm_aload_n hx hb (xvor _ _) dM_part_13 rfl (lv_at hl 1 rfl) ?_
  refine lv_iload_n hx hb dM_part_14 rfl (lv_at hl 2 rfl) ?_
  refine lv_iload_n hx hb dM_part_15 rfl (lv_at hl 3 rfl) ?_
  obtain ⟨o1, hq2, hf⟩ := xbind hf
  have hl := lv_sub (l' := [(0, .ref aM), (2, .int x1), (3, .int x2)]) hl [0, 2, 3] rfl
  obtain ⟨hm3, hf⟩ := xmoE hf
  have hFc := xm_free hD hS hA
  refine va_callq (va_runV (C := "ValueBenchModel") (As := [xv vad c0, .int x1, .int x2]) (rest := []) ⟨hx, hb, hml, hown, htx⟩ (gM_piece l hl9 D cT aK aV H.size n aM ad rd gd vad (xsI st 9 ((xsi st 9) + (x2 - x1))) c0 x1 x2 o1 hq2) ⟨callB_of 3 htx (xw_goodC kw_6_233) rfl rfl rfl (htx _ kw_1_5) (htx _ kw_6_230) ⟨by decide, by decide, by decide +kernel⟩ ⟨Nat.le_of_ble_eq_true rfl, Nat.le_of_ble_eq_true rfl⟩, (htx _ kw_6_232), (htx _ kp_M_piece)⟩ ⟨xPre_blind, va_recv hK hP (ci := 5) rfl (q0 := 0) rfl, (fun U hU hW => ⟨rfl, xPre_of hZ hS hFc hP hD hK U hU hW⟩)⟩ rfl rfl hl.1 rfl (xm_room (Nat.le_of_ble_eq_true rfl)) dM_part_16 ⟨hm3.1, hm3.2⟩) hS (fun q _ h => hFc q h) hFc (fun r4 u9 t H1 locs ht hvm hr9 hB hz1 hk1 hS => ?_)
  obtain ⟨hP1, hK1, hD1⟩ := hB
  rw [ht] at hP1
  obtain ⟨ad5, gd6, vad7⟩ := u9
  obtain ⟨hr9, hv8, hn9⟩ := hr9
  have hP : va_P D xcl (xMw cT aM ad5 rd gd6 vad7 o1.2.2.2 []) H1 := hP1
  have hD : va_D A (xMw cT aM ad5 rd gd6 vad7 o1.2.2.2 []) := hD1.weaken (fun k q _ h => hFc q.1 h)
  generalize H1 = H at hP hS ⊢
  have hE9 : ∀ p, p < xct st → vad7 p = vad p := fun p h => (hv8 p (Nat.lt_of_lt_of_le h hN)).trans (hE p h)
  have hE := hE9
  have hN : xct st ≤ xct o1.2.2.2 := Nat.le_trans hN hn9
  rw [hr9]
  refine W.eq (g2 := F0 m 19 ls [xv vad7 o1.2.2.1]) (by first | rfl | (skip; rfl)) ?_
  obtain rfl := Option.some.inj hf
  exact W.aret (v := xv vad7 o1.2.2.1) hx hb hr (Or.inl ⟨_, rfl⟩) (xvor _ _) (fun t ht hW => ⟨⟨xca vad7 o1.2.2.1, (ad5, gd6, vad7), rfl, ⟨rfl, hE, hN⟩, by rw [ht]; exact hP, va_K.moved hW.alike hK, hD⟩, hS.F ht⟩) hS.2.2 dM_part_19
set_option maxHeartbeats 400000000 in
set_option maxRecDepth 100000 in
theorem gM_split (l : Launch) (hl9 : l.stackTraces = false) (D : va_G) (cT : Nat → ClassId) (aK aV : Nat → Nat) (sz n : Nat) (aM : Nat) (ad rd gd vad : Nat → Nat) (st : xS) (c0 : Nat) (c1 : Nat) (out : Nat × Nat × Nat × Nat × xS) (hf : fM_split n st c0 c1 = some out) (hkd : out.1 = 0) : xMet l yM_split wyM_split 8 out.2.1 out.2.2.1 147 D cT aK aV sz [.ref aM, xv vad c0, xv vad c1] (xMw cT aM ad rd gd vad st []) (fun A => va_Qq (fun (r : Option Nat) (u : xU) => r = xca u.2.2 out.2.2.2.1 ∧ xE vad st out.2.2.2.2 u) (fun u t => xB D xcl cT A (xMw cT aM u.1 rd u.2.1 u.2.2 out.2.2.2.2 []) t) A) := by
  refine Met.ofW (cc := prog_13_method_53_code) (maxL := 8) (ret := (some (.object "ValueBenchModel$V"))) (by decide) rfl ?_
  intro p e s m args below meth c s₁ B hml hv
  obtain ⟨rfl, hsz, hZ, hP, hK, hD0⟩ := hv
  have hx := B.exec
  have hb := B.bytes
  have hr := B.returns
  have hts := atoms_spec (ws := wyM_split) B.pre
  have htx := fun w h => hts w (List.mem_cons_of_mem _ h)
  have hown : s.vm.findClass "ValueBenchModel" = some m.cls := findClass_of_methodNamed B.named
  have hlocks := B.notSynchronized
  subst hsz
  have hD := hD0.self (sz := s.heap.size)
  generalize hAe : va_A (xMw cT aM ad rd gd vad st []) s.heap.size = A at hD hZ ⊢
  have hA : ∀ q : Nat, s.heap.size ≤ q → A q := fun q h => by rw [← hAe]; exact Or.inr h
  have hS : va_S A s.heap s.heap [] := va_S.rf
  have hl := lv_entry ([.ref aM, xv vad c0, xv vad c1]) (n := 8) (by simp [lg_sl, xvcat, xrscat, xcI, xcL, xcR, xcN])
  rw [show lv_args 0 [.ref aM, xv vad c0, xv vad c1] = [(0, .ref aM), (1, xv vad c0), (2, xv vad c1)] from by simp [lv_args, xvcat, xrscat, xcI, xcL, xcR, xcN]] at hl
  rw [lg_entry_eq]
  generalize (lg_sl ([.ref aM, xv vad c0, xv vad c1]) ++ List.replicate (8 - (lg_sl ([.ref aM, xv vad c0, xv vad c1])).length) Slot.unset).toArray = ls at hl ⊢
  have hl : lv_has ls 8 [(0, .ref aM), (1, xv vad c0), (2, xv vad c1)] := hl
  have hE : ∀ p, p < xct st → vad p = vad p := fun _ _ => rfl
  have hN : xct st ≤ xct st := Nat.le_refl _
  unfold fM_split at hf
  refine xloopM (σ := Nat × Int32 × Int32 × Int32 × Nat × Nat × Int32 × Int32 × xS × Nat × Nat) (fun n x H locs ls => (∃ (adL gdL vadL : Nat → Nat), x.1 = 1 ∧ fM_split_b n x.1 x.2.1 x.2.2.1 x.2.2.2.1 x.2.2.2.2.1 x.2.2.2.2.2.1 x.2.2.2.2.2.2.1 x.2.2.2.2.2.2.2.1 x.2.2.2.2.2.2.2.2.1 x.2.2.2.2.2.2.2.2.2.1 x.2.2.2.2.2.2.2.2.2.2 = some out ∧ va_P D xcl (xMw cT aM adL rd gdL vadL x.2.2.2.2.2.2.2.2.1 []) H ∧ va_D A (xMw cT aM adL rd gdL vadL x.2.2.2.2.2.2.2.2.1 []) ∧ va_S A s.heap H locs ∧ lv_has ls 8 [(5, .int x.2.1), (4, .int x.2.2.1), (3, .int x.2.2.2.1), (0, .ref aM), (1, xv vadL x.2.2.2.2.1), (2, xv vadL x.2.2.2.2.2.1)] ∧ (∀ p, p < xct st → vadL p = vad p) ∧ xct st ≤ xct x.2.2.2.2.2.2.2.2.1) ∨ (∃ (adL gdL vadL : Nat → Nat), x.1 = 2 ∧ fM_split_b n x.1 x.2.1 x.2.2.1 x.2.2.2.1 x.2.2.2.2.1 x.2.2.2.2.2.1 x.2.2.2.2.2.2.1 x.2.2.2.2.2.2.2.1 x.2.2.2.2.2.2.2.2.1 x.2.2.2.2.2.2.2.2.2.1 x.2.2.2.2.2.2.2.2.2.2 = some out ∧ va_P D xcl (xMw cT aM adL rd gdL vadL x.2.2.2.2.2.2.2.2.1 []) H ∧ va_D A (xMw cT aM adL rd gdL vadL x.2.2.2.2.2.2.2.2.1 []) ∧ va_S A s.heap H locs ∧ lv_has ls 8 [(7, .int x.2.2.2.2.2.2.1), (6, .int x.2.2.2.2.2.2.2.1), (5, .int x.2.1), (4, .int x.2.2.1), (3, .int x.2.2.2.1), (0, .ref aM), (1, xv vadL x.2.2.2.2.1), (2, xv vadL x.2.2.2.2.2.1)] ∧ (∀ p, p < xct st → vadL p = vad p) ∧ xct st ≤ xct x.2.2.2.2.2.2.2.2.1)) (fun x => if x.1 = 1 then 11 else 51) (fun x => x.2.2.2.2.2.2.2.2.2.1) (fun x => x.2.2.2.2.2.2.2.2.2.2) (fun x H locs ls h => by rcases h with h | h; (obtain ⟨_, _, _, h⟩ := h; exact absurd h.2.1 (by rw [fM_split_b]; exact fun h => nomatch h)); (obtain ⟨_, _, _, h⟩ := h; exact absurd h.2.1 (by rw [fM_split_b]; exact fun h => nomatch h))) (fun n ih x H locs ls hv => ?_) (fun key => ?_)
  · obtain ⟨lb, y5, y4, y3, y1, y2, y7, y6, ws9, wc, wn⟩ := x
    rcases hv with ⟨adL, gdL, vadL, hj, hf, hP, hD, hS, hl, hE, hN⟩ | ⟨adL, gdL, vadL, hj, hf, hP, hD, hS, hl, hE, hN⟩
    · subst hj
      have hf : fM_split_b (n + 1) 1 y5 y4 y3 y1 y2 y7 y6 ws9 wc wn = some out := hf
      rw [fM_split_b, if_pos rfl] at hf
      obtain ⟨hP, hD⟩ : xPD D xcl A (xMw cT aM adL rd gdL vadL ws9 []) H := ⟨hP, hD⟩
      have hl : lv_has ls 8 [(5, .int y5), (4, .int y4), (3, .int y3), (0, .ref aM), (1, xv vadL y1), (2, xv vadL y2)] := hl
      refine W.eq (g2 := F0 m 11 ls []) rfl ?_
      show W p l e _ s m _ below meth c H locs wc wn _ _
      obtain ⟨hm0, hf⟩ := xmoE hf
      refine lv_iload hx hb dM_split_11 (lv_at hl 0 rfl) ?_
      refine xm_aload_n hx hb (xvor _ _) dM_split_13 rfl (lv_at hl 4 rfl) ?_
      obtain ⟨hg1, hf⟩ := xifn hf
      refine xm_vget (v := .int ((xpi ws9 3) (y1 - 1))) hx hb htx hown hK hP 3 (by decide) hg1 rfl ((hZ.1 (103, "count", "I") (List.mem_of_getElem? (i := 3) rfl)).use rfl) rfl dM_split_14 ?_
      refine lv_icmp_ge (tgt := 178) hx hb dM_split_17 (by decide) (fun hc => ?_) (fun hc => ?_)
      · rw [if_pos hc] at hf
        refine xm_aload_n hx hb (xvor _ _) dM_split_178 rfl (lv_at hl 5 rfl) ?_
        obtain ⟨hg2, hf⟩ := xifn hf
        refine xm_vget (v := .int ((xpi ws9 3) (y2 - 1))) hx hb htx hown hK hP 3 (by decide) hg2 rfl ((hZ.1 (103, "count", "I") (List.mem_of_getElem? (i := 3) rfl)).use rfl) rfl dM_split_179 ?_
        refine lv_if_le (tgt := 208) hx hb dM_split_182 (by decide) (fun hc => ?_) (fun hc => ?_)
        · rw [if_pos hc] at hf
          refine lv_aload_n hx hb dM_split_208 rfl (lv_at hl 3 rfl) ?_
          refine lv_iconst (v := 5) hx hb dM_split_209 (by decide) ?_
          refine lv_iload_n hx hb dM_split_210 rfl (lv_at hl 2 rfl) ?_
          obtain ⟨o3, hq4, hf⟩ := xbind hf
          have hl := lv_sub (l' := [(5, .int y5), (4, .int y4), (3, .int y3), (0, .ref aM)]) hl [0, 1, 2, 3] rfl
          by_cases hk5 : o3.1 = 0
          · rw [if_pos hk5] at hf
            obtain ⟨hm6, hf⟩ := xmoE hf
            have hFc := xm_free hD hS hA
            refine va_callq (va_runV (C := "ValueBenchModel") (As := [.int 5, .int y3]) (rest := []) ⟨hx, hb, hml, hown, htx⟩ (gM_whole l hl9 D cT aK aV H.size n aM adL rd gdL vadL ws9 (5 : Int32) y3 o3 hq4 hk5) ⟨callB_of 2 htx (xw_goodC kw_6_106) rfl rfl rfl (htx _ kw_1_5) (htx _ kw_6_103) ⟨by decide, by decide, by decide +kernel⟩ ⟨Nat.le_of_ble_eq_true rfl, Nat.le_of_ble_eq_true rfl⟩, (htx _ kw_6_105), (htx _ kp_M_whole)⟩ ⟨xPre_blind, va_recv hK hP (ci := 5) rfl (q0 := 0) rfl, (fun U hU hW => ⟨rfl, xPre_of hZ hS hFc hP hD hK U hU hW⟩)⟩ rfl rfl hl.1 rfl (xm_room (Nat.le_of_ble_eq_true rfl)) dM_split_211 ⟨hm6.1, hm6.2⟩) hS (fun q _ h => hFc q h) hFc (fun r7 u9 t H1 locs ht hvm hr9 hB hz1 hk1 hS => ?_)
            obtain ⟨hP1, hK1, hD1⟩ := hB
            rw [ht] at hP1
            obtain ⟨ad8, gd9, vad10⟩ := u9
            obtain ⟨hr9, hv11, hn12⟩ := hr9
            have hP : va_P D xcl (xMw cT aM ad8 rd gd9 vad10 o3.2.2.2.2 []) H1 := hP1
            have hD : va_D A (xMw cT aM ad8 rd gd9 vad10 o3.2.2.2.2 []) := hD1.weaken (fun k q _ h => hFc q.1 h)
            generalize H1 = H at hP hS ⊢
            have hE9 : ∀ p, p < xct st → vad10 p = vad p := fun p h => (hv11 p (Nat.lt_of_lt_of_le h hN)).trans (hE p h)
            have hE := hE9
            have hN : xct st ≤ xct o3.2.2.2.2 := Nat.le_trans hN hn12
            rw [hr9]
            refine W.eq (g2 := F0 m 214 ls [xv vad10 o3.2.2.2.1]) (by first | rfl | (skip; rfl)) ?_
            obtain rfl := Option.some.inj hf
            exact W.aret (v := xv vad10 o3.2.2.2.1) hx hb hr (Or.inl ⟨_, rfl⟩) (xvor _ _) (fun t ht hW => ⟨⟨xca vad10 o3.2.2.2.1, (ad8, gd9, vad10), rfl, ⟨rfl, hE, hN⟩, by rw [ht]; exact hP, va_K.moved hW.alike hK, hD⟩, hS.F ht⟩) hS.2.2 dM_split_214
          rw [if_neg hk5] at hf
          by_cases hk13 : o3.1 = 1
          · rw [if_pos hk13] at hf
            obtain ⟨hm14, hf⟩ := xmoE hf
            obtain rfl := Option.some.inj hf
            exact absurd (show (1 : Nat) = 0 from hkd) (by decide)
          rw [if_neg hk13] at hf
          exact nomatch hf
        · rw [if_neg hc] at hf
          refine xm_aload_n hx hb (xvor _ _) dM_split_185 rfl (lv_at hl 4 rfl) ?_
          refine xm_vget (v := .int ((xpi ws9 3) (y1 - 1))) hx hb htx hown hK hP 3 (by decide) hg1 rfl ((hZ.1 (103, "count", "I") (List.mem_of_getElem? (i := 3) rfl)).use rfl) rfl dM_split_186 ?_
          refine lv_if_le (tgt := 208) hx hb dM_split_189 (by decide) (fun hc => ?_) (fun hc => ?_)
          · rw [if_pos hc] at hf
            refine lv_aload_n hx hb dM_split_208 rfl (lv_at hl 3 rfl) ?_
            refine lv_iconst (v := 5) hx hb dM_split_209 (by decide) ?_
            refine lv_iload_n hx hb dM_split_210 rfl (lv_at hl 2 rfl) ?_
            obtain ⟨o3, hq4, hf⟩ := xbind hf
            have hl := lv_sub (l' := [(5, .int y5), (4, .int y4), (3, .int y3), (0, .ref aM)]) hl [0, 1, 2, 3] rfl
            by_cases hk5 : o3.1 = 0
            · rw [if_pos hk5] at hf
              obtain ⟨hm6, hf⟩ := xmoE hf
              have hFc := xm_free hD hS hA
              refine va_callq (va_runV (C := "ValueBenchModel") (As := [.int 5, .int y3]) (rest := []) ⟨hx, hb, hml, hown, htx⟩ (gM_whole l hl9 D cT aK aV H.size n aM adL rd gdL vadL ws9 (5 : Int32) y3 o3 hq4 hk5) ⟨callB_of 2 htx (xw_goodC kw_6_106) rfl rfl rfl (htx _ kw_1_5) (htx _ kw_6_103) ⟨by decide, by decide, by decide +kernel⟩ ⟨Nat.le_of_ble_eq_true rfl, Nat.le_of_ble_eq_true rfl⟩, (htx _ kw_6_105), (htx _ kp_M_whole)⟩ ⟨xPre_blind, va_recv hK hP (ci := 5) rfl (q0 := 0) rfl, (fun U hU hW => ⟨rfl, xPre_of hZ hS hFc hP hD hK U hU hW⟩)⟩ rfl rfl hl.1 rfl (xm_room (Nat.le_of_ble_eq_true rfl)) dM_split_211 ⟨hm6.1, hm6.2⟩) hS (fun q _ h => hFc q h) hFc (fun r7 u9 t H1 locs ht hvm hr9 hB hz1 hk1 hS => ?_)
              obtain ⟨hP1, hK1, hD1⟩ := hB
              rw [ht] at hP1
              obtain ⟨ad8, gd9, vad10⟩ := u9
              obtain ⟨hr9, hv11, hn12⟩ := hr9
              have hP : va_P D xcl (xMw cT aM ad8 rd gd9 vad10 o3.2.2.2.2 []) H1 := hP1
              have hD : va_D A (xMw cT aM ad8 rd gd9 vad10 o3.2.2.2.2 []) := hD1.weaken (fun k q _ h => hFc q.1 h)
              generalize H1 = H at hP hS ⊢
              have hE9 : ∀ p, p < xct st → vad10 p = vad p := fun p h => (hv11 p (Nat.lt_of_lt_of_le h hN)).trans (hE p h)
              have hE := hE9
              have hN : xct st ≤ xct o3.2.2.2.2 := Nat.le_trans hN hn12
              rw [hr9]
              refine W.eq (g2 := F0 m 214 ls [xv vad10 o3.2.2.2.1]) (by first | rfl | (skip; rfl)) ?_
              obtain rfl := Option.some.inj hf
              exact W.aret (v := xv vad10 o3.2.2.2.1) hx hb hr (Or.inl ⟨_, rfl⟩) (xvor _ _) (fun t ht hW => ⟨⟨xca vad10 o3.2.2.2.1, (ad8, gd9, vad10), rfl, ⟨rfl, hE, hN⟩, by rw [ht]; exact hP, va_K.moved hW.alike hK, hD⟩, hS.F ht⟩) hS.2.2 dM_split_214
            rw [if_neg hk5] at hf
            by_cases hk13 : o3.1 = 1
            · rw [if_pos hk13] at hf
              obtain ⟨hm14, hf⟩ := xmoE hf
              obtain rfl := Option.some.inj hf
              exact absurd (show (1 : Nat) = 0 from hkd) (by decide)
            rw [if_neg hk13] at hf
            exact nomatch hf
          · rw [if_neg hc] at hf
            refine lv_aload_n hx hb dM_split_192 rfl (lv_at hl 3 rfl) ?_
            refine lv_null hx hb dM_split_193 ?_
            refine lv_aload_n hx hb dM_split_194 rfl (lv_at hl 3 rfl) ?_
            refine xm_aload_n hx hb (xvor _ _) dM_split_195 rfl (lv_at hl 4 rfl) ?_
            refine lv_iload hx hb dM_split_196 (lv_at hl 1 rfl) ?_
            refine xm_aload_n hx hb (xvor _ _) dM_split_198 rfl (lv_at hl 4 rfl) ?_
            refine xm_vget (v := .int ((xpi ws9 3) (y1 - 1))) hx hb htx hown hK hP 3 (by decide) hg1 rfl ((hZ.1 (103, "count", "I") (List.mem_of_getElem? (i := 3) rfl)).use rfl) rfl dM_split_199 ?_
            obtain ⟨o3, hq4, hf⟩ := xbind hf
            have hl := lv_sub (l' := [(5, .int y5), (4, .int y4), (3, .int y3), (0, .ref aM)]) hl [0, 1, 2, 3] rfl
            obtain ⟨hm5, hf⟩ := xmoE hf
            have hFc := xm_free hD hS hA
            refine va_callq (va_runV (C := "ValueBenchModel") (As := [xv vadL y1, .int y4, .int ((xpi ws9 3) (y1 - 1))]) (rest := [.null, .ref aM]) ⟨hx, hb, hml, hown, htx⟩ (gM_part l hl9 D cT aK aV H.size n aM adL rd gdL vadL ws9 y1 y4 ((xpi ws9 3) (y1 - 1)) o3 hq4) ⟨callB_of 3 htx (xw_goodC kw_6_229) rfl rfl rfl (htx _ kw_1_5) (htx _ kw_6_226) ⟨by decide, by decide, by decide +kernel⟩ ⟨Nat.le_of_ble_eq_true rfl, Nat.le_of_ble_eq_true rfl⟩, (htx _ kw_6_228), (htx _ kp_M_part)⟩ ⟨xPre_blind, va_recv hK hP (ci := 5) rfl (q0 := 0) rfl, (fun U hU hW => ⟨rfl, xPre_of hZ hS hFc hP hD hK U hU hW⟩)⟩ rfl rfl hl.1 rfl (xm_room (Nat.le_of_ble_eq_true rfl)) dM_split_202 ⟨hm5.1, hm5.2⟩) hS (fun q _ h => hFc q h) hFc (fun r6 u9 t H1 locs ht hvm hr9 hB hz1 hk1 hS => ?_)
            obtain ⟨hP1, hK1, hD1⟩ := hB
            rw [ht] at hP1
            obtain ⟨ad7, gd8, vad9⟩ := u9
            obtain ⟨hr9, hv10, hn11⟩ := hr9
            have hP : va_P D xcl (xMw cT aM ad7 rd gd8 vad9 o3.2.2.2 []) H1 := hP1
            have hD : va_D A (xMw cT aM ad7 rd gd8 vad9 o3.2.2.2 []) := hD1.weaken (fun k q _ h => hFc q.1 h)
            generalize H1 = H at hP hS ⊢
            have hE9 : ∀ p, p < xct st → vad9 p = vad p := fun p h => (hv10 p (Nat.lt_of_lt_of_le h hN)).trans (hE p h)
            have hE := hE9
            have hN : xct st ≤ xct o3.2.2.2 := Nat.le_trans hN hn11
            rw [hr9]
            refine W.eq (g2 := F0 m 205 ls [xv vad9 o3.2.2.1, .null, .ref aM]) (by first | rfl | (skip; rfl)) ?_
            obtain ⟨o12, hq13, hf⟩ := xbind hf
            obtain ⟨hm14, hf⟩ := xmoE hf
            have hFc := xm_free hD hS hA
            refine va_callv (va_runV (C := "ValueBenchModel") (As := [.null, xv vad9 o3.2.2.1]) (rest := []) ⟨hx, hb, hml, hown, htx⟩ (gM_wait l hl9 D cT aK aV H.size n aM ad7 rd gd8 vad9 o3.2.2.2 0 o3.2.2.1 o12 hq13) ⟨callB_of 2 htx (xw_goodC kw_6_112) rfl rfl rfl (htx _ kw_1_5) (htx _ kw_6_109) ⟨by decide, by decide, by decide +kernel⟩ ⟨Nat.le_of_ble_eq_true rfl, Nat.le_of_ble_eq_true rfl⟩, (htx _ kw_6_111), (htx _ kp_M_wait)⟩ ⟨xPre_blind, va_recv hK hP (ci := 5) rfl (q0 := 0) rfl, (fun U hU hW => ⟨rfl, xPre_of hZ hS hFc hP hD hK U hU hW⟩)⟩ rfl rfl hl.1 rfl (xm_room (Nat.le_of_ble_eq_true rfl)) dM_split_205 ⟨hm14.1, hm14.2⟩) hS (fun q _ h => hFc q h) hFc (fun u9 t H1 locs ht hvm hr9 hB hz1 hk1 hS => ?_)
            obtain ⟨hP1, hK1, hD1⟩ := hB
            rw [ht] at hP1
            obtain ⟨ad16, gd17, vad18⟩ := u9
            obtain ⟨hv19, hn20⟩ := hr9
            have hP : va_P D xcl (xMw cT aM ad16 rd gd17 vad18 o12.2.2 []) H1 := hP1
            have hD : va_D A (xMw cT aM ad16 rd gd17 vad18 o12.2.2 []) := hD1.weaken (fun k q _ h => hFc q.1 h)
            generalize H1 = H at hP hS ⊢
            have hE9 : ∀ p, p < xct st → vad18 p = vad p := fun p h => (hv19 p (Nat.lt_of_lt_of_le h hN)).trans (hE p h)
            have hE := hE9
            have hN : xct st ≤ xct o12.2.2 := Nat.le_trans hN hn20
            refine W.eq (g2 := F0 m 208 ls []) (by first | rfl | (skip; rfl)) ?_
            refine lv_aload_n hx hb dM_split_208 rfl (lv_at hl 3 rfl) ?_
            refine lv_iconst (v := 5) hx hb dM_split_209 (by decide) ?_
            refine lv_iload_n hx hb dM_split_210 rfl (lv_at hl 2 rfl) ?_
            obtain ⟨o21, hq22, hf⟩ := xbind hf
            by_cases hk23 : o21.1 = 0
            · rw [if_pos hk23] at hf
              obtain ⟨hm24, hf⟩ := xmoE hf
              have hFc := xm_free hD hS hA
              refine va_callq (va_runV (C := "ValueBenchModel") (As := [.int 5, .int y3]) (rest := []) ⟨hx, hb, hml, hown, htx⟩ (gM_whole l hl9 D cT aK aV H.size n aM ad16 rd gd17 vad18 o12.2.2 (5 : Int32) y3 o21 hq22 hk23) ⟨callB_of 2 htx (xw_goodC kw_6_106) rfl rfl rfl (htx _ kw_1_5) (htx _ kw_6_103) ⟨by decide, by decide, by decide +kernel⟩ ⟨Nat.le_of_ble_eq_true rfl, Nat.le_of_ble_eq_true rfl⟩, (htx _ kw_6_105), (htx _ kp_M_whole)⟩ ⟨xPre_blind, va_recv hK hP (ci := 5) rfl (q0 := 0) rfl, (fun U hU hW => ⟨rfl, xPre_of hZ hS hFc hP hD hK U hU hW⟩)⟩ rfl rfl hl.1 rfl (xm_room (Nat.le_of_ble_eq_true rfl)) dM_split_211 ⟨hm24.1, hm24.2⟩) hS (fun q _ h => hFc q h) hFc (fun r25 u9 t H1 locs ht hvm hr9 hB hz1 hk1 hS => ?_)
              obtain ⟨hP1, hK1, hD1⟩ := hB
              rw [ht] at hP1
              obtain ⟨ad26, gd27, vad28⟩ := u9
              obtain ⟨hr9, hv29, hn30⟩ := hr9
              have hP : va_P D xcl (xMw cT aM ad26 rd gd27 vad28 o21.2.2.2.2 []) H1 := hP1
              have hD : va_D A (xMw cT aM ad26 rd gd27 vad28 o21.2.2.2.2 []) := hD1.weaken (fun k q _ h => hFc q.1 h)
              generalize H1 = H at hP hS ⊢
              have hE9 : ∀ p, p < xct st → vad28 p = vad p := fun p h => (hv29 p (Nat.lt_of_lt_of_le h hN)).trans (hE p h)
              have hE := hE9
              have hN : xct st ≤ xct o21.2.2.2.2 := Nat.le_trans hN hn30
              rw [hr9]
              refine W.eq (g2 := F0 m 214 ls [xv vad28 o21.2.2.2.1]) (by first | rfl | (skip; rfl)) ?_
              obtain rfl := Option.some.inj hf
              exact W.aret (v := xv vad28 o21.2.2.2.1) hx hb hr (Or.inl ⟨_, rfl⟩) (xvor _ _) (fun t ht hW => ⟨⟨xca vad28 o21.2.2.2.1, (ad26, gd27, vad28), rfl, ⟨rfl, hE, hN⟩, by rw [ht]; exact hP, va_K.moved hW.alike hK, hD⟩, hS.F ht⟩) hS.2.2 dM_split_214
            rw [if_neg hk23] at hf
            by_cases hk31 : o21.1 = 1
            · rw [if_pos hk31] at hf
              obtain ⟨hm32, hf⟩ := xmoE hf
              obtain rfl := Option.some.inj hf
              exact absurd (show (1 : Nat) = 0 from hkd) (by decide)
            rw [if_neg hk31] at hf
            exact nomatch hf
      · rw [if_neg hc] at hf
        refine xm_aload_n hx hb (xvor _ _) dM_split_20 rfl (lv_at hl 5 rfl) ?_
        obtain ⟨hg2, hf⟩ := xifn hf
        refine xm_vget (v := .int ((xpi ws9 3) (y2 - 1))) hx hb htx hown hK hP 3 (by decide) hg2 rfl ((hZ.1 (103, "count", "I") (List.mem_of_getElem? (i := 3) rfl)).use rfl) rfl dM_split_21 ?_
        refine lv_if_le (tgt := 45) hx hb dM_split_24 (by decide) (fun hc => ?_) (fun hc => ?_)
        · rw [if_pos hc] at hf
          refine lv_iconst (v := 0) hx hb dM_split_45 (by decide) ?_
          refine lv_istore (lv' := [(6, .int 0), (5, .int y5), (4, .int y4), (3, .int y3), (0, .ref aM), (1, xv vadL y1), (2, xv vadL y2)]) hx hb dM_split_46 hl (by decide) rfl (fun ls hl => ?_)
          refine lv_iconst (v := 0) hx hb dM_split_48 (by decide) ?_
          refine lv_istore (lv' := [(7, .int 0), (6, .int 0), (5, .int y5), (4, .int y4), (3, .int y3), (0, .ref aM), (1, xv vadL y1), (2, xv vadL y2)]) hx hb dM_split_49 hl (by decide) rfl (fun ls hl => ?_)
          exact ih (2, y5, y4, y3, y1, y2, (0 : Int32), (0 : Int32), ws9, wc, wn) _ _ ls (Or.inr (⟨adL, gdL, vadL, rfl, hf, hP, hD, hS, lv_sub hl [0, 1, 2, 3, 4, 5, 6, 7] rfl, hE, hN⟩))
        · rw [if_neg hc] at hf
          refine lv_iload hx hb dM_split_27 (lv_at hl 0 rfl) ?_
          refine xm_aload_n hx hb (xvor _ _) dM_split_29 rfl (lv_at hl 5 rfl) ?_
          refine xm_vget (v := .int ((xpi ws9 3) (y2 - 1))) hx hb htx hown hK hP 3 (by decide) hg2 rfl ((hZ.1 (103, "count", "I") (List.mem_of_getElem? (i := 3) rfl)).use rfl) rfl dM_split_30 ?_
          refine lv_iadd hx hb dM_split_33 ?_
          refine xm_aload_n hx hb (xvor _ _) dM_split_34 rfl (lv_at hl 4 rfl) ?_
          refine xm_vget (v := .int ((xpi ws9 3) (y1 - 1))) hx hb htx hown hK hP 3 (by decide) hg1 rfl ((hZ.1 (103, "count", "I") (List.mem_of_getElem? (i := 3) rfl)).use rfl) rfl dM_split_35 ?_
          refine lv_icmp_gt (tgt := 45) hx hb dM_split_38 (by decide) (fun hc => ?_) (fun hc => ?_)
          · rw [if_pos hc] at hf
            refine lv_iconst (v := 0) hx hb dM_split_45 (by decide) ?_
            refine lv_istore (lv' := [(6, .int 0), (5, .int y5), (4, .int y4), (3, .int y3), (0, .ref aM), (1, xv vadL y1), (2, xv vadL y2)]) hx hb dM_split_46 hl (by decide) rfl (fun ls hl => ?_)
            refine lv_iconst (v := 0) hx hb dM_split_48 (by decide) ?_
            refine lv_istore (lv' := [(7, .int 0), (6, .int 0), (5, .int y5), (4, .int y4), (3, .int y3), (0, .ref aM), (1, xv vadL y1), (2, xv vadL y2)]) hx hb dM_split_49 hl (by decide) rfl (fun ls hl => ?_)
            exact ih (2, y5, y4, y3, y1, y2, (0 : Int32), (0 : Int32), ws9, wc, wn) _ _ ls (Or.inr (⟨adL, gdL, vadL, rfl, hf, hP, hD, hS, lv_sub hl [0, 1, 2, 3, 4, 5, 6, 7] rfl, hE, hN⟩))
          · rw [if_neg hc] at hf
            refine lv_iconst (v := 1) hx hb dM_split_41 (by decide) ?_
            refine lv_goto (tgt := 46) hx hb dM_split_42 (by decide) ?_
            refine lv_istore (lv' := [(6, .int 1), (5, .int y5), (4, .int y4), (3, .int y3), (0, .ref aM), (1, xv vadL y1), (2, xv vadL y2)]) hx hb dM_split_46 hl (by decide) rfl (fun ls hl => ?_)
            refine lv_iconst (v := 0) hx hb dM_split_48 (by decide) ?_
            refine lv_istore (lv' := [(7, .int 0), (6, .int 1), (5, .int y5), (4, .int y4), (3, .int y3), (0, .ref aM), (1, xv vadL y1), (2, xv vadL y2)]) hx hb dM_split_49 hl (by decide) rfl (fun ls hl => ?_)
            exact ih (2, y5, y4, y3, y1, y2, (0 : Int32), (1 : Int32), ws9, wc, wn) _ _ ls (Or.inr (⟨adL, gdL, vadL, rfl, hf, hP, hD, hS, lv_sub hl [0, 1, 2, 3, 4, 5, 6, 7] rfl, hE, hN⟩))
    · subst hj
      have hf : fM_split_b (n + 1) 2 y5 y4 y3 y1 y2 y7 y6 ws9 wc wn = some out := hf
      rw [fM_split_b, if_neg (by decide)] at hf
      obtain ⟨hP, hD⟩ : xPD D xcl A (xMw cT aM adL rd gdL vadL ws9 []) H := ⟨hP, hD⟩
      have hl : lv_has ls 8 [(7, .int y7), (6, .int y6), (5, .int y5), (4, .int y4), (3, .int y3), (0, .ref aM), (1, xv vadL y1), (2, xv vadL y2)] := hl
      refine W.eq (g2 := F0 m 51 ls []) rfl ?_
      show W p l e _ s m _ below meth c H locs wc wn _ _
      obtain ⟨hm0, hf⟩ := xmoE hf
      refine lv_iload hx hb dM_split_51 (lv_at hl 0 rfl) ?_
      refine xm_aload_n hx hb (xvor _ _) dM_split_53 rfl (lv_at hl 7 rfl) ?_
      obtain ⟨hg1, hf⟩ := xifn hf
      refine xm_vget (v := .int ((xpi ws9 3) (y2 - 1))) hx hb htx hown hK hP 3 (by decide) hg1 rfl ((hZ.1 (103, "count", "I") (List.mem_of_getElem? (i := 3) rfl)).use rfl) rfl dM_split_54 ?_
      refine lv_icmp_ge (tgt := 108) hx hb dM_split_57 (by decide) (fun hc => ?_) (fun hc => ?_)
      · rw [if_pos hc] at hf
        refine xm_aload_n hx hb (xvor _ _) dM_split_108 rfl (lv_at hl 7 rfl) ?_
        refine xm_vget (v := .int ((xpi ws9 3) (y2 - 1))) hx hb htx hown hK hP 3 (by decide) hg1 rfl ((hZ.1 (103, "count", "I") (List.mem_of_getElem? (i := 3) rfl)).use rfl) rfl dM_split_109 ?_
        refine lv_if_ne (tgt := 137) hx hb dM_split_112 (by decide) (fun hc => ?_) (fun hc => ?_)
        · rw [if_neg hc] at hf
          refine lv_iload hx hb dM_split_137 (lv_at hl 1 rfl) ?_
          refine lv_if_eq (tgt := 172) hx hb dM_split_139 (by decide) (fun hc => ?_) (fun hc => ?_)
          · rw [if_pos hc] at hf
            refine lv_iinc (v := (y5 + 1)) (lv' := [(5, .int (y5 + 1)), (7, .int y7), (6, .int y6), (4, .int y4), (3, .int y3), (0, .ref aM), (1, xv vadL y1), (2, xv vadL y2)]) hx hb dM_split_172 hl (k := 2) rfl rfl (by decide) rfl (fun ls hl => ?_)
            refine lv_goto (tgt := 11) hx hb dM_split_175 (by decide) ?_
            exact ih (1, (y5 + 1), y4, y3, y1, y2, y7, y6, ws9, wc, wn) _ _ ls (Or.inl ⟨adL, gdL, vadL, rfl, hf, hP, hD, hS, lv_sub hl [0, 3, 4, 5, 6, 7] rfl, hE, hN⟩)
          · rw [if_neg hc] at hf
            refine lv_aload_n hx hb dM_split_142 rfl (lv_at hl 5 rfl) ?_
            refine lv_null hx hb dM_split_143 ?_
            refine lv_aload_n hx hb dM_split_144 rfl (lv_at hl 5 rfl) ?_
            refine xm_aload_n hx hb (xvor _ _) dM_split_145 rfl (lv_at hl 6 rfl) ?_
            refine lv_iload hx hb dM_split_146 (lv_at hl 3 rfl) ?_
            refine lv_iload hx hb dM_split_148 (lv_at hl 2 rfl) ?_
            obtain ⟨o2, hq3, hf⟩ := xbind hf
            obtain ⟨hg4, hf⟩ := xifn hf
            obtain ⟨hm5, hf⟩ := xmoE hf
            have hFc := xm_free hD hS hA
            refine va_callq (va_runV (C := "ValueBenchModel") (As := [xv vadL y1, .int y4, .int y5]) (rest := [.null, .ref aM]) ⟨hx, hb, hml, hown, htx⟩ (gM_part l hl9 D cT aK aV H.size n aM adL rd gdL vadL ws9 y1 y4 y5 o2 hq3) ⟨callB_of 3 htx (xw_goodC kw_6_229) rfl rfl rfl (htx _ kw_1_5) (htx _ kw_6_226) ⟨by decide, by decide, by decide +kernel⟩ ⟨Nat.le_of_ble_eq_true rfl, Nat.le_of_ble_eq_true rfl⟩, (htx _ kw_6_228), (htx _ kp_M_part)⟩ ⟨xPre_blind, va_recv hK hP (ci := 5) rfl (q0 := 0) rfl, (fun U hU hW => ⟨rfl, xPre_of hZ hS hFc hP hD hK U hU hW⟩)⟩ rfl rfl hl.1 rfl (xm_room (Nat.le_of_ble_eq_true rfl)) dM_split_150 ⟨hm5.1, hm5.2⟩) hS (fun q _ h => hFc q h) hFc (fun r6 u9 t H1 locs ht hvm hr9 hB hz1 hk1 hS => ?_)
            obtain ⟨hP1, hK1, hD1⟩ := hB
            rw [ht] at hP1
            obtain ⟨ad7, gd8, vad9⟩ := u9
            obtain ⟨hr9, hv10, hn11⟩ := hr9
            have hP : va_P D xcl (xMw cT aM ad7 rd gd8 vad9 o2.2.2.2 []) H1 := hP1
            have hD : va_D A (xMw cT aM ad7 rd gd8 vad9 o2.2.2.2 []) := hD1.weaken (fun k q _ h => hFc q.1 h)
            generalize H1 = H at hP hS ⊢
            have hE9 : ∀ p, p < xct st → vad9 p = vad p := fun p h => (hv10 p (Nat.lt_of_lt_of_le h hN)).trans (hE p h)
            have hE := hE9
            have hN : xct st ≤ xct o2.2.2.2 := Nat.le_trans hN hn11
            have ev12 : xv vadL y1 = xv vad9 y1 := xvE hv10 hg4
            have ev13 : xv vadL y2 = xv vad9 y2 := xvE hv10 (fun h => hg1 (Or.inr h))
            have hl : lv_has ls 8 [(7, .int y7), (6, .int y6), (5, .int y5), (4, .int y4), (3, .int y3), (0, .ref aM), (1, xv vad9 y1), (2, xv vad9 y2)] := by first | exact hl | ((try (rw [← ev12])); (try (rw [← ev13])); exact hl)
            rw [hr9]
            refine W.eq (g2 := F0 m 153 ls [xv vad9 o2.2.2.1, .null, .ref aM]) (by first | rfl | ((try (rw [ev12])); (try (rw [ev13])); rfl)) ?_
            obtain ⟨o14, hq15, hf⟩ := xbind hf
            obtain ⟨hg16, hf⟩ := xifn hf
            obtain ⟨hg17, hf⟩ := xifn hf
            obtain ⟨hm18, hf⟩ := xmoE hf
            have hFc := xm_free hD hS hA
            refine va_callv (va_runV (C := "ValueBenchModel") (As := [.null, xv vad9 o2.2.2.1]) (rest := []) ⟨hx, hb, hml, hown, htx⟩ (gM_wait l hl9 D cT aK aV H.size n aM ad7 rd gd8 vad9 o2.2.2.2 0 o2.2.2.1 o14 hq15) ⟨callB_of 2 htx (xw_goodC kw_6_112) rfl rfl rfl (htx _ kw_1_5) (htx _ kw_6_109) ⟨by decide, by decide, by decide +kernel⟩ ⟨Nat.le_of_ble_eq_true rfl, Nat.le_of_ble_eq_true rfl⟩, (htx _ kw_6_111), (htx _ kp_M_wait)⟩ ⟨xPre_blind, va_recv hK hP (ci := 5) rfl (q0 := 0) rfl, (fun U hU hW => ⟨rfl, xPre_of hZ hS hFc hP hD hK U hU hW⟩)⟩ rfl rfl hl.1 rfl (xm_room (Nat.le_of_ble_eq_true rfl)) dM_split_153 ⟨hm18.1, hm18.2⟩) hS (fun q _ h => hFc q h) hFc (fun u9 t H1 locs ht hvm hr9 hB hz1 hk1 hS => ?_)
            obtain ⟨hP1, hK1, hD1⟩ := hB
            rw [ht] at hP1
            obtain ⟨ad20, gd21, vad22⟩ := u9
            obtain ⟨hv23, hn24⟩ := hr9
            have hP : va_P D xcl (xMw cT aM ad20 rd gd21 vad22 o14.2.2 []) H1 := hP1
            have hD : va_D A (xMw cT aM ad20 rd gd21 vad22 o14.2.2 []) := hD1.weaken (fun k q _ h => hFc q.1 h)
            generalize H1 = H at hP hS ⊢
            have hE9 : ∀ p, p < xct st → vad22 p = vad p := fun p h => (hv23 p (Nat.lt_of_lt_of_le h hN)).trans (hE p h)
            have hE := hE9
            have hN : xct st ≤ xct o14.2.2 := Nat.le_trans hN hn24
            have ev25 : xv vad9 y1 = xv vad22 y1 := xvE hv23 hg16
            have ev26 : xv vad9 y2 = xv vad22 y2 := xvE hv23 hg17
            have hl : lv_has ls 8 [(7, .int y7), (6, .int y6), (5, .int y5), (4, .int y4), (3, .int y3), (0, .ref aM), (1, xv vad22 y1), (2, xv vad22 y2)] := by first | exact hl | ((try (rw [← ev25])); (try (rw [← ev26])); exact hl)
            refine W.eq (g2 := F0 m 156 ls []) (by first | rfl | ((try (rw [ev25])); (try (rw [ev26])); rfl)) ?_
            refine lv_iload hx hb dM_split_156 (lv_at hl 2 rfl) ?_
            refine xm_aload_n hx hb (xvor _ _) dM_split_158 rfl (lv_at hl 7 rfl) ?_
            obtain ⟨hg27, hf⟩ := xifn hf
            refine xm_vget (v := .int ((xpi o14.2.2 3) (y2 - 1))) hx hb htx hown hK hP 3 (by decide) hg27 rfl ((hZ.1 (103, "count", "I") (List.mem_of_getElem? (i := 3) rfl)).use rfl) rfl dM_split_159 ?_
            refine lv_iadd hx hb dM_split_162 ?_
            refine lv_istore (lv' := [(5, .int (y5 + ((xpi o14.2.2 3) (y2 - 1)))), (7, .int y7), (6, .int y6), (4, .int y4), (3, .int y3), (0, .ref aM), (1, xv vad22 y1), (2, xv vad22 y2)]) hx hb dM_split_163 hl (by decide) rfl (fun ls hl => ?_)
            refine lv_iload hx hb dM_split_165 (lv_at hl 0 rfl) ?_
            refine lv_istore (lv' := [(4, .int (y5 + ((xpi o14.2.2 3) (y2 - 1)))), (5, .int (y5 + ((xpi o14.2.2 3) (y2 - 1)))), (7, .int y7), (6, .int y6), (3, .int y3), (0, .ref aM), (1, xv vad22 y1), (2, xv vad22 y2)]) hx hb dM_split_167 hl (by decide) rfl (fun ls hl => ?_)
            refine lv_goto (tgt := 175) hx hb dM_split_169 (by decide) ?_
            refine lv_goto (tgt := 11) hx hb dM_split_175 (by decide) ?_
            exact ih (1, (y5 + ((xpi o14.2.2 3) (y2 - 1))), (y5 + ((xpi o14.2.2 3) (y2 - 1))), y3, y1, y2, y7, y6, o14.2.2, ((wc + o2.1) + o14.1), ((wn + o2.2.1) + o14.2.1)) _ _ ls (Or.inl ⟨ad20, gd21, vad22, rfl, hf, hP, hD, hS, lv_sub hl [1, 0, 4, 5, 6, 7] rfl, hE, hN⟩)
        · rw [if_pos hc] at hf
          refine lv_aload_n hx hb dM_split_115 rfl (lv_at hl 5 rfl) ?_
          refine lv_null hx hb dM_split_116 ?_
          refine lv_aload_n hx hb dM_split_117 rfl (lv_at hl 5 rfl) ?_
          refine xm_aload_n hx hb (xvor _ _) dM_split_118 rfl (lv_at hl 6 rfl) ?_
          refine lv_iload hx hb dM_split_119 (lv_at hl 2 rfl) ?_
          refine lv_iload hx hb dM_split_121 (lv_at hl 2 rfl) ?_
          refine lv_iconst (v := 1) hx hb dM_split_123 (by decide) ?_
          refine lv_iadd hx hb dM_split_124 ?_
          obtain ⟨o2, hq3, hf⟩ := xbind hf
          obtain ⟨hg4, hf⟩ := xifn hf
          obtain ⟨hm5, hf⟩ := xmoE hf
          have hFc := xm_free hD hS hA
          refine va_callq (va_runV (C := "ValueBenchModel") (As := [xv vadL y1, .int y5, .int (y5 + (1 : Int32))]) (rest := [.null, .ref aM]) ⟨hx, hb, hml, hown, htx⟩ (gM_part l hl9 D cT aK aV H.size n aM adL rd gdL vadL ws9 y1 y5 (y5 + (1 : Int32)) o2 hq3) ⟨callB_of 3 htx (xw_goodC kw_6_229) rfl rfl rfl (htx _ kw_1_5) (htx _ kw_6_226) ⟨by decide, by decide, by decide +kernel⟩ ⟨Nat.le_of_ble_eq_true rfl, Nat.le_of_ble_eq_true rfl⟩, (htx _ kw_6_228), (htx _ kp_M_part)⟩ ⟨xPre_blind, va_recv hK hP (ci := 5) rfl (q0 := 0) rfl, (fun U hU hW => ⟨rfl, xPre_of hZ hS hFc hP hD hK U hU hW⟩)⟩ rfl rfl hl.1 rfl (xm_room (Nat.le_of_ble_eq_true rfl)) dM_split_125 ⟨hm5.1, hm5.2⟩) hS (fun q _ h => hFc q h) hFc (fun r6 u9 t H1 locs ht hvm hr9 hB hz1 hk1 hS => ?_)
          obtain ⟨hP1, hK1, hD1⟩ := hB
          rw [ht] at hP1
          obtain ⟨ad7, gd8, vad9⟩ := u9
          obtain ⟨hr9, hv10, hn11⟩ := hr9
          have hP : va_P D xcl (xMw cT aM ad7 rd gd8 vad9 o2.2.2.2 []) H1 := hP1
          have hD : va_D A (xMw cT aM ad7 rd gd8 vad9 o2.2.2.2 []) := hD1.weaken (fun k q _ h => hFc q.1 h)
          generalize H1 = H at hP hS ⊢
          have hE9 : ∀ p, p < xct st → vad9 p = vad p := fun p h => (hv10 p (Nat.lt_of_lt_of_le h hN)).trans (hE p h)
          have hE := hE9
          have hN : xct st ≤ xct o2.2.2.2 := Nat.le_trans hN hn11
          have ev12 : xv vadL y1 = xv vad9 y1 := xvE hv10 hg4
          have ev13 : xv vadL y2 = xv vad9 y2 := xvE hv10 (fun h => hg1 (Or.inr h))
          have hl : lv_has ls 8 [(7, .int y7), (6, .int y6), (5, .int y5), (4, .int y4), (3, .int y3), (0, .ref aM), (1, xv vad9 y1), (2, xv vad9 y2)] := by first | exact hl | ((try (rw [← ev12])); (try (rw [← ev13])); exact hl)
          rw [hr9]
          refine W.eq (g2 := F0 m 128 ls [xv vad9 o2.2.2.1, .null, .ref aM]) (by first | rfl | ((try (rw [ev12])); (try (rw [ev13])); rfl)) ?_
          obtain ⟨o14, hq15, hf⟩ := xbind hf
          obtain ⟨hg16, hf⟩ := xifn hf
          obtain ⟨hg17, hf⟩ := xifn hf
          obtain ⟨hm18, hf⟩ := xmoE hf
          have hFc := xm_free hD hS hA
          refine va_callv (va_runV (C := "ValueBenchModel") (As := [.null, xv vad9 o2.2.2.1]) (rest := []) ⟨hx, hb, hml, hown, htx⟩ (gM_wait l hl9 D cT aK aV H.size n aM ad7 rd gd8 vad9 o2.2.2.2 0 o2.2.2.1 o14 hq15) ⟨callB_of 2 htx (xw_goodC kw_6_112) rfl rfl rfl (htx _ kw_1_5) (htx _ kw_6_109) ⟨by decide, by decide, by decide +kernel⟩ ⟨Nat.le_of_ble_eq_true rfl, Nat.le_of_ble_eq_true rfl⟩, (htx _ kw_6_111), (htx _ kp_M_wait)⟩ ⟨xPre_blind, va_recv hK hP (ci := 5) rfl (q0 := 0) rfl, (fun U hU hW => ⟨rfl, xPre_of hZ hS hFc hP hD hK U hU hW⟩)⟩ rfl rfl hl.1 rfl (xm_room (Nat.le_of_ble_eq_true rfl)) dM_split_128 ⟨hm18.1, hm18.2⟩) hS (fun q _ h => hFc q h) hFc (fun u9 t H1 locs ht hvm hr9 hB hz1 hk1 hS => ?_)
          obtain ⟨hP1, hK1, hD1⟩ := hB
          rw [ht] at hP1
          obtain ⟨ad20, gd21, vad22⟩ := u9
          obtain ⟨hv23, hn24⟩ := hr9
          have hP : va_P D xcl (xMw cT aM ad20 rd gd21 vad22 o14.2.2 []) H1 := hP1
          have hD : va_D A (xMw cT aM ad20 rd gd21 vad22 o14.2.2 []) := hD1.weaken (fun k q _ h => hFc q.1 h)
          generalize H1 = H at hP hS ⊢
          have hE9 : ∀ p, p < xct st → vad22 p = vad p := fun p h => (hv23 p (Nat.lt_of_lt_of_le h hN)).trans (hE p h)
          have hE := hE9
          have hN : xct st ≤ xct o14.2.2 := Nat.le_trans hN hn24
          have ev25 : xv vad9 y1 = xv vad22 y1 := xvE hv23 hg16
          have ev26 : xv vad9 y2 = xv vad22 y2 := xvE hv23 hg17
          have hl : lv_has ls 8 [(7, .int y7), (6, .int y6), (5, .int y5), (4, .int y4), (3, .int y3), (0, .ref aM), (1, xv vad22 y1), (2, xv vad22 y2)] := by first | exact hl | ((try (rw [← ev25])); (try (rw [← ev26])); exact hl)
          refine W.eq (g2 := F0 m 131 ls []) (by first | rfl | ((try (rw [ev25])); (try (rw [ev26])); rfl)) ?_
          refine lv_iinc (v := (y5 + 1)) (lv' := [(5, .int (y5 + 1)), (7, .int y7), (6, .int y6), (4, .int y4), (3, .int y3), (0, .ref aM), (1, xv vad22 y1), (2, xv vad22 y2)]) hx hb dM_split_131 hl (k := 2) rfl rfl (by decide) rfl (fun ls hl => ?_)
          refine lv_goto (tgt := 175) hx hb dM_split_134 (by decide) ?_
          refine lv_goto (tgt := 11) hx hb dM_split_175 (by decide) ?_
          exact ih (1, (y5 + 1), y4, y3, y1, y2, y7, y6, o14.2.2, ((wc + o2.1) + o14.1), ((wn + o2.2.1) + o14.2.1)) _ _ ls (Or.inl ⟨ad20, gd21, vad22, rfl, hf, hP, hD, hS, lv_sub hl [0, 3, 4, 5, 6, 7] rfl, hE, hN⟩)
      · rw [if_neg hc] at hf
        refine lv_iload hx hb dM_split_60 (lv_at hl 1 rfl) ?_
        refine lv_if_eq (tgt := 108) hx hb dM_split_62 (by decide) (fun hc => ?_) (fun hc => ?_)
        · rw [if_pos hc] at hf
          refine xm_aload_n hx hb (xvor _ _) dM_split_108 rfl (lv_at hl 7 rfl) ?_
          refine xm_vget (v := .int ((xpi ws9 3) (y2 - 1))) hx hb htx hown hK hP 3 (by decide) hg1 rfl ((hZ.1 (103, "count", "I") (List.mem_of_getElem? (i := 3) rfl)).use rfl) rfl dM_split_109 ?_
          refine lv_if_ne (tgt := 137) hx hb dM_split_112 (by decide) (fun hc => ?_) (fun hc => ?_)
          · rw [if_neg hc] at hf
            refine lv_iload hx hb dM_split_137 (lv_at hl 1 rfl) ?_
            refine lv_if_eq (tgt := 172) hx hb dM_split_139 (by decide) (fun hc => ?_) (fun hc => ?_)
            · rw [if_pos hc] at hf
              refine lv_iinc (v := (y5 + 1)) (lv' := [(5, .int (y5 + 1)), (7, .int y7), (6, .int y6), (4, .int y4), (3, .int y3), (0, .ref aM), (1, xv vadL y1), (2, xv vadL y2)]) hx hb dM_split_172 hl (k := 2) rfl rfl (by decide) rfl (fun ls hl => ?_)
              refine lv_goto (tgt := 11) hx hb dM_split_175 (by decide) ?_
              exact ih (1, (y5 + 1), y4, y3, y1, y2, y7, y6, ws9, wc, wn) _ _ ls (Or.inl ⟨adL, gdL, vadL, rfl, hf, hP, hD, hS, lv_sub hl [0, 3, 4, 5, 6, 7] rfl, hE, hN⟩)
            · rw [if_neg hc] at hf
              refine lv_aload_n hx hb dM_split_142 rfl (lv_at hl 5 rfl) ?_
              refine lv_null hx hb dM_split_143 ?_
              refine lv_aload_n hx hb dM_split_144 rfl (lv_at hl 5 rfl) ?_
              refine xm_aload_n hx hb (xvor _ _) dM_split_145 rfl (lv_at hl 6 rfl) ?_
              refine lv_iload hx hb dM_split_146 (lv_at hl 3 rfl) ?_
              refine lv_iload hx hb dM_split_148 (lv_at hl 2 rfl) ?_
              obtain ⟨o2, hq3, hf⟩ := xbind hf
              obtain ⟨hg4, hf⟩ := xifn hf
              obtain ⟨hm5, hf⟩ := xmoE hf
              have hFc := xm_free hD hS hA
              refine va_callq (va_runV (C := "ValueBenchModel") (As := [xv vadL y1, .int y4, .int y5]) (rest := [.null, .ref aM]) ⟨hx, hb, hml, hown, htx⟩ (gM_part l hl9 D cT aK aV H.size n aM adL rd gdL vadL ws9 y1 y4 y5 o2 hq3) ⟨callB_of 3 htx (xw_goodC kw_6_229) rfl rfl rfl (htx _ kw_1_5) (htx _ kw_6_226) ⟨by decide, by decide, by decide +kernel⟩ ⟨Nat.le_of_ble_eq_true rfl, Nat.le_of_ble_eq_true rfl⟩, (htx _ kw_6_228), (htx _ kp_M_part)⟩ ⟨xPre_blind, va_recv hK hP (ci := 5) rfl (q0 := 0) rfl, (fun U hU hW => ⟨rfl, xPre_of hZ hS hFc hP hD hK U hU hW⟩)⟩ rfl rfl hl.1 rfl (xm_room (Nat.le_of_ble_eq_true rfl)) dM_split_150 ⟨hm5.1, hm5.2⟩) hS (fun q _ h => hFc q h) hFc (fun r6 u9 t H1 locs ht hvm hr9 hB hz1 hk1 hS => ?_)
              obtain ⟨hP1, hK1, hD1⟩ := hB
              rw [ht] at hP1
              obtain ⟨ad7, gd8, vad9⟩ := u9
              obtain ⟨hr9, hv10, hn11⟩ := hr9
              have hP : va_P D xcl (xMw cT aM ad7 rd gd8 vad9 o2.2.2.2 []) H1 := hP1
              have hD : va_D A (xMw cT aM ad7 rd gd8 vad9 o2.2.2.2 []) := hD1.weaken (fun k q _ h => hFc q.1 h)
              generalize H1 = H at hP hS ⊢
              have hE9 : ∀ p, p < xct st → vad9 p = vad p := fun p h => (hv10 p (Nat.lt_of_lt_of_le h hN)).trans (hE p h)
              have hE := hE9
              have hN : xct st ≤ xct o2.2.2.2 := Nat.le_trans hN hn11
              have ev12 : xv vadL y1 = xv vad9 y1 := xvE hv10 hg4
              have ev13 : xv vadL y2 = xv vad9 y2 := xvE hv10 (fun h => hg1 (Or.inr h))
              have hl : lv_has ls 8 [(7, .int y7), (6, .int y6), (5, .int y5), (4, .int y4), (3, .int y3), (0, .ref aM), (1, xv vad9 y1), (2, xv vad9 y2)] := by first | exact hl | ((try (rw [← ev12])); (try (rw [← ev13])); exact hl)
              rw [hr9]
              refine W.eq (g2 := F0 m 153 ls [xv vad9 o2.2.2.1, .null, .ref aM]) (by first | rfl | ((try (rw [ev12])); (try (rw [ev13])); rfl)) ?_
              obtain ⟨o14, hq15, hf⟩ := xbind hf
              obtain ⟨hg16, hf⟩ := xifn hf
              obtain ⟨hg17, hf⟩ := xifn hf
              obtain ⟨hm18, hf⟩ := xmoE hf
              have hFc := xm_free hD hS hA
              refine va_callv (va_runV (C := "ValueBenchModel") (As := [.null, xv vad9 o2.2.2.1]) (rest := []) ⟨hx, hb, hml, hown, htx⟩ (gM_wait l hl9 D cT aK aV H.size n aM ad7 rd gd8 vad9 o2.2.2.2 0 o2.2.2.1 o14 hq15) ⟨callB_of 2 htx (xw_goodC kw_6_112) rfl rfl rfl (htx _ kw_1_5) (htx _ kw_6_109) ⟨by decide, by decide, by decide +kernel⟩ ⟨Nat.le_of_ble_eq_true rfl, Nat.le_of_ble_eq_true rfl⟩, (htx _ kw_6_111), (htx _ kp_M_wait)⟩ ⟨xPre_blind, va_recv hK hP (ci := 5) rfl (q0 := 0) rfl, (fun U hU hW => ⟨rfl, xPre_of hZ hS hFc hP hD hK U hU hW⟩)⟩ rfl rfl hl.1 rfl (xm_room (Nat.le_of_ble_eq_true rfl)) dM_split_153 ⟨hm18.1, hm18.2⟩) hS (fun q _ h => hFc q h) hFc (fun u9 t H1 locs ht hvm hr9 hB hz1 hk1 hS => ?_)
              obtain ⟨hP1, hK1, hD1⟩ := hB
              rw [ht] at hP1
              obtain ⟨ad20, gd21, vad22⟩ := u9
              obtain ⟨hv23, hn24⟩ := hr9
              have hP : va_P D xcl (xMw cT aM ad20 rd gd21 vad22 o14.2.2 []) H1 := hP1
              have hD : va_D A (xMw cT aM ad20 rd gd21 vad22 o14.2.2 []) := hD1.weaken (fun k q _ h => hFc q.1 h)
              generalize H1 = H at hP hS ⊢
              have hE9 : ∀ p, p < xct st → vad22 p = vad p := fun p h => (hv23 p (Nat.lt_of_lt_of_le h hN)).trans (hE p h)
              have hE := hE9
              have hN : xct st ≤ xct o14.2.2 := Nat.le_trans hN hn24
              have ev25 : xv vad9 y1 = xv vad22 y1 := xvE hv23 hg16
              have ev26 : xv vad9 y2 = xv vad22 y2 := xvE hv23 hg17
              have hl : lv_has ls 8 [(7, .int y7), (6, .int y6), (5, .int y5), (4, .int y4), (3, .int y3), (0, .ref aM), (1, xv vad22 y1), (2, xv vad22 y2)] := by first | exact hl | ((try (rw [← ev25])); (try (rw [← ev26])); exact hl)
              refine W.eq (g2 := F0 m 156 ls []) (by first | rfl | ((try (rw [ev25])); (try (rw [ev26])); rfl)) ?_
              refine lv_iload hx hb dM_split_156 (lv_at hl 2 rfl) ?_
              refine xm_aload_n hx hb (xvor _ _) dM_split_158 rfl (lv_at hl 7 rfl) ?_
              obtain ⟨hg27, hf⟩ := xifn hf
              refine xm_vget (v := .int ((xpi o14.2.2 3) (y2 - 1))) hx hb htx hown hK hP 3 (by decide) hg27 rfl ((hZ.1 (103, "count", "I") (List.mem_of_getElem? (i := 3) rfl)).use rfl) rfl dM_split_159 ?_
              refine lv_iadd hx hb dM_split_162 ?_
              refine lv_istore (lv' := [(5, .int (y5 + ((xpi o14.2.2 3) (y2 - 1)))), (7, .int y7), (6, .int y6), (4, .int y4), (3, .int y3), (0, .ref aM), (1, xv vad22 y1), (2, xv vad22 y2)]) hx hb dM_split_163 hl (by decide) rfl (fun ls hl => ?_)
              refine lv_iload hx hb dM_split_165 (lv_at hl 0 rfl) ?_
              refine lv_istore (lv' := [(4, .int (y5 + ((xpi o14.2.2 3) (y2 - 1)))), (5, .int (y5 + ((xpi o14.2.2 3) (y2 - 1)))), (7, .int y7), (6, .int y6), (3, .int y3), (0, .ref aM), (1, xv vad22 y1), (2, xv vad22 y2)]) hx hb dM_split_167 hl (by decide) rfl (fun ls hl => ?_)
              refine lv_goto (tgt := 175) hx hb dM_split_169 (by decide) ?_
              refine lv_goto (tgt := 11) hx hb dM_split_175 (by decide) ?_
              exact ih (1, (y5 + ((xpi o14.2.2 3) (y2 - 1))), (y5 + ((xpi o14.2.2 3) (y2 - 1))), y3, y1, y2, y7, y6, o14.2.2, ((wc + o2.1) + o14.1), ((wn + o2.2.1) + o14.2.1)) _ _ ls (Or.inl ⟨ad20, gd21, vad22, rfl, hf, hP, hD, hS, lv_sub hl [1, 0, 4, 5, 6, 7] rfl, hE, hN⟩)
          · rw [if_pos hc] at hf
            refine lv_aload_n hx hb dM_split_115 rfl (lv_at hl 5 rfl) ?_
            refine lv_null hx hb dM_split_116 ?_
            refine lv_aload_n hx hb dM_split_117 rfl (lv_at hl 5 rfl) ?_
            refine xm_aload_n hx hb (xvor _ _) dM_split_118 rfl (lv_at hl 6 rfl) ?_
            refine lv_iload hx hb dM_split_119 (lv_at hl 2 rfl) ?_
            refine lv_iload hx hb dM_split_121 (lv_at hl 2 rfl) ?_
            refine lv_iconst (v := 1) hx hb dM_split_123 (by decide) ?_
            refine lv_iadd hx hb dM_split_124 ?_
            obtain ⟨o2, hq3, hf⟩ := xbind hf
            obtain ⟨hg4, hf⟩ := xifn hf
            obtain ⟨hm5, hf⟩ := xmoE hf
            have hFc := xm_free hD hS hA
            refine va_callq (va_runV (C := "ValueBenchModel") (As := [xv vadL y1, .int y5, .int (y5 + (1 : Int32))]) (rest := [.null, .ref aM]) ⟨hx, hb, hml, hown, htx⟩ (gM_part l hl9 D cT aK aV H.size n aM adL rd gdL vadL ws9 y1 y5 (y5 + (1 : Int32)) o2 hq3) ⟨callB_of 3 htx (xw_goodC kw_6_229) rfl rfl rfl (htx _ kw_1_5) (htx _ kw_6_226) ⟨by decide, by decide, by decide +kernel⟩ ⟨Nat.le_of_ble_eq_true rfl, Nat.le_of_ble_eq_true rfl⟩, (htx _ kw_6_228), (htx _ kp_M_part)⟩ ⟨xPre_blind, va_recv hK hP (ci := 5) rfl (q0 := 0) rfl, (fun U hU hW => ⟨rfl, xPre_of hZ hS hFc hP hD hK U hU hW⟩)⟩ rfl rfl hl.1 rfl (xm_room (Nat.le_of_ble_eq_true rfl)) dM_split_125 ⟨hm5.1, hm5.2⟩) hS (fun q _ h => hFc q h) hFc (fun r6 u9 t H1 locs ht hvm hr9 hB hz1 hk1 hS => ?_)
            obtain ⟨hP1, hK1, hD1⟩ := hB
            rw [ht] at hP1
            obtain ⟨ad7, gd8, vad9⟩ := u9
            obtain ⟨hr9, hv10, hn11⟩ := hr9
            have hP : va_P D xcl (xMw cT aM ad7 rd gd8 vad9 o2.2.2.2 []) H1 := hP1
            have hD : va_D A (xMw cT aM ad7 rd gd8 vad9 o2.2.2.2 []) := hD1.weaken (fun k q _ h => hFc q.1 h)
            generalize H1 = H at hP hS ⊢
            have hE9 : ∀ p, p < xct st → vad9 p = vad p := fun p h => (hv10 p (Nat.lt_of_lt_of_le h hN)).trans (hE p h)
            have hE := hE9
            have hN : xct st ≤ xct o2.2.2.2 := Nat.le_trans hN hn11
            have ev12 : xv vadL y1 = xv vad9 y1 := xvE hv10 hg4
            have ev13 : xv vadL y2 = xv vad9 y2 := xvE hv10 (fun h => hg1 (Or.inr h))
            have hl : lv_has ls 8 [(7, .int y7), (6, .int y6), (5, .int y5), (4, .int y4), (3, .int y3), (0, .ref aM), (1, xv vad9 y1), (2, xv vad9 y2)] := by first | exact hl | ((try (rw [← ev12])); (try (rw [← ev13])); exact hl)
            rw [hr9]
            refine W.eq (g2 := F0 m 128 ls [xv vad9 o2.2.2.1, .null, .ref aM]) (by first | rfl | ((try (rw [ev12])); (try (rw [ev13])); rfl)) ?_
            obtain ⟨o14, hq15, hf⟩ := xbind hf
            obtain ⟨hg16, hf⟩ := xifn hf
            obtain ⟨hg17, hf⟩ := xifn hf
            obtain ⟨hm18, hf⟩ := xmoE hf
            have hFc := xm_free hD hS hA
            refine va_callv (va_runV (C := "ValueBenchModel") (As := [.null, xv vad9 o2.2.2.1]) (rest := []) ⟨hx, hb, hml, hown, htx⟩ (gM_wait l hl9 D cT aK aV H.size n aM ad7 rd gd8 vad9 o2.2.2.2 0 o2.2.2.1 o14 hq15) ⟨callB_of 2 htx (xw_goodC kw_6_112) rfl rfl rfl (htx _ kw_1_5) (htx _ kw_6_109) ⟨by decide, by decide, by decide +kernel⟩ ⟨Nat.le_of_ble_eq_true rfl, Nat.le_of_ble_eq_true rfl⟩, (htx _ kw_6_111), (htx _ kp_M_wait)⟩ ⟨xPre_blind, va_recv hK hP (ci := 5) rfl (q0 := 0) rfl, (fun U hU hW => ⟨rfl, xPre_of hZ hS hFc hP hD hK U hU hW⟩)⟩ rfl rfl hl.1 rfl (xm_room (Nat.le_of_ble_eq_true rfl)) dM_split_128 ⟨hm18.1, hm18.2⟩) hS (fun q _ h => hFc q h) hFc (fun u9 t H1 locs ht hvm hr9 hB hz1 hk1 hS => ?_)
            obtain ⟨hP1, hK1, hD1⟩ := hB
            rw [ht] at hP1
            obtain ⟨ad20, gd21, vad22⟩ := u9
            obtain ⟨hv23, hn24⟩ := hr9
            have hP : va_P D xcl (xMw cT aM ad20 rd gd21 vad22 o14.2.2 []) H1 := hP1
            have hD : va_D A (xMw cT aM ad20 rd gd21 vad22 o14.2.2 []) := hD1.weaken (fun k q _ h => hFc q.1 h)
            generalize H1 = H at hP hS ⊢
            have hE9 : ∀ p, p < xct st → vad22 p = vad p := fun p h => (hv23 p (Nat.lt_of_lt_of_le h hN)).trans (hE p h)
            have hE := hE9
            have hN : xct st ≤ xct o14.2.2 := Nat.le_trans hN hn24
            have ev25 : xv vad9 y1 = xv vad22 y1 := xvE hv23 hg16
            have ev26 : xv vad9 y2 = xv vad22 y2 := xvE hv23 hg17
            have hl : lv_has ls 8 [(7, .int y7), (6, .int y6), (5, .int y5), (4, .int y4), (3, .int y3), (0, .ref aM), (1, xv vad22 y1), (2, xv vad22 y2)] := by first | exact hl | ((try (rw [← ev25])); (try (rw [← ev26])); exact hl)
            refine W.eq (g2 := F0 m 131 ls []) (by first | rfl | ((try (rw [ev25])); (try (rw [ev26])); rfl)) ?_
            refine lv_iinc (v := (y5 + 1)) (lv' := [(5, .int (y5 + 1)), (7, .int y7), (6, .int y6), (4, .int y4), (3, .int y3), (0, .ref aM), (1, xv vad22 y1), (2, xv vad22 y2)]) hx hb dM_split_131 hl (k := 2) rfl rfl (by decide) rfl (fun ls hl => ?_)
            refine lv_goto (tgt := 175) hx hb dM_split_134 (by decide) ?_
            refine lv_goto (tgt := 11) hx hb dM_split_175 (by decide) ?_
            exact ih (1, (y5 + 1), y4, y3, y1, y2, y7, y6, o14.2.2, ((wc + o2.1) + o14.1), ((wn + o2.2.1) + o14.2.1)) _ _ ls (Or.inl ⟨ad20, gd21, vad22, rfl, hf, hP, hD, hS, lv_sub hl [0, 3, 4, 5, 6, 7] rfl, hE, hN⟩)
        · rw [if_neg hc] at hf
          refine lv_aload_n hx hb dM_split_65 rfl (lv_at hl 5 rfl) ?_
          refine xm_get (v := .ref (adL 3)) hx hb htx hown hK hP 3 (by decide) rfl (htx _ kw_5_90) rfl dM_split_66 ?_
          refine xm_aload_n hx hb (xvor _ _) dM_split_69 rfl (lv_at hl 6 rfl) ?_
          obtain ⟨hg2, hf⟩ := xifn hf
          refine xm_vget (v := .int ((xpi ws9 2) (y1 - 1))) hx hb htx hown hK hP 2 (by decide) hg2 rfl ((hZ.1 (100, "off", "I") (List.mem_of_getElem? (i := 2) rfl)).use rfl) rfl dM_split_70 ?_
          refine lv_iload hx hb dM_split_73 (lv_at hl 2 rfl) ?_
          refine lv_iadd hx hb dM_split_75 ?_
          refine lv_iload hx hb dM_split_76 (lv_at hl 0 rfl) ?_
          refine lv_iadd hx hb dM_split_78 ?_
          obtain ⟨hg3, hf⟩ := xifn hf
          refine va_bald hx hb hK hP 2 0 rfl rfl hg3 dM_split_79 ?_
          refine W.eq (g2 := F0 m 80 ls [.int ((xba ws9 3) ((((xpi ws9 2) (y1 - 1)) + y5) + y7).toNatClampNeg)]) rfl ?_
          refine lv_aload_n hx hb dM_split_80 rfl (lv_at hl 5 rfl) ?_
          refine xm_get (v := .ref (adL 3)) hx hb htx hown hK hP 3 (by decide) rfl (htx _ kw_5_90) rfl dM_split_81 ?_
          refine xm_aload_n hx hb (xvor _ _) dM_split_84 rfl (lv_at hl 7 rfl) ?_
          refine xm_vget (v := .int ((xpi ws9 2) (y2 - 1))) hx hb htx hown hK hP 2 (by decide) hg1 rfl ((hZ.1 (100, "off", "I") (List.mem_of_getElem? (i := 2) rfl)).use rfl) rfl dM_split_85 ?_
          refine lv_iload hx hb dM_split_88 (lv_at hl 0 rfl) ?_
          refine lv_iadd hx hb dM_split_90 ?_
          obtain ⟨hg4, hf⟩ := xifn hf
          refine va_bald hx hb hK hP 2 0 rfl rfl hg4 dM_split_91 ?_
          refine W.eq (g2 := F0 m 92 ls [.int ((xba ws9 3) (((xpi ws9 2) (y2 - 1)) + y7).toNatClampNeg), .int ((xba ws9 3) ((((xpi ws9 2) (y1 - 1)) + y5) + y7).toNatClampNeg)]) rfl ?_
          refine lv_icmp_ne (tgt := 99) hx hb dM_split_92 (by decide) (fun hc => ?_) (fun hc => ?_)
          · rw [if_neg hc] at hf
            refine lv_iconst (v := 0) hx hb dM_split_99 (by decide) ?_
            refine lv_istore (lv' := [(6, .int 0), (7, .int y7), (5, .int y5), (4, .int y4), (3, .int y3), (0, .ref aM), (1, xv vadL y1), (2, xv vadL y2)]) hx hb dM_split_100 hl (by decide) rfl (fun ls hl => ?_)
            refine lv_iinc (v := (y7 + 1)) (lv' := [(7, .int (y7 + 1)), (6, .int 0), (5, .int y5), (4, .int y4), (3, .int y3), (0, .ref aM), (1, xv vadL y1), (2, xv vadL y2)]) hx hb dM_split_102 hl (k := 1) rfl rfl (by decide) rfl (fun ls hl => ?_)
            refine lv_goto (tgt := 51) hx hb dM_split_105 (by decide) ?_
            exact ih (2, y5, y4, y3, y1, y2, (y7 + 1), (0 : Int32), ws9, wc, wn) _ _ ls (Or.inr (⟨adL, gdL, vadL, rfl, hf, hP, hD, hS, lv_sub hl [0, 1, 2, 3, 4, 5, 6, 7] rfl, hE, hN⟩))
          · rw [if_pos hc] at hf
            refine lv_iconst (v := 1) hx hb dM_split_95 (by decide) ?_
            refine lv_goto (tgt := 100) hx hb dM_split_96 (by decide) ?_
            refine lv_istore (lv' := [(6, .int 1), (7, .int y7), (5, .int y5), (4, .int y4), (3, .int y3), (0, .ref aM), (1, xv vadL y1), (2, xv vadL y2)]) hx hb dM_split_100 hl (by decide) rfl (fun ls hl => ?_)
            refine lv_iinc (v := (y7 + 1)) (lv' := [(7, .int (y7 + 1)), (6, .int 1), (5, .int y5), (4, .int y4), (3, .int y3), (0, .ref aM), (1, xv vadL y1), (2, xv vadL y2)]) hx hb dM_split_102 hl (k := 1) rfl rfl (by decide) rfl (fun ls hl => ?_)
            refine lv_goto (tgt := 51) hx hb dM_split_105 (by decide) ?_
            exact ih (2, y5, y4, y3, y1, y2, (y7 + 1), (1 : Int32), ws9, wc, wn) _ _ ls (Or.inr (⟨adL, gdL, vadL, rfl, hf, hP, hD, hS, lv_sub hl [0, 1, 2, 3, 4, 5, 6, 7] rfl, hE, hN⟩))
  refine lv_aload_n hx hb dM_split_0 rfl (lv_at hl 0 rfl) ?_
  refine xm_get (v := .int (xsi st 12)) hx hb htx hown hK hP 12 (by decide) rfl (htx _ kw_5_99) rfl dM_split_1 ?_
  refine lv_istore_n (lv' := [(3, .int (xsi st 12)), (0, .ref aM), (1, xv vad c0), (2, xv vad c1)]) hx hb dM_split_4 rfl hl (by decide) (by simp only [List.filter, xvcat, xrscat, xcI, xcL, xcR, xcN]; rfl) (fun ls hl => ?_)
  refine lv_iconst (v := 0) hx hb dM_split_5 (by decide) ?_
  refine lv_istore (lv' := [(4, .int 0), (3, .int (xsi st 12)), (0, .ref aM), (1, xv vad c0), (2, xv vad c1)]) hx hb dM_split_6 hl (by decide) rfl (fun ls hl => ?_)
  refine lv_iconst (v := 0) hx hb dM_split_8 (by decide) ?_
  refine lv_istore (lv' := [(5, .int 0), (4, .int 0), (3, .int (xsi st 12)), (0, .ref aM), (1, xv vad c0), (2, xv vad c1)]) hx hb dM_split_9 hl (by decide) rfl (fun ls hl => ?_)
  exact key n (1, (0 : Int32), (0 : Int32), (xsi st 12), c0, c1, 0, 0, st, 0, 0) _ _ ls (Or.inl ⟨ad, gd, vad, rfl, hf, hP, hD, hS, lv_sub hl [0, 1, 2, 3, 4, 5] rfl, hE, hN⟩)
set_option maxHeartbeats 400000000 in
set_option maxRecDepth 100000 in
theorem gM_split_1 (l : Launch) (hl9 : l.stackTraces = false) (D : va_G) (cT : Nat → ClassId) (aK aV : Nat → Nat) (sz n : Nat) (aM : Nat) (ad rd gd vad : Nat → Nat) (st : xS) (c0 : Nat) (c1 : Nat) (out : Nat × Nat × Nat × Nat × xS) (hf : fM_split n st c0 c1 = some out) (hkd : out.1 = 1) : xMetY l yM_split wyM_split 8 out.2.1 out.2.2.1 147 D cT aK aV sz [.ref aM, xv vad c0, xv vad c1] (xMw cT aM ad rd gd vad st []) "java/lang/IndexOutOfBoundsException" (fun u => xE vad st out.2.2.2.2 u) (fun A u t => xB D xcl cT A (xMw cT aM u.1 rd u.2.1 u.2.2 out.2.2.2.2 []) t) := by
  refine vx_ofW (cc := prog_13_method_53_code) (maxL := 8) (ret := (some (.object "ValueBenchModel$V"))) (by decide) rfl ?_
  intro p e s m args below meth c s₁ B hml hne hv
  obtain ⟨rfl, hsz, hZ, hP, hK, hD0⟩ := hv
  have hx := B.exec
  have hb := B.bytes
  have hr := B.returns
  have hts := atoms_spec (ws := wyM_split) B.pre
  have htx := fun w h => hts w (List.mem_cons_of_mem _ h)
  have hown : s.vm.findClass "ValueBenchModel" = some m.cls := findClass_of_methodNamed B.named
  have hlocks := B.notSynchronized
  subst hsz
  have hD := hD0.self (sz := s.heap.size)
  generalize hAe : va_A (xMw cT aM ad rd gd vad st []) s.heap.size = A at hD hZ ⊢
  have hA : ∀ q : Nat, s.heap.size ≤ q → A q := fun q h => by rw [← hAe]; exact Or.inr h
  have hS : va_S A s.heap s.heap [] := va_S.rf
  have hl := lv_entry ([.ref aM, xv vad c0, xv vad c1]) (n := 8) (by simp [lg_sl, xvcat, xrscat, xcI, xcL, xcR, xcN])
  rw [show lv_args 0 [.ref aM, xv vad c0, xv vad c1] = [(0, .ref aM), (1, xv vad c0), (2, xv vad c1)] from by simp [lv_args, xvcat, xrscat, xcI, xcL, xcR, xcN]] at hl
  rw [lg_entry_eq]
  generalize (lg_sl ([.ref aM, xv vad c0, xv vad c1]) ++ List.replicate (8 - (lg_sl ([.ref aM, xv vad c0, xv vad c1])).length) Slot.unset).toArray = ls at hl ⊢
  have hl : lv_has ls 8 [(0, .ref aM), (1, xv vad c0), (2, xv vad c1)] := hl
  have hE : ∀ p, p < xct st → vad p = vad p := fun _ _ => rfl
  have hN : xct st ≤ xct st := Nat.le_refl _
  unfold fM_split at hf
  refine xloopM (σ := Nat × Int32 × Int32 × Int32 × Nat × Nat × Int32 × Int32 × xS × Nat × Nat) (fun n x H locs ls => (∃ (adL gdL vadL : Nat → Nat), x.1 = 1 ∧ fM_split_b n x.1 x.2.1 x.2.2.1 x.2.2.2.1 x.2.2.2.2.1 x.2.2.2.2.2.1 x.2.2.2.2.2.2.1 x.2.2.2.2.2.2.2.1 x.2.2.2.2.2.2.2.2.1 x.2.2.2.2.2.2.2.2.2.1 x.2.2.2.2.2.2.2.2.2.2 = some out ∧ va_P D xcl (xMw cT aM adL rd gdL vadL x.2.2.2.2.2.2.2.2.1 []) H ∧ va_D A (xMw cT aM adL rd gdL vadL x.2.2.2.2.2.2.2.2.1 []) ∧ va_S A s.heap H locs ∧ lv_has ls 8 [(5, .int x.2.1), (4, .int x.2.2.1), (3, .int x.2.2.2.1), (0, .ref aM), (1, xv vadL x.2.2.2.2.1), (2, xv vadL x.2.2.2.2.2.1)] ∧ (∀ p, p < xct st → vadL p = vad p) ∧ xct st ≤ xct x.2.2.2.2.2.2.2.2.1) ∨ (∃ (adL gdL vadL : Nat → Nat), x.1 = 2 ∧ fM_split_b n x.1 x.2.1 x.2.2.1 x.2.2.2.1 x.2.2.2.2.1 x.2.2.2.2.2.1 x.2.2.2.2.2.2.1 x.2.2.2.2.2.2.2.1 x.2.2.2.2.2.2.2.2.1 x.2.2.2.2.2.2.2.2.2.1 x.2.2.2.2.2.2.2.2.2.2 = some out ∧ va_P D xcl (xMw cT aM adL rd gdL vadL x.2.2.2.2.2.2.2.2.1 []) H ∧ va_D A (xMw cT aM adL rd gdL vadL x.2.2.2.2.2.2.2.2.1 []) ∧ va_S A s.heap H locs ∧ lv_has ls 8 [(7, .int x.2.2.2.2.2.2.1), (6, .int x.2.2.2.2.2.2.2.1), (5, .int x.2.1), (4, .int x.2.2.1), (3, .int x.2.2.2.1), (0, .ref aM), (1, xv vadL x.2.2.2.2.1), (2, xv vadL x.2.2.2.2.2.1)] ∧ (∀ p, p < xct st → vadL p = vad p) ∧ xct st ≤ xct x.2.2.2.2.2.2.2.2.1)) (fun x => if x.1 = 1 then 11 else 51) (fun x => x.2.2.2.2.2.2.2.2.2.1) (fun x => x.2.2.2.2.2.2.2.2.2.2) (fun x H locs ls h => by rcases h with h | h; (obtain ⟨_, _, _, h⟩ := h; exact absurd h.2.1 (by rw [fM_split_b]; exact fun h => nomatch h)); (obtain ⟨_, _, _, h⟩ := h; exact absurd h.2.1 (by rw [fM_split_b]; exact fun h => nomatch h))) (fun n ih x H locs ls hv => ?_) (fun key => ?_)
  · obtain ⟨lb, y5, y4, y3, y1, y2, y7, y6, ws9, wc, wn⟩ := x
    rcases hv with ⟨adL, gdL, vadL, hj, hf, hP, hD, hS, hl, hE, hN⟩ | ⟨adL, gdL, vadL, hj, hf, hP, hD, hS, hl, hE, hN⟩
    · subst hj
      have hf : fM_split_b (n + 1) 1 y5 y4 y3 y1 y2 y7 y6 ws9 wc wn = some out := hf
      rw [fM_split_b, if_pos rfl] at hf
      obtain ⟨hP, hD⟩ : xPD D xcl A (xMw cT aM adL rd gdL vadL ws9 []) H := ⟨hP, hD⟩
      have hl : lv_has ls 8 [(5, .int y5), (4, .int y4), (3, .int y3), (0, .ref aM), (1, xv vadL y1), (2, xv vadL y2)] := hl
      refine W.eq (g2 := F0 m 11 ls []) rfl ?_
      show W p l e _ s m _ below meth c H locs wc wn _ _
      obtain ⟨hm0, hf⟩ := xmoE hf
      refine lv_iload hx hb dM_split_11 (lv_at hl 0 rfl) ?_
      refine xm_aload_n hx hb (xvor _ _) dM_split_13 rfl (lv_at hl 4 rfl) ?_
      obtain ⟨hg1, hf⟩ := xifn hf
      refine xm_vget (v := .int ((xpi ws9 3) (y1 - 1))) hx hb htx hown hK hP 3 (by decide) hg1 rfl ((hZ.1 (103, "count", "I") (List.mem_of_getElem? (i := 3) rfl)).use rfl) rfl dM_split_14 ?_
      refine lv_icmp_ge (tgt := 178) hx hb dM_split_17 (by decide) (fun hc => ?_) (fun hc => ?_)
      · rw [if_pos hc] at hf
        refine xm_aload_n hx hb (xvor _ _) dM_split_178 rfl (lv_at hl 5 rfl) ?_
        obtain ⟨hg2, hf⟩ := xifn hf
        refine xm_vget (v := .int ((xpi ws9 3) (y2 - 1))) hx hb htx hown hK hP 3 (by decide) hg2 rfl ((hZ.1 (103, "count", "I") (List.mem_of_getElem? (i := 3) rfl)).use rfl) rfl dM_split_179 ?_
        refine lv_if_le (tgt := 208) hx hb dM_split_182 (by decide) (fun hc => ?_) (fun hc => ?_)
        · rw [if_pos hc] at hf
          refine lv_aload_n hx hb dM_split_208 rfl (lv_at hl 3 rfl) ?_
          refine lv_iconst (v := 5) hx hb dM_split_209 (by decide) ?_
          refine lv_iload_n hx hb dM_split_210 rfl (lv_at hl 2 rfl) ?_
          obtain ⟨o3, hq4, hf⟩ := xbind hf
          have hl := lv_sub (l' := [(5, .int y5), (4, .int y4), (3, .int y3), (0, .ref aM)]) hl [0, 1, 2, 3] rfl
          by_cases hk5 : o3.1 = 0
          · rw [if_pos hk5] at hf
            obtain ⟨hm6, hf⟩ := xmoE hf
            have hFc := xm_free hD hS hA
            refine va_callq (va_runV (C := "ValueBenchModel") (As := [.int 5, .int y3]) (rest := []) ⟨hx, hb, hml, hown, htx⟩ (gM_whole l hl9 D cT aK aV H.size n aM adL rd gdL vadL ws9 (5 : Int32) y3 o3 hq4 hk5) ⟨callB_of 2 htx (xw_goodC kw_6_106) rfl rfl rfl (htx _ kw_1_5) (htx _ kw_6_103) ⟨by decide, by decide, by decide +kernel⟩ ⟨Nat.le_of_ble_eq_true rfl, Nat.le_of_ble_eq_true rfl⟩, (htx _ kw_6_105), (htx _ kp_M_whole)⟩ ⟨xPre_blind, va_recv hK hP (ci := 5) rfl (q0 := 0) rfl, (fun U hU hW => ⟨rfl, xPre_of hZ hS hFc hP hD hK U hU hW⟩)⟩ rfl rfl hl.1 rfl (xm_room (Nat.le_of_ble_eq_true rfl)) dM_split_211 ⟨hm6.1, hm6.2⟩) hS (fun q _ h => hFc q h) hFc (fun r7 u9 t H1 locs ht hvm hr9 hB hz1 hk1 hS => ?_)
            obtain ⟨hP1, hK1, hD1⟩ := hB
            rw [ht] at hP1
            obtain ⟨ad8, gd9, vad10⟩ := u9
            obtain ⟨hr9, hv11, hn12⟩ := hr9
            have hP : va_P D xcl (xMw cT aM ad8 rd gd9 vad10 o3.2.2.2.2 []) H1 := hP1
            have hD : va_D A (xMw cT aM ad8 rd gd9 vad10 o3.2.2.2.2 []) := hD1.weaken (fun k q _ h => hFc q.1 h)
            generalize H1 = H at hP hS ⊢
            have hE9 : ∀ p, p < xct st → vad10 p = vad p := fun p h => (hv11 p (Nat.lt_of_lt_of_le h hN)).trans (hE p h)
            have hE := hE9
            have hN : xct st ≤ xct o3.2.2.2.2 := Nat.le_trans hN hn12
            rw [hr9]
            refine W.eq (g2 := F0 m 214 ls [xv vad10 o3.2.2.2.1]) (by first | rfl | (skip; rfl)) ?_
            obtain rfl := Option.some.inj hf
            exact absurd (show (0 : Nat) = 1 from hkd) (by decide)
          rw [if_neg hk5] at hf
          by_cases hk13 : o3.1 = 1
          · rw [if_pos hk13] at hf
            obtain ⟨hm14, hf⟩ := xmoE hf
            have hFc := xm_free hD hS hA
            refine xx_thr (vx_runV (C := "ValueBenchModel") (As := [.int 5, .int y3]) (rest := []) ⟨hx, hb, hml, hown, htx⟩ (gM_whole_1 l hl9 D cT aK aV H.size n aM adL rd gdL vadL ws9 (5 : Int32) y3 o3 hq4 hk13) ⟨callB_of 2 htx (xw_goodC kw_6_106) rfl rfl rfl (htx _ kw_1_5) (htx _ kw_6_103) ⟨by decide, by decide, by decide +kernel⟩ ⟨Nat.le_of_ble_eq_true rfl, Nat.le_of_ble_eq_true rfl⟩, (htx _ kw_6_105), (htx _ kp_M_whole)⟩ ⟨xPre_blind, va_recv hK hP (ci := 5) rfl (q0 := 0) rfl, (fun U hU hW => ⟨rfl, xPre_of hZ hS hFc hP hD hK U hU hW⟩)⟩ rfl rfl hl.1 rfl (xm_room (Nat.le_of_ble_eq_true rfl)) dM_split_211 ⟨hm14.1, hm14.2⟩) hS hFc (fun q _ h => hFc q h) (fun E ce q9 u9 t H1 locs ht hvm hr9 hB hz1 hk1 hS hce hcv hcl => ?_)
            obtain ⟨rfl, hP1, hK1, hD1⟩ := hB
            rw [ht] at hP1
            obtain ⟨ad16, gd17, vad18⟩ := u9
            obtain ⟨hv19, hn20⟩ := hr9
            have hP : va_P D xcl (xMw cT aM ad16 rd gd17 vad18 o3.2.2.2.2 []) H1 := hP1
            have hD : va_D A (xMw cT aM ad16 rd gd17 vad18 o3.2.2.2.2 []) := hD1.weaken (fun k q _ h => hFc q.1 h)
            generalize H1 = H at hP hS hce ⊢
            have hE9 : ∀ p, p < xct st → vad18 p = vad p := fun p h => (hv19 p (Nat.lt_of_lt_of_le h hN)).trans (hE p h)
            have hE := hE9
            have hN : xct st ≤ xct o3.2.2.2.2 := Nat.le_trans hN hn20
            obtain rfl := Option.some.inj hf
            exact vx_out (E := "java/lang/IndexOutOfBoundsException") (fun x h => (hne x h).elim) hlocks hce hcv hcl (fun t ht ha => ⟨(ad16, gd17, vad18), ⟨hE, hN⟩, ⟨rfl, by rw [ht]; exact hP, va_K.moved ha hK, hD⟩, hS.F ht⟩) hS.2.2 (Nat.le_refl _) (Nat.le_refl _)
          rw [if_neg hk13] at hf
          exact nomatch hf
        · rw [if_neg hc] at hf
          refine xm_aload_n hx hb (xvor _ _) dM_split_185 rfl (lv_at hl 4 rfl) ?_
          refine xm_vget (v := .int ((xpi ws9 3) (y1 - 1))) hx hb htx hown hK hP 3 (by decide) hg1 rfl ((hZ.1 (103, "count", "I") (List.mem_of_getElem? (i := 3) rfl)).use rfl) rfl dM_split_186 ?_
          refine lv_if_le (tgt := 208) hx hb dM_split_189 (by decide) (fun hc => ?_) (fun hc => ?_)
          · rw [if_pos hc] at hf
            refine lv_aload_n hx hb dM_split_208 rfl (lv_at hl 3 rfl) ?_
            refine lv_iconst (v := 5) hx hb dM_split_209 (by decide) ?_
            refine lv_iload_n hx hb dM_split_210 rfl (lv_at hl 2 rfl) ?_
            obtain ⟨o3, hq4, hf⟩ := xbind hf
            have hl := lv_sub (l' := [(5, .int y5), (4, .int y4), (3, .int y3), (0, .ref aM)]) hl [0, 1, 2, 3] rfl
            by_cases hk5 : o3.1 = 0
            · rw [if_pos hk5] at hf
              obtain ⟨hm6, hf⟩ := xmoE hf
              have hFc := xm_free hD hS hA
              refine va_callq (va_runV (C := "ValueBenchModel") (As := [.int 5, .int y3]) (rest := []) ⟨hx, hb, hml, hown, htx⟩ (gM_whole l hl9 D cT aK aV H.size n aM adL rd gdL vadL ws9 (5 : Int32) y3 o3 hq4 hk5) ⟨callB_of 2 htx (xw_goodC kw_6_106) rfl rfl rfl (htx _ kw_1_5) (htx _ kw_6_103) ⟨by decide, by decide, by decide +kernel⟩ ⟨Nat.le_of_ble_eq_true rfl, Nat.le_of_ble_eq_true rfl⟩, (htx _ kw_6_105), (htx _ kp_M_whole)⟩ ⟨xPre_blind, va_recv hK hP (ci := 5) rfl (q0 := 0) rfl, (fun U hU hW => ⟨rfl, xPre_of hZ hS hFc hP hD hK U hU hW⟩)⟩ rfl rfl hl.1 rfl (xm_room (Nat.le_of_ble_eq_true rfl)) dM_split_211 ⟨hm6.1, hm6.2⟩) hS (fun q _ h => hFc q h) hFc (fun r7 u9 t H1 locs ht hvm hr9 hB hz1 hk1 hS => ?_)
              obtain ⟨hP1, hK1, hD1⟩ := hB
              rw [ht] at hP1
              obtain ⟨ad8, gd9, vad10⟩ := u9
              obtain ⟨hr9, hv11, hn12⟩ := hr9
              have hP : va_P D xcl (xMw cT aM ad8 rd gd9 vad10 o3.2.2.2.2 []) H1 := hP1
              have hD : va_D A (xMw cT aM ad8 rd gd9 vad10 o3.2.2.2.2 []) := hD1.weaken (fun k q _ h => hFc q.1 h)
              generalize H1 = H at hP hS ⊢
              have hE9 : ∀ p, p < xct st → vad10 p = vad p := fun p h => (hv11 p (Nat.lt_of_lt_of_le h hN)).trans (hE p h)
              have hE := hE9
              have hN : xct st ≤ xct o3.2.2.2.2 := Nat.le_trans hN hn12
              rw [hr9]
              refine W.eq (g2 := F0 m 214 ls [xv vad10 o3.2.2.2.1]) (by first | rfl | (skip; rfl)) ?_
              obtain rfl := Option.some.inj hf
              exact absurd (show (0 : Nat) = 1 from hkd) (by decide)
            rw [if_neg hk5] at hf
            by_cases hk13 : o3.1 = 1
            · rw [if_pos hk13] at hf
              obtain ⟨hm14, hf⟩ := xmoE hf
              have hFc := xm_free hD hS hA
              refine xx_thr (vx_runV (C := "ValueBenchModel") (As := [.int 5, .int y3]) (rest := []) ⟨hx, hb, hml, hown, htx⟩ (gM_whole_1 l hl9 D cT aK aV H.size n aM adL rd gdL vadL ws9 (5 : Int32) y3 o3 hq4 hk13) ⟨callB_of 2 htx (xw_goodC kw_6_106) rfl rfl rfl (htx _ kw_1_5) (htx _ kw_6_103) ⟨by decide, by decide, by decide +kernel⟩ ⟨Nat.le_of_ble_eq_true rfl, Nat.le_of_ble_eq_true rfl⟩, (htx _ kw_6_105), (htx _ kp_M_whole)⟩ ⟨xPre_blind, va_recv hK hP (ci := 5) rfl (q0 := 0) rfl, (fun U hU hW => ⟨rfl, xPre_of hZ hS hFc hP hD hK U hU hW⟩)⟩ rfl rfl hl.1 rfl (xm_room (Nat.le_of_ble_eq_true rfl)) dM_split_211 ⟨hm14.1, hm14.2⟩) hS hFc (fun q _ h => hFc q h) (fun E ce q9 u9 t H1 locs ht hvm hr9 hB hz1 hk1 hS hce hcv hcl => ?_)
              obtain ⟨rfl, hP1, hK1, hD1⟩ := hB
              rw [ht] at hP1
              obtain ⟨ad16, gd17, vad18⟩ := u9
              obtain ⟨hv19, hn20⟩ := hr9
              have hP : va_P D xcl (xMw cT aM ad16 rd gd17 vad18 o3.2.2.2.2 []) H1 := hP1
              have hD : va_D A (xMw cT aM ad16 rd gd17 vad18 o3.2.2.2.2 []) := hD1.weaken (fun k q _ h => hFc q.1 h)
              generalize H1 = H at hP hS hce ⊢
              have hE9 : ∀ p, p < xct st → vad18 p = vad p := fun p h => (hv19 p (Nat.lt_of_lt_of_le h hN)).trans (hE p h)
              have hE := hE9
              have hN : xct st ≤ xct o3.2.2.2.2 := Nat.le_trans hN hn20
              obtain rfl := Option.some.inj hf
              exact vx_out (E := "java/lang/IndexOutOfBoundsException") (fun x h => (hne x h).elim) hlocks hce hcv hcl (fun t ht ha => ⟨(ad16, gd17, vad18), ⟨hE, hN⟩, ⟨rfl, by rw [ht]; exact hP, va_K.moved ha hK, hD⟩, hS.F ht⟩) hS.2.2 (Nat.le_refl _) (Nat.le_refl _)
            rw [if_neg hk13] at hf
            exact nomatch hf
          · rw [if_neg hc] at hf
            refine lv_aload_n hx hb dM_split_192 rfl (lv_at hl 3 rfl) ?_
            refine lv_null hx hb dM_split_193 ?_
            refine lv_aload_n hx hb dM_split_194 rfl (lv_at hl 3 rfl) ?_
            refine xm_aload_n hx hb (xvor _ _) dM_split_195 rfl (lv_at hl 4 rfl) ?_
            refine lv_iload hx hb dM_split_196 (lv_at hl 1 rfl) ?_
            refine xm_aload_n hx hb (xvor _ _) dM_split_198 rfl (lv_at hl 4 rfl) ?_
            refine xm_vget (v := .int ((xpi ws9 3) (y1 - 1))) hx hb htx hown hK hP 3 (by decide) hg1 rfl ((hZ.1 (103, "count", "I") (List.mem_of_getElem? (i := 3) rfl)).use rfl) rfl dM_split_199 ?_
            obtain ⟨o3, hq4, hf⟩ := xbind hf
            have hl := lv_sub (l' := [(5, .int y5), (4, .int y4), (3, .int y3), (0, .ref aM)]) hl [0, 1, 2, 3] rfl
            obtain ⟨hm5, hf⟩ := xmoE hf
            have hFc := xm_free hD hS hA
            refine va_callq (va_runV (C := "ValueBenchModel") (As := [xv vadL y1, .int y4, .int ((xpi ws9 3) (y1 - 1))]) (rest := [.null, .ref aM]) ⟨hx, hb, hml, hown, htx⟩ (gM_part l hl9 D cT aK aV H.size n aM adL rd gdL vadL ws9 y1 y4 ((xpi ws9 3) (y1 - 1)) o3 hq4) ⟨callB_of 3 htx (xw_goodC kw_6_229) rfl rfl rfl (htx _ kw_1_5) (htx _ kw_6_226) ⟨by decide, by decide, by decide +kernel⟩ ⟨Nat.le_of_ble_eq_true rfl, Nat.le_of_ble_eq_true rfl⟩, (htx _ kw_6_228), (htx _ kp_M_part)⟩ ⟨xPre_blind, va_recv hK hP (ci := 5) rfl (q0 := 0) rfl, (fun U hU hW => ⟨rfl, xPre_of hZ hS hFc hP hD hK U hU hW⟩)⟩ rfl rfl hl.1 rfl (xm_room (Nat.le_of_ble_eq_true rfl)) dM_split_202 ⟨hm5.1, hm5.2⟩) hS (fun q _ h => hFc q h) hFc (fun r6 u9 t H1 locs ht hvm hr9 hB hz1 hk1 hS => ?_)
            obtain ⟨hP1, hK1, hD1⟩ := hB
            rw [ht] at hP1
            obtain ⟨ad7, gd8, vad9⟩ := u9
            obtain ⟨hr9, hv10, hn11⟩ := hr9
            have hP : va_P D xcl (xMw cT aM ad7 rd gd8 vad9 o3.2.2.2 []) H1 := hP1
            have hD : va_D A (xMw cT aM ad7 rd gd8 vad9 o3.2.2.2 []) := hD1.weaken (fun k q _ h => hFc q.1 h)
            generalize H1 = H at hP hS ⊢
            have hE9 : ∀ p, p < xct st → vad9 p = vad p := fun p h => (hv10 p (Nat.lt_of_lt_of_le h hN)).trans (hE p h)
            have hE := hE9
            have hN : xct st ≤ xct o3.2.2.2 := Nat.le_trans hN hn11
            rw [hr9]
            refine W.eq (g2 := F0 m 205 ls [xv vad9 o3.2.2.1, .null, .ref aM]) (by first | rfl | (skip; rfl)) ?_
            obtain ⟨o12, hq13, hf⟩ := xbind hf
            obtain ⟨hm14, hf⟩ := xmoE hf
            have hFc := xm_free hD hS hA
            refine va_callv (va_runV (C := "ValueBenchModel") (As := [.null, xv vad9 o3.2.2.1]) (rest := []) ⟨hx, hb, hml, hown, htx⟩ (gM_wait l hl9 D cT aK aV H.size n aM ad7 rd gd8 vad9 o3.2.2.2 0 o3.2.2.1 o12 hq13) ⟨callB_of 2 htx (xw_goodC kw_6_112) rfl rfl rfl (htx _ kw_1_5) (htx _ kw_6_109) ⟨by decide, by decide, by decide +kernel⟩ ⟨Nat.le_of_ble_eq_true rfl, Nat.le_of_ble_eq_true rfl⟩, (htx _ kw_6_111), (htx _ kp_M_wait)⟩ ⟨xPre_blind, va_recv hK hP (ci := 5) rfl (q0 := 0) rfl, (fun U hU hW => ⟨rfl, xPre_of hZ hS hFc hP hD hK U hU hW⟩)⟩ rfl rfl hl.1 rfl (xm_room (Nat.le_of_ble_eq_true rfl)) dM_split_205 ⟨hm14.1, hm14.2⟩) hS (fun q _ h => hFc q h) hFc (fun u9 t H1 locs ht hvm hr9 hB hz1 hk1 hS => ?_)
            obtain ⟨hP1, hK1, hD1⟩ := hB
            rw [ht] at hP1
            obtain ⟨ad16, gd17, vad18⟩ := u9
            obtain ⟨hv19, hn20⟩ := hr9
            have hP : va_P D xcl (xMw cT aM ad16 rd gd17 vad18 o12.2.2 []) H1 := hP1
            have hD : va_D A (xMw cT aM ad16 rd gd17 vad18 o12.2.2 []) := hD1.weaken (fun k q _ h => hFc q.1 h)
            generalize H1 = H at hP hS ⊢
            have hE9 : ∀ p, p < xct st → vad18 p = vad p := fun p h => (hv19 p (Nat.lt_of_lt_of_le h hN)).trans (hE p h)
            have hE := hE9
            have hN : xct st ≤ xct o12.2.2 := Nat.le_trans hN hn20
            refine W.eq (g2 := F0 m 208 ls []) (by first | rfl | (skip; rfl)) ?_
            refine lv_aload_n hx hb dM_split_208 rfl (lv_at hl 3 rfl) ?_
            refine lv_iconst (v := 5) hx hb dM_split_209 (by decide) ?_
            refine lv_iload_n hx hb dM_split_210 rfl (lv_at hl 2 rfl) ?_
            obtain ⟨o21, hq22, hf⟩ := xbind hf
            by_cases hk23 : o21.1 = 0
            · rw [if_pos hk23] at hf
              obtain ⟨hm24, hf⟩ := xmoE hf
              have hFc := xm_free hD hS hA
              refine va_callq (va_runV (C := "ValueBenchModel") (As := [.int 5, .int y3]) (rest := []) ⟨hx, hb, hml, hown, htx⟩ (gM_whole l hl9 D cT aK aV H.size n aM ad16 rd gd17 vad18 o12.2.2 (5 : Int32) y3 o21 hq22 hk23) ⟨callB_of 2 htx (xw_goodC kw_6_106) rfl rfl rfl (htx _ kw_1_5) (htx _ kw_6_103) ⟨by decide, by decide, by decide +kernel⟩ ⟨Nat.le_of_ble_eq_true rfl, Nat.le_of_ble_eq_true rfl⟩, (htx _ kw_6_105), (htx _ kp_M_whole)⟩ ⟨xPre_blind, va_recv hK hP (ci := 5) rfl (q0 := 0) rfl, (fun U hU hW => ⟨rfl, xPre_of hZ hS hFc hP hD hK U hU hW⟩)⟩ rfl rfl hl.1 rfl (xm_room (Nat.le_of_ble_eq_true rfl)) dM_split_211 ⟨hm24.1, hm24.2⟩) hS (fun q _ h => hFc q h) hFc (fun r25 u9 t H1 locs ht hvm hr9 hB hz1 hk1 hS => ?_)
              obtain ⟨hP1, hK1, hD1⟩ := hB
              rw [ht] at hP1
              obtain ⟨ad26, gd27, vad28⟩ := u9
              obtain ⟨hr9, hv29, hn30⟩ := hr9
              have hP : va_P D xcl (xMw cT aM ad26 rd gd27 vad28 o21.2.2.2.2 []) H1 := hP1
              have hD : va_D A (xMw cT aM ad26 rd gd27 vad28 o21.2.2.2.2 []) := hD1.weaken (fun k q _ h => hFc q.1 h)
              generalize H1 = H at hP hS ⊢
              have hE9 : ∀ p, p < xct st → vad28 p = vad p := fun p h => (hv29 p (Nat.lt_of_lt_of_le h hN)).trans (hE p h)
              have hE := hE9
              have hN : xct st ≤ xct o21.2.2.2.2 := Nat.le_trans hN hn30
              rw [hr9]
              refine W.eq (g2 := F0 m 214 ls [xv vad28 o21.2.2.2.1]) (by first | rfl | (skip; rfl)) ?_
              obtain rfl := Option.some.inj hf
              exact absurd (show (0 : Nat) = 1 from hkd) (by decide)
            rw [if_neg hk23] at hf
            by_cases hk31 : o21.1 = 1
            · rw [if_pos hk31] at hf
              obtain ⟨hm32, hf⟩ := xmoE hf
              have hFc := xm_free hD hS hA
              refine xx_thr (vx_runV (C := "ValueBenchModel") (As := [.int 5, .int y3]) (rest := []) ⟨hx, hb, hml, hown, htx⟩ (gM_whole_1 l hl9 D cT aK aV H.size n aM ad16 rd gd17 vad18 o12.2.2 (5 : Int32) y3 o21 hq22 hk31) ⟨callB_of 2 htx (xw_goodC kw_6_106) rfl rfl rfl (htx _ kw_1_5) (htx _ kw_6_103) ⟨by decide, by decide, by decide +kernel⟩ ⟨Nat.le_of_ble_eq_true rfl, Nat.le_of_ble_eq_true rfl⟩, (htx _ kw_6_105), (htx _ kp_M_whole)⟩ ⟨xPre_blind, va_recv hK hP (ci := 5) rfl (q0 := 0) rfl, (fun U hU hW => ⟨rfl, xPre_of hZ hS hFc hP hD hK U hU hW⟩)⟩ rfl rfl hl.1 rfl (xm_room (Nat.le_of_ble_eq_true rfl)) dM_split_211 ⟨hm32.1, hm32.2⟩) hS hFc (fun q _ h => hFc q h) (fun E ce q9 u9 t H1 locs ht hvm hr9 hB hz1 hk1 hS hce hcv hcl => ?_)
              obtain ⟨rfl, hP1, hK1, hD1⟩ := hB
              rw [ht] at hP1
              obtain ⟨ad34, gd35, vad36⟩ := u9
              obtain ⟨hv37, hn38⟩ := hr9
              have hP : va_P D xcl (xMw cT aM ad34 rd gd35 vad36 o21.2.2.2.2 []) H1 := hP1
              have hD : va_D A (xMw cT aM ad34 rd gd35 vad36 o21.2.2.2.2 []) := hD1.weaken (fun k q _ h => hFc q.1 h)
              generalize H1 = H at hP hS hce ⊢
              have hE9 : ∀ p, p < xct st → vad36 p = vad p := fun p h => (hv37 p (Nat.lt_of_lt_of_le h hN)).trans (hE p h)
              have hE := hE9
              have hN : xct st ≤ xct o21.2.2.2.2 := Nat.le_trans hN hn38
              obtain rfl := Option.some.inj hf
              exact vx_out (E := "java/lang/IndexOutOfBoundsException") (fun x h => (hne x h).elim) hlocks hce hcv hcl (fun t ht ha => ⟨(ad34, gd35, vad36), ⟨hE, hN⟩, ⟨rfl, by rw [ht]; exact hP, va_K.moved ha hK, hD⟩, hS.F ht⟩) hS.2.2 (Nat.le_refl _) (Nat.le_refl _)
            rw [if_neg hk31] at hf
            exact nomatch hf
      · rw [if_neg hc] at hf
        refine xm_aload_n hx hb (xvor _ _) dM_split_20 rfl (lv_at hl 5 rfl) ?_
        obtain ⟨hg2, hf⟩ := xifn hf
        refine xm_vget (v := .int ((xpi ws9 3) (y2 - 1))) hx hb htx hown hK hP 3 (by decide) hg2 rfl ((hZ.1 (103, "count", "I") (List.mem_of_getElem? (i := 3) rfl)).use rfl) rfl dM_split_21 ?_
        refine lv_if_le (tgt := 45) hx hb dM_split_24 (by decide) (fun hc => ?_) (fun hc => ?_)
        · rw [if_pos hc] at hf
          refine lv_iconst (v := 0) hx hb dM_split_45 (by decide) ?_
          refine lv_istore (lv' := [(6, .int 0), (5, .int y5), (4, .int y4), (3, .int y3), (0, .ref aM), (1, xv vadL y1), (2, xv vadL y2)]) hx hb dM_split_46 hl (by decide) rfl (fun ls hl => ?_)
          refine lv_iconst (v := 0) hx hb dM_split_48 (by decide) ?_
          refine lv_istore (lv' := [(7, .int 0), (6, .int 0), (5, .int y5), (4, .int y4), (3, .int y3), (0, .ref aM), (1, xv vadL y1), (2, xv vadL y2)]) hx hb dM_split_49 hl (by decide) rfl (fun ls hl => ?_)
          exact ih (2, y5, y4, y3, y1, y2, (0 : Int32), (0 : Int32), ws9, wc, wn) _ _ ls (Or.inr (⟨adL, gdL, vadL, rfl, hf, hP, hD, hS, lv_sub hl [0, 1, 2, 3, 4, 5, 6, 7] rfl, hE, hN⟩))
        · rw [if_neg hc] at hf
          refine lv_iload hx hb dM_split_27 (lv_at hl 0 rfl) ?_
          refine xm_aload_n hx hb (xvor _ _) dM_split_29 rfl (lv_at hl 5 rfl) ?_
          refine xm_vget (v := .int ((xpi ws9 3) (y2 - 1))) hx hb htx hown hK hP 3 (by decide) hg2 rfl ((hZ.1 (103, "count", "I") (List.mem_of_getElem? (i := 3) rfl)).use rfl) rfl dM_split_30 ?_
          refine lv_iadd hx hb dM_split_33 ?_
          refine xm_aload_n hx hb (xvor _ _) dM_split_34 rfl (lv_at hl 4 rfl) ?_
          refine xm_vget (v := .int ((xpi ws9 3) (y1 - 1))) hx hb htx hown hK hP 3 (by decide) hg1 rfl ((hZ.1 (103, "count", "I") (List.mem_of_getElem? (i := 3) rfl)).use rfl) rfl dM_split_35 ?_
          refine lv_icmp_gt (tgt := 45) hx hb dM_split_38 (by decide) (fun hc => ?_) (fun hc => ?_)
          · rw [if_pos hc] at hf
            refine lv_iconst (v := 0) hx hb dM_split_45 (by decide) ?_
            refine lv_istore (lv' := [(6, .int 0), (5, .int y5), (4, .int y4), (3, .int y3), (0, .ref aM), (1, xv vadL y1), (2, xv vadL y2)]) hx hb dM_split_46 hl (by decide) rfl (fun ls hl => ?_)
            refine lv_iconst (v := 0) hx hb dM_split_48 (by decide) ?_
            refine lv_istore (lv' := [(7, .int 0), (6, .int 0), (5, .int y5), (4, .int y4), (3, .int y3), (0, .ref aM), (1, xv vadL y1), (2, xv vadL y2)]) hx hb dM_split_49 hl (by decide) rfl (fun ls hl => ?_)
            exact ih (2, y5, y4, y3, y1, y2, (0 : Int32), (0 : Int32), ws9, wc, wn) _ _ ls (Or.inr (⟨adL, gdL, vadL, rfl, hf, hP, hD, hS, lv_sub hl [0, 1, 2, 3, 4, 5, 6, 7] rfl, hE, hN⟩))
          · rw [if_neg hc] at hf
            refine lv_iconst (v := 1) hx hb dM_split_41 (by decide) ?_
            refine lv_goto (tgt := 46) hx hb dM_split_42 (by decide) ?_
            refine lv_istore (lv' := [(6, .int 1), (5, .int y5), (4, .int y4), (3, .int y3), (0, .ref aM), (1, xv vadL y1), (2, xv vadL y2)]) hx hb dM_split_46 hl (by decide) rfl (fun ls hl => ?_)
            refine lv_iconst (v := 0) hx hb dM_split_48 (by decide) ?_
            refine lv_istore (lv' := [(7, .int 0), (6, .int 1), (5, .int y5), (4, .int y4), (3, .int y3), (0, .ref aM), (1, xv vadL y1), (2, xv vadL y2)]) hx hb dM_split_49 hl (by decide) rfl (fun ls hl => ?_)
            exact ih (2, y5, y4, y3, y1, y2, (0 : Int32), (1 : Int32), ws9, wc, wn) _ _ ls (Or.inr (⟨adL, gdL, vadL, rfl, hf, hP, hD, hS, lv_sub hl [0, 1, 2, 3, 4, 5, 6, 7] rfl, hE, hN⟩))
    · subst hj
      have hf : fM_split_b (n + 1) 2 y5 y4 y3 y1 y2 y7 y6 ws9 wc wn = some out := hf
      rw [fM_split_b, if_neg (by decide)] at hf
      obtain ⟨hP, hD⟩ : xPD D xcl A (xMw cT aM adL rd gdL vadL ws9 []) H := ⟨hP, hD⟩
      have hl : lv_has ls 8 [(7, .int y7), (6, .int y6), (5, .int y5), (4, .int y4), (3, .int y3), (0, .ref aM), (1, xv vadL y1), (2, xv vadL y2)] := hl
      refine W.eq (g2 := F0 m 51 ls []) rfl ?_
      show W p l e _ s m _ below meth c H locs wc wn _ _
      obtain ⟨hm0, hf⟩ := xmoE hf
      refine lv_iload hx hb dM_split_51 (lv_at hl 0 rfl) ?_
      refine xm_aload_n hx hb (xvor _ _) dM_split_53 rfl (lv_at hl 7 rfl) ?_
      obtain ⟨hg1, hf⟩ := xifn hf
      refine xm_vget (v := .int ((xpi ws9 3) (y2 - 1))) hx hb htx hown hK hP 3 (by decide) hg1 rfl ((hZ.1 (103, "count", "I") (List.mem_of_getElem? (i := 3) rfl)).use rfl) rfl dM_split_54 ?_
      refine lv_icmp_ge (tgt := 108) hx hb dM_split_57 (by decide) (fun hc => ?_) (fun hc => ?_)
      · rw [if_pos hc] at hf
        refine xm_aload_n hx hb (xvor _ _) dM_split_108 rfl (lv_at hl 7 rfl) ?_
        refine xm_vget (v := .int ((xpi ws9 3) (y2 - 1))) hx hb htx hown hK hP 3 (by decide) hg1 rfl ((hZ.1 (103, "count", "I") (List.mem_of_getElem? (i := 3) rfl)).use rfl) rfl dM_split_109 ?_
        refine lv_if_ne (tgt := 137) hx hb dM_split_112 (by decide) (fun hc => ?_) (fun hc => ?_)
        · rw [if_neg hc] at hf
          refine lv_iload hx hb dM_split_137 (lv_at hl 1 rfl) ?_
          refine lv_if_eq (tgt := 172) hx hb dM_split_139 (by decide) (fun hc => ?_) (fun hc => ?_)
          · rw [if_pos hc] at hf
            refine lv_iinc (v := (y5 + 1)) (lv' := [(5, .int (y5 + 1)), (7, .int y7), (6, .int y6), (4, .int y4), (3, .int y3), (0, .ref aM), (1, xv vadL y1), (2, xv vadL y2)]) hx hb dM_split_172 hl (k := 2) rfl rfl (by decide) rfl (fun ls hl => ?_)
            refine lv_goto (tgt := 11) hx hb dM_split_175 (by decide) ?_
            exact ih (1, (y5 + 1), y4, y3, y1, y2, y7, y6, ws9, wc, wn) _ _ ls (Or.inl ⟨adL, gdL, vadL, rfl, hf, hP, hD, hS, lv_sub hl [0, 3, 4, 5, 6, 7] rfl, hE, hN⟩)
          · rw [if_neg hc] at hf
            refine lv_aload_n hx hb dM_split_142 rfl (lv_at hl 5 rfl) ?_
            refine lv_null hx hb dM_split_143 ?_
            refine lv_aload_n hx hb dM_split_144 rfl (lv_at hl 5 rfl) ?_
            refine xm_aload_n hx hb (xvor _ _) dM_split_145 rfl (lv_at hl 6 rfl) ?_
            refine lv_iload hx hb dM_split_146 (lv_at hl 3 rfl) ?_
            refine lv_iload hx hb dM_split_148 (lv_at hl 2 rfl) ?_
            obtain ⟨o2, hq3, hf⟩ := xbind hf
            obtain ⟨hg4, hf⟩ := xifn hf
            obtain ⟨hm5, hf⟩ := xmoE hf
            have hFc := xm_free hD hS hA
            refine va_callq (va_runV (C := "ValueBenchModel") (As := [xv vadL y1, .int y4, .int y5]) (rest := [.null, .ref aM]) ⟨hx, hb, hml, hown, htx⟩ (gM_part l hl9 D cT aK aV H.size n aM adL rd gdL vadL ws9 y1 y4 y5 o2 hq3) ⟨callB_of 3 htx (xw_goodC kw_6_229) rfl rfl rfl (htx _ kw_1_5) (htx _ kw_6_226) ⟨by decide, by decide, by decide +kernel⟩ ⟨Nat.le_of_ble_eq_true rfl, Nat.le_of_ble_eq_true rfl⟩, (htx _ kw_6_228), (htx _ kp_M_part)⟩ ⟨xPre_blind, va_recv hK hP (ci := 5) rfl (q0 := 0) rfl, (fun U hU hW => ⟨rfl, xPre_of hZ hS hFc hP hD hK U hU hW⟩)⟩ rfl rfl hl.1 rfl (xm_room (Nat.le_of_ble_eq_true rfl)) dM_split_150 ⟨hm5.1, hm5.2⟩) hS (fun q _ h => hFc q h) hFc (fun r6 u9 t H1 locs ht hvm hr9 hB hz1 hk1 hS => ?_)
            obtain ⟨hP1, hK1, hD1⟩ := hB
            rw [ht] at hP1
            obtain ⟨ad7, gd8, vad9⟩ := u9
            obtain ⟨hr9, hv10, hn11⟩ := hr9
            have hP : va_P D xcl (xMw cT aM ad7 rd gd8 vad9 o2.2.2.2 []) H1 := hP1
            have hD : va_D A (xMw cT aM ad7 rd gd8 vad9 o2.2.2.2 []) := hD1.weaken (fun k q _ h => hFc q.1 h)
            generalize H1 = H at hP hS ⊢
            have hE9 : ∀ p, p < xct st → vad9 p = vad p := fun p h => (hv10 p (Nat.lt_of_lt_of_le h hN)).trans (hE p h)
            have hE := hE9
            have hN : xct st ≤ xct o2.2.2.2 := Nat.le_trans hN hn11
            have ev12 : xv vadL y1 = xv vad9 y1 := xvE hv10 hg4
            have ev13 : xv vadL y2 = xv vad9 y2 := xvE hv10 (fun h => hg1 (Or.inr h))
            have hl : lv_has ls 8 [(7, .int y7), (6, .int y6), (5, .int y5), (4, .int y4), (3, .int y3), (0, .ref aM), (1, xv vad9 y1), (2, xv vad9 y2)] := by first | exact hl | ((try (rw [← ev12])); (try (rw [← ev13])); exact hl)
            rw [hr9]
            refine W.eq (g2 := F0 m 153 ls [xv vad9 o2.2.2.1, .null, .ref aM]) (by first | rfl | ((try (rw [ev12])); (try (rw [ev13])); rfl)) ?_
            obtain ⟨o14, hq15, hf⟩ := xbind hf
            obtain ⟨hg16, hf⟩ := xifn hf
            obtain ⟨hg17, hf⟩ := xifn hf
            obtain ⟨hm18, hf⟩ := xmoE hf
            have hFc := xm_free hD hS hA
            refine va_callv (va_runV (C := "ValueBenchModel") (As := [.null, xv vad9 o2.2.2.1]) (rest := []) ⟨hx, hb, hml, hown, htx⟩ (gM_wait l hl9 D cT aK aV H.size n aM ad7 rd gd8 vad9 o2.2.2.2 0 o2.2.2.1 o14 hq15) ⟨callB_of 2 htx (xw_goodC kw_6_112) rfl rfl rfl (htx _ kw_1_5) (htx _ kw_6_109) ⟨by decide, by decide, by decide +kernel⟩ ⟨Nat.le_of_ble_eq_true rfl, Nat.le_of_ble_eq_true rfl⟩, (htx _ kw_6_111), (htx _ kp_M_wait)⟩ ⟨xPre_blind, va_recv hK hP (ci := 5) rfl (q0 := 0) rfl, (fun U hU hW => ⟨rfl, xPre_of hZ hS hFc hP hD hK U hU hW⟩)⟩ rfl rfl hl.1 rfl (xm_room (Nat.le_of_ble_eq_true rfl)) dM_split_153 ⟨hm18.1, hm18.2⟩) hS (fun q _ h => hFc q h) hFc (fun u9 t H1 locs ht hvm hr9 hB hz1 hk1 hS => ?_)
            obtain ⟨hP1, hK1, hD1⟩ := hB
            rw [ht] at hP1
            obtain ⟨ad20, gd21, vad22⟩ := u9
            obtain ⟨hv23, hn24⟩ := hr9
            have hP : va_P D xcl (xMw cT aM ad20 rd gd21 vad22 o14.2.2 []) H1 := hP1
            have hD : va_D A (xMw cT aM ad20 rd gd21 vad22 o14.2.2 []) := hD1.weaken (fun k q _ h => hFc q.1 h)
            generalize H1 = H at hP hS ⊢
            have hE9 : ∀ p, p < xct st → vad22 p = vad p := fun p h => (hv23 p (Nat.lt_of_lt_of_le h hN)).trans (hE p h)
            have hE := hE9
            have hN : xct st ≤ xct o14.2.2 := Nat.le_trans hN hn24
            have ev25 : xv vad9 y1 = xv vad22 y1 := xvE hv23 hg16
            have ev26 : xv vad9 y2 = xv vad22 y2 := xvE hv23 hg17
            have hl : lv_has ls 8 [(7, .int y7), (6, .int y6), (5, .int y5), (4, .int y4), (3, .int y3), (0, .ref aM), (1, xv vad22 y1), (2, xv vad22 y2)] := by first | exact hl | ((try (rw [← ev25])); (try (rw [← ev26])); exact hl)
            refine W.eq (g2 := F0 m 156 ls []) (by first | rfl | ((try (rw [ev25])); (try (rw [ev26])); rfl)) ?_
            refine lv_iload hx hb dM_split_156 (lv_at hl 2 rfl) ?_
            refine xm_aload_n hx hb (xvor _ _) dM_split_158 rfl (lv_at hl 7 rfl) ?_
            obtain ⟨hg27, hf⟩ := xifn hf
            refine xm_vget (v := .int ((xpi o14.2.2 3) (y2 - 1))) hx hb htx hown hK hP 3 (by decide) hg27 rfl ((hZ.1 (103, "count", "I") (List.mem_of_getElem? (i := 3) rfl)).use rfl) rfl dM_split_159 ?_
            refine lv_iadd hx hb dM_split_162 ?_
            refine lv_istore (lv' := [(5, .int (y5 + ((xpi o14.2.2 3) (y2 - 1)))), (7, .int y7), (6, .int y6), (4, .int y4), (3, .int y3), (0, .ref aM), (1, xv vad22 y1), (2, xv vad22 y2)]) hx hb dM_split_163 hl (by decide) rfl (fun ls hl => ?_)
            refine lv_iload hx hb dM_split_165 (lv_at hl 0 rfl) ?_
            refine lv_istore (lv' := [(4, .int (y5 + ((xpi o14.2.2 3) (y2 - 1)))), (5, .int (y5 + ((xpi o14.2.2 3) (y2 - 1)))), (7, .int y7), (6, .int y6), (3, .int y3), (0, .ref aM), (1, xv vad22 y1), (2, xv vad22 y2)]) hx hb dM_split_167 hl (by decide) rfl (fun ls hl => ?_)
            refine lv_goto (tgt := 175) hx hb dM_split_169 (by decide) ?_
            refine lv_goto (tgt := 11) hx hb dM_split_175 (by decide) ?_
            exact ih (1, (y5 + ((xpi o14.2.2 3) (y2 - 1))), (y5 + ((xpi o14.2.2 3) (y2 - 1))), y3, y1, y2, y7, y6, o14.2.2, ((wc + o2.1) + o14.1), ((wn + o2.2.1) + o14.2.1)) _ _ ls (Or.inl ⟨ad20, gd21, vad22, rfl, hf, hP, hD, hS, lv_sub hl [1, 0, 4, 5, 6, 7] rfl, hE, hN⟩)
        · rw [if_pos hc] at hf
          refine lv_aload_n hx hb dM_split_115 rfl (lv_at hl 5 rfl) ?_
          refine lv_null hx hb dM_split_116 ?_
          refine lv_aload_n hx hb dM_split_117 rfl (lv_at hl 5 rfl) ?_
          refine xm_aload_n hx hb (xvor _ _) dM_split_118 rfl (lv_at hl 6 rfl) ?_
          refine lv_iload hx hb dM_split_119 (lv_at hl 2 rfl) ?_
          refine lv_iload hx hb dM_split_121 (lv_at hl 2 rfl) ?_
          refine lv_iconst (v := 1) hx hb dM_split_123 (by decide) ?_
          refine lv_iadd hx hb dM_split_124 ?_
          obtain ⟨o2, hq3, hf⟩ := xbind hf
          obtain ⟨hg4, hf⟩ := xifn hf
          obtain ⟨hm5, hf⟩ := xmoE hf
          have hFc := xm_free hD hS hA
          refine va_callq (va_runV (C := "ValueBenchModel") (As := [xv vadL y1, .int y5, .int (y5 + (1 : Int32))]) (rest := [.null, .ref aM]) ⟨hx, hb, hml, hown, htx⟩ (gM_part l hl9 D cT aK aV H.size n aM adL rd gdL vadL ws9 y1 y5 (y5 + (1 : Int32)) o2 hq3) ⟨callB_of 3 htx (xw_goodC kw_6_229) rfl rfl rfl (htx _ kw_1_5) (htx _ kw_6_226) ⟨by decide, by decide, by decide +kernel⟩ ⟨Nat.le_of_ble_eq_true rfl, Nat.le_of_ble_eq_true rfl⟩, (htx _ kw_6_228), (htx _ kp_M_part)⟩ ⟨xPre_blind, va_recv hK hP (ci := 5) rfl (q0 := 0) rfl, (fun U hU hW => ⟨rfl, xPre_of hZ hS hFc hP hD hK U hU hW⟩)⟩ rfl rfl hl.1 rfl (xm_room (Nat.le_of_ble_eq_true rfl)) dM_split_125 ⟨hm5.1, hm5.2⟩) hS (fun q _ h => hFc q h) hFc (fun r6 u9 t H1 locs ht hvm hr9 hB hz1 hk1 hS => ?_)
          obtain ⟨hP1, hK1, hD1⟩ := hB
          rw [ht] at hP1
          obtain ⟨ad7, gd8, vad9⟩ := u9
          obtain ⟨hr9, hv10, hn11⟩ := hr9
          have hP : va_P D xcl (xMw cT aM ad7 rd gd8 vad9 o2.2.2.2 []) H1 := hP1
          have hD : va_D A (xMw cT aM ad7 rd gd8 vad9 o2.2.2.2 []) := hD1.weaken (fun k q _ h => hFc q.1 h)
          generalize H1 = H at hP hS ⊢
          have hE9 : ∀ p, p < xct st → vad9 p = vad p := fun p h => (hv10 p (Nat.lt_of_lt_of_le h hN)).trans (hE p h)
          have hE := hE9
          have hN : xct st ≤ xct o2.2.2.2 := Nat.le_trans hN hn11
          have ev12 : xv vadL y1 = xv vad9 y1 := xvE hv10 hg4
          have ev13 : xv vadL y2 = xv vad9 y2 := xvE hv10 (fun h => hg1 (Or.inr h))
          have hl : lv_has ls 8 [(7, .int y7), (6, .int y6), (5, .int y5), (4, .int y4), (3, .int y3), (0, .ref aM), (1, xv vad9 y1), (2, xv vad9 y2)] := by first | exact hl | ((try (rw [← ev12])); (try (rw [← ev13])); exact hl)
          rw [hr9]
          refine W.eq (g2 := F0 m 128 ls [xv vad9 o2.2.2.1, .null, .ref aM]) (by first | rfl | ((try (rw [ev12])); (try (rw [ev13])); rfl)) ?_
          obtain ⟨o14, hq15, hf⟩ := xbind hf
          obtain ⟨hg16, hf⟩ := xifn hf
          obtain ⟨hg17, hf⟩ := xifn hf
          obtain ⟨hm18, hf⟩ := xmoE hf
          have hFc := xm_free hD hS hA
          refine va_callv (va_runV (C := "ValueBenchModel") (As := [.null, xv vad9 o2.2.2.1]) (rest := []) ⟨hx, hb, hml, hown, htx⟩ (gM_wait l hl9 D cT aK aV H.size n aM ad7 rd gd8 vad9 o2.2.2.2 0 o2.2.2.1 o14 hq15) ⟨callB_of 2 htx (xw_goodC kw_6_112) rfl rfl rfl (htx _ kw_1_5) (htx _ kw_6_109) ⟨by decide, by decide, by decide +kernel⟩ ⟨Nat.le_of_ble_eq_true rfl, Nat.le_of_ble_eq_true rfl⟩, (htx _ kw_6_111), (htx _ kp_M_wait)⟩ ⟨xPre_blind, va_recv hK hP (ci := 5) rfl (q0 := 0) rfl, (fun U hU hW => ⟨rfl, xPre_of hZ hS hFc hP hD hK U hU hW⟩)⟩ rfl rfl hl.1 rfl (xm_room (Nat.le_of_ble_eq_true rfl)) dM_split_128 ⟨hm18.1, hm18.2⟩) hS (fun q _ h => hFc q h) hFc (fun u9 t H1 locs ht hvm hr9 hB hz1 hk1 hS => ?_)
          obtain ⟨hP1, hK1, hD1⟩ := hB
          rw [ht] at hP1
          obtain ⟨ad20, gd21, vad22⟩ := u9
          obtain ⟨hv23, hn24⟩ := hr9
          have hP : va_P D xcl (xMw cT aM ad20 rd gd21 vad22 o14.2.2 []) H1 := hP1
          have hD : va_D A (xMw cT aM ad20 rd gd21 vad22 o14.2.2 []) := hD1.weaken (fun k q _ h => hFc q.1 h)
          generalize H1 = H at hP hS ⊢
          have hE9 : ∀ p, p < xct st → vad22 p = vad p := fun p h => (hv23 p (Nat.lt_of_lt_of_le h hN)).trans (hE p h)
          have hE := hE9
          have hN : xct st ≤ xct o14.2.2 := Nat.le_trans hN hn24
          have ev25 : xv vad9 y1 = xv vad22 y1 := xvE hv23 hg16
          have ev26 : xv vad9 y2 = xv vad22 y2 := xvE hv23 hg17
          have hl : lv_has ls 8 [(7, .int y7), (6, .int y6), (5, .int y5), (4, .int y4), (3, .int y3), (0, .ref aM), (1, xv vad22 y1), (2, xv vad22 y2)] := by first | exact hl | ((try (rw [← ev25])); (try (rw [← ev26])); exact hl)
          refine W.eq (g2 := F0 m 131 ls []) (by first | rfl | ((try (rw [ev25])); (try (rw [ev26])); rfl)) ?_
          refine lv_iinc (v := (y5 + 1)) (lv' := [(5, .int (y5 + 1)), (7, .int y7), (6, .int y6), (4, .int y4), (3, .int y3), (0, .ref aM), (1, xv vad22 y1), (2, xv vad22 y2)]) hx hb dM_split_131 hl (k := 2) rfl rfl (by decide) rfl (fun ls hl => ?_)
          refine lv_goto (tgt := 175) hx hb dM_split_134 (by decide) ?_
          refine lv_goto (tgt := 11) hx hb dM_split_175 (by decide) ?_
          exact ih (1, (y5 + 1), y4, y3, y1, y2, y7, y6, o14.2.2, ((wc + o2.1) + o14.1), ((wn + o2.2.1) + o14.2.1)) _ _ ls (Or.inl ⟨ad20, gd21, vad22, rfl, hf, hP, hD, hS, lv_sub hl [0, 3, 4, 5, 6, 7] rfl, hE, hN⟩)
      · rw [if_neg hc] at hf
        refine lv_iload hx hb dM_split_60 (lv_at hl 1 rfl) ?_
        refine lv_if_eq (tgt := 108) hx hb dM_split_62 (by decide) (fun hc => ?_) (fun hc => ?_)
        · rw [if_pos hc] at hf
          refine xm_aload_n hx hb (xvor _ _) dM_split_108 rfl (lv_at hl 7 rfl) ?_
          refine xm_vget (v := .int ((xpi ws9 3) (y2 - 1))) hx hb htx hown hK hP 3 (by decide) hg1 rfl ((hZ.1 (103, "count", "I") (List.mem_of_getElem? (i := 3) rfl)).use rfl) rfl dM_split_109 ?_
          refine lv_if_ne (tgt := 137) hx hb dM_split_112 (by decide) (fun hc => ?_) (fun hc => ?_)
          · rw [if_neg hc] at hf
            refine lv_iload hx hb dM_split_137 (lv_at hl 1 rfl) ?_
            refine lv_if_eq (tgt := 172) hx hb dM_split_139 (by decide) (fun hc => ?_) (fun hc => ?_)
            · rw [if_pos hc] at hf
              refine lv_iinc (v := (y5 + 1)) (lv' := [(5, .int (y5 + 1)), (7, .int y7), (6, .int y6), (4, .int y4), (3, .int y3), (0, .ref aM), (1, xv vadL y1), (2, xv vadL y2)]) hx hb dM_split_172 hl (k := 2) rfl rfl (by decide) rfl (fun ls hl => ?_)
              refine lv_goto (tgt := 11) hx hb dM_split_175 (by decide) ?_
              exact ih (1, (y5 + 1), y4, y3, y1, y2, y7, y6, ws9, wc, wn) _ _ ls (Or.inl ⟨adL, gdL, vadL, rfl, hf, hP, hD, hS, lv_sub hl [0, 3, 4, 5, 6, 7] rfl, hE, hN⟩)
            · rw [if_neg hc] at hf
              refine lv_aload_n hx hb dM_split_142 rfl (lv_at hl 5 rfl) ?_
              refine lv_null hx hb dM_split_143 ?_
              refine lv_aload_n hx hb dM_split_144 rfl (lv_at hl 5 rfl) ?_
              refine xm_aload_n hx hb (xvor _ _) dM_split_145 rfl (lv_at hl 6 rfl) ?_
              refine lv_iload hx hb dM_split_146 (lv_at hl 3 rfl) ?_
              refine lv_iload hx hb dM_split_148 (lv_at hl 2 rfl) ?_
              obtain ⟨o2, hq3, hf⟩ := xbind hf
              obtain ⟨hg4, hf⟩ := xifn hf
              obtain ⟨hm5, hf⟩ := xmoE hf
              have hFc := xm_free hD hS hA
              refine va_callq (va_runV (C := "ValueBenchModel") (As := [xv vadL y1, .int y4, .int y5]) (rest := [.null, .ref aM]) ⟨hx, hb, hml, hown, htx⟩ (gM_part l hl9 D cT aK aV H.size n aM adL rd gdL vadL ws9 y1 y4 y5 o2 hq3) ⟨callB_of 3 htx (xw_goodC kw_6_229) rfl rfl rfl (htx _ kw_1_5) (htx _ kw_6_226) ⟨by decide, by decide, by decide +kernel⟩ ⟨Nat.le_of_ble_eq_true rfl, Nat.le_of_ble_eq_true rfl⟩, (htx _ kw_6_228), (htx _ kp_M_part)⟩ ⟨xPre_blind, va_recv hK hP (ci := 5) rfl (q0 := 0) rfl, (fun U hU hW => ⟨rfl, xPre_of hZ hS hFc hP hD hK U hU hW⟩)⟩ rfl rfl hl.1 rfl (xm_room (Nat.le_of_ble_eq_true rfl)) dM_split_150 ⟨hm5.1, hm5.2⟩) hS (fun q _ h => hFc q h) hFc (fun r6 u9 t H1 locs ht hvm hr9 hB hz1 hk1 hS => ?_)
              obtain ⟨hP1, hK1, hD1⟩ := hB
              rw [ht] at hP1
              obtain ⟨ad7, gd8, vad9⟩ := u9
              obtain ⟨hr9, hv10, hn11⟩ := hr9
              have hP : va_P D xcl (xMw cT aM ad7 rd gd8 vad9 o2.2.2.2 []) H1 := hP1
              have hD : va_D A (xMw cT aM ad7 rd gd8 vad9 o2.2.2.2 []) := hD1.weaken (fun k q _ h => hFc q.1 h)
              generalize H1 = H at hP hS ⊢
              have hE9 : ∀ p, p < xct st → vad9 p = vad p := fun p h => (hv10 p (Nat.lt_of_lt_of_le h hN)).trans (hE p h)
              have hE := hE9
              have hN : xct st ≤ xct o2.2.2.2 := Nat.le_trans hN hn11
              have ev12 : xv vadL y1 = xv vad9 y1 := xvE hv10 hg4
              have ev13 : xv vadL y2 = xv vad9 y2 := xvE hv10 (fun h => hg1 (Or.inr h))
              have hl : lv_has ls 8 [(7, .int y7), (6, .int y6), (5, .int y5), (4, .int y4), (3, .int y3), (0, .ref aM), (1, xv vad9 y1), (2, xv vad9 y2)] := by first | exact hl | ((try (rw [← ev12])); (try (rw [← ev13])); exact hl)
              rw [hr9]
              refine W.eq (g2 := F0 m 153 ls [xv vad9 o2.2.2.1, .null, .ref aM]) (by first | rfl | ((try (rw [ev12])); (try (rw [ev13])); rfl)) ?_
              obtain ⟨o14, hq15, hf⟩ := xbind hf
              obtain ⟨hg16, hf⟩ := xifn hf
              obtain ⟨hg17, hf⟩ := xifn hf
              obtain ⟨hm18, hf⟩ := xmoE hf
              have hFc := xm_free hD hS hA
              refine va_callv (va_runV (C := "ValueBenchModel") (As := [.null, xv vad9 o2.2.2.1]) (rest := []) ⟨hx, hb, hml, hown, htx⟩ (gM_wait l hl9 D cT aK aV H.size n aM ad7 rd gd8 vad9 o2.2.2.2 0 o2.2.2.1 o14 hq15) ⟨callB_of 2 htx (xw_goodC kw_6_112) rfl rfl rfl (htx _ kw_1_5) (htx _ kw_6_109) ⟨by decide, by decide, by decide +kernel⟩ ⟨Nat.le_of_ble_eq_true rfl, Nat.le_of_ble_eq_true rfl⟩, (htx _ kw_6_111), (htx _ kp_M_wait)⟩ ⟨xPre_blind, va_recv hK hP (ci := 5) rfl (q0 := 0) rfl, (fun U hU hW => ⟨rfl, xPre_of hZ hS hFc hP hD hK U hU hW⟩)⟩ rfl rfl hl.1 rfl (xm_room (Nat.le_of_ble_eq_true rfl)) dM_split_153 ⟨hm18.1, hm18.2⟩) hS (fun q _ h => hFc q h) hFc (fun u9 t H1 locs ht hvm hr9 hB hz1 hk1 hS => ?_)
              obtain ⟨hP1, hK1, hD1⟩ := hB
              rw [ht] at hP1
              obtain ⟨ad20, gd21, vad22⟩ := u9
              obtain ⟨hv23, hn24⟩ := hr9
              have hP : va_P D xcl (xMw cT aM ad20 rd gd21 vad22 o14.2.2 []) H1 := hP1
              have hD : va_D A (xMw cT aM ad20 rd gd21 vad22 o14.2.2 []) := hD1.weaken (fun k q _ h => hFc q.1 h)
              generalize H1 = H at hP hS ⊢
              have hE9 : ∀ p, p < xct st → vad22 p = vad p := fun p h => (hv23 p (Nat.lt_of_lt_of_le h hN)).trans (hE p h)
              have hE := hE9
              have hN : xct st ≤ xct o14.2.2 := Nat.le_trans hN hn24
              have ev25 : xv vad9 y1 = xv vad22 y1 := xvE hv23 hg16
              have ev26 : xv vad9 y2 = xv vad22 y2 := xvE hv23 hg17
              have hl : lv_has ls 8 [(7, .int y7), (6, .int y6), (5, .int y5), (4, .int y4), (3, .int y3), (0, .ref aM), (1, xv vad22 y1), (2, xv vad22 y2)] := by first | exact hl | ((try (rw [← ev25])); (try (rw [← ev26])); exact hl)
              refine W.eq (g2 := F0 m 156 ls []) (by first | rfl | ((try (rw [ev25])); (try (rw [ev26])); rfl)) ?_
              refine lv_iload hx hb dM_split_156 (lv_at hl 2 rfl) ?_
              refine xm_aload_n hx hb (xvor _ _) dM_split_158 rfl (lv_at hl 7 rfl) ?_
              obtain ⟨hg27, hf⟩ := xifn hf
              refine xm_vget (v := .int ((xpi o14.2.2 3) (y2 - 1))) hx hb htx hown hK hP 3 (by decide) hg27 rfl ((hZ.1 (103, "count", "I") (List.mem_of_getElem? (i := 3) rfl)).use rfl) rfl dM_split_159 ?_
              refine lv_iadd hx hb dM_split_162 ?_
              refine lv_istore (lv' := [(5, .int (y5 + ((xpi o14.2.2 3) (y2 - 1)))), (7, .int y7), (6, .int y6), (4, .int y4), (3, .int y3), (0, .ref aM), (1, xv vad22 y1), (2, xv vad22 y2)]) hx hb dM_split_163 hl (by decide) rfl (fun ls hl => ?_)
              refine lv_iload hx hb dM_split_165 (lv_at hl 0 rfl) ?_
              refine lv_istore (lv' := [(4, .int (y5 + ((xpi o14.2.2 3) (y2 - 1)))), (5, .int (y5 + ((xpi o14.2.2 3) (y2 - 1)))), (7, .int y7), (6, .int y6), (3, .int y3), (0, .ref aM), (1, xv vad22 y1), (2, xv vad22 y2)]) hx hb dM_split_167 hl (by decide) rfl (fun ls hl => ?_)
              refine lv_goto (tgt := 175) hx hb dM_split_169 (by decide) ?_
              refine lv_goto (tgt := 11) hx hb dM_split_175 (by decide) ?_
              exact ih (1, (y5 + ((xpi o14.2.2 3) (y2 - 1))), (y5 + ((xpi o14.2.2 3) (y2 - 1))), y3, y1, y2, y7, y6, o14.2.2, ((wc + o2.1) + o14.1), ((wn + o2.2.1) + o14.2.1)) _ _ ls (Or.inl ⟨ad20, gd21, vad22, rfl, hf, hP, hD, hS, lv_sub hl [1, 0, 4, 5, 6, 7] rfl, hE, hN⟩)
          · rw [if_pos hc] at hf
            refine lv_aload_n hx hb dM_split_115 rfl (lv_at hl 5 rfl) ?_
            refine lv_null hx hb dM_split_116 ?_
            refine lv_aload_n hx hb dM_split_117 rfl (lv_at hl 5 rfl) ?_
            refine xm_aload_n hx hb (xvor _ _) dM_split_118 rfl (lv_at hl 6 rfl) ?_
            refine lv_iload hx hb dM_split_119 (lv_at hl 2 rfl) ?_
            refine lv_iload hx hb dM_split_121 (lv_at hl 2 rfl) ?_
            refine lv_iconst (v := 1) hx hb dM_split_123 (by decide) ?_
            refine lv_iadd hx hb dM_split_124 ?_
            obtain ⟨o2, hq3, hf⟩ := xbind hf
            obtain ⟨hg4, hf⟩ := xifn hf
            obtain ⟨hm5, hf⟩ := xmoE hf
            have hFc := xm_free hD hS hA
            refine va_callq (va_runV (C := "ValueBenchModel") (As := [xv vadL y1, .int y5, .int (y5 + (1 : Int32))]) (rest := [.null, .ref aM]) ⟨hx, hb, hml, hown, htx⟩ (gM_part l hl9 D cT aK aV H.size n aM adL rd gdL vadL ws9 y1 y5 (y5 + (1 : Int32)) o2 hq3) ⟨callB_of 3 htx (xw_goodC kw_6_229) rfl rfl rfl (htx _ kw_1_5) (htx _ kw_6_226) ⟨by decide, by decide, by decide +kernel⟩ ⟨Nat.le_of_ble_eq_true rfl, Nat.le_of_ble_eq_true rfl⟩, (htx _ kw_6_228), (htx _ kp_M_part)⟩ ⟨xPre_blind, va_recv hK hP (ci := 5) rfl (q0 := 0) rfl, (fun U hU hW => ⟨rfl, xPre_of hZ hS hFc hP hD hK U hU hW⟩)⟩ rfl rfl hl.1 rfl (xm_room (Nat.le_of_ble_eq_true rfl)) dM_split_125 ⟨hm5.1, hm5.2⟩) hS (fun q _ h => hFc q h) hFc (fun r6 u9 t H1 locs ht hvm hr9 hB hz1 hk1 hS => ?_)
            obtain ⟨hP1, hK1, hD1⟩ := hB
            rw [ht] at hP1
            obtain ⟨ad7, gd8, vad9⟩ := u9
            obtain ⟨hr9, hv10, hn11⟩ := hr9
            have hP : va_P D xcl (xMw cT aM ad7 rd gd8 vad9 o2.2.2.2 []) H1 := hP1
            have hD : va_D A (xMw cT aM ad7 rd gd8 vad9 o2.2.2.2 []) := hD1.weaken (fun k q _ h => hFc q.1 h)
            generalize H1 = H at hP hS ⊢
            have hE9 : ∀ p, p < xct st → vad9 p = vad p := fun p h => (hv10 p (Nat.lt_of_lt_of_le h hN)).trans (hE p h)
            have hE := hE9
            have hN : xct st ≤ xct o2.2.2.2 := Nat.le_trans hN hn11
            have ev12 : xv vadL y1 = xv vad9 y1 := xvE hv10 hg4
            have ev13 : xv vadL y2 = xv vad9 y2 := xvE hv10 (fun h => hg1 (Or.inr h))
            have hl : lv_has ls 8 [(7, .int y7), (6, .int y6), (5, .int y5), (4, .int y4), (3, .int y3), (0, .ref aM), (1, xv vad9 y1), (2, xv vad9 y2)] := by first | exact hl | ((try (rw [← ev12])); (try (rw [← ev13])); exact hl)
            rw [hr9]
            refine W.eq (g2 := F0 m 128 ls [xv vad9 o2.2.2.1, .null, .ref aM]) (by first | rfl | ((try (rw [ev12])); (try (rw [ev13])); rfl)) ?_
            obtain ⟨o14, hq15, hf⟩ := xbind hf
            obtain ⟨hg16, hf⟩ := xifn hf
            obtain ⟨hg17, hf⟩ := xifn hf
            obtain ⟨hm18, hf⟩ := xmoE hf
            have hFc := xm_free hD hS hA
            refine va_callv (va_runV (C := "ValueBenchModel") (As := [.null, xv vad9 o2.2.2.1]) (rest := []) ⟨hx, hb, hml, hown, htx⟩ (gM_wait l hl9 D cT aK aV H.size n aM ad7 rd gd8 vad9 o2.2.2.2 0 o2.2.2.1 o14 hq15) ⟨callB_of 2 htx (xw_goodC kw_6_112) rfl rfl rfl (htx _ kw_1_5) (htx _ kw_6_109) ⟨by decide, by decide, by decide +kernel⟩ ⟨Nat.le_of_ble_eq_true rfl, Nat.le_of_ble_eq_true rfl⟩, (htx _ kw_6_111), (htx _ kp_M_wait)⟩ ⟨xPre_blind, va_recv hK hP (ci := 5) rfl (q0 := 0) rfl, (fun U hU hW => ⟨rfl, xPre_of hZ hS hFc hP hD hK U hU hW⟩)⟩ rfl rfl hl.1 rfl (xm_room (Nat.le_of_ble_eq_true rfl)) dM_split_128 ⟨hm18.1, hm18.2⟩) hS (fun q _ h => hFc q h) hFc (fun u9 t H1 locs ht hvm hr9 hB hz1 hk1 hS => ?_)
            obtain ⟨hP1, hK1, hD1⟩ := hB
            rw [ht] at hP1
            obtain ⟨ad20, gd21, vad22⟩ := u9
            obtain ⟨hv23, hn24⟩ := hr9
            have hP : va_P D xcl (xMw cT aM ad20 rd gd21 vad22 o14.2.2 []) H1 := hP1
            have hD : va_D A (xMw cT aM ad20 rd gd21 vad22 o14.2.2 []) := hD1.weaken (fun k q _ h => hFc q.1 h)
            generalize H1 = H at hP hS ⊢
            have hE9 : ∀ p, p < xct st → vad22 p = vad p := fun p h => (hv23 p (Nat.lt_of_lt_of_le h hN)).trans (hE p h)
            have hE := hE9
            have hN : xct st ≤ xct o14.2.2 := Nat.le_trans hN hn24
            have ev25 : xv vad9 y1 = xv vad22 y1 := xvE hv23 hg16
            have ev26 : xv vad9 y2 = xv vad22 y2 := xvE hv23 hg17
            have hl : lv_has ls 8 [(7, .int y7), (6, .int y6), (5, .int y5), (4, .int y4), (3, .int y3), (0, .ref aM), (1, xv vad22 y1), (2, xv vad22 y2)] := by first | exact hl | ((try (rw [← ev25])); (try (rw [← ev26])); exact hl)
            refine W.eq (g2 := F0 m 131 ls []) (by first | rfl | ((try (rw [ev25])); (try (rw [ev26])); rfl)) ?_
            refine lv_iinc (v := (y5 + 1)) (lv' := [(5, .int (y5 + 1)), (7, .int y7), (6, .int y6), (4, .int y4), (3, .int y3), (0, .ref aM), (1, xv vad22 y1), (2, xv vad22 y2)]) hx hb dM_split_131 hl (k := 2) rfl rfl (by decide) rfl (fun ls hl => ?_)
            refine lv_goto (tgt := 175) hx hb dM_split_134 (by decide) ?_
            refine lv_goto (tgt := 11) hx hb dM_split_175 (by decide) ?_
            exact ih (1, (y5 + 1), y4, y3, y1, y2, y7, y6, o14.2.2, ((wc + o2.1) + o14.1), ((wn + o2.2.1) + o14.2.1)) _ _ ls (Or.inl ⟨ad20, gd21, vad22, rfl, hf, hP, hD, hS, lv_sub hl [0, 3, 4, 5, 6, 7] rfl, hE, hN⟩)
        · rw [if_neg hc] at hf
          refine lv_aload_n hx hb dM_split_65 rfl (lv_at hl 5 rfl) ?_
          refine xm_get (v := .ref (adL 3)) hx hb htx hown hK hP 3 (by decide) rfl (htx _ kw_5_90) rfl dM_split_66 ?_
          refine xm_aload_n hx hb (xvor _ _) dM_split_69 rfl (lv_at hl 6 rfl) ?_
          obtain ⟨hg2, hf⟩ := xifn hf
          refine xm_vget (v := .int ((xpi ws9 2) (y1 - 1))) hx hb htx hown hK hP 2 (by decide) hg2 rfl ((hZ.1 (100, "off", "I") (List.mem_of_getElem? (i := 2) rfl)).use rfl) rfl dM_split_70 ?_
          refine lv_iload hx hb dM_split_73 (lv_at hl 2 rfl) ?_
          refine lv_iadd hx hb dM_split_75 ?_
          refine lv_iload hx hb dM_split_76 (lv_at hl 0 rfl) ?_
          refine lv_iadd hx hb dM_split_78 ?_
          obtain ⟨hg3, hf⟩ := xifn hf
          refine va_bald hx hb hK hP 2 0 rfl rfl hg3 dM_split_79 ?_
          refine W.eq (g2 := F0 m 80 ls [.int ((xba ws9 3) ((((xpi ws9 2) (y1 - 1)) + y5) + y7).toNatClampNeg)]) rfl ?_
          refine lv_aload_n hx hb dM_split_80 rfl (lv_at hl 5 rfl) ?_
          refine xm_get (v := .ref (adL 3)) hx hb htx hown hK hP 3 (by decide) rfl (htx _ kw_5_90) rfl dM_split_81 ?_
          refine xm_aload_n hx hb (xvor _ _) dM_split_84 rfl (lv_at hl 7 rfl) ?_
          refine xm_vget (v := .int ((xpi ws9 2) (y2 - 1))) hx hb htx hown hK hP 2 (by decide) hg1 rfl ((hZ.1 (100, "off", "I") (List.mem_of_getElem? (i := 2) rfl)).use rfl) rfl dM_split_85 ?_
          refine lv_iload hx hb dM_split_88 (lv_at hl 0 rfl) ?_
          refine lv_iadd hx hb dM_split_90 ?_
          obtain ⟨hg4, hf⟩ := xifn hf
          refine va_bald hx hb hK hP 2 0 rfl rfl hg4 dM_split_91 ?_
          refine W.eq (g2 := F0 m 92 ls [.int ((xba ws9 3) (((xpi ws9 2) (y2 - 1)) + y7).toNatClampNeg), .int ((xba ws9 3) ((((xpi ws9 2) (y1 - 1)) + y5) + y7).toNatClampNeg)]) rfl ?_
          refine lv_icmp_ne (tgt := 99) hx hb dM_split_92 (by decide) (fun hc => ?_) (fun hc => ?_)
          · rw [if_neg hc] at hf
            refine lv_iconst (v := 0) hx hb dM_split_99 (by decide) ?_
            refine lv_istore (lv' := [(6, .int 0), (7, .int y7), (5, .int y5), (4, .int y4), (3, .int y3), (0, .ref aM), (1, xv vadL y1), (2, xv vadL y2)]) hx hb dM_split_100 hl (by decide) rfl (fun ls hl => ?_)
            refine lv_iinc (v := (y7 + 1)) (lv' := [(7, .int (y7 + 1)), (6, .int 0), (5, .int y5), (4, .int y4), (3, .int y3), (0, .ref aM), (1, xv vadL y1), (2, xv vadL y2)]) hx hb dM_split_102 hl (k := 1) rfl rfl (by decide) rfl (fun ls hl => ?_)
            refine lv_goto (tgt := 51) hx hb dM_split_105 (by decide) ?_
            exact ih (2, y5, y4, y3, y1, y2, (y7 + 1), (0 : Int32), ws9, wc, wn) _ _ ls (Or.inr (⟨adL, gdL, vadL, rfl, hf, hP, hD, hS, lv_sub hl [0, 1, 2, 3, 4, 5, 6, 7] rfl, hE, hN⟩))
          · rw [if_pos hc] at hf
            refine lv_iconst (v := 1) hx hb dM_split_95 (by decide) ?_
            refine lv_goto (tgt := 100) hx hb dM_split_96 (by decide) ?_
            refine lv_istore (lv' := [(6, .int 1), (7, .int y7), (5, .int y5), (4, .int y4), (3, .int y3), (0, .ref aM), (1, xv vadL y1), (2, xv vadL y2)]) hx hb dM_split_100 hl (by decide) rfl (fun ls hl => ?_)
            refine lv_iinc (v := (y7 + 1)) (lv' := [(7, .int (y7 + 1)), (6, .int 1), (5, .int y5), (4, .int y4), (3, .int y3), (0, .ref aM), (1, xv vadL y1), (2, xv vadL y2)]) hx hb dM_split_102 hl (k := 1) rfl rfl (by decide) rfl (fun ls hl => ?_)
            refine lv_goto (tgt := 51) hx hb dM_split_105 (by decide) ?_
            exact ih (2, y5, y4, y3, y1, y2, (y7 + 1), (1 : Int32), ws9, wc, wn) _ _ ls (Or.inr (⟨adL, gdL, vadL, rfl, hf, hP, hD, hS, lv_sub hl [0, 1, 2, 3, 4, 5, 6, 7] rfl, hE, hN⟩))
  refine lv_aload_n hx hb dM_split_0 rfl (lv_at hl 0 rfl) ?_
  refine xm_get (v := .int (xsi st 12)) hx hb htx hown hK hP 12 (by decide) rfl (htx _ kw_5_99) rfl dM_split_1 ?_
  refine lv_istore_n (lv' := [(3, .int (xsi st 12)), (0, .ref aM), (1, xv vad c0), (2, xv vad c1)]) hx hb dM_split_4 rfl hl (by decide) (by simp only [List.filter, xvcat, xrscat, xcI, xcL, xcR, xcN]; rfl) (fun ls hl => ?_)
  refine lv_iconst (v := 0) hx hb dM_split_5 (by decide) ?_
  refine lv_istore (lv' := [(4, .int 0), (3, .int (xsi st 12)), (0, .ref aM), (1, xv vad c0), (2, xv vad c1)]) hx hb dM_split_6 hl (by decide) rfl (fun ls hl => ?_)
  refine lv_iconst (v := 0) hx hb dM_split_8 (by decide) ?_
  refine lv_istore (lv' := [(5, .int 0), (4, .int 0), (3, .int (xsi st 12)), (0, .ref aM), (1, xv vad c0), (2, xv vad c1)]) hx hb dM_split_9 hl (by decide) rfl (fun ls hl => ?_)
  exact key n (1, (0 : Int32), (0 : Int32), (xsi st 12), c0, c1, 0, 0, st, 0, 0) _ _ ls (Or.inl ⟨ad, gd, vad, rfl, hf, hP, hD, hS, lv_sub hl [0, 1, 2, 3, 4, 5] rfl, hE, hN⟩)
set_option maxHeartbeats 400000000 in
set_option maxRecDepth 100000 in
theorem gM_binary1 (l : Launch) (hl9 : l.stackTraces = false) (D : va_G) (cT : Nat → ClassId) (aK aV : Nat → Nat) (sz d n : Nat) (aM : Nat) (ad rd gd vad : Nat → Nat) (st : xS) (x0 : Int32) (c1 : Nat) (c2 : Nat) (out : Nat × Nat × Nat × Nat × xS) (hf : fM_binary1 d n st x0 c1 c2 = some out) (hkd : out.1 = 0) : xMet l yM_binary1 wyM_binary1 (16 * d + 9) out.2.1 out.2.2.1 (400 * d + 174) D cT aK aV sz [.ref aM, .int x0, xv vad c1, xv vad c2] (xMw cT aM ad rd gd vad st []) (fun A => va_Qq (fun (r : Option Nat) (u : xU) => r = xca u.2.2 out.2.2.2.1 ∧ xE vad st out.2.2.2.2 u) (fun u t => xB D xcl cT A (xMw cT aM u.1 rd u.2.1 u.2.2 out.2.2.2.2 []) t) A) := by
  refine Met.ofW (cc := prog_13_method_48_code) (maxL := 4) (ret := (some (.object "ValueBenchModel$V"))) (by decide) rfl ?_
  intro p e s m args below meth c s₁ B hml hv
  obtain ⟨rfl, hsz, hZ, hP, hK, hD0⟩ := hv
  have hx := B.exec
  have hb := B.bytes
  have hr := B.returns
  have hts := atoms_spec (ws := wyM_binary1) B.pre
  have htx := fun w h => hts w (List.mem_cons_of_mem _ h)
  have hown : s.vm.findClass "ValueBenchModel" = some m.cls := findClass_of_methodNamed B.named
  have hlocks := B.notSynchronized
  subst hsz
  have hD := hD0.self (sz := s.heap.size)
  generalize hAe : va_A (xMw cT aM ad rd gd vad st []) s.heap.size = A at hD hZ ⊢
  have hA : ∀ q : Nat, s.heap.size ≤ q → A q := fun q h => by rw [← hAe]; exact Or.inr h
  have hS : va_S A s.heap s.heap [] := va_S.rf
  have hl := lv_entry ([.ref aM, .int x0, xv vad c1, xv vad c2]) (n := 4) (by simp [lg_sl, xvcat, xrscat, xcI, xcL, xcR, xcN])
  rw [show lv_args 0 [.ref aM, .int x0, xv vad c1, xv vad c2] = [(0, .ref aM), (1, .int x0), (2, xv vad c1), (3, xv vad c2)] from by simp [lv_args, xvcat, xrscat, xcI, xcL, xcR, xcN]] at hl
  rw [lg_entry_eq]
  generalize (lg_sl ([.ref aM, .int x0, xv vad c1, xv vad c2]) ++ List.replicate (4 - (lg_sl ([.ref aM, .int x0, xv vad c1, xv vad c2])).length) Slot.unset).toArray = ls at hl ⊢
  have hl : lv_has ls 4 [(0, .ref aM), (1, .int x0), (2, xv vad c1), (3, xv vad c2)] := hl
  have hE : ∀ p, p < xct st → vad p = vad p := fun _ _ => rfl
  have hN : xct st ≤ xct st := Nat.le_refl _
  unfold fM_binary1 at hf
  refine lv_iload_n hx hb dM_binary1_0 rfl (lv_at hl 1 rfl) ?_
  by_cases hc1 : x0 = 0
  · rw [if_pos hc1] at hf
    refine lv_tableIn (off := 31) (tgt := 32) hx hb dM_binary1_1 (by rw [hc1]; decide) (by rw [hc1]; decide) (by rw [hc1]; decide) (by decide) ?_
    refine lv_aload_n hx hb dM_binary1_32 rfl (lv_at hl 0 rfl) ?_
    refine xm_aload_n hx hb (xvor _ _) dM_binary1_33 rfl (lv_at hl 2 rfl) ?_
    refine xm_aload_n hx hb (xvor _ _) dM_binary1_34 rfl (lv_at hl 3 rfl) ?_
    obtain ⟨o2, hq3, hf⟩ := xbind hf
    have hl := lv_sub (l' := [(0, .ref aM), (1, .int x0)]) hl [0, 1] rfl
    by_cases hk4 : o2.1 = 0
    · rw [if_pos hk4] at hf
      obtain ⟨hm5, hf⟩ := xmoE hf
      have hFc := xm_free hD hS hA
      refine va_callq (va_runV (C := "ValueBenchModel") (As := [xv vad c1, xv vad c2]) (rest := []) ⟨hx, hb, hml, hown, htx⟩ (gM_added l hl9 D cT aK aV s.heap.size n aM ad rd gd vad st c1 c2 o2 hq3 hk4) ⟨callB_of 2 htx (xw_goodC kw_6_203) rfl rfl rfl (htx _ kw_1_5) (htx _ kw_6_200) ⟨by decide, by decide, by decide +kernel⟩ ⟨Nat.le_of_ble_eq_true rfl, Nat.le_of_ble_eq_true rfl⟩, (htx _ kw_6_202), (htx _ kp_M_added)⟩ ⟨xPre_blind, va_recv hK hP (ci := 5) rfl (q0 := 0) rfl, (fun U hU hW => ⟨rfl, xPre_of hZ hS hFc hP hD hK U hU hW⟩)⟩ rfl rfl hl.1 rfl (xm_room (Nat.le_of_ble_eq_true rfl)) dM_binary1_35 ⟨hm5.1, hm5.2⟩) hS (fun q _ h => hFc q h) hFc (fun r6 u9 t H1 locs ht hvm hr9 hB hz1 hk1 hS => ?_)
      obtain ⟨hP1, hK1, hD1⟩ := hB
      rw [ht] at hP1
      obtain ⟨ad7, gd8, vad9⟩ := u9
      obtain ⟨hr9, hv10, hn11⟩ := hr9
      have hP : va_P D xcl (xMw cT aM ad7 rd gd8 vad9 o2.2.2.2.2 []) H1 := hP1
      have hD : va_D A (xMw cT aM ad7 rd gd8 vad9 o2.2.2.2.2 []) := hD1.weaken (fun k q _ h => hFc q.1 h)
      generalize H1 = H at hP hS ⊢
      have hE9 : ∀ p, p < xct st → vad9 p = vad p := fun p h => (hv10 p (Nat.lt_of_lt_of_le h hN)).trans (hE p h)
      have hE := hE9
      have hN : xct st ≤ xct o2.2.2.2.2 := Nat.le_trans hN hn11
      rw [hr9]
      refine W.eq (g2 := F0 m 38 ls [xv vad9 o2.2.2.2.1]) (by first | rfl | (skip; rfl)) ?_
      obtain rfl := Option.some.inj hf
      exact W.aret (v := xv vad9 o2.2.2.2.1) hx hb hr (Or.inl ⟨_, rfl⟩) (xvor _ _) (fun t ht hW => ⟨⟨xca vad9 o2.2.2.2.1, (ad7, gd8, vad9), rfl, ⟨rfl, hE, hN⟩, by rw [ht]; exact hP, va_K.moved hW.alike hK, hD⟩, hS.F ht⟩) hS.2.2 dM_binary1_38
    rw [if_neg hk4] at hf
    by_cases hk12 : o2.1 = 1
    · rw [if_pos hk12] at hf
      obtain ⟨hm13, hf⟩ := xmoE hf
      obtain rfl := Option.some.inj hf
      exact absurd (show (1 : Nat) = 0 from hkd) (by decide)
    rw [if_neg hk12] at hf
    by_cases hk20 : o2.1 = 2
    · rw [if_pos hk20] at hf
      obtain ⟨hm21, hf⟩ := xmoE hf
      obtain rfl := Option.some.inj hf
      exact absurd (show (2 : Nat) = 0 from hkd) (by decide)
    rw [if_neg hk20] at hf
    exact nomatch hf
  rw [if_neg hc1] at hf
  by_cases hc28 : x0 = 1
  · rw [if_pos hc28] at hf
    refine lv_tableIn (off := 38) (tgt := 39) hx hb dM_binary1_1 (by rw [hc28]; decide) (by rw [hc28]; decide) (by rw [hc28]; decide) (by decide) ?_
    refine xm_aload_n hx hb (xvor _ _) dM_binary1_39 rfl (lv_at hl 2 rfl) ?_
    obtain ⟨hg29, hf⟩ := xifn hf
    refine xm_vget (v := .int ((xpi st 0) (c1 - 1))) hx hb htx hown hK hP 0 (by decide) hg29 rfl ((hZ.1 (93, "kind", "I") (List.mem_of_getElem? (i := 0) rfl)).use rfl) rfl dM_binary1_40 ?_
    refine lv_iconst (v := 3) hx hb dM_binary1_43 (by decide) ?_
    refine lv_icmp_ne (tgt := 69) hx hb dM_binary1_44 (by decide) (fun hc => ?_) (fun hc => ?_)
    · rw [if_neg hc] at hf
      refine xm_aload_n hx hb (xvor _ _) dM_binary1_69 rfl (lv_at hl 2 rfl) ?_
      refine xm_vget (v := .int ((xpi st 0) (c1 - 1))) hx hb htx hown hK hP 0 (by decide) hg29 rfl ((hZ.1 (93, "kind", "I") (List.mem_of_getElem? (i := 0) rfl)).use rfl) rfl dM_binary1_70 ?_
      refine lv_iconst (v := 5) hx hb dM_binary1_73 (by decide) ?_
      refine lv_icmp_ne (tgt := 94) hx hb dM_binary1_74 (by decide) (fun hc => ?_) (fun hc => ?_)
      · rw [if_neg hc] at hf
        refine lv_aload_n hx hb dM_binary1_94 rfl (lv_at hl 0 rfl) ?_
        refine lv_iconst (v := 1) hx hb dM_binary1_95 (by decide) ?_
        obtain ⟨o30, hq31, hf⟩ := xbind hf
        have hl := lv_sub (l' := [(0, .ref aM), (1, .int x0)]) hl [0, 1] rfl
        by_cases hk32 : o30.1 = 1
        · rw [if_pos hk32] at hf
          obtain ⟨hm33, hf⟩ := xmoE hf
          obtain rfl := Option.some.inj hf
          exact absurd (show (1 : Nat) = 0 from hkd) (by decide)
        rw [if_neg hk32] at hf
        exact nomatch hf
      · rw [if_pos hc] at hf
        refine xm_aload_n hx hb (xvor _ _) dM_binary1_77 rfl (lv_at hl 3 rfl) ?_
        obtain ⟨hg30, hf⟩ := xifn hf
        refine xm_vget (v := .int ((xpi st 0) (c2 - 1))) hx hb htx hown hK hP 0 (by decide) hg30 rfl ((hZ.1 (93, "kind", "I") (List.mem_of_getElem? (i := 0) rfl)).use rfl) rfl dM_binary1_78 ?_
        refine lv_iconst (v := 5) hx hb dM_binary1_81 (by decide) ?_
        refine lv_icmp_ne (tgt := 94) hx hb dM_binary1_82 (by decide) (fun hc => ?_) (fun hc => ?_)
        · rw [if_neg hc] at hf
          refine lv_aload_n hx hb dM_binary1_94 rfl (lv_at hl 0 rfl) ?_
          refine lv_iconst (v := 1) hx hb dM_binary1_95 (by decide) ?_
          obtain ⟨o31, hq32, hf⟩ := xbind hf
          have hl := lv_sub (l' := [(0, .ref aM), (1, .int x0)]) hl [0, 1] rfl
          by_cases hk33 : o31.1 = 1
          · rw [if_pos hk33] at hf
            obtain ⟨hm34, hf⟩ := xmoE hf
            obtain rfl := Option.some.inj hf
            exact absurd (show (1 : Nat) = 0 from hkd) (by decide)
          rw [if_neg hk33] at hf
          exact nomatch hf
        · rw [if_pos hc] at hf
          refine lv_aload_n hx hb dM_binary1_85 rfl (lv_at hl 0 rfl) ?_
          refine xm_aload_n hx hb (xvor _ _) dM_binary1_86 rfl (lv_at hl 2 rfl) ?_
          refine xm_aload_n hx hb (xvor _ _) dM_binary1_87 rfl (lv_at hl 3 rfl) ?_
          obtain ⟨o31, hq32, hf⟩ := xbind hf
          have hl := lv_sub (l' := [(0, .ref aM), (1, .int x0)]) hl [0, 1] rfl
          by_cases hk33 : o31.1 = 0
          · rw [if_pos hk33] at hf
            obtain ⟨hm34, hf⟩ := xmoE hf
            have hFc := xm_free hD hS hA
            refine va_callq (va_runV (C := "ValueBenchModel") (As := [xv vad c1, xv vad c2]) (rest := []) ⟨hx, hb, hml, hown, htx⟩ (gM_without l hl9 D cT aK aV s.heap.size d n aM ad rd gd vad st c1 c2 o31 hq32 hk33) ⟨callB_of 2 htx (xw_goodC kw_6_211) rfl rfl rfl (htx _ kw_1_5) (htx _ kw_6_208) ⟨by decide, by decide, by decide +kernel⟩ ⟨(by show (16 * d + 8) + 1 ≤ 16 * d + 9; omega), (by show 8 + (7 + 11) + (400 * d + 147) ≤ 400 * d + 174; omega)⟩, (htx _ kw_6_210), (htx _ kp_M_without)⟩ ⟨xPre_blind, va_recv hK hP (ci := 5) rfl (q0 := 0) rfl, (fun U hU hW => ⟨rfl, xPre_of hZ hS hFc hP hD hK U hU hW⟩)⟩ rfl rfl hl.1 rfl (xm_room (Nat.le_of_ble_eq_true rfl)) dM_binary1_88 ⟨hm34.1, hm34.2⟩) hS (fun q _ h => hFc q h) hFc (fun r35 u9 t H1 locs ht hvm hr9 hB hz1 hk1 hS => ?_)
            obtain ⟨hP1, hK1, hD1⟩ := hB
            rw [ht] at hP1
            obtain ⟨ad36, gd37, vad38⟩ := u9
            obtain ⟨hr9, hv39, hn40⟩ := hr9
            have hP : va_P D xcl (xMw cT aM ad36 rd gd37 vad38 o31.2.2.2.2 []) H1 := hP1
            have hD : va_D A (xMw cT aM ad36 rd gd37 vad38 o31.2.2.2.2 []) := hD1.weaken (fun k q _ h => hFc q.1 h)
            generalize H1 = H at hP hS ⊢
            have hE9 : ∀ p, p < xct st → vad38 p = vad p := fun p h => (hv39 p (Nat.lt_of_lt_of_le h hN)).trans (hE p h)
            have hE := hE9
            have hN : xct st ≤ xct o31.2.2.2.2 := Nat.le_trans hN hn40
            rw [hr9]
            refine W.eq (g2 := F0 m 91 ls [xv vad38 o31.2.2.2.1]) (by first | rfl | (skip; rfl)) ?_
            refine lv_goto (tgt := 99) hx hb dM_binary1_91 (by decide) ?_
            obtain rfl := Option.some.inj hf
            exact W.aret (v := xv vad38 o31.2.2.2.1) hx hb hr (Or.inl ⟨_, rfl⟩) (xvor _ _) (fun t ht hW => ⟨⟨xca vad38 o31.2.2.2.1, (ad36, gd37, vad38), rfl, ⟨rfl, hE, hN⟩, by rw [ht]; exact hP, va_K.moved hW.alike hK, hD⟩, hS.F ht⟩) hS.2.2 dM_binary1_99
          rw [if_neg hk33] at hf
          by_cases hk41 : o31.1 = 1
          · rw [if_pos hk41] at hf
            obtain ⟨hm42, hf⟩ := xmoE hf
            obtain rfl := Option.some.inj hf
            exact absurd (show (2 : Nat) = 0 from hkd) (by decide)
          rw [if_neg hk41] at hf
          exact nomatch hf
    · rw [if_pos hc] at hf
      refine xm_aload_n hx hb (xvor _ _) dM_binary1_47 rfl (lv_at hl 3 rfl) ?_
      obtain ⟨hg30, hf⟩ := xifn hf
      refine xm_vget (v := .int ((xpi st 0) (c2 - 1))) hx hb htx hown hK hP 0 (by decide) hg30 rfl ((hZ.1 (93, "kind", "I") (List.mem_of_getElem? (i := 0) rfl)).use rfl) rfl dM_binary1_48 ?_
      refine lv_iconst (v := 3) hx hb dM_binary1_51 (by decide) ?_
      refine lv_icmp_ne (tgt := 69) hx hb dM_binary1_52 (by decide) (fun hc => ?_) (fun hc => ?_)
      · rw [if_neg hc] at hf
        refine xm_aload_n hx hb (xvor _ _) dM_binary1_69 rfl (lv_at hl 2 rfl) ?_
        refine xm_vget (v := .int ((xpi st 0) (c1 - 1))) hx hb htx hown hK hP 0 (by decide) hg29 rfl ((hZ.1 (93, "kind", "I") (List.mem_of_getElem? (i := 0) rfl)).use rfl) rfl dM_binary1_70 ?_
        refine lv_iconst (v := 5) hx hb dM_binary1_73 (by decide) ?_
        refine lv_icmp_ne (tgt := 94) hx hb dM_binary1_74 (by decide) (fun hc => ?_) (fun hc => ?_)
        · rw [if_neg hc] at hf
          refine lv_aload_n hx hb dM_binary1_94 rfl (lv_at hl 0 rfl) ?_
          refine lv_iconst (v := 1) hx hb dM_binary1_95 (by decide) ?_
          obtain ⟨o31, hq32, hf⟩ := xbind hf
          have hl := lv_sub (l' := [(0, .ref aM), (1, .int x0)]) hl [0, 1] rfl
          by_cases hk33 : o31.1 = 1
          · rw [if_pos hk33] at hf
            obtain ⟨hm34, hf⟩ := xmoE hf
            obtain rfl := Option.some.inj hf
            exact absurd (show (1 : Nat) = 0 from hkd) (by decide)
          rw [if_neg hk33] at hf
          exact nomatch hf
        · rw [if_pos hc] at hf
          refine xm_aload_n hx hb (xvor _ _) dM_binary1_77 rfl (lv_at hl 3 rfl) ?_
          refine xm_vget (v := .int ((xpi st 0) (c2 - 1))) hx hb htx hown hK hP 0 (by decide) hg30 rfl ((hZ.1 (93, "kind", "I") (List.mem_of_getElem? (i := 0) rfl)).use rfl) rfl dM_binary1_78 ?_
          refine lv_iconst (v := 5) hx hb dM_binary1_81 (by decide) ?_
          refine lv_icmp_ne (tgt := 94) hx hb dM_binary1_82 (by decide) (fun hc => ?_) (fun hc => ?_)
          · rw [if_neg hc] at hf
            refine lv_aload_n hx hb dM_binary1_94 rfl (lv_at hl 0 rfl) ?_
            refine lv_iconst (v := 1) hx hb dM_binary1_95 (by decide) ?_
            obtain ⟨o31, hq32, hf⟩ := xbind hf
            have hl := lv_sub (l' := [(0, .ref aM), (1, .int x0)]) hl [0, 1] rfl
            by_cases hk33 : o31.1 = 1
            · rw [if_pos hk33] at hf
              obtain ⟨hm34, hf⟩ := xmoE hf
              obtain rfl := Option.some.inj hf
              exact absurd (show (1 : Nat) = 0 from hkd) (by decide)
            rw [if_neg hk33] at hf
            exact nomatch hf
          · rw [if_pos hc] at hf
            refine lv_aload_n hx hb dM_binary1_85 rfl (lv_at hl 0 rfl) ?_
            refine xm_aload_n hx hb (xvor _ _) dM_binary1_86 rfl (lv_at hl 2 rfl) ?_
            refine xm_aload_n hx hb (xvor _ _) dM_binary1_87 rfl (lv_at hl 3 rfl) ?_
            obtain ⟨o31, hq32, hf⟩ := xbind hf
            have hl := lv_sub (l' := [(0, .ref aM), (1, .int x0)]) hl [0, 1] rfl
            by_cases hk33 : o31.1 = 0
            · rw [if_pos hk33] at hf
              obtain ⟨hm34, hf⟩ := xmoE hf
              have hFc := xm_free hD hS hA
              refine va_callq (va_runV (C := "ValueBenchModel") (As := [xv vad c1, xv vad c2]) (rest := []) ⟨hx, hb, hml, hown, htx⟩ (gM_without l hl9 D cT aK aV s.heap.size d n aM ad rd gd vad st c1 c2 o31 hq32 hk33) ⟨callB_of 2 htx (xw_goodC kw_6_211) rfl rfl rfl (htx _ kw_1_5) (htx _ kw_6_208) ⟨by decide, by decide, by decide +kernel⟩ ⟨(by show (16 * d + 8) + 1 ≤ 16 * d + 9; omega), (by show 8 + (7 + 11) + (400 * d + 147) ≤ 400 * d + 174; omega)⟩, (htx _ kw_6_210), (htx _ kp_M_without)⟩ ⟨xPre_blind, va_recv hK hP (ci := 5) rfl (q0 := 0) rfl, (fun U hU hW => ⟨rfl, xPre_of hZ hS hFc hP hD hK U hU hW⟩)⟩ rfl rfl hl.1 rfl (xm_room (Nat.le_of_ble_eq_true rfl)) dM_binary1_88 ⟨hm34.1, hm34.2⟩) hS (fun q _ h => hFc q h) hFc (fun r35 u9 t H1 locs ht hvm hr9 hB hz1 hk1 hS => ?_)
              obtain ⟨hP1, hK1, hD1⟩ := hB
              rw [ht] at hP1
              obtain ⟨ad36, gd37, vad38⟩ := u9
              obtain ⟨hr9, hv39, hn40⟩ := hr9
              have hP : va_P D xcl (xMw cT aM ad36 rd gd37 vad38 o31.2.2.2.2 []) H1 := hP1
              have hD : va_D A (xMw cT aM ad36 rd gd37 vad38 o31.2.2.2.2 []) := hD1.weaken (fun k q _ h => hFc q.1 h)
              generalize H1 = H at hP hS ⊢
              have hE9 : ∀ p, p < xct st → vad38 p = vad p := fun p h => (hv39 p (Nat.lt_of_lt_of_le h hN)).trans (hE p h)
              have hE := hE9
              have hN : xct st ≤ xct o31.2.2.2.2 := Nat.le_trans hN hn40
              rw [hr9]
              refine W.eq (g2 := F0 m 91 ls [xv vad38 o31.2.2.2.1]) (by first | rfl | (skip; rfl)) ?_
              refine lv_goto (tgt := 99) hx hb dM_binary1_91 (by decide) ?_
              obtain rfl := Option.some.inj hf
              exact W.aret (v := xv vad38 o31.2.2.2.1) hx hb hr (Or.inl ⟨_, rfl⟩) (xvor _ _) (fun t ht hW => ⟨⟨xca vad38 o31.2.2.2.1, (ad36, gd37, vad38), rfl, ⟨rfl, hE, hN⟩, by rw [ht]; exact hP, va_K.moved hW.alike hK, hD⟩, hS.F ht⟩) hS.2.2 dM_binary1_99
            rw [if_neg hk33] at hf
            by_cases hk41 : o31.1 = 1
            · rw [if_pos hk41] at hf
              obtain ⟨hm42, hf⟩ := xmoE hf
              obtain rfl := Option.some.inj hf
              exact absurd (show (2 : Nat) = 0 from hkd) (by decide)
            rw [if_neg hk41] at hf
            exact nomatch hf
      · rw [if_pos hc] at hf
        refine lv_aload_n hx hb dM_binary1_55 rfl (lv_at hl 0 rfl) ?_
        refine xm_aload_n hx hb (xvor _ _) dM_binary1_56 rfl (lv_at hl 2 rfl) ?_
        refine xm_vget (v := .long ((xpl st) (c1 - 1))) hx hb htx hown hK hP 1 (by decide) hg29 rfl ((hZ.1 (96, "n", "J") (List.mem_of_getElem? (i := 1) rfl)).use rfl) rfl dM_binary1_57 ?_
        refine xm_aload_n hx hb (xvor _ _) dM_binary1_60 rfl (lv_at hl 3 rfl) ?_
        refine xm_vget (v := .long ((xpl st) (c2 - 1))) hx hb htx hown hK hP 1 (by decide) hg30 rfl ((hZ.1 (96, "n", "J") (List.mem_of_getElem? (i := 1) rfl)).use rfl) rfl dM_binary1_61 ?_
        refine lv_lsub hx hb dM_binary1_64 ?_
        obtain ⟨o31, hq32, hf⟩ := xbind hf
        have hl := lv_sub (l' := [(0, .ref aM), (1, .int x0)]) hl [0, 1] rfl
        by_cases hk33 : o31.1 = 0
        · rw [if_pos hk33] at hf
          obtain ⟨hm34, hf⟩ := xmoE hf
          have hFc := xm_free hD hS hA
          refine va_callq (va_runV (C := "ValueBenchModel") (As := [.long (((xpl st) (c1 - 1)) - ((xpl st) (c2 - 1)))]) (rest := []) ⟨hx, hb, hml, hown, htx⟩ (gM_number l hl9 D cT aK aV s.heap.size n aM ad rd gd vad st (((xpl st) (c1 - 1)) - ((xpl st) (c2 - 1))) o31 hq32 hk33) ⟨callB_of 1 htx (xw_goodC kw_6_88) rfl rfl rfl (htx _ kw_1_5) (htx _ kw_6_85) ⟨by decide, by decide, by decide +kernel⟩ ⟨Nat.le_of_ble_eq_true rfl, Nat.le_of_ble_eq_true rfl⟩, (htx _ kw_6_87), (htx _ kp_M_number)⟩ ⟨xPre_blind, va_recv hK hP (ci := 5) rfl (q0 := 0) rfl, (fun U hU hW => ⟨rfl, xPre_of hZ hS hFc hP hD hK U hU hW⟩)⟩ rfl rfl hl.1 rfl (xm_room (Nat.le_of_ble_eq_true rfl)) dM_binary1_65 ⟨hm34.1, hm34.2⟩) hS (fun q _ h => hFc q h) hFc (fun r35 u9 t H1 locs ht hvm hr9 hB hz1 hk1 hS => ?_)
          obtain ⟨hP1, hK1, hD1⟩ := hB
          rw [ht] at hP1
          obtain ⟨ad36, gd37, vad38⟩ := u9
          obtain ⟨hr9, hv39, hn40⟩ := hr9
          have hP : va_P D xcl (xMw cT aM ad36 rd gd37 vad38 o31.2.2.2.2 []) H1 := hP1
          have hD : va_D A (xMw cT aM ad36 rd gd37 vad38 o31.2.2.2.2 []) := hD1.weaken (fun k q _ h => hFc q.1 h)
          generalize H1 = H at hP hS ⊢
          have hE9 : ∀ p, p < xct st → vad38 p = vad p := fun p h => (hv39 p (Nat.lt_of_lt_of_le h hN)).trans (hE p h)
          have hE := hE9
          have hN : xct st ≤ xct o31.2.2.2.2 := Nat.le_trans hN hn40
          rw [hr9]
          refine W.eq (g2 := F0 m 68 ls [xv vad38 o31.2.2.2.1]) (by first | rfl | (skip; rfl)) ?_
          obtain rfl := Option.some.inj hf
          exact W.aret (v := xv vad38 o31.2.2.2.1) hx hb hr (Or.inl ⟨_, rfl⟩) (xvor _ _) (fun t ht hW => ⟨⟨xca vad38 o31.2.2.2.1, (ad36, gd37, vad38), rfl, ⟨rfl, hE, hN⟩, by rw [ht]; exact hP, va_K.moved hW.alike hK, hD⟩, hS.F ht⟩) hS.2.2 dM_binary1_68
        rw [if_neg hk33] at hf
        by_cases hk41 : o31.1 = 1
        · rw [if_pos hk41] at hf
          obtain ⟨hm42, hf⟩ := xmoE hf
          obtain rfl := Option.some.inj hf
          exact absurd (show (1 : Nat) = 0 from hkd) (by decide)
        rw [if_neg hk41] at hf
        exact nomatch hf
  rw [if_neg hc28] at hf
  by_cases hc30 : x0 = 2
  · rw [if_pos hc30] at hf
    refine lv_tableIn (off := 99) (tgt := 100) hx hb dM_binary1_1 (by rw [hc30]; decide) (by rw [hc30]; decide) (by rw [hc30]; decide) (by decide) ?_
    refine lv_aload_n hx hb dM_binary1_100 rfl (lv_at hl 0 rfl) ?_
    refine xm_aload_n hx hb (xvor _ _) dM_binary1_101 rfl (lv_at hl 2 rfl) ?_
    refine xm_aload_n hx hb (xvor _ _) dM_binary1_102 rfl (lv_at hl 3 rfl) ?_
    obtain ⟨o31, hq32, hf⟩ := xbind hf
    have hl := lv_sub (l' := [(0, .ref aM), (1, .int x0)]) hl [0, 1] rfl
    by_cases hk33 : o31.1 = 0
    · rw [if_pos hk33] at hf
      obtain ⟨hm34, hf⟩ := xmoE hf
      have hFc := xm_free hD hS hA
      refine va_callq (va_runV (C := "ValueBenchModel") (As := [xv vad c1, xv vad c2]) (rest := []) ⟨hx, hb, hml, hown, htx⟩ ((gM_times l hl9 D cT aK aV d s.heap.size n aM ad rd gd vad st c1 c2 o31 hq32).1 hk33) ⟨callB_of 2 htx (xw_goodC kw_6_215) rfl rfl rfl (htx _ kw_1_5) (htx _ kw_6_212) ⟨by decide, by decide, by decide +kernel⟩ ⟨(by show (16 * d) + 1 ≤ 16 * d + 9; omega), (by show 8 + (7 + 11) + (400 * d) ≤ 400 * d + 174; omega)⟩, (htx _ kw_6_214), (htx _ kp_M_times)⟩ ⟨xPre_blind, va_recv hK hP (ci := 5) rfl (q0 := 0) rfl, (fun U hU hW => ⟨rfl, xPre_of hZ hS hFc hP hD hK U hU hW⟩)⟩ rfl rfl hl.1 rfl (xm_room (Nat.le_of_ble_eq_true rfl)) dM_binary1_103 ⟨hm34.1, hm34.2⟩) hS (fun q _ h => hFc q h) hFc (fun r35 u9 t H1 locs ht hvm hr9 hB hz1 hk1 hS => ?_)
      obtain ⟨hP1, hK1, hD1⟩ := hB
      rw [ht] at hP1
      obtain ⟨ad36, gd37, vad38⟩ := u9
      obtain ⟨hr9, hv39, hn40⟩ := hr9
      have hP : va_P D xcl (xMw cT aM ad36 rd gd37 vad38 o31.2.2.2.2 []) H1 := hP1
      have hD : va_D A (xMw cT aM ad36 rd gd37 vad38 o31.2.2.2.2 []) := hD1.weaken (fun k q _ h => hFc q.1 h)
      generalize H1 = H at hP hS ⊢
      have hE9 : ∀ p, p < xct st → vad38 p = vad p := fun p h => (hv39 p (Nat.lt_of_lt_of_le h hN)).trans (hE p h)
      have hE := hE9
      have hN : xct st ≤ xct o31.2.2.2.2 := Nat.le_trans hN hn40
      rw [hr9]
      refine W.eq (g2 := F0 m 106 ls [xv vad38 o31.2.2.2.1]) (by first | rfl | (skip; rfl)) ?_
      obtain rfl := Option.some.inj hf
      exact W.aret (v := xv vad38 o31.2.2.2.1) hx hb hr (Or.inl ⟨_, rfl⟩) (xvor _ _) (fun t ht hW => ⟨⟨xca vad38 o31.2.2.2.1, (ad36, gd37, vad38), rfl, ⟨rfl, hE, hN⟩, by rw [ht]; exact hP, va_K.moved hW.alike hK, hD⟩, hS.F ht⟩) hS.2.2 dM_binary1_106
    rw [if_neg hk33] at hf
    by_cases hk41 : o31.1 = 1
    · rw [if_pos hk41] at hf
      obtain ⟨hm42, hf⟩ := xmoE hf
      obtain rfl := Option.some.inj hf
      exact absurd (show (1 : Nat) = 0 from hkd) (by decide)
    rw [if_neg hk41] at hf
    by_cases hk49 : o31.1 = 2
    · rw [if_pos hk49] at hf
      obtain ⟨hm50, hf⟩ := xmoE hf
      obtain rfl := Option.some.inj hf
      exact absurd (show (2 : Nat) = 0 from hkd) (by decide)
    rw [if_neg hk49] at hf
    exact nomatch hf
  rw [if_neg hc30] at hf
  by_cases hc57 : x0 = 3
  · rw [if_pos hc57] at hf
    refine lv_tableIn (off := 106) (tgt := 107) hx hb dM_binary1_1 (by rw [hc57]; decide) (by rw [hc57]; decide) (by rw [hc57]; decide) (by decide) ?_
    refine xm_aload_n hx hb (xvor _ _) dM_binary1_107 rfl (lv_at hl 2 rfl) ?_
    obtain ⟨hg58, hf⟩ := xifn hf
    refine xm_vget (v := .int ((xpi st 0) (c1 - 1))) hx hb htx hown hK hP 0 (by decide) hg58 rfl ((hZ.1 (93, "kind", "I") (List.mem_of_getElem? (i := 0) rfl)).use rfl) rfl dM_binary1_108 ?_
    refine lv_iconst (v := 4) hx hb dM_binary1_111 (by decide) ?_
    refine lv_icmp_ne (tgt := 130) hx hb dM_binary1_112 (by decide) (fun hc => ?_) (fun hc => ?_)
    · rw [if_neg hc] at hf
      refine xm_aload_n hx hb (xvor _ _) dM_binary1_130 rfl (lv_at hl 2 rfl) ?_
      refine xm_vget (v := .int ((xpi st 0) (c1 - 1))) hx hb htx hown hK hP 0 (by decide) hg58 rfl ((hZ.1 (93, "kind", "I") (List.mem_of_getElem? (i := 0) rfl)).use rfl) rfl dM_binary1_131 ?_
      refine lv_iconst (v := 3) hx hb dM_binary1_134 (by decide) ?_
      refine lv_icmp_ne (tgt := 146) hx hb dM_binary1_135 (by decide) (fun hc => ?_) (fun hc => ?_)
      · rw [if_neg hc] at hf
        refine lv_aload_n hx hb dM_binary1_146 rfl (lv_at hl 0 rfl) ?_
        refine lv_iconst (v := 1) hx hb dM_binary1_147 (by decide) ?_
        obtain ⟨o59, hq60, hf⟩ := xbind hf
        have hl := lv_sub (l' := [(0, .ref aM), (1, .int x0)]) hl [0, 1] rfl
        by_cases hk61 : o59.1 = 1
        · rw [if_pos hk61] at hf
          obtain ⟨hm62, hf⟩ := xmoE hf
          obtain rfl := Option.some.inj hf
          exact absurd (show (1 : Nat) = 0 from hkd) (by decide)
        rw [if_neg hk61] at hf
        exact nomatch hf
      · rw [if_pos hc] at hf
        refine xm_aload_n hx hb (xvor _ _) dM_binary1_138 rfl (lv_at hl 3 rfl) ?_
        obtain ⟨hg59, hf⟩ := xifn hf
        refine xm_vget (v := .int ((xpi st 0) (c2 - 1))) hx hb htx hown hK hP 0 (by decide) hg59 rfl ((hZ.1 (93, "kind", "I") (List.mem_of_getElem? (i := 0) rfl)).use rfl) rfl dM_binary1_139 ?_
        refine lv_iconst (v := 3) hx hb dM_binary1_142 (by decide) ?_
        refine lv_icmp_eq (tgt := 152) hx hb dM_binary1_143 (by decide) (fun hc => ?_) (fun hc => ?_)
        · rw [if_pos hc] at hf
          refine xm_aload_n hx hb (xvor _ _) dM_binary1_152 rfl (lv_at hl 3 rfl) ?_
          refine xm_vget (v := .long ((xpl st) (c2 - 1))) hx hb htx hown hK hP 1 (by decide) hg59 rfl ((hZ.1 (96, "n", "J") (List.mem_of_getElem? (i := 1) rfl)).use rfl) rfl dM_binary1_153 ?_
          refine lv_lconst (v := 0) hx hb dM_binary1_156 (by decide) ?_
          refine W.lcmp hx hb dM_binary1_157 ?_
          refine lv_if_ne (tgt := 169) hx hb dM_binary1_158 (by decide) (fun hc => ?_) (fun hc => ?_)
          · rw [if_neg hc] at hf
            refine lv_aload_n hx hb dM_binary1_169 rfl (lv_at hl 0 rfl) ?_
            refine xm_aload_n hx hb (xvor _ _) dM_binary1_170 rfl (lv_at hl 2 rfl) ?_
            refine xm_vget (v := .long ((xpl st) (c1 - 1))) hx hb htx hown hK hP 1 (by decide) hg58 rfl ((hZ.1 (96, "n", "J") (List.mem_of_getElem? (i := 1) rfl)).use rfl) rfl dM_binary1_171 ?_
            refine xm_aload_n hx hb (xvor _ _) dM_binary1_174 rfl (lv_at hl 3 rfl) ?_
            refine xm_vget (v := .long ((xpl st) (c2 - 1))) hx hb htx hown hK hP 1 (by decide) hg59 rfl ((hZ.1 (96, "n", "J") (List.mem_of_getElem? (i := 1) rfl)).use rfl) rfl dM_binary1_175 ?_
            obtain ⟨hg60, hf⟩ := xifn hf
            refine lv_ldiv hx hb dM_binary1_178 hg60 ?_
            obtain ⟨o61, hq62, hf⟩ := xbind hf
            have hl := lv_sub (l' := [(0, .ref aM), (1, .int x0)]) hl [0, 1] rfl
            by_cases hk63 : o61.1 = 0
            · rw [if_pos hk63] at hf
              obtain ⟨hm64, hf⟩ := xmoE hf
              have hFc := xm_free hD hS hA
              refine va_callq (va_runV (C := "ValueBenchModel") (As := [.long (((xpl st) (c1 - 1)) / ((xpl st) (c2 - 1)))]) (rest := []) ⟨hx, hb, hml, hown, htx⟩ (gM_number l hl9 D cT aK aV s.heap.size n aM ad rd gd vad st (((xpl st) (c1 - 1)) / ((xpl st) (c2 - 1))) o61 hq62 hk63) ⟨callB_of 1 htx (xw_goodC kw_6_88) rfl rfl rfl (htx _ kw_1_5) (htx _ kw_6_85) ⟨by decide, by decide, by decide +kernel⟩ ⟨Nat.le_of_ble_eq_true rfl, Nat.le_of_ble_eq_true rfl⟩, (htx _ kw_6_87), (htx _ kp_M_number)⟩ ⟨xPre_blind, va_recv hK hP (ci := 5) rfl (q0 := 0) rfl, (fun U hU hW => ⟨rfl, xPre_of hZ hS hFc hP hD hK U hU hW⟩)⟩ rfl rfl hl.1 rfl (xm_room (Nat.le_of_ble_eq_true rfl)) dM_binary1_179 ⟨hm64.1, hm64.2⟩) hS (fun q _ h => hFc q h) hFc (fun r65 u9 t H1 locs ht hvm hr9 hB hz1 hk1 hS => ?_)
              obtain ⟨hP1, hK1, hD1⟩ := hB
              rw [ht] at hP1
              obtain ⟨ad66, gd67, vad68⟩ := u9
              obtain ⟨hr9, hv69, hn70⟩ := hr9
              have hP : va_P D xcl (xMw cT aM ad66 rd gd67 vad68 o61.2.2.2.2 []) H1 := hP1
              have hD : va_D A (xMw cT aM ad66 rd gd67 vad68 o61.2.2.2.2 []) := hD1.weaken (fun k q _ h => hFc q.1 h)
              generalize H1 = H at hP hS ⊢
              have hE9 : ∀ p, p < xct st → vad68 p = vad p := fun p h => (hv69 p (Nat.lt_of_lt_of_le h hN)).trans (hE p h)
              have hE := hE9
              have hN : xct st ≤ xct o61.2.2.2.2 := Nat.le_trans hN hn70
              rw [hr9]
              refine W.eq (g2 := F0 m 182 ls [xv vad68 o61.2.2.2.1]) (by first | rfl | (skip; rfl)) ?_
              obtain rfl := Option.some.inj hf
              exact W.aret (v := xv vad68 o61.2.2.2.1) hx hb hr (Or.inl ⟨_, rfl⟩) (xvor _ _) (fun t ht hW => ⟨⟨xca vad68 o61.2.2.2.1, (ad66, gd67, vad68), rfl, ⟨rfl, hE, hN⟩, by rw [ht]; exact hP, va_K.moved hW.alike hK, hD⟩, hS.F ht⟩) hS.2.2 dM_binary1_182
            rw [if_neg hk63] at hf
            by_cases hk71 : o61.1 = 1
            · rw [if_pos hk71] at hf
              obtain ⟨hm72, hf⟩ := xmoE hf
              obtain rfl := Option.some.inj hf
              exact absurd (show (1 : Nat) = 0 from hkd) (by decide)
            rw [if_neg hk71] at hf
            exact nomatch hf
          · rw [if_pos hc] at hf
            refine lv_aload_n hx hb dM_binary1_161 rfl (lv_at hl 0 rfl) ?_
            refine lv_iconst (v := 3) hx hb dM_binary1_162 (by decide) ?_
            obtain ⟨o60, hq61, hf⟩ := xbind hf
            have hl := lv_sub (l' := [(0, .ref aM), (1, .int x0)]) hl [0, 1] rfl
            by_cases hk62 : o60.1 = 1
            · rw [if_pos hk62] at hf
              obtain ⟨hm63, hf⟩ := xmoE hf
              obtain rfl := Option.some.inj hf
              exact absurd (show (1 : Nat) = 0 from hkd) (by decide)
            rw [if_neg hk62] at hf
            exact nomatch hf
        · rw [if_neg hc] at hf
          refine lv_aload_n hx hb dM_binary1_146 rfl (lv_at hl 0 rfl) ?_
          refine lv_iconst (v := 1) hx hb dM_binary1_147 (by decide) ?_
          obtain ⟨o60, hq61, hf⟩ := xbind hf
          have hl := lv_sub (l' := [(0, .ref aM), (1, .int x0)]) hl [0, 1] rfl
          by_cases hk62 : o60.1 = 1
          · rw [if_pos hk62] at hf
            obtain ⟨hm63, hf⟩ := xmoE hf
            obtain rfl := Option.some.inj hf
            exact absurd (show (1 : Nat) = 0 from hkd) (by decide)
          rw [if_neg hk62] at hf
          exact nomatch hf
    · rw [if_pos hc] at hf
      refine xm_aload_n hx hb (xvor _ _) dM_binary1_115 rfl (lv_at hl 3 rfl) ?_
      obtain ⟨hg59, hf⟩ := xifn hf
      refine xm_vget (v := .int ((xpi st 0) (c2 - 1))) hx hb htx hown hK hP 0 (by decide) hg59 rfl ((hZ.1 (93, "kind", "I") (List.mem_of_getElem? (i := 0) rfl)).use rfl) rfl dM_binary1_116 ?_
      refine lv_iconst (v := 4) hx hb dM_binary1_119 (by decide) ?_
      refine lv_icmp_ne (tgt := 130) hx hb dM_binary1_120 (by decide) (fun hc => ?_) (fun hc => ?_)
      · rw [if_neg hc] at hf
        refine xm_aload_n hx hb (xvor _ _) dM_binary1_130 rfl (lv_at hl 2 rfl) ?_
        refine xm_vget (v := .int ((xpi st 0) (c1 - 1))) hx hb htx hown hK hP 0 (by decide) hg58 rfl ((hZ.1 (93, "kind", "I") (List.mem_of_getElem? (i := 0) rfl)).use rfl) rfl dM_binary1_131 ?_
        refine lv_iconst (v := 3) hx hb dM_binary1_134 (by decide) ?_
        refine lv_icmp_ne (tgt := 146) hx hb dM_binary1_135 (by decide) (fun hc => ?_) (fun hc => ?_)
        · rw [if_neg hc] at hf
          refine lv_aload_n hx hb dM_binary1_146 rfl (lv_at hl 0 rfl) ?_
          refine lv_iconst (v := 1) hx hb dM_binary1_147 (by decide) ?_
          obtain ⟨o60, hq61, hf⟩ := xbind hf
          have hl := lv_sub (l' := [(0, .ref aM), (1, .int x0)]) hl [0, 1] rfl
          by_cases hk62 : o60.1 = 1
          · rw [if_pos hk62] at hf
            obtain ⟨hm63, hf⟩ := xmoE hf
            obtain rfl := Option.some.inj hf
            exact absurd (show (1 : Nat) = 0 from hkd) (by decide)
          rw [if_neg hk62] at hf
          exact nomatch hf
        · rw [if_pos hc] at hf
          refine xm_aload_n hx hb (xvor _ _) dM_binary1_138 rfl (lv_at hl 3 rfl) ?_
          refine xm_vget (v := .int ((xpi st 0) (c2 - 1))) hx hb htx hown hK hP 0 (by decide) hg59 rfl ((hZ.1 (93, "kind", "I") (List.mem_of_getElem? (i := 0) rfl)).use rfl) rfl dM_binary1_139 ?_
          refine lv_iconst (v := 3) hx hb dM_binary1_142 (by decide) ?_
          refine lv_icmp_eq (tgt := 152) hx hb dM_binary1_143 (by decide) (fun hc => ?_) (fun hc => ?_)
          · rw [if_pos hc] at hf
            refine xm_aload_n hx hb (xvor _ _) dM_binary1_152 rfl (lv_at hl 3 rfl) ?_
            refine xm_vget (v := .long ((xpl st) (c2 - 1))) hx hb htx hown hK hP 1 (by decide) hg59 rfl ((hZ.1 (96, "n", "J") (List.mem_of_getElem? (i := 1) rfl)).use rfl) rfl dM_binary1_153 ?_
            refine lv_lconst (v := 0) hx hb dM_binary1_156 (by decide) ?_
            refine W.lcmp hx hb dM_binary1_157 ?_
            refine lv_if_ne (tgt := 169) hx hb dM_binary1_158 (by decide) (fun hc => ?_) (fun hc => ?_)
            · rw [if_neg hc] at hf
              refine lv_aload_n hx hb dM_binary1_169 rfl (lv_at hl 0 rfl) ?_
              refine xm_aload_n hx hb (xvor _ _) dM_binary1_170 rfl (lv_at hl 2 rfl) ?_
              refine xm_vget (v := .long ((xpl st) (c1 - 1))) hx hb htx hown hK hP 1 (by decide) hg58 rfl ((hZ.1 (96, "n", "J") (List.mem_of_getElem? (i := 1) rfl)).use rfl) rfl dM_binary1_171 ?_
              refine xm_aload_n hx hb (xvor _ _) dM_binary1_174 rfl (lv_at hl 3 rfl) ?_
              refine xm_vget (v := .long ((xpl st) (c2 - 1))) hx hb htx hown hK hP 1 (by decide) hg59 rfl ((hZ.1 (96, "n", "J") (List.mem_of_getElem? (i := 1) rfl)).use rfl) rfl dM_binary1_175 ?_
              obtain ⟨hg60, hf⟩ := xifn hf
              refine lv_ldiv hx hb dM_binary1_178 hg60 ?_
              obtain ⟨o61, hq62, hf⟩ := xbind hf
              have hl := lv_sub (l' := [(0, .ref aM), (1, .int x0)]) hl [0, 1] rfl
              by_cases hk63 : o61.1 = 0
              · rw [if_pos hk63] at hf
                obtain ⟨hm64, hf⟩ := xmoE hf
                have hFc := xm_free hD hS hA
                refine va_callq (va_runV (C := "ValueBenchModel") (As := [.long (((xpl st) (c1 - 1)) / ((xpl st) (c2 - 1)))]) (rest := []) ⟨hx, hb, hml, hown, htx⟩ (gM_number l hl9 D cT aK aV s.heap.size n aM ad rd gd vad st (((xpl st) (c1 - 1)) / ((xpl st) (c2 - 1))) o61 hq62 hk63) ⟨callB_of 1 htx (xw_goodC kw_6_88) rfl rfl rfl (htx _ kw_1_5) (htx _ kw_6_85) ⟨by decide, by decide, by decide +kernel⟩ ⟨Nat.le_of_ble_eq_true rfl, Nat.le_of_ble_eq_true rfl⟩, (htx _ kw_6_87), (htx _ kp_M_number)⟩ ⟨xPre_blind, va_recv hK hP (ci := 5) rfl (q0 := 0) rfl, (fun U hU hW => ⟨rfl, xPre_of hZ hS hFc hP hD hK U hU hW⟩)⟩ rfl rfl hl.1 rfl (xm_room (Nat.le_of_ble_eq_true rfl)) dM_binary1_179 ⟨hm64.1, hm64.2⟩) hS (fun q _ h => hFc q h) hFc (fun r65 u9 t H1 locs ht hvm hr9 hB hz1 hk1 hS => ?_)
                obtain ⟨hP1, hK1, hD1⟩ := hB
                rw [ht] at hP1
                obtain ⟨ad66, gd67, vad68⟩ := u9
                obtain ⟨hr9, hv69, hn70⟩ := hr9
                have hP : va_P D xcl (xMw cT aM ad66 rd gd67 vad68 o61.2.2.2.2 []) H1 := hP1
                have hD : va_D A (xMw cT aM ad66 rd gd67 vad68 o61.2.2.2.2 []) := hD1.weaken (fun k q _ h => hFc q.1 h)
                generalize H1 = H at hP hS ⊢
                have hE9 : ∀ p, p < xct st → vad68 p = vad p := fun p h => (hv69 p (Nat.lt_of_lt_of_le h hN)).trans (hE p h)
                have hE := hE9
                have hN : xct st ≤ xct o61.2.2.2.2 := Nat.le_trans hN hn70
                rw [hr9]
                refine W.eq (g2 := F0 m 182 ls [xv vad68 o61.2.2.2.1]) (by first | rfl | (skip; rfl)) ?_
                obtain rfl := Option.some.inj hf
                exact W.aret (v := xv vad68 o61.2.2.2.1) hx hb hr (Or.inl ⟨_, rfl⟩) (xvor _ _) (fun t ht hW => ⟨⟨xca vad68 o61.2.2.2.1, (ad66, gd67, vad68), rfl, ⟨rfl, hE, hN⟩, by rw [ht]; exact hP, va_K.moved hW.alike hK, hD⟩, hS.F ht⟩) hS.2.2 dM_binary1_182
              rw [if_neg hk63] at hf
              by_cases hk71 : o61.1 = 1
              · rw [if_pos hk71] at hf
                obtain ⟨hm72, hf⟩ := xmoE hf
                obtain rfl := Option.some.inj hf
                exact absurd (show (1 : Nat) = 0 from hkd) (by decide)
              rw [if_neg hk71] at hf
              exact nomatch hf
            · rw [if_pos hc] at hf
              refine lv_aload_n hx hb dM_binary1_161 rfl (lv_at hl 0 rfl) ?_
              refine lv_iconst (v := 3) hx hb dM_binary1_162 (by decide) ?_
              obtain ⟨o60, hq61, hf⟩ := xbind hf
              have hl := lv_sub (l' := [(0, .ref aM), (1, .int x0)]) hl [0, 1] rfl
              by_cases hk62 : o60.1 = 1
              · rw [if_pos hk62] at hf
                obtain ⟨hm63, hf⟩ := xmoE hf
                obtain rfl := Option.some.inj hf
                exact absurd (show (1 : Nat) = 0 from hkd) (by decide)
              rw [if_neg hk62] at hf
              exact nomatch hf
          · rw [if_neg hc] at hf
            refine lv_aload_n hx hb dM_binary1_146 rfl (lv_at hl 0 rfl) ?_
            refine lv_iconst (v := 1) hx hb dM_binary1_147 (by decide) ?_
            obtain ⟨o60, hq61, hf⟩ := xbind hf
            have hl := lv_sub (l' := [(0, .ref aM), (1, .int x0)]) hl [0, 1] rfl
            by_cases hk62 : o60.1 = 1
            · rw [if_pos hk62] at hf
              obtain ⟨hm63, hf⟩ := xmoE hf
              obtain rfl := Option.some.inj hf
              exact absurd (show (1 : Nat) = 0 from hkd) (by decide)
            rw [if_neg hk62] at hf
            exact nomatch hf
      · rw [if_pos hc] at hf
        refine lv_aload_n hx hb dM_binary1_123 rfl (lv_at hl 0 rfl) ?_
        refine xm_aload_n hx hb (xvor _ _) dM_binary1_124 rfl (lv_at hl 2 rfl) ?_
        refine xm_aload_n hx hb (xvor _ _) dM_binary1_125 rfl (lv_at hl 3 rfl) ?_
        obtain ⟨o60, hq61, hf⟩ := xbind hf
        have hl := lv_sub (l' := [(0, .ref aM), (1, .int x0)]) hl [0, 1] rfl
        by_cases hk62 : o60.1 = 0
        · rw [if_pos hk62] at hf
          obtain ⟨hm63, hf⟩ := xmoE hf
          have hFc := xm_free hD hS hA
          refine va_callq (va_runV (C := "ValueBenchModel") (As := [xv vad c1, xv vad c2]) (rest := []) ⟨hx, hb, hml, hown, htx⟩ (gM_split l hl9 D cT aK aV s.heap.size n aM ad rd gd vad st c1 c2 o60 hq61 hk62) ⟨callB_of 2 htx (xw_goodC kw_6_225) rfl rfl rfl (htx _ kw_1_5) (htx _ kw_6_222) ⟨by decide, by decide, by decide +kernel⟩ ⟨Nat.le_of_ble_eq_true rfl, Nat.le_of_ble_eq_true rfl⟩, (htx _ kw_6_224), (htx _ kp_M_split)⟩ ⟨xPre_blind, va_recv hK hP (ci := 5) rfl (q0 := 0) rfl, (fun U hU hW => ⟨rfl, xPre_of hZ hS hFc hP hD hK U hU hW⟩)⟩ rfl rfl hl.1 rfl (xm_room (Nat.le_of_ble_eq_true rfl)) dM_binary1_126 ⟨hm63.1, hm63.2⟩) hS (fun q _ h => hFc q h) hFc (fun r64 u9 t H1 locs ht hvm hr9 hB hz1 hk1 hS => ?_)
          obtain ⟨hP1, hK1, hD1⟩ := hB
          rw [ht] at hP1
          obtain ⟨ad65, gd66, vad67⟩ := u9
          obtain ⟨hr9, hv68, hn69⟩ := hr9
          have hP : va_P D xcl (xMw cT aM ad65 rd gd66 vad67 o60.2.2.2.2 []) H1 := hP1
          have hD : va_D A (xMw cT aM ad65 rd gd66 vad67 o60.2.2.2.2 []) := hD1.weaken (fun k q _ h => hFc q.1 h)
          generalize H1 = H at hP hS ⊢
          have hE9 : ∀ p, p < xct st → vad67 p = vad p := fun p h => (hv68 p (Nat.lt_of_lt_of_le h hN)).trans (hE p h)
          have hE := hE9
          have hN : xct st ≤ xct o60.2.2.2.2 := Nat.le_trans hN hn69
          rw [hr9]
          refine W.eq (g2 := F0 m 129 ls [xv vad67 o60.2.2.2.1]) (by first | rfl | (skip; rfl)) ?_
          obtain rfl := Option.some.inj hf
          exact W.aret (v := xv vad67 o60.2.2.2.1) hx hb hr (Or.inl ⟨_, rfl⟩) (xvor _ _) (fun t ht hW => ⟨⟨xca vad67 o60.2.2.2.1, (ad65, gd66, vad67), rfl, ⟨rfl, hE, hN⟩, by rw [ht]; exact hP, va_K.moved hW.alike hK, hD⟩, hS.F ht⟩) hS.2.2 dM_binary1_129
        rw [if_neg hk62] at hf
        by_cases hk70 : o60.1 = 1
        · rw [if_pos hk70] at hf
          obtain ⟨hm71, hf⟩ := xmoE hf
          obtain rfl := Option.some.inj hf
          exact absurd (show (2 : Nat) = 0 from hkd) (by decide)
        rw [if_neg hk70] at hf
        exact nomatch hf
  rw [if_neg hc57] at hf
  refine lv_tableOut (tgt := 183) hx hb dM_binary1_1 (by have e0 : x0.toInt ≠ 0 := xsw hc1 (by decide); have e1 : x0.toInt ≠ 1 := xsw hc28 (by decide); have e2 : x0.toInt ≠ 2 := xsw hc30 (by decide); have e3 : x0.toInt ≠ 3 := xsw hc57 (by decide); omega) (by decide) ?_
  refine xm_aload_n hx hb (xvor _ _) dM_binary1_183 rfl (lv_at hl 2 rfl) ?_
  obtain ⟨hg59, hf⟩ := xifn hf
  refine xm_vget (v := .int ((xpi st 0) (c1 - 1))) hx hb htx hown hK hP 0 (by decide) hg59 rfl ((hZ.1 (93, "kind", "I") (List.mem_of_getElem? (i := 0) rfl)).use rfl) rfl dM_binary1_184 ?_
  refine lv_iconst (v := 3) hx hb dM_binary1_187 (by decide) ?_
  refine lv_icmp_ne (tgt := 199) hx hb dM_binary1_188 (by decide) (fun hc => ?_) (fun hc => ?_)
  · rw [if_neg hc] at hf
    refine lv_aload_n hx hb dM_binary1_199 rfl (lv_at hl 0 rfl) ?_
    refine lv_iconst (v := 1) hx hb dM_binary1_200 (by decide) ?_
    obtain ⟨o60, hq61, hf⟩ := xbind hf
    have hl := lv_sub (l' := [(0, .ref aM), (1, .int x0)]) hl [0, 1] rfl
    by_cases hk62 : o60.1 = 1
    · rw [if_pos hk62] at hf
      obtain ⟨hm63, hf⟩ := xmoE hf
      obtain rfl := Option.some.inj hf
      exact absurd (show (1 : Nat) = 0 from hkd) (by decide)
    rw [if_neg hk62] at hf
    exact nomatch hf
  · rw [if_pos hc] at hf
    refine xm_aload_n hx hb (xvor _ _) dM_binary1_191 rfl (lv_at hl 3 rfl) ?_
    obtain ⟨hg60, hf⟩ := xifn hf
    refine xm_vget (v := .int ((xpi st 0) (c2 - 1))) hx hb htx hown hK hP 0 (by decide) hg60 rfl ((hZ.1 (93, "kind", "I") (List.mem_of_getElem? (i := 0) rfl)).use rfl) rfl dM_binary1_192 ?_
    refine lv_iconst (v := 3) hx hb dM_binary1_195 (by decide) ?_
    refine lv_icmp_eq (tgt := 205) hx hb dM_binary1_196 (by decide) (fun hc => ?_) (fun hc => ?_)
    · rw [if_pos hc] at hf
      refine xm_aload_n hx hb (xvor _ _) dM_binary1_205 rfl (lv_at hl 3 rfl) ?_
      refine xm_vget (v := .long ((xpl st) (c2 - 1))) hx hb htx hown hK hP 1 (by decide) hg60 rfl ((hZ.1 (96, "n", "J") (List.mem_of_getElem? (i := 1) rfl)).use rfl) rfl dM_binary1_206 ?_
      refine lv_lconst (v := 0) hx hb dM_binary1_209 (by decide) ?_
      refine W.lcmp hx hb dM_binary1_210 ?_
      refine lv_if_ne (tgt := 222) hx hb dM_binary1_211 (by decide) (fun hc => ?_) (fun hc => ?_)
      · rw [if_neg hc] at hf
        refine lv_aload_n hx hb dM_binary1_222 rfl (lv_at hl 0 rfl) ?_
        refine xm_aload_n hx hb (xvor _ _) dM_binary1_223 rfl (lv_at hl 2 rfl) ?_
        refine xm_vget (v := .long ((xpl st) (c1 - 1))) hx hb htx hown hK hP 1 (by decide) hg59 rfl ((hZ.1 (96, "n", "J") (List.mem_of_getElem? (i := 1) rfl)).use rfl) rfl dM_binary1_224 ?_
        refine xm_aload_n hx hb (xvor _ _) dM_binary1_227 rfl (lv_at hl 3 rfl) ?_
        refine xm_vget (v := .long ((xpl st) (c2 - 1))) hx hb htx hown hK hP 1 (by decide) hg60 rfl ((hZ.1 (96, "n", "J") (List.mem_of_getElem? (i := 1) rfl)).use rfl) rfl dM_binary1_228 ?_
        obtain ⟨hg61, hf⟩ := xifn hf
        refine lv_lrem hx hb dM_binary1_231 hg61 ?_
        obtain ⟨o62, hq63, hf⟩ := xbind hf
        have hl := lv_sub (l' := [(0, .ref aM), (1, .int x0)]) hl [0, 1] rfl
        by_cases hk64 : o62.1 = 0
        · rw [if_pos hk64] at hf
          obtain ⟨hm65, hf⟩ := xmoE hf
          have hFc := xm_free hD hS hA
          refine va_callq (va_runV (C := "ValueBenchModel") (As := [.long (((xpl st) (c1 - 1)) - ((xpl st) (c1 - 1)) / ((xpl st) (c2 - 1)) * ((xpl st) (c2 - 1)))]) (rest := []) ⟨hx, hb, hml, hown, htx⟩ (gM_number l hl9 D cT aK aV s.heap.size n aM ad rd gd vad st (((xpl st) (c1 - 1)) - ((xpl st) (c1 - 1)) / ((xpl st) (c2 - 1)) * ((xpl st) (c2 - 1))) o62 hq63 hk64) ⟨callB_of 1 htx (xw_goodC kw_6_88) rfl rfl rfl (htx _ kw_1_5) (htx _ kw_6_85) ⟨by decide, by decide, by decide +kernel⟩ ⟨Nat.le_of_ble_eq_true rfl, Nat.le_of_ble_eq_true rfl⟩, (htx _ kw_6_87), (htx _ kp_M_number)⟩ ⟨xPre_blind, va_recv hK hP (ci := 5) rfl (q0 := 0) rfl, (fun U hU hW => ⟨rfl, xPre_of hZ hS hFc hP hD hK U hU hW⟩)⟩ rfl rfl hl.1 rfl (xm_room (Nat.le_of_ble_eq_true rfl)) dM_binary1_232 ⟨hm65.1, hm65.2⟩) hS (fun q _ h => hFc q h) hFc (fun r66 u9 t H1 locs ht hvm hr9 hB hz1 hk1 hS => ?_)
          obtain ⟨hP1, hK1, hD1⟩ := hB
          rw [ht] at hP1
          obtain ⟨ad67, gd68, vad69⟩ := u9
          obtain ⟨hr9, hv70, hn71⟩ := hr9
          have hP : va_P D xcl (xMw cT aM ad67 rd gd68 vad69 o62.2.2.2.2 []) H1 := hP1
          have hD : va_D A (xMw cT aM ad67 rd gd68 vad69 o62.2.2.2.2 []) := hD1.weaken (fun k q _ h => hFc q.1 h)
          generalize H1 = H at hP hS ⊢
          have hE9 : ∀ p, p < xct st → vad69 p = vad p := fun p h => (hv70 p (Nat.lt_of_lt_of_le h hN)).trans (hE p h)
          have hE := hE9
          have hN : xct st ≤ xct o62.2.2.2.2 := Nat.le_trans hN hn71
          rw [hr9]
          refine W.eq (g2 := F0 m 235 ls [xv vad69 o62.2.2.2.1]) (by first | rfl | (skip; rfl)) ?_
          obtain rfl := Option.some.inj hf
          exact W.aret (v := xv vad69 o62.2.2.2.1) hx hb hr (Or.inl ⟨_, rfl⟩) (xvor _ _) (fun t ht hW => ⟨⟨xca vad69 o62.2.2.2.1, (ad67, gd68, vad69), rfl, ⟨rfl, hE, hN⟩, by rw [ht]; exact hP, va_K.moved hW.alike hK, hD⟩, hS.F ht⟩) hS.2.2 dM_binary1_235
        rw [if_neg hk64] at hf
        by_cases hk72 : o62.1 = 1
        · rw [if_pos hk72] at hf
          obtain ⟨hm73, hf⟩ := xmoE hf
          obtain rfl := Option.some.inj hf
          exact absurd (show (1 : Nat) = 0 from hkd) (by decide)
        rw [if_neg hk72] at hf
        exact nomatch hf
      · rw [if_pos hc] at hf
        refine lv_aload_n hx hb dM_binary1_214 rfl (lv_at hl 0 rfl) ?_
        refine lv_iconst (v := 3) hx hb dM_binary1_215 (by decide) ?_
        obtain ⟨o61, hq62, hf⟩ := xbind hf
        have hl := lv_sub (l' := [(0, .ref aM), (1, .int x0)]) hl [0, 1] rfl
        by_cases hk63 : o61.1 = 1
        · rw [if_pos hk63] at hf
          obtain ⟨hm64, hf⟩ := xmoE hf
          obtain rfl := Option.some.inj hf
          exact absurd (show (1 : Nat) = 0 from hkd) (by decide)
        rw [if_neg hk63] at hf
        exact nomatch hf
    · rw [if_neg hc] at hf
      refine lv_aload_n hx hb dM_binary1_199 rfl (lv_at hl 0 rfl) ?_
      refine lv_iconst (v := 1) hx hb dM_binary1_200 (by decide) ?_
      obtain ⟨o61, hq62, hf⟩ := xbind hf
      have hl := lv_sub (l' := [(0, .ref aM), (1, .int x0)]) hl [0, 1] rfl
      by_cases hk63 : o61.1 = 1
      · rw [if_pos hk63] at hf
        obtain ⟨hm64, hf⟩ := xmoE hf
        obtain rfl := Option.some.inj hf
        exact absurd (show (1 : Nat) = 0 from hkd) (by decide)
      rw [if_neg hk63] at hf
      exact nomatch hf
set_option maxHeartbeats 400000000 in
set_option maxRecDepth 100000 in
theorem gM_binary1_1 (l : Launch) (hl9 : l.stackTraces = false) (D : va_G) (cT : Nat → ClassId) (aK aV : Nat → Nat) (sz d n : Nat) (aM : Nat) (ad rd gd vad : Nat → Nat) (st : xS) (x0 : Int32) (c1 : Nat) (c2 : Nat) (out : Nat × Nat × Nat × Nat × xS) (hf : fM_binary1 d n st x0 c1 c2 = some out) (hkd : out.1 = 1) : xMetY l yM_binary1 wyM_binary1 (16 * d + 9) out.2.1 out.2.2.1 (400 * d + 174) D cT aK aV sz [.ref aM, .int x0, xv vad c1, xv vad c2] (xMw cT aM ad rd gd vad st []) "java/lang/ArithmeticException" (fun u => xE vad st out.2.2.2.2 u) (fun A u t => xB D xcl cT A (xMw cT aM u.1 rd u.2.1 u.2.2 out.2.2.2.2 []) t) := by
  refine vx_ofW (cc := prog_13_method_48_code) (maxL := 4) (ret := (some (.object "ValueBenchModel$V"))) (by decide) rfl ?_
  intro p e s m args below meth c s₁ B hml hne hv
  obtain ⟨rfl, hsz, hZ, hP, hK, hD0⟩ := hv
  have hx := B.exec
  have hb := B.bytes
  have hr := B.returns
  have hts := atoms_spec (ws := wyM_binary1) B.pre
  have htx := fun w h => hts w (List.mem_cons_of_mem _ h)
  have hown : s.vm.findClass "ValueBenchModel" = some m.cls := findClass_of_methodNamed B.named
  have hlocks := B.notSynchronized
  subst hsz
  have hD := hD0.self (sz := s.heap.size)
  generalize hAe : va_A (xMw cT aM ad rd gd vad st []) s.heap.size = A at hD hZ ⊢
  have hA : ∀ q : Nat, s.heap.size ≤ q → A q := fun q h => by rw [← hAe]; exact Or.inr h
  have hS : va_S A s.heap s.heap [] := va_S.rf
  have hl := lv_entry ([.ref aM, .int x0, xv vad c1, xv vad c2]) (n := 4) (by simp [lg_sl, xvcat, xrscat, xcI, xcL, xcR, xcN])
  rw [show lv_args 0 [.ref aM, .int x0, xv vad c1, xv vad c2] = [(0, .ref aM), (1, .int x0), (2, xv vad c1), (3, xv vad c2)] from by simp [lv_args, xvcat, xrscat, xcI, xcL, xcR, xcN]] at hl
  rw [lg_entry_eq]
  generalize (lg_sl ([.ref aM, .int x0, xv vad c1, xv vad c2]) ++ List.replicate (4 - (lg_sl ([.ref aM, .int x0, xv vad c1, xv vad c2])).length) Slot.unset).toArray = ls at hl ⊢
  have hl : lv_has ls 4 [(0, .ref aM), (1, .int x0), (2, xv vad c1), (3, xv vad c2)] := hl
  have hE : ∀ p, p < xct st → vad p = vad p := fun _ _ => rfl
  have hN : xct st ≤ xct st := Nat.le_refl _
  unfold fM_binary1 at hf
  refine lv_iload_n hx hb dM_binary1_0 rfl (lv_at hl 1 rfl) ?_
  by_cases hc1 : x0 = 0
  · rw [if_pos hc1] at hf
    refine lv_tableIn (off := 31) (tgt := 32) hx hb dM_binary1_1 (by rw [hc1]; decide) (by rw [hc1]; decide) (by rw [hc1]; decide) (by decide) ?_
    refine lv_aload_n hx hb dM_binary1_32 rfl (lv_at hl 0 rfl) ?_
    refine xm_aload_n hx hb (xvor _ _) dM_binary1_33 rfl (lv_at hl 2 rfl) ?_
    refine xm_aload_n hx hb (xvor _ _) dM_binary1_34 rfl (lv_at hl 3 rfl) ?_
    obtain ⟨o2, hq3, hf⟩ := xbind hf
    have hl := lv_sub (l' := [(0, .ref aM), (1, .int x0)]) hl [0, 1] rfl
    by_cases hk4 : o2.1 = 0
    · rw [if_pos hk4] at hf
      obtain ⟨hm5, hf⟩ := xmoE hf
      have hFc := xm_free hD hS hA
      refine va_callq (va_runV (C := "ValueBenchModel") (As := [xv vad c1, xv vad c2]) (rest := []) ⟨hx, hb, hml, hown, htx⟩ (gM_added l hl9 D cT aK aV s.heap.size n aM ad rd gd vad st c1 c2 o2 hq3 hk4) ⟨callB_of 2 htx (xw_goodC kw_6_203) rfl rfl rfl (htx _ kw_1_5) (htx _ kw_6_200) ⟨by decide, by decide, by decide +kernel⟩ ⟨Nat.le_of_ble_eq_true rfl, Nat.le_of_ble_eq_true rfl⟩, (htx _ kw_6_202), (htx _ kp_M_added)⟩ ⟨xPre_blind, va_recv hK hP (ci := 5) rfl (q0 := 0) rfl, (fun U hU hW => ⟨rfl, xPre_of hZ hS hFc hP hD hK U hU hW⟩)⟩ rfl rfl hl.1 rfl (xm_room (Nat.le_of_ble_eq_true rfl)) dM_binary1_35 ⟨hm5.1, hm5.2⟩) hS (fun q _ h => hFc q h) hFc (fun r6 u9 t H1 locs ht hvm hr9 hB hz1 hk1 hS => ?_)
      obtain ⟨hP1, hK1, hD1⟩ := hB
      rw [ht] at hP1
      obtain ⟨ad7, gd8, vad9⟩ := u9
      obtain ⟨hr9, hv10, hn11⟩ := hr9
      have hP : va_P D xcl (xMw cT aM ad7 rd gd8 vad9 o2.2.2.2.2 []) H1 := hP1
      have hD : va_D A (xMw cT aM ad7 rd gd8 vad9 o2.2.2.2.2 []) := hD1.weaken (fun k q _ h => hFc q.1 h)
      generalize H1 = H at hP hS ⊢
      have hE9 : ∀ p, p < xct st → vad9 p = vad p := fun p h => (hv10 p (Nat.lt_of_lt_of_le h hN)).trans (hE p h)
      have hE := hE9
      have hN : xct st ≤ xct o2.2.2.2.2 := Nat.le_trans hN hn11
      rw [hr9]
      refine W.eq (g2 := F0 m 38 ls [xv vad9 o2.2.2.2.1]) (by first | rfl | (skip; rfl)) ?_
      obtain rfl := Option.some.inj hf
      exact absurd (show (0 : Nat) = 1 from hkd) (by decide)
    rw [if_neg hk4] at hf
    by_cases hk12 : o2.1 = 1
    · rw [if_pos hk12] at hf
      obtain ⟨hm13, hf⟩ := xmoE hf
      have hFc := xm_free hD hS hA
      refine xx_thr (vx_runV (C := "ValueBenchModel") (As := [xv vad c1, xv vad c2]) (rest := []) ⟨hx, hb, hml, hown, htx⟩ (gM_added_1 l hl9 D cT aK aV s.heap.size n aM ad rd gd vad st c1 c2 o2 hq3 hk12) ⟨callB_of 2 htx (xw_goodC kw_6_203) rfl rfl rfl (htx _ kw_1_5) (htx _ kw_6_200) ⟨by decide, by decide, by decide +kernel⟩ ⟨Nat.le_of_ble_eq_true rfl, Nat.le_of_ble_eq_true rfl⟩, (htx _ kw_6_202), (htx _ kp_M_added)⟩ ⟨xPre_blind, va_recv hK hP (ci := 5) rfl (q0 := 0) rfl, (fun U hU hW => ⟨rfl, xPre_of hZ hS hFc hP hD hK U hU hW⟩)⟩ rfl rfl hl.1 rfl (xm_room (Nat.le_of_ble_eq_true rfl)) dM_binary1_35 ⟨hm13.1, hm13.2⟩) hS hFc (fun q _ h => hFc q h) (fun E ce q9 u9 t H1 locs ht hvm hr9 hB hz1 hk1 hS hce hcv hcl => ?_)
      obtain ⟨rfl, hP1, hK1, hD1⟩ := hB
      rw [ht] at hP1
      obtain ⟨ad15, gd16, vad17⟩ := u9
      obtain ⟨hv18, hn19⟩ := hr9
      have hP : va_P D xcl (xMw cT aM ad15 rd gd16 vad17 o2.2.2.2.2 []) H1 := hP1
      have hD : va_D A (xMw cT aM ad15 rd gd16 vad17 o2.2.2.2.2 []) := hD1.weaken (fun k q _ h => hFc q.1 h)
      generalize H1 = H at hP hS hce ⊢
      have hE9 : ∀ p, p < xct st → vad17 p = vad p := fun p h => (hv18 p (Nat.lt_of_lt_of_le h hN)).trans (hE p h)
      have hE := hE9
      have hN : xct st ≤ xct o2.2.2.2.2 := Nat.le_trans hN hn19
      obtain rfl := Option.some.inj hf
      exact vx_out (E := "java/lang/ArithmeticException") (fun x h => (hne x h).elim) hlocks hce hcv hcl (fun t ht ha => ⟨(ad15, gd16, vad17), ⟨hE, hN⟩, ⟨rfl, by rw [ht]; exact hP, va_K.moved ha hK, hD⟩, hS.F ht⟩) hS.2.2 (Nat.le_refl _) (Nat.le_refl _)
    rw [if_neg hk12] at hf
    by_cases hk20 : o2.1 = 2
    · rw [if_pos hk20] at hf
      obtain ⟨hm21, hf⟩ := xmoE hf
      obtain rfl := Option.some.inj hf
      exact absurd (show (2 : Nat) = 1 from hkd) (by decide)
    rw [if_neg hk20] at hf
    exact nomatch hf
  rw [if_neg hc1] at hf
  by_cases hc28 : x0 = 1
  · rw [if_pos hc28] at hf
    refine lv_tableIn (off := 38) (tgt := 39) hx hb dM_binary1_1 (by rw [hc28]; decide) (by rw [hc28]; decide) (by rw [hc28]; decide) (by decide) ?_
    refine xm_aload_n hx hb (xvor _ _) dM_binary1_39 rfl (lv_at hl 2 rfl) ?_
    obtain ⟨hg29, hf⟩ := xifn hf
    refine xm_vget (v := .int ((xpi st 0) (c1 - 1))) hx hb htx hown hK hP 0 (by decide) hg29 rfl ((hZ.1 (93, "kind", "I") (List.mem_of_getElem? (i := 0) rfl)).use rfl) rfl dM_binary1_40 ?_
    refine lv_iconst (v := 3) hx hb dM_binary1_43 (by decide) ?_
    refine lv_icmp_ne (tgt := 69) hx hb dM_binary1_44 (by decide) (fun hc => ?_) (fun hc => ?_)
    · rw [if_neg hc] at hf
      refine xm_aload_n hx hb (xvor _ _) dM_binary1_69 rfl (lv_at hl 2 rfl) ?_
      refine xm_vget (v := .int ((xpi st 0) (c1 - 1))) hx hb htx hown hK hP 0 (by decide) hg29 rfl ((hZ.1 (93, "kind", "I") (List.mem_of_getElem? (i := 0) rfl)).use rfl) rfl dM_binary1_70 ?_
      refine lv_iconst (v := 5) hx hb dM_binary1_73 (by decide) ?_
      refine lv_icmp_ne (tgt := 94) hx hb dM_binary1_74 (by decide) (fun hc => ?_) (fun hc => ?_)
      · rw [if_neg hc] at hf
        refine lv_aload_n hx hb dM_binary1_94 rfl (lv_at hl 0 rfl) ?_
        refine lv_iconst (v := 1) hx hb dM_binary1_95 (by decide) ?_
        obtain ⟨o30, hq31, hf⟩ := xbind hf
        have hl := lv_sub (l' := [(0, .ref aM), (1, .int x0)]) hl [0, 1] rfl
        by_cases hk32 : o30.1 = 1
        · rw [if_pos hk32] at hf
          obtain ⟨hm33, hf⟩ := xmoE hf
          have hFc := xm_free hD hS hA
          refine xx_thr (vx_runV (C := "ValueBenchModel") (As := [.int 1]) (rest := []) ⟨hx, hb, hml, hown, htx⟩ (gM_refuse_1 l hl9 D cT aK aV s.heap.size n aM ad rd gd vad st (1 : Int32) o30 hq31 hk32) ⟨callB_of 1 htx (xw_goodC kw_6_93) rfl rfl rfl (htx _ kw_1_5) (htx _ kw_6_90) ⟨by decide, by decide, by decide +kernel⟩ ⟨Nat.le_of_ble_eq_true rfl, Nat.le_of_ble_eq_true rfl⟩, (htx _ kw_6_92), (htx _ kp_M_refuse)⟩ ⟨xPre_blind, va_recv hK hP (ci := 5) rfl (q0 := 0) rfl, (fun U hU hW => ⟨rfl, xPre_of hZ hS hFc hP hD hK U hU hW⟩)⟩ rfl rfl hl.1 rfl (xm_room (Nat.le_of_ble_eq_true rfl)) dM_binary1_96 ⟨hm33.1, hm33.2⟩) hS hFc (fun q _ h => hFc q h) (fun E ce q9 u9 t H1 locs ht hvm hr9 hB hz1 hk1 hS hce hcv hcl => ?_)
          obtain ⟨rfl, hP1, hK1, hD1⟩ := hB
          rw [ht] at hP1
          obtain ⟨ad35, gd36, vad37⟩ := u9
          obtain ⟨hv38, hn39⟩ := hr9
          have hP : va_P D xcl (xMw cT aM ad35 rd gd36 vad37 o30.2.2.2.2 []) H1 := hP1
          have hD : va_D A (xMw cT aM ad35 rd gd36 vad37 o30.2.2.2.2 []) := hD1.weaken (fun k q _ h => hFc q.1 h)
          generalize H1 = H at hP hS hce ⊢
          have hE9 : ∀ p, p < xct st → vad37 p = vad p := fun p h => (hv38 p (Nat.lt_of_lt_of_le h hN)).trans (hE p h)
          have hE := hE9
          have hN : xct st ≤ xct o30.2.2.2.2 := Nat.le_trans hN hn39
          obtain rfl := Option.some.inj hf
          exact vx_out (E := "java/lang/ArithmeticException") (fun x h => (hne x h).elim) hlocks hce hcv hcl (fun t ht ha => ⟨(ad35, gd36, vad37), ⟨hE, hN⟩, ⟨rfl, by rw [ht]; exact hP, va_K.moved ha hK, hD⟩, hS.F ht⟩) hS.2.2 (Nat.le_refl _) (Nat.le_refl _)
        rw [if_neg hk32] at hf
        exact nomatch hf
      · rw [if_pos hc] at hf
        refine xm_aload_n hx hb (xvor _ _) dM_binary1_77 rfl (lv_at hl 3 rfl) ?_
        obtain ⟨hg30, hf⟩ := xifn hf
        refine xm_vget (v := .int ((xpi st 0) (c2 - 1))) hx hb htx hown hK hP 0 (by decide) hg30 rfl ((hZ.1 (93, "kind", "I") (List.mem_of_getElem? (i := 0) rfl)).use rfl) rfl dM_binary1_78 ?_
        refine lv_iconst (v := 5) hx hb dM_binary1_81 (by decide) ?_
        refine lv_icmp_ne (tgt := 94) hx hb dM_binary1_82 (by decide) (fun hc => ?_) (fun hc => ?_)
        · rw [if_neg hc] at hf
          refine lv_aload_n hx hb dM_binary1_94 rfl (lv_at hl 0 rfl) ?_
          refine lv_iconst (v := 1) hx hb dM_binary1_95 (by decide) ?_
          obtain ⟨o31, hq32, hf⟩ := xbind hf
          have hl := lv_sub (l' := [(0, .ref aM), (1, .int x0)]) hl [0, 1] rfl
          by_cases hk33 : o31.1 = 1
          · rw [if_pos hk33] at hf
            obtain ⟨hm34, hf⟩ := xmoE hf
            have hFc := xm_free hD hS hA
            refine xx_thr (vx_runV (C := "ValueBenchModel") (As := [.int 1]) (rest := []) ⟨hx, hb, hml, hown, htx⟩ (gM_refuse_1 l hl9 D cT aK aV s.heap.size n aM ad rd gd vad st (1 : Int32) o31 hq32 hk33) ⟨callB_of 1 htx (xw_goodC kw_6_93) rfl rfl rfl (htx _ kw_1_5) (htx _ kw_6_90) ⟨by decide, by decide, by decide +kernel⟩ ⟨Nat.le_of_ble_eq_true rfl, Nat.le_of_ble_eq_true rfl⟩, (htx _ kw_6_92), (htx _ kp_M_refuse)⟩ ⟨xPre_blind, va_recv hK hP (ci := 5) rfl (q0 := 0) rfl, (fun U hU hW => ⟨rfl, xPre_of hZ hS hFc hP hD hK U hU hW⟩)⟩ rfl rfl hl.1 rfl (xm_room (Nat.le_of_ble_eq_true rfl)) dM_binary1_96 ⟨hm34.1, hm34.2⟩) hS hFc (fun q _ h => hFc q h) (fun E ce q9 u9 t H1 locs ht hvm hr9 hB hz1 hk1 hS hce hcv hcl => ?_)
            obtain ⟨rfl, hP1, hK1, hD1⟩ := hB
            rw [ht] at hP1
            obtain ⟨ad36, gd37, vad38⟩ := u9
            obtain ⟨hv39, hn40⟩ := hr9
            have hP : va_P D xcl (xMw cT aM ad36 rd gd37 vad38 o31.2.2.2.2 []) H1 := hP1
            have hD : va_D A (xMw cT aM ad36 rd gd37 vad38 o31.2.2.2.2 []) := hD1.weaken (fun k q _ h => hFc q.1 h)
            generalize H1 = H at hP hS hce ⊢
            have hE9 : ∀ p, p < xct st → vad38 p = vad p := fun p h => (hv39 p (Nat.lt_of_lt_of_le h hN)).trans (hE p h)
            have hE := hE9
            have hN : xct st ≤ xct o31.2.2.2.2 := Nat.le_trans hN hn40
            obtain rfl := Option.some.inj hf
            exact vx_out (E := "java/lang/ArithmeticException") (fun x h => (hne x h).elim) hlocks hce hcv hcl (fun t ht ha => ⟨(ad36, gd37, vad38), ⟨hE, hN⟩, ⟨rfl, by rw [ht]; exact hP, va_K.moved ha hK, hD⟩, hS.F ht⟩) hS.2.2 (Nat.le_refl _) (Nat.le_refl _)
          rw [if_neg hk33] at hf
          exact nomatch hf
        · rw [if_pos hc] at hf
          refine lv_aload_n hx hb dM_binary1_85 rfl (lv_at hl 0 rfl) ?_
          refine xm_aload_n hx hb (xvor _ _) dM_binary1_86 rfl (lv_at hl 2 rfl) ?_
          refine xm_aload_n hx hb (xvor _ _) dM_binary1_87 rfl (lv_at hl 3 rfl) ?_
          obtain ⟨o31, hq32, hf⟩ := xbind hf
          have hl := lv_sub (l' := [(0, .ref aM), (1, .int x0)]) hl [0, 1] rfl
          by_cases hk33 : o31.1 = 0
          · rw [if_pos hk33] at hf
            obtain ⟨hm34, hf⟩ := xmoE hf
            have hFc := xm_free hD hS hA
            refine va_callq (va_runV (C := "ValueBenchModel") (As := [xv vad c1, xv vad c2]) (rest := []) ⟨hx, hb, hml, hown, htx⟩ (gM_without l hl9 D cT aK aV s.heap.size d n aM ad rd gd vad st c1 c2 o31 hq32 hk33) ⟨callB_of 2 htx (xw_goodC kw_6_211) rfl rfl rfl (htx _ kw_1_5) (htx _ kw_6_208) ⟨by decide, by decide, by decide +kernel⟩ ⟨(by show (16 * d + 8) + 1 ≤ 16 * d + 9; omega), (by show 8 + (7 + 11) + (400 * d + 147) ≤ 400 * d + 174; omega)⟩, (htx _ kw_6_210), (htx _ kp_M_without)⟩ ⟨xPre_blind, va_recv hK hP (ci := 5) rfl (q0 := 0) rfl, (fun U hU hW => ⟨rfl, xPre_of hZ hS hFc hP hD hK U hU hW⟩)⟩ rfl rfl hl.1 rfl (xm_room (Nat.le_of_ble_eq_true rfl)) dM_binary1_88 ⟨hm34.1, hm34.2⟩) hS (fun q _ h => hFc q h) hFc (fun r35 u9 t H1 locs ht hvm hr9 hB hz1 hk1 hS => ?_)
            obtain ⟨hP1, hK1, hD1⟩ := hB
            rw [ht] at hP1
            obtain ⟨ad36, gd37, vad38⟩ := u9
            obtain ⟨hr9, hv39, hn40⟩ := hr9
            have hP : va_P D xcl (xMw cT aM ad36 rd gd37 vad38 o31.2.2.2.2 []) H1 := hP1
            have hD : va_D A (xMw cT aM ad36 rd gd37 vad38 o31.2.2.2.2 []) := hD1.weaken (fun k q _ h => hFc q.1 h)
            generalize H1 = H at hP hS ⊢
            have hE9 : ∀ p, p < xct st → vad38 p = vad p := fun p h => (hv39 p (Nat.lt_of_lt_of_le h hN)).trans (hE p h)
            have hE := hE9
            have hN : xct st ≤ xct o31.2.2.2.2 := Nat.le_trans hN hn40
            rw [hr9]
            refine W.eq (g2 := F0 m 91 ls [xv vad38 o31.2.2.2.1]) (by first | rfl | (skip; rfl)) ?_
            refine lv_goto (tgt := 99) hx hb dM_binary1_91 (by decide) ?_
            obtain rfl := Option.some.inj hf
            exact absurd (show (0 : Nat) = 1 from hkd) (by decide)
          rw [if_neg hk33] at hf
          by_cases hk41 : o31.1 = 1
          · rw [if_pos hk41] at hf
            obtain ⟨hm42, hf⟩ := xmoE hf
            obtain rfl := Option.some.inj hf
            exact absurd (show (2 : Nat) = 1 from hkd) (by decide)
          rw [if_neg hk41] at hf
          exact nomatch hf
    · rw [if_pos hc] at hf
      refine xm_aload_n hx hb (xvor _ _) dM_binary1_47 rfl (lv_at hl 3 rfl) ?_
      obtain ⟨hg30, hf⟩ := xifn hf
      refine xm_vget (v := .int ((xpi st 0) (c2 - 1))) hx hb htx hown hK hP 0 (by decide) hg30 rfl ((hZ.1 (93, "kind", "I") (List.mem_of_getElem? (i := 0) rfl)).use rfl) rfl dM_binary1_48 ?_
      refine lv_iconst (v := 3) hx hb dM_binary1_51 (by decide) ?_
      refine lv_icmp_ne (tgt := 69) hx hb dM_binary1_52 (by decide) (fun hc => ?_) (fun hc => ?_)
      · rw [if_neg hc] at hf
        refine xm_aload_n hx hb (xvor _ _) dM_binary1_69 rfl (lv_at hl 2 rfl) ?_
        refine xm_vget (v := .int ((xpi st 0) (c1 - 1))) hx hb htx hown hK hP 0 (by decide) hg29 rfl ((hZ.1 (93, "kind", "I") (List.mem_of_getElem? (i := 0) rfl)).use rfl) rfl dM_binary1_70 ?_
        refine lv_iconst (v := 5) hx hb dM_binary1_73 (by decide) ?_
        refine lv_icmp_ne (tgt := 94) hx hb dM_binary1_74 (by decide) (fun hc => ?_) (fun hc => ?_)
        · rw [if_neg hc] at hf
          refine lv_aload_n hx hb dM_binary1_94 rfl (lv_at hl 0 rfl) ?_
          refine lv_iconst (v := 1) hx hb dM_binary1_95 (by decide) ?_
          obtain ⟨o31, hq32, hf⟩ := xbind hf
          have hl := lv_sub (l' := [(0, .ref aM), (1, .int x0)]) hl [0, 1] rfl
          by_cases hk33 : o31.1 = 1
          · rw [if_pos hk33] at hf
            obtain ⟨hm34, hf⟩ := xmoE hf
            have hFc := xm_free hD hS hA
            refine xx_thr (vx_runV (C := "ValueBenchModel") (As := [.int 1]) (rest := []) ⟨hx, hb, hml, hown, htx⟩ (gM_refuse_1 l hl9 D cT aK aV s.heap.size n aM ad rd gd vad st (1 : Int32) o31 hq32 hk33) ⟨callB_of 1 htx (xw_goodC kw_6_93) rfl rfl rfl (htx _ kw_1_5) (htx _ kw_6_90) ⟨by decide, by decide, by decide +kernel⟩ ⟨Nat.le_of_ble_eq_true rfl, Nat.le_of_ble_eq_true rfl⟩, (htx _ kw_6_92), (htx _ kp_M_refuse)⟩ ⟨xPre_blind, va_recv hK hP (ci := 5) rfl (q0 := 0) rfl, (fun U hU hW => ⟨rfl, xPre_of hZ hS hFc hP hD hK U hU hW⟩)⟩ rfl rfl hl.1 rfl (xm_room (Nat.le_of_ble_eq_true rfl)) dM_binary1_96 ⟨hm34.1, hm34.2⟩) hS hFc (fun q _ h => hFc q h) (fun E ce q9 u9 t H1 locs ht hvm hr9 hB hz1 hk1 hS hce hcv hcl => ?_)
            obtain ⟨rfl, hP1, hK1, hD1⟩ := hB
            rw [ht] at hP1
            obtain ⟨ad36, gd37, vad38⟩ := u9
            obtain ⟨hv39, hn40⟩ := hr9
            have hP : va_P D xcl (xMw cT aM ad36 rd gd37 vad38 o31.2.2.2.2 []) H1 := hP1
            have hD : va_D A (xMw cT aM ad36 rd gd37 vad38 o31.2.2.2.2 []) := hD1.weaken (fun k q _ h => hFc q.1 h)
            generalize H1 = H at hP hS hce ⊢
            have hE9 : ∀ p, p < xct st → vad38 p = vad p := fun p h => (hv39 p (Nat.lt_of_lt_of_le h hN)).trans (hE p h)
            have hE := hE9
            have hN : xct st ≤ xct o31.2.2.2.2 := Nat.le_trans hN hn40
            obtain rfl := Option.some.inj hf
            exact vx_out (E := "java/lang/ArithmeticException") (fun x h => (hne x h).elim) hlocks hce hcv hcl (fun t ht ha => ⟨(ad36, gd37, vad38), ⟨hE, hN⟩, ⟨rfl, by rw [ht]; exact hP, va_K.moved ha hK, hD⟩, hS.F ht⟩) hS.2.2 (Nat.le_refl _) (Nat.le_refl _)
          rw [if_neg hk33] at hf
          exact nomatch hf
        · rw [if_pos hc] at hf
          refine xm_aload_n hx hb (xvor _ _) dM_binary1_77 rfl (lv_at hl 3 rfl) ?_
          refine xm_vget (v := .int ((xpi st 0) (c2 - 1))) hx hb htx hown hK hP 0 (by decide) hg30 rfl ((hZ.1 (93, "kind", "I") (List.mem_of_getElem? (i := 0) rfl)).use rfl) rfl dM_binary1_78 ?_
          refine lv_iconst (v := 5) hx hb dM_binary1_81 (by decide) ?_
          refine lv_icmp_ne (tgt := 94) hx hb dM_binary1_82 (by decide) (fun hc => ?_) (fun hc => ?_)
          · rw [if_neg hc] at hf
            refine lv_aload_n hx hb dM_binary1_94 rfl (lv_at hl 0 rfl) ?_
            refine lv_iconst (v := 1) hx hb dM_binary1_95 (by decide) ?_
            obtain ⟨o31, hq32, hf⟩ := xbind hf
            have hl := lv_sub (l' := [(0, .ref aM), (1, .int x0)]) hl [0, 1] rfl
            by_cases hk33 : o31.1 = 1
            · rw [if_pos hk33] at hf
              obtain ⟨hm34, hf⟩ := xmoE hf
              have hFc := xm_free hD hS hA
              refine xx_thr (vx_runV (C := "ValueBenchModel") (As := [.int 1]) (rest := []) ⟨hx, hb, hml, hown, htx⟩ (gM_refuse_1 l hl9 D cT aK aV s.heap.size n aM ad rd gd vad st (1 : Int32) o31 hq32 hk33) ⟨callB_of 1 htx (xw_goodC kw_6_93) rfl rfl rfl (htx _ kw_1_5) (htx _ kw_6_90) ⟨by decide, by decide, by decide +kernel⟩ ⟨Nat.le_of_ble_eq_true rfl, Nat.le_of_ble_eq_true rfl⟩, (htx _ kw_6_92), (htx _ kp_M_refuse)⟩ ⟨xPre_blind, va_recv hK hP (ci := 5) rfl (q0 := 0) rfl, (fun U hU hW => ⟨rfl, xPre_of hZ hS hFc hP hD hK U hU hW⟩)⟩ rfl rfl hl.1 rfl (xm_room (Nat.le_of_ble_eq_true rfl)) dM_binary1_96 ⟨hm34.1, hm34.2⟩) hS hFc (fun q _ h => hFc q h) (fun E ce q9 u9 t H1 locs ht hvm hr9 hB hz1 hk1 hS hce hcv hcl => ?_)
              obtain ⟨rfl, hP1, hK1, hD1⟩ := hB
              rw [ht] at hP1
              obtain ⟨ad36, gd37, vad38⟩ := u9
              obtain ⟨hv39, hn40⟩ := hr9
              have hP : va_P D xcl (xMw cT aM ad36 rd gd37 vad38 o31.2.2.2.2 []) H1 := hP1
              have hD : va_D A (xMw cT aM ad36 rd gd37 vad38 o31.2.2.2.2 []) := hD1.weaken (fun k q _ h => hFc q.1 h)
              generalize H1 = H at hP hS hce ⊢
              have hE9 : ∀ p, p < xct st → vad38 p = vad p := fun p h => (hv39 p (Nat.lt_of_lt_of_le h hN)).trans (hE p h)
              have hE := hE9
              have hN : xct st ≤ xct o31.2.2.2.2 := Nat.le_trans hN hn40
              obtain rfl := Option.some.inj hf
              exact vx_out (E := "java/lang/ArithmeticException") (fun x h => (hne x h).elim) hlocks hce hcv hcl (fun t ht ha => ⟨(ad36, gd37, vad38), ⟨hE, hN⟩, ⟨rfl, by rw [ht]; exact hP, va_K.moved ha hK, hD⟩, hS.F ht⟩) hS.2.2 (Nat.le_refl _) (Nat.le_refl _)
            rw [if_neg hk33] at hf
            exact nomatch hf
          · rw [if_pos hc] at hf
            refine lv_aload_n hx hb dM_binary1_85 rfl (lv_at hl 0 rfl) ?_
            refine xm_aload_n hx hb (xvor _ _) dM_binary1_86 rfl (lv_at hl 2 rfl) ?_
            refine xm_aload_n hx hb (xvor _ _) dM_binary1_87 rfl (lv_at hl 3 rfl) ?_
            obtain ⟨o31, hq32, hf⟩ := xbind hf
            have hl := lv_sub (l' := [(0, .ref aM), (1, .int x0)]) hl [0, 1] rfl
            by_cases hk33 : o31.1 = 0
            · rw [if_pos hk33] at hf
              obtain ⟨hm34, hf⟩ := xmoE hf
              have hFc := xm_free hD hS hA
              refine va_callq (va_runV (C := "ValueBenchModel") (As := [xv vad c1, xv vad c2]) (rest := []) ⟨hx, hb, hml, hown, htx⟩ (gM_without l hl9 D cT aK aV s.heap.size d n aM ad rd gd vad st c1 c2 o31 hq32 hk33) ⟨callB_of 2 htx (xw_goodC kw_6_211) rfl rfl rfl (htx _ kw_1_5) (htx _ kw_6_208) ⟨by decide, by decide, by decide +kernel⟩ ⟨(by show (16 * d + 8) + 1 ≤ 16 * d + 9; omega), (by show 8 + (7 + 11) + (400 * d + 147) ≤ 400 * d + 174; omega)⟩, (htx _ kw_6_210), (htx _ kp_M_without)⟩ ⟨xPre_blind, va_recv hK hP (ci := 5) rfl (q0 := 0) rfl, (fun U hU hW => ⟨rfl, xPre_of hZ hS hFc hP hD hK U hU hW⟩)⟩ rfl rfl hl.1 rfl (xm_room (Nat.le_of_ble_eq_true rfl)) dM_binary1_88 ⟨hm34.1, hm34.2⟩) hS (fun q _ h => hFc q h) hFc (fun r35 u9 t H1 locs ht hvm hr9 hB hz1 hk1 hS => ?_)
              obtain ⟨hP1, hK1, hD1⟩ := hB
              rw [ht] at hP1
              obtain ⟨ad36, gd37, vad38⟩ := u9
              obtain ⟨hr9, hv39, hn40⟩ := hr9
              have hP : va_P D xcl (xMw cT aM ad36 rd gd37 vad38 o31.2.2.2.2 []) H1 := hP1
              have hD : va_D A (xMw cT aM ad36 rd gd37 vad38 o31.2.2.2.2 []) := hD1.weaken (fun k q _ h => hFc q.1 h)
              generalize H1 = H at hP hS ⊢
              have hE9 : ∀ p, p < xct st → vad38 p = vad p := fun p h => (hv39 p (Nat.lt_of_lt_of_le h hN)).trans (hE p h)
              have hE := hE9
              have hN : xct st ≤ xct o31.2.2.2.2 := Nat.le_trans hN hn40
              rw [hr9]
              refine W.eq (g2 := F0 m 91 ls [xv vad38 o31.2.2.2.1]) (by first | rfl | (skip; rfl)) ?_
              refine lv_goto (tgt := 99) hx hb dM_binary1_91 (by decide) ?_
              obtain rfl := Option.some.inj hf
              exact absurd (show (0 : Nat) = 1 from hkd) (by decide)
            rw [if_neg hk33] at hf
            by_cases hk41 : o31.1 = 1
            · rw [if_pos hk41] at hf
              obtain ⟨hm42, hf⟩ := xmoE hf
              obtain rfl := Option.some.inj hf
              exact absurd (show (2 : Nat) = 1 from hkd) (by decide)
            rw [if_neg hk41] at hf
            exact nomatch hf
      · rw [if_pos hc] at hf
        refine lv_aload_n hx hb dM_binary1_55 rfl (lv_at hl 0 rfl) ?_
        refine xm_aload_n hx hb (xvor _ _) dM_binary1_56 rfl (lv_at hl 2 rfl) ?_
        refine xm_vget (v := .long ((xpl st) (c1 - 1))) hx hb htx hown hK hP 1 (by decide) hg29 rfl ((hZ.1 (96, "n", "J") (List.mem_of_getElem? (i := 1) rfl)).use rfl) rfl dM_binary1_57 ?_
        refine xm_aload_n hx hb (xvor _ _) dM_binary1_60 rfl (lv_at hl 3 rfl) ?_
        refine xm_vget (v := .long ((xpl st) (c2 - 1))) hx hb htx hown hK hP 1 (by decide) hg30 rfl ((hZ.1 (96, "n", "J") (List.mem_of_getElem? (i := 1) rfl)).use rfl) rfl dM_binary1_61 ?_
        refine lv_lsub hx hb dM_binary1_64 ?_
        obtain ⟨o31, hq32, hf⟩ := xbind hf
        have hl := lv_sub (l' := [(0, .ref aM), (1, .int x0)]) hl [0, 1] rfl
        by_cases hk33 : o31.1 = 0
        · rw [if_pos hk33] at hf
          obtain ⟨hm34, hf⟩ := xmoE hf
          have hFc := xm_free hD hS hA
          refine va_callq (va_runV (C := "ValueBenchModel") (As := [.long (((xpl st) (c1 - 1)) - ((xpl st) (c2 - 1)))]) (rest := []) ⟨hx, hb, hml, hown, htx⟩ (gM_number l hl9 D cT aK aV s.heap.size n aM ad rd gd vad st (((xpl st) (c1 - 1)) - ((xpl st) (c2 - 1))) o31 hq32 hk33) ⟨callB_of 1 htx (xw_goodC kw_6_88) rfl rfl rfl (htx _ kw_1_5) (htx _ kw_6_85) ⟨by decide, by decide, by decide +kernel⟩ ⟨Nat.le_of_ble_eq_true rfl, Nat.le_of_ble_eq_true rfl⟩, (htx _ kw_6_87), (htx _ kp_M_number)⟩ ⟨xPre_blind, va_recv hK hP (ci := 5) rfl (q0 := 0) rfl, (fun U hU hW => ⟨rfl, xPre_of hZ hS hFc hP hD hK U hU hW⟩)⟩ rfl rfl hl.1 rfl (xm_room (Nat.le_of_ble_eq_true rfl)) dM_binary1_65 ⟨hm34.1, hm34.2⟩) hS (fun q _ h => hFc q h) hFc (fun r35 u9 t H1 locs ht hvm hr9 hB hz1 hk1 hS => ?_)
          obtain ⟨hP1, hK1, hD1⟩ := hB
          rw [ht] at hP1
          obtain ⟨ad36, gd37, vad38⟩ := u9
          obtain ⟨hr9, hv39, hn40⟩ := hr9
          have hP : va_P D xcl (xMw cT aM ad36 rd gd37 vad38 o31.2.2.2.2 []) H1 := hP1
          have hD : va_D A (xMw cT aM ad36 rd gd37 vad38 o31.2.2.2.2 []) := hD1.weaken (fun k q _ h => hFc q.1 h)
          generalize H1 = H at hP hS ⊢
          have hE9 : ∀ p, p < xct st → vad38 p = vad p := fun p h => (hv39 p (Nat.lt_of_lt_of_le h hN)).trans (hE p h)
          have hE := hE9
          have hN : xct st ≤ xct o31.2.2.2.2 := Nat.le_trans hN hn40
          rw [hr9]
          refine W.eq (g2 := F0 m 68 ls [xv vad38 o31.2.2.2.1]) (by first | rfl | (skip; rfl)) ?_
          obtain rfl := Option.some.inj hf
          exact absurd (show (0 : Nat) = 1 from hkd) (by decide)
        rw [if_neg hk33] at hf
        by_cases hk41 : o31.1 = 1
        · rw [if_pos hk41] at hf
          obtain ⟨hm42, hf⟩ := xmoE hf
          have hFc := xm_free hD hS hA
          refine xx_thr (vx_runV (C := "ValueBenchModel") (As := [.long (((xpl st) (c1 - 1)) - ((xpl st) (c2 - 1)))]) (rest := []) ⟨hx, hb, hml, hown, htx⟩ (gM_number_1 l hl9 D cT aK aV s.heap.size n aM ad rd gd vad st (((xpl st) (c1 - 1)) - ((xpl st) (c2 - 1))) o31 hq32 hk41) ⟨callB_of 1 htx (xw_goodC kw_6_88) rfl rfl rfl (htx _ kw_1_5) (htx _ kw_6_85) ⟨by decide, by decide, by decide +kernel⟩ ⟨Nat.le_of_ble_eq_true rfl, Nat.le_of_ble_eq_true rfl⟩, (htx _ kw_6_87), (htx _ kp_M_number)⟩ ⟨xPre_blind, va_recv hK hP (ci := 5) rfl (q0 := 0) rfl, (fun U hU hW => ⟨rfl, xPre_of hZ hS hFc hP hD hK U hU hW⟩)⟩ rfl rfl hl.1 rfl (xm_room (Nat.le_of_ble_eq_true rfl)) dM_binary1_65 ⟨hm42.1, hm42.2⟩) hS hFc (fun q _ h => hFc q h) (fun E ce q9 u9 t H1 locs ht hvm hr9 hB hz1 hk1 hS hce hcv hcl => ?_)
          obtain ⟨rfl, hP1, hK1, hD1⟩ := hB
          rw [ht] at hP1
          obtain ⟨ad44, gd45, vad46⟩ := u9
          obtain ⟨hv47, hn48⟩ := hr9
          have hP : va_P D xcl (xMw cT aM ad44 rd gd45 vad46 o31.2.2.2.2 []) H1 := hP1
          have hD : va_D A (xMw cT aM ad44 rd gd45 vad46 o31.2.2.2.2 []) := hD1.weaken (fun k q _ h => hFc q.1 h)
          generalize H1 = H at hP hS hce ⊢
          have hE9 : ∀ p, p < xct st → vad46 p = vad p := fun p h => (hv47 p (Nat.lt_of_lt_of_le h hN)).trans (hE p h)
          have hE := hE9
          have hN : xct st ≤ xct o31.2.2.2.2 := Nat.le_trans hN hn48
          obtain rfl := Option.some.inj hf
          exact vx_out (E := "java/lang/ArithmeticException") (fun x h => (hne x h).elim) hlocks hce hcv hcl (fun t ht ha => ⟨(ad44, gd45, vad46), ⟨hE, hN⟩, ⟨rfl, by rw [ht]; exact hP, va_K.moved ha hK, hD⟩, hS.F ht⟩) hS.2.2 (Nat.le_refl _) (Nat.le_refl _)
        rw [if_neg hk41] at hf
        exact nomatch hf
  rw [if_neg hc28] at hf
  by_cases hc30 : x0 = 2
  · rw [if_pos hc30] at hf
    refine lv_tableIn (off := 99) (tgt := 100) hx hb dM_binary1_1 (by rw [hc30]; decide) (by rw [hc30]; decide) (by rw [hc30]; decide) (by decide) ?_
    refine lv_aload_n hx hb dM_binary1_100 rfl (lv_at hl 0 rfl) ?_
    refine xm_aload_n hx hb (xvor _ _) dM_binary1_101 rfl (lv_at hl 2 rfl) ?_
    refine xm_aload_n hx hb (xvor _ _) dM_binary1_102 rfl (lv_at hl 3 rfl) ?_
    obtain ⟨o31, hq32, hf⟩ := xbind hf
    have hl := lv_sub (l' := [(0, .ref aM), (1, .int x0)]) hl [0, 1] rfl
    by_cases hk33 : o31.1 = 0
    · rw [if_pos hk33] at hf
      obtain ⟨hm34, hf⟩ := xmoE hf
      have hFc := xm_free hD hS hA
      refine va_callq (va_runV (C := "ValueBenchModel") (As := [xv vad c1, xv vad c2]) (rest := []) ⟨hx, hb, hml, hown, htx⟩ ((gM_times l hl9 D cT aK aV d s.heap.size n aM ad rd gd vad st c1 c2 o31 hq32).1 hk33) ⟨callB_of 2 htx (xw_goodC kw_6_215) rfl rfl rfl (htx _ kw_1_5) (htx _ kw_6_212) ⟨by decide, by decide, by decide +kernel⟩ ⟨(by show (16 * d) + 1 ≤ 16 * d + 9; omega), (by show 8 + (7 + 11) + (400 * d) ≤ 400 * d + 174; omega)⟩, (htx _ kw_6_214), (htx _ kp_M_times)⟩ ⟨xPre_blind, va_recv hK hP (ci := 5) rfl (q0 := 0) rfl, (fun U hU hW => ⟨rfl, xPre_of hZ hS hFc hP hD hK U hU hW⟩)⟩ rfl rfl hl.1 rfl (xm_room (Nat.le_of_ble_eq_true rfl)) dM_binary1_103 ⟨hm34.1, hm34.2⟩) hS (fun q _ h => hFc q h) hFc (fun r35 u9 t H1 locs ht hvm hr9 hB hz1 hk1 hS => ?_)
      obtain ⟨hP1, hK1, hD1⟩ := hB
      rw [ht] at hP1
      obtain ⟨ad36, gd37, vad38⟩ := u9
      obtain ⟨hr9, hv39, hn40⟩ := hr9
      have hP : va_P D xcl (xMw cT aM ad36 rd gd37 vad38 o31.2.2.2.2 []) H1 := hP1
      have hD : va_D A (xMw cT aM ad36 rd gd37 vad38 o31.2.2.2.2 []) := hD1.weaken (fun k q _ h => hFc q.1 h)
      generalize H1 = H at hP hS ⊢
      have hE9 : ∀ p, p < xct st → vad38 p = vad p := fun p h => (hv39 p (Nat.lt_of_lt_of_le h hN)).trans (hE p h)
      have hE := hE9
      have hN : xct st ≤ xct o31.2.2.2.2 := Nat.le_trans hN hn40
      rw [hr9]
      refine W.eq (g2 := F0 m 106 ls [xv vad38 o31.2.2.2.1]) (by first | rfl | (skip; rfl)) ?_
      obtain rfl := Option.some.inj hf
      exact absurd (show (0 : Nat) = 1 from hkd) (by decide)
    rw [if_neg hk33] at hf
    by_cases hk41 : o31.1 = 1
    · rw [if_pos hk41] at hf
      obtain ⟨hm42, hf⟩ := xmoE hf
      have hFc := xm_free hD hS hA
      refine xx_thr (vx_runV (C := "ValueBenchModel") (As := [xv vad c1, xv vad c2]) (rest := []) ⟨hx, hb, hml, hown, htx⟩ ((gM_times l hl9 D cT aK aV d s.heap.size n aM ad rd gd vad st c1 c2 o31 hq32).2.1 hk41) ⟨callB_of 2 htx (xw_goodC kw_6_215) rfl rfl rfl (htx _ kw_1_5) (htx _ kw_6_212) ⟨by decide, by decide, by decide +kernel⟩ ⟨(by show (16 * d) + 1 ≤ 16 * d + 9; omega), (by show 8 + (7 + 11) + (400 * d) ≤ 400 * d + 174; omega)⟩, (htx _ kw_6_214), (htx _ kp_M_times)⟩ ⟨xPre_blind, va_recv hK hP (ci := 5) rfl (q0 := 0) rfl, (fun U hU hW => ⟨rfl, xPre_of hZ hS hFc hP hD hK U hU hW⟩)⟩ rfl rfl hl.1 rfl (xm_room (Nat.le_of_ble_eq_true rfl)) dM_binary1_103 ⟨hm42.1, hm42.2⟩) hS hFc (fun q _ h => hFc q h) (fun E ce q9 u9 t H1 locs ht hvm hr9 hB hz1 hk1 hS hce hcv hcl => ?_)
      obtain ⟨rfl, hP1, hK1, hD1⟩ := hB
      rw [ht] at hP1
      obtain ⟨ad44, gd45, vad46⟩ := u9
      obtain ⟨hv47, hn48⟩ := hr9
      have hP : va_P D xcl (xMw cT aM ad44 rd gd45 vad46 o31.2.2.2.2 []) H1 := hP1
      have hD : va_D A (xMw cT aM ad44 rd gd45 vad46 o31.2.2.2.2 []) := hD1.weaken (fun k q _ h => hFc q.1 h)
      generalize H1 = H at hP hS hce ⊢
      have hE9 : ∀ p, p < xct st → vad46 p = vad p := fun p h => (hv47 p (Nat.lt_of_lt_of_le h hN)).trans (hE p h)
      have hE := hE9
      have hN : xct st ≤ xct o31.2.2.2.2 := Nat.le_trans hN hn48
      obtain rfl := Option.some.inj hf
      exact vx_out (E := "java/lang/ArithmeticException") (fun x h => (hne x h).elim) hlocks hce hcv hcl (fun t ht ha => ⟨(ad44, gd45, vad46), ⟨hE, hN⟩, ⟨rfl, by rw [ht]; exact hP, va_K.moved ha hK, hD⟩, hS.F ht⟩) hS.2.2 (Nat.le_refl _) (Nat.le_refl _)
    rw [if_neg hk41] at hf
    by_cases hk49 : o31.1 = 2
    · rw [if_pos hk49] at hf
      obtain ⟨hm50, hf⟩ := xmoE hf
      obtain rfl := Option.some.inj hf
      exact absurd (show (2 : Nat) = 1 from hkd) (by decide)
    rw [if_neg hk49] at hf
    exact nomatch hf
  rw [if_neg hc30] at hf
  by_cases hc57 : x0 = 3
  · rw [if_pos hc57] at hf
    refine lv_tableIn (off := 106) (tgt := 107) hx hb dM_binary1_1 (by rw [hc57]; decide) (by rw [hc57]; decide) (by rw [hc57]; decide) (by decide) ?_
    refine xm_aload_n hx hb (xvor _ _) dM_binary1_107 rfl (lv_at hl 2 rfl) ?_
    obtain ⟨hg58, hf⟩ := xifn hf
    refine xm_vget (v := .int ((xpi st 0) (c1 - 1))) hx hb htx hown hK hP 0 (by decide) hg58 rfl ((hZ.1 (93, "kind", "I") (List.mem_of_getElem? (i := 0) rfl)).use rfl) rfl dM_binary1_108 ?_
    refine lv_iconst (v := 4) hx hb dM_binary1_111 (by decide) ?_
    refine lv_icmp_ne (tgt := 130) hx hb dM_binary1_112 (by decide) (fun hc => ?_) (fun hc => ?_)
    · rw [if_neg hc] at hf
      refine xm_aload_n hx hb (xvor _ _) dM_binary1_130 rfl (lv_at hl 2 rfl) ?_
      refine xm_vget (v := .int ((xpi st 0) (c1 - 1))) hx hb htx hown hK hP 0 (by decide) hg58 rfl ((hZ.1 (93, "kind", "I") (List.mem_of_getElem? (i := 0) rfl)).use rfl) rfl dM_binary1_131 ?_
      refine lv_iconst (v := 3) hx hb dM_binary1_134 (by decide) ?_
      refine lv_icmp_ne (tgt := 146) hx hb dM_binary1_135 (by decide) (fun hc => ?_) (fun hc => ?_)
      · rw [if_neg hc] at hf
        refine lv_aload_n hx hb dM_binary1_146 rfl (lv_at hl 0 rfl) ?_
        refine lv_iconst (v := 1) hx hb dM_binary1_147 (by decide) ?_
        obtain ⟨o59, hq60, hf⟩ := xbind hf
        have hl := lv_sub (l' := [(0, .ref aM), (1, .int x0)]) hl [0, 1] rfl
        by_cases hk61 : o59.1 = 1
        · rw [if_pos hk61] at hf
          obtain ⟨hm62, hf⟩ := xmoE hf
          have hFc := xm_free hD hS hA
          refine xx_thr (vx_runV (C := "ValueBenchModel") (As := [.int 1]) (rest := []) ⟨hx, hb, hml, hown, htx⟩ (gM_refuse_1 l hl9 D cT aK aV s.heap.size n aM ad rd gd vad st (1 : Int32) o59 hq60 hk61) ⟨callB_of 1 htx (xw_goodC kw_6_93) rfl rfl rfl (htx _ kw_1_5) (htx _ kw_6_90) ⟨by decide, by decide, by decide +kernel⟩ ⟨Nat.le_of_ble_eq_true rfl, Nat.le_of_ble_eq_true rfl⟩, (htx _ kw_6_92), (htx _ kp_M_refuse)⟩ ⟨xPre_blind, va_recv hK hP (ci := 5) rfl (q0 := 0) rfl, (fun U hU hW => ⟨rfl, xPre_of hZ hS hFc hP hD hK U hU hW⟩)⟩ rfl rfl hl.1 rfl (xm_room (Nat.le_of_ble_eq_true rfl)) dM_binary1_148 ⟨hm62.1, hm62.2⟩) hS hFc (fun q _ h => hFc q h) (fun E ce q9 u9 t H1 locs ht hvm hr9 hB hz1 hk1 hS hce hcv hcl => ?_)
          obtain ⟨rfl, hP1, hK1, hD1⟩ := hB
          rw [ht] at hP1
          obtain ⟨ad64, gd65, vad66⟩ := u9
          obtain ⟨hv67, hn68⟩ := hr9
          have hP : va_P D xcl (xMw cT aM ad64 rd gd65 vad66 o59.2.2.2.2 []) H1 := hP1
          have hD : va_D A (xMw cT aM ad64 rd gd65 vad66 o59.2.2.2.2 []) := hD1.weaken (fun k q _ h => hFc q.1 h)
          generalize H1 = H at hP hS hce ⊢
          have hE9 : ∀ p, p < xct st → vad66 p = vad p := fun p h => (hv67 p (Nat.lt_of_lt_of_le h hN)).trans (hE p h)
          have hE := hE9
          have hN : xct st ≤ xct o59.2.2.2.2 := Nat.le_trans hN hn68
          obtain rfl := Option.some.inj hf
          exact vx_out (E := "java/lang/ArithmeticException") (fun x h => (hne x h).elim) hlocks hce hcv hcl (fun t ht ha => ⟨(ad64, gd65, vad66), ⟨hE, hN⟩, ⟨rfl, by rw [ht]; exact hP, va_K.moved ha hK, hD⟩, hS.F ht⟩) hS.2.2 (Nat.le_refl _) (Nat.le_refl _)
        rw [if_neg hk61] at hf
        exact nomatch hf
      · rw [if_pos hc] at hf
        refine xm_aload_n hx hb (xvor _ _) dM_binary1_138 rfl (lv_at hl 3 rfl) ?_
        obtain ⟨hg59, hf⟩ := xifn hf
        refine xm_vget (v := .int ((xpi st 0) (c2 - 1))) hx hb htx hown hK hP 0 (by decide) hg59 rfl ((hZ.1 (93, "kind", "I") (List.mem_of_getElem? (i := 0) rfl)).use rfl) rfl dM_binary1_139 ?_
        refine lv_iconst (v := 3) hx hb dM_binary1_142 (by decide) ?_
        refine lv_icmp_eq (tgt := 152) hx hb dM_binary1_143 (by decide) (fun hc => ?_) (fun hc => ?_)
        · rw [if_pos hc] at hf
          refine xm_aload_n hx hb (xvor _ _) dM_binary1_152 rfl (lv_at hl 3 rfl) ?_
          refine xm_vget (v := .long ((xpl st) (c2 - 1))) hx hb htx hown hK hP 1 (by decide) hg59 rfl ((hZ.1 (96, "n", "J") (List.mem_of_getElem? (i := 1) rfl)).use rfl) rfl dM_binary1_153 ?_
          refine lv_lconst (v := 0) hx hb dM_binary1_156 (by decide) ?_
          refine W.lcmp hx hb dM_binary1_157 ?_
          refine lv_if_ne (tgt := 169) hx hb dM_binary1_158 (by decide) (fun hc => ?_) (fun hc => ?_)
          · rw [if_neg hc] at hf
            refine lv_aload_n hx hb dM_binary1_169 rfl (lv_at hl 0 rfl) ?_
            refine xm_aload_n hx hb (xvor _ _) dM_binary1_170 rfl (lv_at hl 2 rfl) ?_
            refine xm_vget (v := .long ((xpl st) (c1 - 1))) hx hb htx hown hK hP 1 (by decide) hg58 rfl ((hZ.1 (96, "n", "J") (List.mem_of_getElem? (i := 1) rfl)).use rfl) rfl dM_binary1_171 ?_
            refine xm_aload_n hx hb (xvor _ _) dM_binary1_174 rfl (lv_at hl 3 rfl) ?_
            refine xm_vget (v := .long ((xpl st) (c2 - 1))) hx hb htx hown hK hP 1 (by decide) hg59 rfl ((hZ.1 (96, "n", "J") (List.mem_of_getElem? (i := 1) rfl)).use rfl) rfl dM_binary1_175 ?_
            obtain ⟨hg60, hf⟩ := xifn hf
            refine lv_ldiv hx hb dM_binary1_178 hg60 ?_
            obtain ⟨o61, hq62, hf⟩ := xbind hf
            have hl := lv_sub (l' := [(0, .ref aM), (1, .int x0)]) hl [0, 1] rfl
            by_cases hk63 : o61.1 = 0
            · rw [if_pos hk63] at hf
              obtain ⟨hm64, hf⟩ := xmoE hf
              have hFc := xm_free hD hS hA
              refine va_callq (va_runV (C := "ValueBenchModel") (As := [.long (((xpl st) (c1 - 1)) / ((xpl st) (c2 - 1)))]) (rest := []) ⟨hx, hb, hml, hown, htx⟩ (gM_number l hl9 D cT aK aV s.heap.size n aM ad rd gd vad st (((xpl st) (c1 - 1)) / ((xpl st) (c2 - 1))) o61 hq62 hk63) ⟨callB_of 1 htx (xw_goodC kw_6_88) rfl rfl rfl (htx _ kw_1_5) (htx _ kw_6_85) ⟨by decide, by decide, by decide +kernel⟩ ⟨Nat.le_of_ble_eq_true rfl, Nat.le_of_ble_eq_true rfl⟩, (htx _ kw_6_87), (htx _ kp_M_number)⟩ ⟨xPre_blind, va_recv hK hP (ci := 5) rfl (q0 := 0) rfl, (fun U hU hW => ⟨rfl, xPre_of hZ hS hFc hP hD hK U hU hW⟩)⟩ rfl rfl hl.1 rfl (xm_room (Nat.le_of_ble_eq_true rfl)) dM_binary1_179 ⟨hm64.1, hm64.2⟩) hS (fun q _ h => hFc q h) hFc (fun r65 u9 t H1 locs ht hvm hr9 hB hz1 hk1 hS => ?_)
              obtain ⟨hP1, hK1, hD1⟩ := hB
              rw [ht] at hP1
              obtain ⟨ad66, gd67, vad68⟩ := u9
              obtain ⟨hr9, hv69, hn70⟩ := hr9
              have hP : va_P D xcl (xMw cT aM ad66 rd gd67 vad68 o61.2.2.2.2 []) H1 := hP1
              have hD : va_D A (xMw cT aM ad66 rd gd67 vad68 o61.2.2.2.2 []) := hD1.weaken (fun k q _ h => hFc q.1 h)
              generalize H1 = H at hP hS ⊢
              have hE9 : ∀ p, p < xct st → vad68 p = vad p := fun p h => (hv69 p (Nat.lt_of_lt_of_le h hN)).trans (hE p h)
              have hE := hE9
              have hN : xct st ≤ xct o61.2.2.2.2 := Nat.le_trans hN hn70
              rw [hr9]
              refine W.eq (g2 := F0 m 182 ls [xv vad68 o61.2.2.2.1]) (by first | rfl | (skip; rfl)) ?_
              obtain rfl := Option.some.inj hf
              exact absurd (show (0 : Nat) = 1 from hkd) (by decide)
            rw [if_neg hk63] at hf
            by_cases hk71 : o61.1 = 1
            · rw [if_pos hk71] at hf
              obtain ⟨hm72, hf⟩ := xmoE hf
              have hFc := xm_free hD hS hA
              refine xx_thr (vx_runV (C := "ValueBenchModel") (As := [.long (((xpl st) (c1 - 1)) / ((xpl st) (c2 - 1)))]) (rest := []) ⟨hx, hb, hml, hown, htx⟩ (gM_number_1 l hl9 D cT aK aV s.heap.size n aM ad rd gd vad st (((xpl st) (c1 - 1)) / ((xpl st) (c2 - 1))) o61 hq62 hk71) ⟨callB_of 1 htx (xw_goodC kw_6_88) rfl rfl rfl (htx _ kw_1_5) (htx _ kw_6_85) ⟨by decide, by decide, by decide +kernel⟩ ⟨Nat.le_of_ble_eq_true rfl, Nat.le_of_ble_eq_true rfl⟩, (htx _ kw_6_87), (htx _ kp_M_number)⟩ ⟨xPre_blind, va_recv hK hP (ci := 5) rfl (q0 := 0) rfl, (fun U hU hW => ⟨rfl, xPre_of hZ hS hFc hP hD hK U hU hW⟩)⟩ rfl rfl hl.1 rfl (xm_room (Nat.le_of_ble_eq_true rfl)) dM_binary1_179 ⟨hm72.1, hm72.2⟩) hS hFc (fun q _ h => hFc q h) (fun E ce q9 u9 t H1 locs ht hvm hr9 hB hz1 hk1 hS hce hcv hcl => ?_)
              obtain ⟨rfl, hP1, hK1, hD1⟩ := hB
              rw [ht] at hP1
              obtain ⟨ad74, gd75, vad76⟩ := u9
              obtain ⟨hv77, hn78⟩ := hr9
              have hP : va_P D xcl (xMw cT aM ad74 rd gd75 vad76 o61.2.2.2.2 []) H1 := hP1
              have hD : va_D A (xMw cT aM ad74 rd gd75 vad76 o61.2.2.2.2 []) := hD1.weaken (fun k q _ h => hFc q.1 h)
              generalize H1 = H at hP hS hce ⊢
              have hE9 : ∀ p, p < xct st → vad76 p = vad p := fun p h => (hv77 p (Nat.lt_of_lt_of_le h hN)).trans (hE p h)
              have hE := hE9
              have hN : xct st ≤ xct o61.2.2.2.2 := Nat.le_trans hN hn78
              obtain rfl := Option.some.inj hf
              exact vx_out (E := "java/lang/ArithmeticException") (fun x h => (hne x h).elim) hlocks hce hcv hcl (fun t ht ha => ⟨(ad74, gd75, vad76), ⟨hE, hN⟩, ⟨rfl, by rw [ht]; exact hP, va_K.moved ha hK, hD⟩, hS.F ht⟩) hS.2.2 (Nat.le_refl _) (Nat.le_refl _)
            rw [if_neg hk71] at hf
            exact nomatch hf
          · rw [if_pos hc] at hf
            refine lv_aload_n hx hb dM_binary1_161 rfl (lv_at hl 0 rfl) ?_
            refine lv_iconst (v := 3) hx hb dM_binary1_162 (by decide) ?_
            obtain ⟨o60, hq61, hf⟩ := xbind hf
            have hl := lv_sub (l' := [(0, .ref aM), (1, .int x0)]) hl [0, 1] rfl
            by_cases hk62 : o60.1 = 1
            · rw [if_pos hk62] at hf
              obtain ⟨hm63, hf⟩ := xmoE hf
              have hFc := xm_free hD hS hA
              refine xx_thr (vx_runV (C := "ValueBenchModel") (As := [.int 3]) (rest := []) ⟨hx, hb, hml, hown, htx⟩ (gM_refuse_1 l hl9 D cT aK aV s.heap.size n aM ad rd gd vad st (3 : Int32) o60 hq61 hk62) ⟨callB_of 1 htx (xw_goodC kw_6_93) rfl rfl rfl (htx _ kw_1_5) (htx _ kw_6_90) ⟨by decide, by decide, by decide +kernel⟩ ⟨Nat.le_of_ble_eq_true rfl, Nat.le_of_ble_eq_true rfl⟩, (htx _ kw_6_92), (htx _ kp_M_refuse)⟩ ⟨xPre_blind, va_recv hK hP (ci := 5) rfl (q0 := 0) rfl, (fun U hU hW => ⟨rfl, xPre_of hZ hS hFc hP hD hK U hU hW⟩)⟩ rfl rfl hl.1 rfl (xm_room (Nat.le_of_ble_eq_true rfl)) dM_binary1_163 ⟨hm63.1, hm63.2⟩) hS hFc (fun q _ h => hFc q h) (fun E ce q9 u9 t H1 locs ht hvm hr9 hB hz1 hk1 hS hce hcv hcl => ?_)
              obtain ⟨rfl, hP1, hK1, hD1⟩ := hB
              rw [ht] at hP1
              obtain ⟨ad65, gd66, vad67⟩ := u9
              obtain ⟨hv68, hn69⟩ := hr9
              have hP : va_P D xcl (xMw cT aM ad65 rd gd66 vad67 o60.2.2.2.2 []) H1 := hP1
              have hD : va_D A (xMw cT aM ad65 rd gd66 vad67 o60.2.2.2.2 []) := hD1.weaken (fun k q _ h => hFc q.1 h)
              generalize H1 = H at hP hS hce ⊢
              have hE9 : ∀ p, p < xct st → vad67 p = vad p := fun p h => (hv68 p (Nat.lt_of_lt_of_le h hN)).trans (hE p h)
              have hE := hE9
              have hN : xct st ≤ xct o60.2.2.2.2 := Nat.le_trans hN hn69
              obtain rfl := Option.some.inj hf
              exact vx_out (E := "java/lang/ArithmeticException") (fun x h => (hne x h).elim) hlocks hce hcv hcl (fun t ht ha => ⟨(ad65, gd66, vad67), ⟨hE, hN⟩, ⟨rfl, by rw [ht]; exact hP, va_K.moved ha hK, hD⟩, hS.F ht⟩) hS.2.2 (Nat.le_refl _) (Nat.le_refl _)
            rw [if_neg hk62] at hf
            exact nomatch hf
        · rw [if_neg hc] at hf
          refine lv_aload_n hx hb dM_binary1_146 rfl (lv_at hl 0 rfl) ?_
          refine lv_iconst (v := 1) hx hb dM_binary1_147 (by decide) ?_
          obtain ⟨o60, hq61, hf⟩ := xbind hf
          have hl := lv_sub (l' := [(0, .ref aM), (1, .int x0)]) hl [0, 1] rfl
          by_cases hk62 : o60.1 = 1
          · rw [if_pos hk62] at hf
            obtain ⟨hm63, hf⟩ := xmoE hf
            have hFc := xm_free hD hS hA
            refine xx_thr (vx_runV (C := "ValueBenchModel") (As := [.int 1]) (rest := []) ⟨hx, hb, hml, hown, htx⟩ (gM_refuse_1 l hl9 D cT aK aV s.heap.size n aM ad rd gd vad st (1 : Int32) o60 hq61 hk62) ⟨callB_of 1 htx (xw_goodC kw_6_93) rfl rfl rfl (htx _ kw_1_5) (htx _ kw_6_90) ⟨by decide, by decide, by decide +kernel⟩ ⟨Nat.le_of_ble_eq_true rfl, Nat.le_of_ble_eq_true rfl⟩, (htx _ kw_6_92), (htx _ kp_M_refuse)⟩ ⟨xPre_blind, va_recv hK hP (ci := 5) rfl (q0 := 0) rfl, (fun U hU hW => ⟨rfl, xPre_of hZ hS hFc hP hD hK U hU hW⟩)⟩ rfl rfl hl.1 rfl (xm_room (Nat.le_of_ble_eq_true rfl)) dM_binary1_148 ⟨hm63.1, hm63.2⟩) hS hFc (fun q _ h => hFc q h) (fun E ce q9 u9 t H1 locs ht hvm hr9 hB hz1 hk1 hS hce hcv hcl => ?_)
            obtain ⟨rfl, hP1, hK1, hD1⟩ := hB
            rw [ht] at hP1
            obtain ⟨ad65, gd66, vad67⟩ := u9
            obtain ⟨hv68, hn69⟩ := hr9
            have hP : va_P D xcl (xMw cT aM ad65 rd gd66 vad67 o60.2.2.2.2 []) H1 := hP1
            have hD : va_D A (xMw cT aM ad65 rd gd66 vad67 o60.2.2.2.2 []) := hD1.weaken (fun k q _ h => hFc q.1 h)
            generalize H1 = H at hP hS hce ⊢
            have hE9 : ∀ p, p < xct st → vad67 p = vad p := fun p h => (hv68 p (Nat.lt_of_lt_of_le h hN)).trans (hE p h)
            have hE := hE9
            have hN : xct st ≤ xct o60.2.2.2.2 := Nat.le_trans hN hn69
            obtain rfl := Option.some.inj hf
            exact vx_out (E := "java/lang/ArithmeticException") (fun x h => (hne x h).elim) hlocks hce hcv hcl (fun t ht ha => ⟨(ad65, gd66, vad67), ⟨hE, hN⟩, ⟨rfl, by rw [ht]; exact hP, va_K.moved ha hK, hD⟩, hS.F ht⟩) hS.2.2 (Nat.le_refl _) (Nat.le_refl _)
          rw [if_neg hk62] at hf
          exact nomatch hf
    · rw [if_pos hc] at hf
      refine xm_aload_n hx hb (xvor _ _) dM_binary1_115 rfl (lv_at hl 3 rfl) ?_
      obtain ⟨hg59, hf⟩ := xifn hf
      refine xm_vget (v := .int ((xpi st 0) (c2 - 1))) hx hb htx hown hK hP 0 (by decide) hg59 rfl ((hZ.1 (93, "kind", "I") (List.mem_of_getElem? (i := 0) rfl)).use rfl) rfl dM_binary1_116 ?_
      refine lv_iconst (v := 4) hx hb dM_binary1_119 (by decide) ?_
      refine lv_icmp_ne (tgt := 130) hx hb dM_binary1_120 (by decide) (fun hc => ?_) (fun hc => ?_)
      · rw [if_neg hc] at hf
        refine xm_aload_n hx hb (xvor _ _) dM_binary1_130 rfl (lv_at hl 2 rfl) ?_
        refine xm_vget (v := .int ((xpi st 0) (c1 - 1))) hx hb htx hown hK hP 0 (by decide) hg58 rfl ((hZ.1 (93, "kind", "I") (List.mem_of_getElem? (i := 0) rfl)).use rfl) rfl dM_binary1_131 ?_
        refine lv_iconst (v := 3) hx hb dM_binary1_134 (by decide) ?_
        refine lv_icmp_ne (tgt := 146) hx hb dM_binary1_135 (by decide) (fun hc => ?_) (fun hc => ?_)
        · rw [if_neg hc] at hf
          refine lv_aload_n hx hb dM_binary1_146 rfl (lv_at hl 0 rfl) ?_
          refine lv_iconst (v := 1) hx hb dM_binary1_147 (by decide) ?_
          obtain ⟨o60, hq61, hf⟩ := xbind hf
          have hl := lv_sub (l' := [(0, .ref aM), (1, .int x0)]) hl [0, 1] rfl
          by_cases hk62 : o60.1 = 1
          · rw [if_pos hk62] at hf
            obtain ⟨hm63, hf⟩ := xmoE hf
            have hFc := xm_free hD hS hA
            refine xx_thr (vx_runV (C := "ValueBenchModel") (As := [.int 1]) (rest := []) ⟨hx, hb, hml, hown, htx⟩ (gM_refuse_1 l hl9 D cT aK aV s.heap.size n aM ad rd gd vad st (1 : Int32) o60 hq61 hk62) ⟨callB_of 1 htx (xw_goodC kw_6_93) rfl rfl rfl (htx _ kw_1_5) (htx _ kw_6_90) ⟨by decide, by decide, by decide +kernel⟩ ⟨Nat.le_of_ble_eq_true rfl, Nat.le_of_ble_eq_true rfl⟩, (htx _ kw_6_92), (htx _ kp_M_refuse)⟩ ⟨xPre_blind, va_recv hK hP (ci := 5) rfl (q0 := 0) rfl, (fun U hU hW => ⟨rfl, xPre_of hZ hS hFc hP hD hK U hU hW⟩)⟩ rfl rfl hl.1 rfl (xm_room (Nat.le_of_ble_eq_true rfl)) dM_binary1_148 ⟨hm63.1, hm63.2⟩) hS hFc (fun q _ h => hFc q h) (fun E ce q9 u9 t H1 locs ht hvm hr9 hB hz1 hk1 hS hce hcv hcl => ?_)
            obtain ⟨rfl, hP1, hK1, hD1⟩ := hB
            rw [ht] at hP1
            obtain ⟨ad65, gd66, vad67⟩ := u9
            obtain ⟨hv68, hn69⟩ := hr9
            have hP : va_P D xcl (xMw cT aM ad65 rd gd66 vad67 o60.2.2.2.2 []) H1 := hP1
            have hD : va_D A (xMw cT aM ad65 rd gd66 vad67 o60.2.2.2.2 []) := hD1.weaken (fun k q _ h => hFc q.1 h)
            generalize H1 = H at hP hS hce ⊢
            have hE9 : ∀ p, p < xct st → vad67 p = vad p := fun p h => (hv68 p (Nat.lt_of_lt_of_le h hN)).trans (hE p h)
            have hE := hE9
            have hN : xct st ≤ xct o60.2.2.2.2 := Nat.le_trans hN hn69
            obtain rfl := Option.some.inj hf
            exact vx_out (E := "java/lang/ArithmeticException") (fun x h => (hne x h).elim) hlocks hce hcv hcl (fun t ht ha => ⟨(ad65, gd66, vad67), ⟨hE, hN⟩, ⟨rfl, by rw [ht]; exact hP, va_K.moved ha hK, hD⟩, hS.F ht⟩) hS.2.2 (Nat.le_refl _) (Nat.le_refl _)
          rw [if_neg hk62] at hf
          exact nomatch hf
        · rw [if_pos hc] at hf
          refine xm_aload_n hx hb (xvor _ _) dM_binary1_138 rfl (lv_at hl 3 rfl) ?_
          refine xm_vget (v := .int ((xpi st 0) (c2 - 1))) hx hb htx hown hK hP 0 (by decide) hg59 rfl ((hZ.1 (93, "kind", "I") (List.mem_of_getElem? (i := 0) rfl)).use rfl) rfl dM_binary1_139 ?_
          refine lv_iconst (v := 3) hx hb dM_binary1_142 (by decide) ?_
          refine lv_icmp_eq (tgt := 152) hx hb dM_binary1_143 (by decide) (fun hc => ?_) (fun hc => ?_)
          · rw [if_pos hc] at hf
            refine xm_aload_n hx hb (xvor _ _) dM_binary1_152 rfl (lv_at hl 3 rfl) ?_
            refine xm_vget (v := .long ((xpl st) (c2 - 1))) hx hb htx hown hK hP 1 (by decide) hg59 rfl ((hZ.1 (96, "n", "J") (List.mem_of_getElem? (i := 1) rfl)).use rfl) rfl dM_binary1_153 ?_
            refine lv_lconst (v := 0) hx hb dM_binary1_156 (by decide) ?_
            refine W.lcmp hx hb dM_binary1_157 ?_
            refine lv_if_ne (tgt := 169) hx hb dM_binary1_158 (by decide) (fun hc => ?_) (fun hc => ?_)
            · rw [if_neg hc] at hf
              refine lv_aload_n hx hb dM_binary1_169 rfl (lv_at hl 0 rfl) ?_
              refine xm_aload_n hx hb (xvor _ _) dM_binary1_170 rfl (lv_at hl 2 rfl) ?_
              refine xm_vget (v := .long ((xpl st) (c1 - 1))) hx hb htx hown hK hP 1 (by decide) hg58 rfl ((hZ.1 (96, "n", "J") (List.mem_of_getElem? (i := 1) rfl)).use rfl) rfl dM_binary1_171 ?_
              refine xm_aload_n hx hb (xvor _ _) dM_binary1_174 rfl (lv_at hl 3 rfl) ?_
              refine xm_vget (v := .long ((xpl st) (c2 - 1))) hx hb htx hown hK hP 1 (by decide) hg59 rfl ((hZ.1 (96, "n", "J") (List.mem_of_getElem? (i := 1) rfl)).use rfl) rfl dM_binary1_175 ?_
              obtain ⟨hg60, hf⟩ := xifn hf
              refine lv_ldiv hx hb dM_binary1_178 hg60 ?_
              obtain ⟨o61, hq62, hf⟩ := xbind hf
              have hl := lv_sub (l' := [(0, .ref aM), (1, .int x0)]) hl [0, 1] rfl
              by_cases hk63 : o61.1 = 0
              · rw [if_pos hk63] at hf
                obtain ⟨hm64, hf⟩ := xmoE hf
                have hFc := xm_free hD hS hA
                refine va_callq (va_runV (C := "ValueBenchModel") (As := [.long (((xpl st) (c1 - 1)) / ((xpl st) (c2 - 1)))]) (rest := []) ⟨hx, hb, hml, hown, htx⟩ (gM_number l hl9 D cT aK aV s.heap.size n aM ad rd gd vad st (((xpl st) (c1 - 1)) / ((xpl st) (c2 - 1))) o61 hq62 hk63) ⟨callB_of 1 htx (xw_goodC kw_6_88) rfl rfl rfl (htx _ kw_1_5) (htx _ kw_6_85) ⟨by decide, by decide, by decide +kernel⟩ ⟨Nat.le_of_ble_eq_true rfl, Nat.le_of_ble_eq_true rfl⟩, (htx _ kw_6_87), (htx _ kp_M_number)⟩ ⟨xPre_blind, va_recv hK hP (ci := 5) rfl (q0 := 0) rfl, (fun U hU hW => ⟨rfl, xPre_of hZ hS hFc hP hD hK U hU hW⟩)⟩ rfl rfl hl.1 rfl (xm_room (Nat.le_of_ble_eq_true rfl)) dM_binary1_179 ⟨hm64.1, hm64.2⟩) hS (fun q _ h => hFc q h) hFc (fun r65 u9 t H1 locs ht hvm hr9 hB hz1 hk1 hS => ?_)
                obtain ⟨hP1, hK1, hD1⟩ := hB
                rw [ht] at hP1
                obtain ⟨ad66, gd67, vad68⟩ := u9
                obtain ⟨hr9, hv69, hn70⟩ := hr9
                have hP : va_P D xcl (xMw cT aM ad66 rd gd67 vad68 o61.2.2.2.2 []) H1 := hP1
                have hD : va_D A (xMw cT aM ad66 rd gd67 vad68 o61.2.2.2.2 []) := hD1.weaken (fun k q _ h => hFc q.1 h)
                generalize H1 = H at hP hS ⊢
                have hE9 : ∀ p, p < xct st → vad68 p = vad p := fun p h => (hv69 p (Nat.lt_of_lt_of_le h hN)).trans (hE p h)
                have hE := hE9
                have hN : xct st ≤ xct o61.2.2.2.2 := Nat.le_trans hN hn70
                rw [hr9]
                refine W.eq (g2 := F0 m 182 ls [xv vad68 o61.2.2.2.1]) (by first | rfl | (skip; rfl)) ?_
                obtain rfl := Option.some.inj hf
                exact absurd (show (0 : Nat) = 1 from hkd) (by decide)
              rw [if_neg hk63] at hf
              by_cases hk71 : o61.1 = 1
              · rw [if_pos hk71] at hf
                obtain ⟨hm72, hf⟩ := xmoE hf
                have hFc := xm_free hD hS hA
                refine xx_thr (vx_runV (C := "ValueBenchModel") (As := [.long (((xpl st) (c1 - 1)) / ((xpl st) (c2 - 1)))]) (rest := []) ⟨hx, hb, hml, hown, htx⟩ (gM_number_1 l hl9 D cT aK aV s.heap.size n aM ad rd gd vad st (((xpl st) (c1 - 1)) / ((xpl st) (c2 - 1))) o61 hq62 hk71) ⟨callB_of 1 htx (xw_goodC kw_6_88) rfl rfl rfl (htx _ kw_1_5) (htx _ kw_6_85) ⟨by decide, by decide, by decide +kernel⟩ ⟨Nat.le_of_ble_eq_true rfl, Nat.le_of_ble_eq_true rfl⟩, (htx _ kw_6_87), (htx _ kp_M_number)⟩ ⟨xPre_blind, va_recv hK hP (ci := 5) rfl (q0 := 0) rfl, (fun U hU hW => ⟨rfl, xPre_of hZ hS hFc hP hD hK U hU hW⟩)⟩ rfl rfl hl.1 rfl (xm_room (Nat.le_of_ble_eq_true rfl)) dM_binary1_179 ⟨hm72.1, hm72.2⟩) hS hFc (fun q _ h => hFc q h) (fun E ce q9 u9 t H1 locs ht hvm hr9 hB hz1 hk1 hS hce hcv hcl => ?_)
                obtain ⟨rfl, hP1, hK1, hD1⟩ := hB
                rw [ht] at hP1
                obtain ⟨ad74, gd75, vad76⟩ := u9
                obtain ⟨hv77, hn78⟩ := hr9
                have hP : va_P D xcl (xMw cT aM ad74 rd gd75 vad76 o61.2.2.2.2 []) H1 := hP1
                have hD : va_D A (xMw cT aM ad74 rd gd75 vad76 o61.2.2.2.2 []) := hD1.weaken (fun k q _ h => hFc q.1 h)
                generalize H1 = H at hP hS hce ⊢
                have hE9 : ∀ p, p < xct st → vad76 p = vad p := fun p h => (hv77 p (Nat.lt_of_lt_of_le h hN)).trans (hE p h)
                have hE := hE9
                have hN : xct st ≤ xct o61.2.2.2.2 := Nat.le_trans hN hn78
                obtain rfl := Option.some.inj hf
                exact vx_out (E := "java/lang/ArithmeticException") (fun x h => (hne x h).elim) hlocks hce hcv hcl (fun t ht ha => ⟨(ad74, gd75, vad76), ⟨hE, hN⟩, ⟨rfl, by rw [ht]; exact hP, va_K.moved ha hK, hD⟩, hS.F ht⟩) hS.2.2 (Nat.le_refl _) (Nat.le_refl _)
              rw [if_neg hk71] at hf
              exact nomatch hf
            · rw [if_pos hc] at hf
              refine lv_aload_n hx hb dM_binary1_161 rfl (lv_at hl 0 rfl) ?_
              refine lv_iconst (v := 3) hx hb dM_binary1_162 (by decide) ?_
              obtain ⟨o60, hq61, hf⟩ := xbind hf
              have hl := lv_sub (l' := [(0, .ref aM), (1, .int x0)]) hl [0, 1] rfl
              by_cases hk62 : o60.1 = 1
              · rw [if_pos hk62] at hf
                obtain ⟨hm63, hf⟩ := xmoE hf
                have hFc := xm_free hD hS hA
                refine xx_thr (vx_runV (C := "ValueBenchModel") (As := [.int 3]) (rest := []) ⟨hx, hb, hml, hown, htx⟩ (gM_refuse_1 l hl9 D cT aK aV s.heap.size n aM ad rd gd vad st (3 : Int32) o60 hq61 hk62) ⟨callB_of 1 htx (xw_goodC kw_6_93) rfl rfl rfl (htx _ kw_1_5) (htx _ kw_6_90) ⟨by decide, by decide, by decide +kernel⟩ ⟨Nat.le_of_ble_eq_true rfl, Nat.le_of_ble_eq_true rfl⟩, (htx _ kw_6_92), (htx _ kp_M_refuse)⟩ ⟨xPre_blind, va_recv hK hP (ci := 5) rfl (q0 := 0) rfl, (fun U hU hW => ⟨rfl, xPre_of hZ hS hFc hP hD hK U hU hW⟩)⟩ rfl rfl hl.1 rfl (xm_room (Nat.le_of_ble_eq_true rfl)) dM_binary1_163 ⟨hm63.1, hm63.2⟩) hS hFc (fun q _ h => hFc q h) (fun E ce q9 u9 t H1 locs ht hvm hr9 hB hz1 hk1 hS hce hcv hcl => ?_)
                obtain ⟨rfl, hP1, hK1, hD1⟩ := hB
                rw [ht] at hP1
                obtain ⟨ad65, gd66, vad67⟩ := u9
                obtain ⟨hv68, hn69⟩ := hr9
                have hP : va_P D xcl (xMw cT aM ad65 rd gd66 vad67 o60.2.2.2.2 []) H1 := hP1
                have hD : va_D A (xMw cT aM ad65 rd gd66 vad67 o60.2.2.2.2 []) := hD1.weaken (fun k q _ h => hFc q.1 h)
                generalize H1 = H at hP hS hce ⊢
                have hE9 : ∀ p, p < xct st → vad67 p = vad p := fun p h => (hv68 p (Nat.lt_of_lt_of_le h hN)).trans (hE p h)
                have hE := hE9
                have hN : xct st ≤ xct o60.2.2.2.2 := Nat.le_trans hN hn69
                obtain rfl := Option.some.inj hf
                exact vx_out (E := "java/lang/ArithmeticException") (fun x h => (hne x h).elim) hlocks hce hcv hcl (fun t ht ha => ⟨(ad65, gd66, vad67), ⟨hE, hN⟩, ⟨rfl, by rw [ht]; exact hP, va_K.moved ha hK, hD⟩, hS.F ht⟩) hS.2.2 (Nat.le_refl _) (Nat.le_refl _)
              rw [if_neg hk62] at hf
              exact nomatch hf
          · rw [if_neg hc] at hf
            refine lv_aload_n hx hb dM_binary1_146 rfl (lv_at hl 0 rfl) ?_
            refine lv_iconst (v := 1) hx hb dM_binary1_147 (by decide) ?_
            obtain ⟨o60, hq61, hf⟩ := xbind hf
            have hl := lv_sub (l' := [(0, .ref aM), (1, .int x0)]) hl [0, 1] rfl
            by_cases hk62 : o60.1 = 1
            · rw [if_pos hk62] at hf
              obtain ⟨hm63, hf⟩ := xmoE hf
              have hFc := xm_free hD hS hA
              refine xx_thr (vx_runV (C := "ValueBenchModel") (As := [.int 1]) (rest := []) ⟨hx, hb, hml, hown, htx⟩ (gM_refuse_1 l hl9 D cT aK aV s.heap.size n aM ad rd gd vad st (1 : Int32) o60 hq61 hk62) ⟨callB_of 1 htx (xw_goodC kw_6_93) rfl rfl rfl (htx _ kw_1_5) (htx _ kw_6_90) ⟨by decide, by decide, by decide +kernel⟩ ⟨Nat.le_of_ble_eq_true rfl, Nat.le_of_ble_eq_true rfl⟩, (htx _ kw_6_92), (htx _ kp_M_refuse)⟩ ⟨xPre_blind, va_recv hK hP (ci := 5) rfl (q0 := 0) rfl, (fun U hU hW => ⟨rfl, xPre_of hZ hS hFc hP hD hK U hU hW⟩)⟩ rfl rfl hl.1 rfl (xm_room (Nat.le_of_ble_eq_true rfl)) dM_binary1_148 ⟨hm63.1, hm63.2⟩) hS hFc (fun q _ h => hFc q h) (fun E ce q9 u9 t H1 locs ht hvm hr9 hB hz1 hk1 hS hce hcv hcl => ?_)
              obtain ⟨rfl, hP1, hK1, hD1⟩ := hB
              rw [ht] at hP1
              obtain ⟨ad65, gd66, vad67⟩ := u9
              obtain ⟨hv68, hn69⟩ := hr9
              have hP : va_P D xcl (xMw cT aM ad65 rd gd66 vad67 o60.2.2.2.2 []) H1 := hP1
              have hD : va_D A (xMw cT aM ad65 rd gd66 vad67 o60.2.2.2.2 []) := hD1.weaken (fun k q _ h => hFc q.1 h)
              generalize H1 = H at hP hS hce ⊢
              have hE9 : ∀ p, p < xct st → vad67 p = vad p := fun p h => (hv68 p (Nat.lt_of_lt_of_le h hN)).trans (hE p h)
              have hE := hE9
              have hN : xct st ≤ xct o60.2.2.2.2 := Nat.le_trans hN hn69
              obtain rfl := Option.some.inj hf
              exact vx_out (E := "java/lang/ArithmeticException") (fun x h => (hne x h).elim) hlocks hce hcv hcl (fun t ht ha => ⟨(ad65, gd66, vad67), ⟨hE, hN⟩, ⟨rfl, by rw [ht]; exact hP, va_K.moved ha hK, hD⟩, hS.F ht⟩) hS.2.2 (Nat.le_refl _) (Nat.le_refl _)
            rw [if_neg hk62] at hf
            exact nomatch hf
      · rw [if_pos hc] at hf
        refine lv_aload_n hx hb dM_binary1_123 rfl (lv_at hl 0 rfl) ?_
        refine xm_aload_n hx hb (xvor _ _) dM_binary1_124 rfl (lv_at hl 2 rfl) ?_
        refine xm_aload_n hx hb (xvor _ _) dM_binary1_125 rfl (lv_at hl 3 rfl) ?_
        obtain ⟨o60, hq61, hf⟩ := xbind hf
        have hl := lv_sub (l' := [(0, .ref aM), (1, .int x0)]) hl [0, 1] rfl
        by_cases hk62 : o60.1 = 0
        · rw [if_pos hk62] at hf
          obtain ⟨hm63, hf⟩ := xmoE hf
          have hFc := xm_free hD hS hA
          refine va_callq (va_runV (C := "ValueBenchModel") (As := [xv vad c1, xv vad c2]) (rest := []) ⟨hx, hb, hml, hown, htx⟩ (gM_split l hl9 D cT aK aV s.heap.size n aM ad rd gd vad st c1 c2 o60 hq61 hk62) ⟨callB_of 2 htx (xw_goodC kw_6_225) rfl rfl rfl (htx _ kw_1_5) (htx _ kw_6_222) ⟨by decide, by decide, by decide +kernel⟩ ⟨Nat.le_of_ble_eq_true rfl, Nat.le_of_ble_eq_true rfl⟩, (htx _ kw_6_224), (htx _ kp_M_split)⟩ ⟨xPre_blind, va_recv hK hP (ci := 5) rfl (q0 := 0) rfl, (fun U hU hW => ⟨rfl, xPre_of hZ hS hFc hP hD hK U hU hW⟩)⟩ rfl rfl hl.1 rfl (xm_room (Nat.le_of_ble_eq_true rfl)) dM_binary1_126 ⟨hm63.1, hm63.2⟩) hS (fun q _ h => hFc q h) hFc (fun r64 u9 t H1 locs ht hvm hr9 hB hz1 hk1 hS => ?_)
          obtain ⟨hP1, hK1, hD1⟩ := hB
          rw [ht] at hP1
          obtain ⟨ad65, gd66, vad67⟩ := u9
          obtain ⟨hr9, hv68, hn69⟩ := hr9
          have hP : va_P D xcl (xMw cT aM ad65 rd gd66 vad67 o60.2.2.2.2 []) H1 := hP1
          have hD : va_D A (xMw cT aM ad65 rd gd66 vad67 o60.2.2.2.2 []) := hD1.weaken (fun k q _ h => hFc q.1 h)
          generalize H1 = H at hP hS ⊢
          have hE9 : ∀ p, p < xct st → vad67 p = vad p := fun p h => (hv68 p (Nat.lt_of_lt_of_le h hN)).trans (hE p h)
          have hE := hE9
          have hN : xct st ≤ xct o60.2.2.2.2 := Nat.le_trans hN hn69
          rw [hr9]
          refine W.eq (g2 := F0 m 129 ls [xv vad67 o60.2.2.2.1]) (by first | rfl | (skip; rfl)) ?_
          obtain rfl := Option.some.inj hf
          exact absurd (show (0 : Nat) = 1 from hkd) (by decide)
        rw [if_neg hk62] at hf
        by_cases hk70 : o60.1 = 1
        · rw [if_pos hk70] at hf
          obtain ⟨hm71, hf⟩ := xmoE hf
          obtain rfl := Option.some.inj hf
          exact absurd (show (2 : Nat) = 1 from hkd) (by decide)
        rw [if_neg hk70] at hf
        exact nomatch hf
  rw [if_neg hc57] at hf
  refine lv_tableOut (tgt := 183) hx hb dM_binary1_1 (by have e0 : x0.toInt ≠ 0 := xsw hc1 (by decide); have e1 : x0.toInt ≠ 1 := xsw hc28 (by decide); have e2 : x0.toInt ≠ 2 := xsw hc30 (by decide); have e3 : x0.toInt ≠ 3 := xsw hc57 (by decide); omega) (by decide) ?_
  refine xm_aload_n hx hb (xvor _ _) dM_binary1_183 rfl (lv_at hl 2 rfl) ?_
  obtain ⟨hg59, hf⟩ := xifn hf
  refine xm_vget (v := .int ((xpi st 0) (c1 - 1))) hx hb htx hown hK hP 0 (by decide) hg59 rfl ((hZ.1 (93, "kind", "I") (List.mem_of_getElem? (i := 0) rfl)).use rfl) rfl dM_binary1_184 ?_
  refine lv_iconst (v := 3) hx hb dM_binary1_187 (by decide) ?_
  refine lv_icmp_ne (tgt := 199) hx hb dM_binary1_188 (by decide) (fun hc => ?_) (fun hc => ?_)
  · rw [if_neg hc] at hf
    refine lv_aload_n hx hb dM_binary1_199 rfl (lv_at hl 0 rfl) ?_
    refine lv_iconst (v := 1) hx hb dM_binary1_200 (by decide) ?_
    obtain ⟨o60, hq61, hf⟩ := xbind hf
    have hl := lv_sub (l' := [(0, .ref aM), (1, .int x0)]) hl [0, 1] rfl
    by_cases hk62 : o60.1 = 1
    · rw [if_pos hk62] at hf
      obtain ⟨hm63, hf⟩ := xmoE hf
      have hFc := xm_free hD hS hA
      refine xx_thr (vx_runV (C := "ValueBenchModel") (As := [.int 1]) (rest := []) ⟨hx, hb, hml, hown, htx⟩ (gM_refuse_1 l hl9 D cT aK aV s.heap.size n aM ad rd gd vad st (1 : Int32) o60 hq61 hk62) ⟨callB_of 1 htx (xw_goodC kw_6_93) rfl rfl rfl (htx _ kw_1_5) (htx _ kw_6_90) ⟨by decide, by decide, by decide +kernel⟩ ⟨Nat.le_of_ble_eq_true rfl, Nat.le_of_ble_eq_true rfl⟩, (htx _ kw_6_92), (htx _ kp_M_refuse)⟩ ⟨xPre_blind, va_recv hK hP (ci := 5) rfl (q0 := 0) rfl, (fun U hU hW => ⟨rfl, xPre_of hZ hS hFc hP hD hK U hU hW⟩)⟩ rfl rfl hl.1 rfl (xm_room (Nat.le_of_ble_eq_true rfl)) dM_binary1_201 ⟨hm63.1, hm63.2⟩) hS hFc (fun q _ h => hFc q h) (fun E ce q9 u9 t H1 locs ht hvm hr9 hB hz1 hk1 hS hce hcv hcl => ?_)
      obtain ⟨rfl, hP1, hK1, hD1⟩ := hB
      rw [ht] at hP1
      obtain ⟨ad65, gd66, vad67⟩ := u9
      obtain ⟨hv68, hn69⟩ := hr9
      have hP : va_P D xcl (xMw cT aM ad65 rd gd66 vad67 o60.2.2.2.2 []) H1 := hP1
      have hD : va_D A (xMw cT aM ad65 rd gd66 vad67 o60.2.2.2.2 []) := hD1.weaken (fun k q _ h => hFc q.1 h)
      generalize H1 = H at hP hS hce ⊢
      have hE9 : ∀ p, p < xct st → vad67 p = vad p := fun p h => (hv68 p (Nat.lt_of_lt_of_le h hN)).trans (hE p h)
      have hE := hE9
      have hN : xct st ≤ xct o60.2.2.2.2 := Nat.le_trans hN hn69
      obtain rfl := Option.some.inj hf
      exact vx_out (E := "java/lang/ArithmeticException") (fun x h => (hne x h).elim) hlocks hce hcv hcl (fun t ht ha => ⟨(ad65, gd66, vad67), ⟨hE, hN⟩, ⟨rfl, by rw [ht]; exact hP, va_K.moved ha hK, hD⟩, hS.F ht⟩) hS.2.2 (Nat.le_refl _) (Nat.le_refl _)
    rw [if_neg hk62] at hf
    exact nomatch hf
  · rw [if_pos hc] at hf
    refine xm_aload_n hx hb (xvor _ _) dM_binary1_191 rfl (lv_at hl 3 rfl) ?_
    obtain ⟨hg60, hf⟩ := xifn hf
    refine xm_vget (v := .int ((xpi st 0) (c2 - 1))) hx hb htx hown hK hP 0 (by decide) hg60 rfl ((hZ.1 (93, "kind", "I") (List.mem_of_getElem? (i := 0) rfl)).use rfl) rfl dM_binary1_192 ?_
    refine lv_iconst (v := 3) hx hb dM_binary1_195 (by decide) ?_
    refine lv_icmp_eq (tgt := 205) hx hb dM_binary1_196 (by decide) (fun hc => ?_) (fun hc => ?_)
    · rw [if_pos hc] at hf
      refine xm_aload_n hx hb (xvor _ _) dM_binary1_205 rfl (lv_at hl 3 rfl) ?_
      refine xm_vget (v := .long ((xpl st) (c2 - 1))) hx hb htx hown hK hP 1 (by decide) hg60 rfl ((hZ.1 (96, "n", "J") (List.mem_of_getElem? (i := 1) rfl)).use rfl) rfl dM_binary1_206 ?_
      refine lv_lconst (v := 0) hx hb dM_binary1_209 (by decide) ?_
      refine W.lcmp hx hb dM_binary1_210 ?_
      refine lv_if_ne (tgt := 222) hx hb dM_binary1_211 (by decide) (fun hc => ?_) (fun hc => ?_)
      · rw [if_neg hc] at hf
        refine lv_aload_n hx hb dM_binary1_222 rfl (lv_at hl 0 rfl) ?_
        refine xm_aload_n hx hb (xvor _ _) dM_binary1_223 rfl (lv_at hl 2 rfl) ?_
        refine xm_vget (v := .long ((xpl st) (c1 - 1))) hx hb htx hown hK hP 1 (by decide) hg59 rfl ((hZ.1 (96, "n", "J") (List.mem_of_getElem? (i := 1) rfl)).use rfl) rfl dM_binary1_224 ?_
        refine xm_aload_n hx hb (xvor _ _) dM_binary1_227 rfl (lv_at hl 3 rfl) ?_
        refine xm_vget (v := .long ((xpl st) (c2 - 1))) hx hb htx hown hK hP 1 (by decide) hg60 rfl ((hZ.1 (96, "n", "J") (List.mem_of_getElem? (i := 1) rfl)).use rfl) rfl dM_binary1_228 ?_
        obtain ⟨hg61, hf⟩ := xifn hf
        refine lv_lrem hx hb dM_binary1_231 hg61 ?_
        obtain ⟨o62, hq63, hf⟩ := xbind hf
        have hl := lv_sub (l' := [(0, .ref aM), (1, .int x0)]) hl [0, 1] rfl
        by_cases hk64 : o62.1 = 0
        · rw [if_pos hk64] at hf
          obtain ⟨hm65, hf⟩ := xmoE hf
          have hFc := xm_free hD hS hA
          refine va_callq (va_runV (C := "ValueBenchModel") (As := [.long (((xpl st) (c1 - 1)) - ((xpl st) (c1 - 1)) / ((xpl st) (c2 - 1)) * ((xpl st) (c2 - 1)))]) (rest := []) ⟨hx, hb, hml, hown, htx⟩ (gM_number l hl9 D cT aK aV s.heap.size n aM ad rd gd vad st (((xpl st) (c1 - 1)) - ((xpl st) (c1 - 1)) / ((xpl st) (c2 - 1)) * ((xpl st) (c2 - 1))) o62 hq63 hk64) ⟨callB_of 1 htx (xw_goodC kw_6_88) rfl rfl rfl (htx _ kw_1_5) (htx _ kw_6_85) ⟨by decide, by decide, by decide +kernel⟩ ⟨Nat.le_of_ble_eq_true rfl, Nat.le_of_ble_eq_true rfl⟩, (htx _ kw_6_87), (htx _ kp_M_number)⟩ ⟨xPre_blind, va_recv hK hP (ci := 5) rfl (q0 := 0) rfl, (fun U hU hW => ⟨rfl, xPre_of hZ hS hFc hP hD hK U hU hW⟩)⟩ rfl rfl hl.1 rfl (xm_room (Nat.le_of_ble_eq_true rfl)) dM_binary1_232 ⟨hm65.1, hm65.2⟩) hS (fun q _ h => hFc q h) hFc (fun r66 u9 t H1 locs ht hvm hr9 hB hz1 hk1 hS => ?_)
          obtain ⟨hP1, hK1, hD1⟩ := hB
          rw [ht] at hP1
          obtain ⟨ad67, gd68, vad69⟩ := u9
          obtain ⟨hr9, hv70, hn71⟩ := hr9
          have hP : va_P D xcl (xMw cT aM ad67 rd gd68 vad69 o62.2.2.2.2 []) H1 := hP1
          have hD : va_D A (xMw cT aM ad67 rd gd68 vad69 o62.2.2.2.2 []) := hD1.weaken (fun k q _ h => hFc q.1 h)
          generalize H1 = H at hP hS ⊢
          have hE9 : ∀ p, p < xct st → vad69 p = vad p := fun p h => (hv70 p (Nat.lt_of_lt_of_le h hN)).trans (hE p h)
          have hE := hE9
          have hN : xct st ≤ xct o62.2.2.2.2 := Nat.le_trans hN hn71
          rw [hr9]
          refine W.eq (g2 := F0 m 235 ls [xv vad69 o62.2.2.2.1]) (by first | rfl | (skip; rfl)) ?_
          obtain rfl := Option.some.inj hf
          exact absurd (show (0 : Nat) = 1 from hkd) (by decide)
        rw [if_neg hk64] at hf
        by_cases hk72 : o62.1 = 1
        · rw [if_pos hk72] at hf
          obtain ⟨hm73, hf⟩ := xmoE hf
          have hFc := xm_free hD hS hA
          refine xx_thr (vx_runV (C := "ValueBenchModel") (As := [.long (((xpl st) (c1 - 1)) - ((xpl st) (c1 - 1)) / ((xpl st) (c2 - 1)) * ((xpl st) (c2 - 1)))]) (rest := []) ⟨hx, hb, hml, hown, htx⟩ (gM_number_1 l hl9 D cT aK aV s.heap.size n aM ad rd gd vad st (((xpl st) (c1 - 1)) - ((xpl st) (c1 - 1)) / ((xpl st) (c2 - 1)) * ((xpl st) (c2 - 1))) o62 hq63 hk72) ⟨callB_of 1 htx (xw_goodC kw_6_88) rfl rfl rfl (htx _ kw_1_5) (htx _ kw_6_85) ⟨by decide, by decide, by decide +kernel⟩ ⟨Nat.le_of_ble_eq_true rfl, Nat.le_of_ble_eq_true rfl⟩, (htx _ kw_6_87), (htx _ kp_M_number)⟩ ⟨xPre_blind, va_recv hK hP (ci := 5) rfl (q0 := 0) rfl, (fun U hU hW => ⟨rfl, xPre_of hZ hS hFc hP hD hK U hU hW⟩)⟩ rfl rfl hl.1 rfl (xm_room (Nat.le_of_ble_eq_true rfl)) dM_binary1_232 ⟨hm73.1, hm73.2⟩) hS hFc (fun q _ h => hFc q h) (fun E ce q9 u9 t H1 locs ht hvm hr9 hB hz1 hk1 hS hce hcv hcl => ?_)
          obtain ⟨rfl, hP1, hK1, hD1⟩ := hB
          rw [ht] at hP1
          obtain ⟨ad75, gd76, vad77⟩ := u9
          obtain ⟨hv78, hn79⟩ := hr9
          have hP : va_P D xcl (xMw cT aM ad75 rd gd76 vad77 o62.2.2.2.2 []) H1 := hP1
          have hD : va_D A (xMw cT aM ad75 rd gd76 vad77 o62.2.2.2.2 []) := hD1.weaken (fun k q _ h => hFc q.1 h)
          generalize H1 = H at hP hS hce ⊢
          have hE9 : ∀ p, p < xct st → vad77 p = vad p := fun p h => (hv78 p (Nat.lt_of_lt_of_le h hN)).trans (hE p h)
          have hE := hE9
          have hN : xct st ≤ xct o62.2.2.2.2 := Nat.le_trans hN hn79
          obtain rfl := Option.some.inj hf
          exact vx_out (E := "java/lang/ArithmeticException") (fun x h => (hne x h).elim) hlocks hce hcv hcl (fun t ht ha => ⟨(ad75, gd76, vad77), ⟨hE, hN⟩, ⟨rfl, by rw [ht]; exact hP, va_K.moved ha hK, hD⟩, hS.F ht⟩) hS.2.2 (Nat.le_refl _) (Nat.le_refl _)
        rw [if_neg hk72] at hf
        exact nomatch hf
      · rw [if_pos hc] at hf
        refine lv_aload_n hx hb dM_binary1_214 rfl (lv_at hl 0 rfl) ?_
        refine lv_iconst (v := 3) hx hb dM_binary1_215 (by decide) ?_
        obtain ⟨o61, hq62, hf⟩ := xbind hf
        have hl := lv_sub (l' := [(0, .ref aM), (1, .int x0)]) hl [0, 1] rfl
        by_cases hk63 : o61.1 = 1
        · rw [if_pos hk63] at hf
          obtain ⟨hm64, hf⟩ := xmoE hf
          have hFc := xm_free hD hS hA
          refine xx_thr (vx_runV (C := "ValueBenchModel") (As := [.int 3]) (rest := []) ⟨hx, hb, hml, hown, htx⟩ (gM_refuse_1 l hl9 D cT aK aV s.heap.size n aM ad rd gd vad st (3 : Int32) o61 hq62 hk63) ⟨callB_of 1 htx (xw_goodC kw_6_93) rfl rfl rfl (htx _ kw_1_5) (htx _ kw_6_90) ⟨by decide, by decide, by decide +kernel⟩ ⟨Nat.le_of_ble_eq_true rfl, Nat.le_of_ble_eq_true rfl⟩, (htx _ kw_6_92), (htx _ kp_M_refuse)⟩ ⟨xPre_blind, va_recv hK hP (ci := 5) rfl (q0 := 0) rfl, (fun U hU hW => ⟨rfl, xPre_of hZ hS hFc hP hD hK U hU hW⟩)⟩ rfl rfl hl.1 rfl (xm_room (Nat.le_of_ble_eq_true rfl)) dM_binary1_216 ⟨hm64.1, hm64.2⟩) hS hFc (fun q _ h => hFc q h) (fun E ce q9 u9 t H1 locs ht hvm hr9 hB hz1 hk1 hS hce hcv hcl => ?_)
          obtain ⟨rfl, hP1, hK1, hD1⟩ := hB
          rw [ht] at hP1
          obtain ⟨ad66, gd67, vad68⟩ := u9
          obtain ⟨hv69, hn70⟩ := hr9
          have hP : va_P D xcl (xMw cT aM ad66 rd gd67 vad68 o61.2.2.2.2 []) H1 := hP1
          have hD : va_D A (xMw cT aM ad66 rd gd67 vad68 o61.2.2.2.2 []) := hD1.weaken (fun k q _ h => hFc q.1 h)
          generalize H1 = H at hP hS hce ⊢
          have hE9 : ∀ p, p < xct st → vad68 p = vad p := fun p h => (hv69 p (Nat.lt_of_lt_of_le h hN)).trans (hE p h)
          have hE := hE9
          have hN : xct st ≤ xct o61.2.2.2.2 := Nat.le_trans hN hn70
          obtain rfl := Option.some.inj hf
          exact vx_out (E := "java/lang/ArithmeticException") (fun x h => (hne x h).elim) hlocks hce hcv hcl (fun t ht ha => ⟨(ad66, gd67, vad68), ⟨hE, hN⟩, ⟨rfl, by rw [ht]; exact hP, va_K.moved ha hK, hD⟩, hS.F ht⟩) hS.2.2 (Nat.le_refl _) (Nat.le_refl _)
        rw [if_neg hk63] at hf
        exact nomatch hf
    · rw [if_neg hc] at hf
      refine lv_aload_n hx hb dM_binary1_199 rfl (lv_at hl 0 rfl) ?_
      refine lv_iconst (v := 1) hx hb dM_binary1_200 (by decide) ?_
      obtain ⟨o61, hq62, hf⟩ := xbind hf
      have hl := lv_sub (l' := [(0, .ref aM), (1, .int x0)]) hl [0, 1] rfl
      by_cases hk63 : o61.1 = 1
      · rw [if_pos hk63] at hf
        obtain ⟨hm64, hf⟩ := xmoE hf
        have hFc := xm_free hD hS hA
        refine xx_thr (vx_runV (C := "ValueBenchModel") (As := [.int 1]) (rest := []) ⟨hx, hb, hml, hown, htx⟩ (gM_refuse_1 l hl9 D cT aK aV s.heap.size n aM ad rd gd vad st (1 : Int32) o61 hq62 hk63) ⟨callB_of 1 htx (xw_goodC kw_6_93) rfl rfl rfl (htx _ kw_1_5) (htx _ kw_6_90) ⟨by decide, by decide, by decide +kernel⟩ ⟨Nat.le_of_ble_eq_true rfl, Nat.le_of_ble_eq_true rfl⟩, (htx _ kw_6_92), (htx _ kp_M_refuse)⟩ ⟨xPre_blind, va_recv hK hP (ci := 5) rfl (q0 := 0) rfl, (fun U hU hW => ⟨rfl, xPre_of hZ hS hFc hP hD hK U hU hW⟩)⟩ rfl rfl hl.1 rfl (xm_room (Nat.le_of_ble_eq_true rfl)) dM_binary1_201 ⟨hm64.1, hm64.2⟩) hS hFc (fun q _ h => hFc q h) (fun E ce q9 u9 t H1 locs ht hvm hr9 hB hz1 hk1 hS hce hcv hcl => ?_)
        obtain ⟨rfl, hP1, hK1, hD1⟩ := hB
        rw [ht] at hP1
        obtain ⟨ad66, gd67, vad68⟩ := u9
        obtain ⟨hv69, hn70⟩ := hr9
        have hP : va_P D xcl (xMw cT aM ad66 rd gd67 vad68 o61.2.2.2.2 []) H1 := hP1
        have hD : va_D A (xMw cT aM ad66 rd gd67 vad68 o61.2.2.2.2 []) := hD1.weaken (fun k q _ h => hFc q.1 h)
        generalize H1 = H at hP hS hce ⊢
        have hE9 : ∀ p, p < xct st → vad68 p = vad p := fun p h => (hv69 p (Nat.lt_of_lt_of_le h hN)).trans (hE p h)
        have hE := hE9
        have hN : xct st ≤ xct o61.2.2.2.2 := Nat.le_trans hN hn70
        obtain rfl := Option.some.inj hf
        exact vx_out (E := "java/lang/ArithmeticException") (fun x h => (hne x h).elim) hlocks hce hcv hcl (fun t ht ha => ⟨(ad66, gd67, vad68), ⟨hE, hN⟩, ⟨rfl, by rw [ht]; exact hP, va_K.moved ha hK, hD⟩, hS.F ht⟩) hS.2.2 (Nat.le_refl _) (Nat.le_refl _)
      rw [if_neg hk63] at hf
      exact nomatch hf
set_option maxHeartbeats 400000000 in
set_option maxRecDepth 100000 in
theorem gM_binary1_2 (l : Launch) (hl9 : l.stackTraces = false) (D : va_G) (cT : Nat → ClassId) (aK aV : Nat → Nat) (sz d n : Nat) (aM : Nat) (ad rd gd vad : Nat → Nat) (st : xS) (x0 : Int32) (c1 : Nat) (c2 : Nat) (out : Nat × Nat × Nat × Nat × xS) (hf : fM_binary1 d n st x0 c1 c2 = some out) (hkd : out.1 = 2) : xMetY l yM_binary1 wyM_binary1 (16 * d + 9) out.2.1 out.2.2.1 (400 * d + 174) D cT aK aV sz [.ref aM, .int x0, xv vad c1, xv vad c2] (xMw cT aM ad rd gd vad st []) "java/lang/IndexOutOfBoundsException" (fun u => xE vad st out.2.2.2.2 u) (fun A u t => xB D xcl cT A (xMw cT aM u.1 rd u.2.1 u.2.2 out.2.2.2.2 []) t) := by
  refine vx_ofW (cc := prog_13_method_48_code) (maxL := 4) (ret := (some (.object "ValueBenchModel$V"))) (by decide) rfl ?_
  intro p e s m args below meth c s₁ B hml hne hv
  obtain ⟨rfl, hsz, hZ, hP, hK, hD0⟩ := hv
  have hx := B.exec
  have hb := B.bytes
  have hr := B.returns
  have hts := atoms_spec (ws := wyM_binary1) B.pre
  have htx := fun w h => hts w (List.mem_cons_of_mem _ h)
  have hown : s.vm.findClass "ValueBenchModel" = some m.cls := findClass_of_methodNamed B.named
  have hlocks := B.notSynchronized
  subst hsz
  have hD := hD0.self (sz := s.heap.size)
  generalize hAe : va_A (xMw cT aM ad rd gd vad st []) s.heap.size = A at hD hZ ⊢
  have hA : ∀ q : Nat, s.heap.size ≤ q → A q := fun q h => by rw [← hAe]; exact Or.inr h
  have hS : va_S A s.heap s.heap [] := va_S.rf
  have hl := lv_entry ([.ref aM, .int x0, xv vad c1, xv vad c2]) (n := 4) (by simp [lg_sl, xvcat, xrscat, xcI, xcL, xcR, xcN])
  rw [show lv_args 0 [.ref aM, .int x0, xv vad c1, xv vad c2] = [(0, .ref aM), (1, .int x0), (2, xv vad c1), (3, xv vad c2)] from by simp [lv_args, xvcat, xrscat, xcI, xcL, xcR, xcN]] at hl
  rw [lg_entry_eq]
  generalize (lg_sl ([.ref aM, .int x0, xv vad c1, xv vad c2]) ++ List.replicate (4 - (lg_sl ([.ref aM, .int x0, xv vad c1, xv vad c2])).length) Slot.unset).toArray = ls at hl ⊢
  have hl : lv_has ls 4 [(0, .ref aM), (1, .int x0), (2, xv vad c1), (3, xv vad c2)] := hl
  have hE : ∀ p, p < xct st → vad p = vad p := fun _ _ => rfl
  have hN : xct st ≤ xct st := Nat.le_refl _
  unfold fM_binary1 at hf
  refine lv_iload_n hx hb dM_binary1_0 rfl (lv_at hl 1 rfl) ?_
  by_cases hc1 : x0 = 0
  · rw [if_pos hc1] at hf
    refine lv_tableIn (off := 31) (tgt := 32) hx hb dM_binary1_1 (by rw [hc1]; decide) (by rw [hc1]; decide) (by rw [hc1]; decide) (by decide) ?_
    refine lv_aload_n hx hb dM_binary1_32 rfl (lv_at hl 0 rfl) ?_
    refine xm_aload_n hx hb (xvor _ _) dM_binary1_33 rfl (lv_at hl 2 rfl) ?_
    refine xm_aload_n hx hb (xvor _ _) dM_binary1_34 rfl (lv_at hl 3 rfl) ?_
    obtain ⟨o2, hq3, hf⟩ := xbind hf
    have hl := lv_sub (l' := [(0, .ref aM), (1, .int x0)]) hl [0, 1] rfl
    by_cases hk4 : o2.1 = 0
    · rw [if_pos hk4] at hf
      obtain ⟨hm5, hf⟩ := xmoE hf
      have hFc := xm_free hD hS hA
      refine va_callq (va_runV (C := "ValueBenchModel") (As := [xv vad c1, xv vad c2]) (rest := []) ⟨hx, hb, hml, hown, htx⟩ (gM_added l hl9 D cT aK aV s.heap.size n aM ad rd gd vad st c1 c2 o2 hq3 hk4) ⟨callB_of 2 htx (xw_goodC kw_6_203) rfl rfl rfl (htx _ kw_1_5) (htx _ kw_6_200) ⟨by decide, by decide, by decide +kernel⟩ ⟨Nat.le_of_ble_eq_true rfl, Nat.le_of_ble_eq_true rfl⟩, (htx _ kw_6_202), (htx _ kp_M_added)⟩ ⟨xPre_blind, va_recv hK hP (ci := 5) rfl (q0 := 0) rfl, (fun U hU hW => ⟨rfl, xPre_of hZ hS hFc hP hD hK U hU hW⟩)⟩ rfl rfl hl.1 rfl (xm_room (Nat.le_of_ble_eq_true rfl)) dM_binary1_35 ⟨hm5.1, hm5.2⟩) hS (fun q _ h => hFc q h) hFc (fun r6 u9 t H1 locs ht hvm hr9 hB hz1 hk1 hS => ?_)
      obtain ⟨hP1, hK1, hD1⟩ := hB
      rw [ht] at hP1
      obtain ⟨ad7, gd8, vad9⟩ := u9
      obtain ⟨hr9, hv10, hn11⟩ := hr9
      have hP : va_P D xcl (xMw cT aM ad7 rd gd8 vad9 o2.2.2.2.2 []) H1 := hP1
      have hD : va_D A (xMw cT aM ad7 rd gd8 vad9 o2.2.2.2.2 []) := hD1.weaken (fun k q _ h => hFc q.1 h)
      generalize H1 = H at hP hS ⊢
      have hE9 : ∀ p, p < xct st → vad9 p = vad p := fun p h => (hv10 p (Nat.lt_of_lt_of_le h hN)).trans (hE p h)
      have hE := hE9
      have hN : xct st ≤ xct o2.2.2.2.2 := Nat.le_trans hN hn11
      rw [hr9]
      refine W.eq (g2 := F0 m 38 ls [xv vad9 o2.2.2.2.1]) (by first | rfl | (skip; rfl)) ?_
      obtain rfl := Option.some.inj hf
      exact absurd (show (0 : Nat) = 2 from hkd) (by decide)
    rw [if_neg hk4] at hf
    by_cases hk12 : o2.1 = 1
    · rw [if_pos hk12] at hf
      obtain ⟨hm13, hf⟩ := xmoE hf
      obtain rfl := Option.some.inj hf
      exact absurd (show (1 : Nat) = 2 from hkd) (by decide)
    rw [if_neg hk12] at hf
    by_cases hk20 : o2.1 = 2
    · rw [if_pos hk20] at hf
      obtain ⟨hm21, hf⟩ := xmoE hf
      have hFc := xm_free hD hS hA
      refine xx_thr (vx_runV (C := "ValueBenchModel") (As := [xv vad c1, xv vad c2]) (rest := []) ⟨hx, hb, hml, hown, htx⟩ (gM_added_2 l hl9 D cT aK aV s.heap.size n aM ad rd gd vad st c1 c2 o2 hq3 hk20) ⟨callB_of 2 htx (xw_goodC kw_6_203) rfl rfl rfl (htx _ kw_1_5) (htx _ kw_6_200) ⟨by decide, by decide, by decide +kernel⟩ ⟨Nat.le_of_ble_eq_true rfl, Nat.le_of_ble_eq_true rfl⟩, (htx _ kw_6_202), (htx _ kp_M_added)⟩ ⟨xPre_blind, va_recv hK hP (ci := 5) rfl (q0 := 0) rfl, (fun U hU hW => ⟨rfl, xPre_of hZ hS hFc hP hD hK U hU hW⟩)⟩ rfl rfl hl.1 rfl (xm_room (Nat.le_of_ble_eq_true rfl)) dM_binary1_35 ⟨hm21.1, hm21.2⟩) hS hFc (fun q _ h => hFc q h) (fun E ce q9 u9 t H1 locs ht hvm hr9 hB hz1 hk1 hS hce hcv hcl => ?_)
      obtain ⟨rfl, hP1, hK1, hD1⟩ := hB
      rw [ht] at hP1
      obtain ⟨ad23, gd24, vad25⟩ := u9
      obtain ⟨hv26, hn27⟩ := hr9
      have hP : va_P D xcl (xMw cT aM ad23 rd gd24 vad25 o2.2.2.2.2 []) H1 := hP1
      have hD : va_D A (xMw cT aM ad23 rd gd24 vad25 o2.2.2.2.2 []) := hD1.weaken (fun k q _ h => hFc q.1 h)
      generalize H1 = H at hP hS hce ⊢
      have hE9 : ∀ p, p < xct st → vad25 p = vad p := fun p h => (hv26 p (Nat.lt_of_lt_of_le h hN)).trans (hE p h)
      have hE := hE9
      have hN : xct st ≤ xct o2.2.2.2.2 := Nat.le_trans hN hn27
      obtain rfl := Option.some.inj hf
      exact vx_out (E := "java/lang/IndexOutOfBoundsException") (fun x h => (hne x h).elim) hlocks hce hcv hcl (fun t ht ha => ⟨(ad23, gd24, vad25), ⟨hE, hN⟩, ⟨rfl, by rw [ht]; exact hP, va_K.moved ha hK, hD⟩, hS.F ht⟩) hS.2.2 (Nat.le_refl _) (Nat.le_refl _)
    rw [if_neg hk20] at hf
    exact nomatch hf
  rw [if_neg hc1] at hf
  by_cases hc28 : x0 = 1
  · rw [if_pos hc28] at hf
    refine lv_tableIn (off := 38) (tgt := 39) hx hb dM_binary1_1 (by rw [hc28]; decide) (by rw [hc28]; decide) (by rw [hc28]; decide) (by decide) ?_
    refine xm_aload_n hx hb (xvor _ _) dM_binary1_39 rfl (lv_at hl 2 rfl) ?_
    obtain ⟨hg29, hf⟩ := xifn hf
    refine xm_vget (v := .int ((xpi st 0) (c1 - 1))) hx hb htx hown hK hP 0 (by decide) hg29 rfl ((hZ.1 (93, "kind", "I") (List.mem_of_getElem? (i := 0) rfl)).use rfl) rfl dM_binary1_40 ?_
    refine lv_iconst (v := 3) hx hb dM_binary1_43 (by decide) ?_
    refine lv_icmp_ne (tgt := 69) hx hb dM_binary1_44 (by decide) (fun hc => ?_) (fun hc => ?_)
    · rw [if_neg hc] at hf
      refine xm_aload_n hx hb (xvor _ _) dM_binary1_69 rfl (lv_at hl 2 rfl) ?_
      refine xm_vget (v := .int ((xpi st 0) (c1 - 1))) hx hb htx hown hK hP 0 (by decide) hg29 rfl ((hZ.1 (93, "kind", "I") (List.mem_of_getElem? (i := 0) rfl)).use rfl) rfl dM_binary1_70 ?_
      refine lv_iconst (v := 5) hx hb dM_binary1_73 (by decide) ?_
      refine lv_icmp_ne (tgt := 94) hx hb dM_binary1_74 (by decide) (fun hc => ?_) (fun hc => ?_)
      · rw [if_neg hc] at hf
        refine lv_aload_n hx hb dM_binary1_94 rfl (lv_at hl 0 rfl) ?_
        refine lv_iconst (v := 1) hx hb dM_binary1_95 (by decide) ?_
        obtain ⟨o30, hq31, hf⟩ := xbind hf
        have hl := lv_sub (l' := [(0, .ref aM), (1, .int x0)]) hl [0, 1] rfl
        by_cases hk32 : o30.1 = 1
        · rw [if_pos hk32] at hf
          obtain ⟨hm33, hf⟩ := xmoE hf
          obtain rfl := Option.some.inj hf
          exact absurd (show (1 : Nat) = 2 from hkd) (by decide)
        rw [if_neg hk32] at hf
        exact nomatch hf
      · rw [if_pos hc] at hf
        refine xm_aload_n hx hb (xvor _ _) dM_binary1_77 rfl (lv_at hl 3 rfl) ?_
        obtain ⟨hg30, hf⟩ := xifn hf
        refine xm_vget (v := .int ((xpi st 0) (c2 - 1))) hx hb htx hown hK hP 0 (by decide) hg30 rfl ((hZ.1 (93, "kind", "I") (List.mem_of_getElem? (i := 0) rfl)).use rfl) rfl dM_binary1_78 ?_
        refine lv_iconst (v := 5) hx hb dM_binary1_81 (by decide) ?_
        refine lv_icmp_ne (tgt := 94) hx hb dM_binary1_82 (by decide) (fun hc => ?_) (fun hc => ?_)
        · rw [if_neg hc] at hf
          refine lv_aload_n hx hb dM_binary1_94 rfl (lv_at hl 0 rfl) ?_
          refine lv_iconst (v := 1) hx hb dM_binary1_95 (by decide) ?_
          obtain ⟨o31, hq32, hf⟩ := xbind hf
          have hl := lv_sub (l' := [(0, .ref aM), (1, .int x0)]) hl [0, 1] rfl
          by_cases hk33 : o31.1 = 1
          · rw [if_pos hk33] at hf
            obtain ⟨hm34, hf⟩ := xmoE hf
            obtain rfl := Option.some.inj hf
            exact absurd (show (1 : Nat) = 2 from hkd) (by decide)
          rw [if_neg hk33] at hf
          exact nomatch hf
        · rw [if_pos hc] at hf
          refine lv_aload_n hx hb dM_binary1_85 rfl (lv_at hl 0 rfl) ?_
          refine xm_aload_n hx hb (xvor _ _) dM_binary1_86 rfl (lv_at hl 2 rfl) ?_
          refine xm_aload_n hx hb (xvor _ _) dM_binary1_87 rfl (lv_at hl 3 rfl) ?_
          obtain ⟨o31, hq32, hf⟩ := xbind hf
          have hl := lv_sub (l' := [(0, .ref aM), (1, .int x0)]) hl [0, 1] rfl
          by_cases hk33 : o31.1 = 0
          · rw [if_pos hk33] at hf
            obtain ⟨hm34, hf⟩ := xmoE hf
            have hFc := xm_free hD hS hA
            refine va_callq (va_runV (C := "ValueBenchModel") (As := [xv vad c1, xv vad c2]) (rest := []) ⟨hx, hb, hml, hown, htx⟩ (gM_without l hl9 D cT aK aV s.heap.size d n aM ad rd gd vad st c1 c2 o31 hq32 hk33) ⟨callB_of 2 htx (xw_goodC kw_6_211) rfl rfl rfl (htx _ kw_1_5) (htx _ kw_6_208) ⟨by decide, by decide, by decide +kernel⟩ ⟨(by show (16 * d + 8) + 1 ≤ 16 * d + 9; omega), (by show 8 + (7 + 11) + (400 * d + 147) ≤ 400 * d + 174; omega)⟩, (htx _ kw_6_210), (htx _ kp_M_without)⟩ ⟨xPre_blind, va_recv hK hP (ci := 5) rfl (q0 := 0) rfl, (fun U hU hW => ⟨rfl, xPre_of hZ hS hFc hP hD hK U hU hW⟩)⟩ rfl rfl hl.1 rfl (xm_room (Nat.le_of_ble_eq_true rfl)) dM_binary1_88 ⟨hm34.1, hm34.2⟩) hS (fun q _ h => hFc q h) hFc (fun r35 u9 t H1 locs ht hvm hr9 hB hz1 hk1 hS => ?_)
            obtain ⟨hP1, hK1, hD1⟩ := hB
            rw [ht] at hP1
            obtain ⟨ad36, gd37, vad38⟩ := u9
            obtain ⟨hr9, hv39, hn40⟩ := hr9
            have hP : va_P D xcl (xMw cT aM ad36 rd gd37 vad38 o31.2.2.2.2 []) H1 := hP1
            have hD : va_D A (xMw cT aM ad36 rd gd37 vad38 o31.2.2.2.2 []) := hD1.weaken (fun k q _ h => hFc q.1 h)
            generalize H1 = H at hP hS ⊢
            have hE9 : ∀ p, p < xct st → vad38 p = vad p := fun p h => (hv39 p (Nat.lt_of_lt_of_le h hN)).trans (hE p h)
            have hE := hE9
            have hN : xct st ≤ xct o31.2.2.2.2 := Nat.le_trans hN hn40
            rw [hr9]
            refine W.eq (g2 := F0 m 91 ls [xv vad38 o31.2.2.2.1]) (by first | rfl | (skip; rfl)) ?_
            refine lv_goto (tgt := 99) hx hb dM_binary1_91 (by decide) ?_
            obtain rfl := Option.some.inj hf
            exact absurd (show (0 : Nat) = 2 from hkd) (by decide)
          rw [if_neg hk33] at hf
          by_cases hk41 : o31.1 = 1
          · rw [if_pos hk41] at hf
            obtain ⟨hm42, hf⟩ := xmoE hf
            have hFc := xm_free hD hS hA
            refine xx_thr (vx_runV (C := "ValueBenchModel") (As := [xv vad c1, xv vad c2]) (rest := []) ⟨hx, hb, hml, hown, htx⟩ (gM_without_1 l hl9 D cT aK aV s.heap.size d n aM ad rd gd vad st c1 c2 o31 hq32 hk41) ⟨callB_of 2 htx (xw_goodC kw_6_211) rfl rfl rfl (htx _ kw_1_5) (htx _ kw_6_208) ⟨by decide, by decide, by decide +kernel⟩ ⟨(by show (16 * d + 8) + 1 ≤ 16 * d + 9; omega), (by show 8 + (7 + 11) + (400 * d + 147) ≤ 400 * d + 174; omega)⟩, (htx _ kw_6_210), (htx _ kp_M_without)⟩ ⟨xPre_blind, va_recv hK hP (ci := 5) rfl (q0 := 0) rfl, (fun U hU hW => ⟨rfl, xPre_of hZ hS hFc hP hD hK U hU hW⟩)⟩ rfl rfl hl.1 rfl (xm_room (Nat.le_of_ble_eq_true rfl)) dM_binary1_88 ⟨hm42.1, hm42.2⟩) hS hFc (fun q _ h => hFc q h) (fun E ce q9 u9 t H1 locs ht hvm hr9 hB hz1 hk1 hS hce hcv hcl => ?_)
            obtain ⟨rfl, hP1, hK1, hD1⟩ := hB
            rw [ht] at hP1
            obtain ⟨ad44, gd45, vad46⟩ := u9
            obtain ⟨hv47, hn48⟩ := hr9
            have hP : va_P D xcl (xMw cT aM ad44 rd gd45 vad46 o31.2.2.2.2 []) H1 := hP1
            have hD : va_D A (xMw cT aM ad44 rd gd45 vad46 o31.2.2.2.2 []) := hD1.weaken (fun k q _ h => hFc q.1 h)
            generalize H1 = H at hP hS hce ⊢
            have hE9 : ∀ p, p < xct st → vad46 p = vad p := fun p h => (hv47 p (Nat.lt_of_lt_of_le h hN)).trans (hE p h)
            have hE := hE9
            have hN : xct st ≤ xct o31.2.2.2.2 := Nat.le_trans hN hn48
            obtain rfl := Option.some.inj hf
            exact vx_out (E := "java/lang/IndexOutOfBoundsException") (fun x h => (hne x h).elim) hlocks hce hcv hcl (fun t ht ha => ⟨(ad44, gd45, vad46), ⟨hE, hN⟩, ⟨rfl, by rw [ht]; exact hP, va_K.moved ha hK, hD⟩, hS.F ht⟩) hS.2.2 (Nat.le_refl _) (Nat.le_refl _)
          rw [if_neg hk41] at hf
          exact nomatch hf
    · rw [if_pos hc] at hf
      refine xm_aload_n hx hb (xvor _ _) dM_binary1_47 rfl (lv_at hl 3 rfl) ?_
      obtain ⟨hg30, hf⟩ := xifn hf
      refine xm_vget (v := .int ((xpi st 0) (c2 - 1))) hx hb htx hown hK hP 0 (by decide) hg30 rfl ((hZ.1 (93, "kind", "I") (List.mem_of_getElem? (i := 0) rfl)).use rfl) rfl dM_binary1_48 ?_
      refine lv_iconst (v := 3) hx hb dM_binary1_51 (by decide) ?_
      refine lv_icmp_ne (tgt := 69) hx hb dM_binary1_52 (by decide) (fun hc => ?_) (fun hc => ?_)
      · rw [if_neg hc] at hf
        refine xm_aload_n hx hb (xvor _ _) dM_binary1_69 rfl (lv_at hl 2 rfl) ?_
        refine xm_vget (v := .int ((xpi st 0) (c1 - 1))) hx hb htx hown hK hP 0 (by decide) hg29 rfl ((hZ.1 (93, "kind", "I") (List.mem_of_getElem? (i := 0) rfl)).use rfl) rfl dM_binary1_70 ?_
        refine lv_iconst (v := 5) hx hb dM_binary1_73 (by decide) ?_
        refine lv_icmp_ne (tgt := 94) hx hb dM_binary1_74 (by decide) (fun hc => ?_) (fun hc => ?_)
        · rw [if_neg hc] at hf
          refine lv_aload_n hx hb dM_binary1_94 rfl (lv_at hl 0 rfl) ?_
          refine lv_iconst (v := 1) hx hb dM_binary1_95 (by decide) ?_
          obtain ⟨o31, hq32, hf⟩ := xbind hf
          have hl := lv_sub (l' := [(0, .ref aM), (1, .int x0)]) hl [0, 1] rfl
          by_cases hk33 : o31.1 = 1
          · rw [if_pos hk33] at hf
            obtain ⟨hm34, hf⟩ := xmoE hf
            obtain rfl := Option.some.inj hf
            exact absurd (show (1 : Nat) = 2 from hkd) (by decide)
          rw [if_neg hk33] at hf
          exact nomatch hf
        · rw [if_pos hc] at hf
          refine xm_aload_n hx hb (xvor _ _) dM_binary1_77 rfl (lv_at hl 3 rfl) ?_
          refine xm_vget (v := .int ((xpi st 0) (c2 - 1))) hx hb htx hown hK hP 0 (by decide) hg30 rfl ((hZ.1 (93, "kind", "I") (List.mem_of_getElem? (i := 0) rfl)).use rfl) rfl dM_binary1_78 ?_
          refine lv_iconst (v := 5) hx hb dM_binary1_81 (by decide) ?_
          refine lv_icmp_ne (tgt := 94) hx hb dM_binary1_82 (by decide) (fun hc => ?_) (fun hc => ?_)
          · rw [if_neg hc] at hf
            refine lv_aload_n hx hb dM_binary1_94 rfl (lv_at hl 0 rfl) ?_
            refine lv_iconst (v := 1) hx hb dM_binary1_95 (by decide) ?_
            obtain ⟨o31, hq32, hf⟩ := xbind hf
            have hl := lv_sub (l' := [(0, .ref aM), (1, .int x0)]) hl [0, 1] rfl
            by_cases hk33 : o31.1 = 1
            · rw [if_pos hk33] at hf
              obtain ⟨hm34, hf⟩ := xmoE hf
              obtain rfl := Option.some.inj hf
              exact absurd (show (1 : Nat) = 2 from hkd) (by decide)
            rw [if_neg hk33] at hf
            exact nomatch hf
          · rw [if_pos hc] at hf
            refine lv_aload_n hx hb dM_binary1_85 rfl (lv_at hl 0 rfl) ?_
            refine xm_aload_n hx hb (xvor _ _) dM_binary1_86 rfl (lv_at hl 2 rfl) ?_
            refine xm_aload_n hx hb (xvor _ _) dM_binary1_87 rfl (lv_at hl 3 rfl) ?_
            obtain ⟨o31, hq32, hf⟩ := xbind hf
            have hl := lv_sub (l' := [(0, .ref aM), (1, .int x0)]) hl [0, 1] rfl
            by_cases hk33 : o31.1 = 0
            · rw [if_pos hk33] at hf
              obtain ⟨hm34, hf⟩ := xmoE hf
              have hFc := xm_free hD hS hA
              refine va_callq (va_runV (C := "ValueBenchModel") (As := [xv vad c1, xv vad c2]) (rest := []) ⟨hx, hb, hml, hown, htx⟩ (gM_without l hl9 D cT aK aV s.heap.size d n aM ad rd gd vad st c1 c2 o31 hq32 hk33) ⟨callB_of 2 htx (xw_goodC kw_6_211) rfl rfl rfl (htx _ kw_1_5) (htx _ kw_6_208) ⟨by decide, by decide, by decide +kernel⟩ ⟨(by show (16 * d + 8) + 1 ≤ 16 * d + 9; omega), (by show 8 + (7 + 11) + (400 * d + 147) ≤ 400 * d + 174; omega)⟩, (htx _ kw_6_210), (htx _ kp_M_without)⟩ ⟨xPre_blind, va_recv hK hP (ci := 5) rfl (q0 := 0) rfl, (fun U hU hW => ⟨rfl, xPre_of hZ hS hFc hP hD hK U hU hW⟩)⟩ rfl rfl hl.1 rfl (xm_room (Nat.le_of_ble_eq_true rfl)) dM_binary1_88 ⟨hm34.1, hm34.2⟩) hS (fun q _ h => hFc q h) hFc (fun r35 u9 t H1 locs ht hvm hr9 hB hz1 hk1 hS => ?_)
              obtain ⟨hP1, hK1, hD1⟩ := hB
              rw [ht] at hP1
              obtain ⟨ad36, gd37, vad38⟩ := u9
              obtain ⟨hr9, hv39, hn40⟩ := hr9
              have hP : va_P D xcl (xMw cT aM ad36 rd gd37 vad38 o31.2.2.2.2 []) H1 := hP1
              have hD : va_D A (xMw cT aM ad36 rd gd37 vad38 o31.2.2.2.2 []) := hD1.weaken (fun k q _ h => hFc q.1 h)
              generalize H1 = H at hP hS ⊢
              have hE9 : ∀ p, p < xct st → vad38 p = vad p := fun p h => (hv39 p (Nat.lt_of_lt_of_le h hN)).trans (hE p h)
              have hE := hE9
              have hN : xct st ≤ xct o31.2.2.2.2 := Nat.le_trans hN hn40
              rw [hr9]
              refine W.eq (g2 := F0 m 91 ls [xv vad38 o31.2.2.2.1]) (by first | rfl | (skip; rfl)) ?_
              refine lv_goto (tgt := 99) hx hb dM_binary1_91 (by decide) ?_
              obtain rfl := Option.some.inj hf
              exact absurd (show (0 : Nat) = 2 from hkd) (by decide)
            rw [if_neg hk33] at hf
            by_cases hk41 : o31.1 = 1
            · rw [if_pos hk41] at hf
              obtain ⟨hm42, hf⟩ := xmoE hf
              have hFc := xm_free hD hS hA
              refine xx_thr (vx_runV (C := "ValueBenchModel") (As := [xv vad c1, xv vad c2]) (rest := []) ⟨hx, hb, hml, hown, htx⟩ (gM_without_1 l hl9 D cT aK aV s.heap.size d n aM ad rd gd vad st c1 c2 o31 hq32 hk41) ⟨callB_of 2 htx (xw_goodC kw_6_211) rfl rfl rfl (htx _ kw_1_5) (htx _ kw_6_208) ⟨by decide, by decide, by decide +kernel⟩ ⟨(by show (16 * d + 8) + 1 ≤ 16 * d + 9; omega), (by show 8 + (7 + 11) + (400 * d + 147) ≤ 400 * d + 174; omega)⟩, (htx _ kw_6_210), (htx _ kp_M_without)⟩ ⟨xPre_blind, va_recv hK hP (ci := 5) rfl (q0 := 0) rfl, (fun U hU hW => ⟨rfl, xPre_of hZ hS hFc hP hD hK U hU hW⟩)⟩ rfl rfl hl.1 rfl (xm_room (Nat.le_of_ble_eq_true rfl)) dM_binary1_88 ⟨hm42.1, hm42.2⟩) hS hFc (fun q _ h => hFc q h) (fun E ce q9 u9 t H1 locs ht hvm hr9 hB hz1 hk1 hS hce hcv hcl => ?_)
              obtain ⟨rfl, hP1, hK1, hD1⟩ := hB
              rw [ht] at hP1
              obtain ⟨ad44, gd45, vad46⟩ := u9
              obtain ⟨hv47, hn48⟩ := hr9
              have hP : va_P D xcl (xMw cT aM ad44 rd gd45 vad46 o31.2.2.2.2 []) H1 := hP1
              have hD : va_D A (xMw cT aM ad44 rd gd45 vad46 o31.2.2.2.2 []) := hD1.weaken (fun k q _ h => hFc q.1 h)
              generalize H1 = H at hP hS hce ⊢
              have hE9 : ∀ p, p < xct st → vad46 p = vad p := fun p h => (hv47 p (Nat.lt_of_lt_of_le h hN)).trans (hE p h)
              have hE := hE9
              have hN : xct st ≤ xct o31.2.2.2.2 := Nat.le_trans hN hn48
              obtain rfl := Option.some.inj hf
              exact vx_out (E := "java/lang/IndexOutOfBoundsException") (fun x h => (hne x h).elim) hlocks hce hcv hcl (fun t ht ha => ⟨(ad44, gd45, vad46), ⟨hE, hN⟩, ⟨rfl, by rw [ht]; exact hP, va_K.moved ha hK, hD⟩, hS.F ht⟩) hS.2.2 (Nat.le_refl _) (Nat.le_refl _)
            rw [if_neg hk41] at hf
            exact nomatch hf
      · rw [if_pos hc] at hf
        refine lv_aload_n hx hb dM_binary1_55 rfl (lv_at hl 0 rfl) ?_
        refine xm_aload_n hx hb (xvor _ _) dM_binary1_56 rfl (lv_at hl 2 rfl) ?_
        refine xm_vget (v := .long ((xpl st) (c1 - 1))) hx hb htx hown hK hP 1 (by decide) hg29 rfl ((hZ.1 (96, "n", "J") (List.mem_of_getElem? (i := 1) rfl)).use rfl) rfl dM_binary1_57 ?_
        refine xm_aload_n hx hb (xvor _ _) dM_binary1_60 rfl (lv_at hl 3 rfl) ?_
        refine xm_vget (v := .long ((xpl st) (c2 - 1))) hx hb htx hown hK hP 1 (by decide) hg30 rfl ((hZ.1 (96, "n", "J") (List.mem_of_getElem? (i := 1) rfl)).use rfl) rfl dM_binary1_61 ?_
        refine lv_lsub hx hb dM_binary1_64 ?_
        obtain ⟨o31, hq32, hf⟩ := xbind hf
        have hl := lv_sub (l' := [(0, .ref aM), (1, .int x0)]) hl [0, 1] rfl
        by_cases hk33 : o31.1 = 0
        · rw [if_pos hk33] at hf
          obtain ⟨hm34, hf⟩ := xmoE hf
          have hFc := xm_free hD hS hA
          refine va_callq (va_runV (C := "ValueBenchModel") (As := [.long (((xpl st) (c1 - 1)) - ((xpl st) (c2 - 1)))]) (rest := []) ⟨hx, hb, hml, hown, htx⟩ (gM_number l hl9 D cT aK aV s.heap.size n aM ad rd gd vad st (((xpl st) (c1 - 1)) - ((xpl st) (c2 - 1))) o31 hq32 hk33) ⟨callB_of 1 htx (xw_goodC kw_6_88) rfl rfl rfl (htx _ kw_1_5) (htx _ kw_6_85) ⟨by decide, by decide, by decide +kernel⟩ ⟨Nat.le_of_ble_eq_true rfl, Nat.le_of_ble_eq_true rfl⟩, (htx _ kw_6_87), (htx _ kp_M_number)⟩ ⟨xPre_blind, va_recv hK hP (ci := 5) rfl (q0 := 0) rfl, (fun U hU hW => ⟨rfl, xPre_of hZ hS hFc hP hD hK U hU hW⟩)⟩ rfl rfl hl.1 rfl (xm_room (Nat.le_of_ble_eq_true rfl)) dM_binary1_65 ⟨hm34.1, hm34.2⟩) hS (fun q _ h => hFc q h) hFc (fun r35 u9 t H1 locs ht hvm hr9 hB hz1 hk1 hS => ?_)
          obtain ⟨hP1, hK1, hD1⟩ := hB
          rw [ht] at hP1
          obtain ⟨ad36, gd37, vad38⟩ := u9
          obtain ⟨hr9, hv39, hn40⟩ := hr9
          have hP : va_P D xcl (xMw cT aM ad36 rd gd37 vad38 o31.2.2.2.2 []) H1 := hP1
          have hD : va_D A (xMw cT aM ad36 rd gd37 vad38 o31.2.2.2.2 []) := hD1.weaken (fun k q _ h => hFc q.1 h)
          generalize H1 = H at hP hS ⊢
          have hE9 : ∀ p, p < xct st → vad38 p = vad p := fun p h => (hv39 p (Nat.lt_of_lt_of_le h hN)).trans (hE p h)
          have hE := hE9
          have hN : xct st ≤ xct o31.2.2.2.2 := Nat.le_trans hN hn40
          rw [hr9]
          refine W.eq (g2 := F0 m 68 ls [xv vad38 o31.2.2.2.1]) (by first | rfl | (skip; rfl)) ?_
          obtain rfl := Option.some.inj hf
          exact absurd (show (0 : Nat) = 2 from hkd) (by decide)
        rw [if_neg hk33] at hf
        by_cases hk41 : o31.1 = 1
        · rw [if_pos hk41] at hf
          obtain ⟨hm42, hf⟩ := xmoE hf
          obtain rfl := Option.some.inj hf
          exact absurd (show (1 : Nat) = 2 from hkd) (by decide)
        rw [if_neg hk41] at hf
        exact nomatch hf
  rw [if_neg hc28] at hf
  by_cases hc30 : x0 = 2
  · rw [if_pos hc30] at hf
    refine lv_tableIn (off := 99) (tgt := 100) hx hb dM_binary1_1 (by rw [hc30]; decide) (by rw [hc30]; decide) (by rw [hc30]; decide) (by decide) ?_
    refine lv_aload_n hx hb dM_binary1_100 rfl (lv_at hl 0 rfl) ?_
    refine xm_aload_n hx hb (xvor _ _) dM_binary1_101 rfl (lv_at hl 2 rfl) ?_
    refine xm_aload_n hx hb (xvor _ _) dM_binary1_102 rfl (lv_at hl 3 rfl) ?_
    obtain ⟨o31, hq32, hf⟩ := xbind hf
    have hl := lv_sub (l' := [(0, .ref aM), (1, .int x0)]) hl [0, 1] rfl
    by_cases hk33 : o31.1 = 0
    · rw [if_pos hk33] at hf
      obtain ⟨hm34, hf⟩ := xmoE hf
      have hFc := xm_free hD hS hA
      refine va_callq (va_runV (C := "ValueBenchModel") (As := [xv vad c1, xv vad c2]) (rest := []) ⟨hx, hb, hml, hown, htx⟩ ((gM_times l hl9 D cT aK aV d s.heap.size n aM ad rd gd vad st c1 c2 o31 hq32).1 hk33) ⟨callB_of 2 htx (xw_goodC kw_6_215) rfl rfl rfl (htx _ kw_1_5) (htx _ kw_6_212) ⟨by decide, by decide, by decide +kernel⟩ ⟨(by show (16 * d) + 1 ≤ 16 * d + 9; omega), (by show 8 + (7 + 11) + (400 * d) ≤ 400 * d + 174; omega)⟩, (htx _ kw_6_214), (htx _ kp_M_times)⟩ ⟨xPre_blind, va_recv hK hP (ci := 5) rfl (q0 := 0) rfl, (fun U hU hW => ⟨rfl, xPre_of hZ hS hFc hP hD hK U hU hW⟩)⟩ rfl rfl hl.1 rfl (xm_room (Nat.le_of_ble_eq_true rfl)) dM_binary1_103 ⟨hm34.1, hm34.2⟩) hS (fun q _ h => hFc q h) hFc (fun r35 u9 t H1 locs ht hvm hr9 hB hz1 hk1 hS => ?_)
      obtain ⟨hP1, hK1, hD1⟩ := hB
      rw [ht] at hP1
      obtain ⟨ad36, gd37, vad38⟩ := u9
      obtain ⟨hr9, hv39, hn40⟩ := hr9
      have hP : va_P D xcl (xMw cT aM ad36 rd gd37 vad38 o31.2.2.2.2 []) H1 := hP1
      have hD : va_D A (xMw cT aM ad36 rd gd37 vad38 o31.2.2.2.2 []) := hD1.weaken (fun k q _ h => hFc q.1 h)
      generalize H1 = H at hP hS ⊢
      have hE9 : ∀ p, p < xct st → vad38 p = vad p := fun p h => (hv39 p (Nat.lt_of_lt_of_le h hN)).trans (hE p h)
      have hE := hE9
      have hN : xct st ≤ xct o31.2.2.2.2 := Nat.le_trans hN hn40
      rw [hr9]
      refine W.eq (g2 := F0 m 106 ls [xv vad38 o31.2.2.2.1]) (by first | rfl | (skip; rfl)) ?_
      obtain rfl := Option.some.inj hf
      exact absurd (show (0 : Nat) = 2 from hkd) (by decide)
    rw [if_neg hk33] at hf
    by_cases hk41 : o31.1 = 1
    · rw [if_pos hk41] at hf
      obtain ⟨hm42, hf⟩ := xmoE hf
      obtain rfl := Option.some.inj hf
      exact absurd (show (1 : Nat) = 2 from hkd) (by decide)
    rw [if_neg hk41] at hf
    by_cases hk49 : o31.1 = 2
    · rw [if_pos hk49] at hf
      obtain ⟨hm50, hf⟩ := xmoE hf
      have hFc := xm_free hD hS hA
      refine xx_thr (vx_runV (C := "ValueBenchModel") (As := [xv vad c1, xv vad c2]) (rest := []) ⟨hx, hb, hml, hown, htx⟩ ((gM_times l hl9 D cT aK aV d s.heap.size n aM ad rd gd vad st c1 c2 o31 hq32).2.2 hk49) ⟨callB_of 2 htx (xw_goodC kw_6_215) rfl rfl rfl (htx _ kw_1_5) (htx _ kw_6_212) ⟨by decide, by decide, by decide +kernel⟩ ⟨(by show (16 * d) + 1 ≤ 16 * d + 9; omega), (by show 8 + (7 + 11) + (400 * d) ≤ 400 * d + 174; omega)⟩, (htx _ kw_6_214), (htx _ kp_M_times)⟩ ⟨xPre_blind, va_recv hK hP (ci := 5) rfl (q0 := 0) rfl, (fun U hU hW => ⟨rfl, xPre_of hZ hS hFc hP hD hK U hU hW⟩)⟩ rfl rfl hl.1 rfl (xm_room (Nat.le_of_ble_eq_true rfl)) dM_binary1_103 ⟨hm50.1, hm50.2⟩) hS hFc (fun q _ h => hFc q h) (fun E ce q9 u9 t H1 locs ht hvm hr9 hB hz1 hk1 hS hce hcv hcl => ?_)
      obtain ⟨rfl, hP1, hK1, hD1⟩ := hB
      rw [ht] at hP1
      obtain ⟨ad52, gd53, vad54⟩ := u9
      obtain ⟨hv55, hn56⟩ := hr9
      have hP : va_P D xcl (xMw cT aM ad52 rd gd53 vad54 o31.2.2.2.2 []) H1 := hP1
      have hD : va_D A (xMw cT aM ad52 rd gd53 vad54 o31.2.2.2.2 []) := hD1.weaken (fun k q _ h => hFc q.1 h)
      generalize H1 = H at hP hS hce ⊢
      have hE9 : ∀ p, p < xct st → vad54 p = vad p := fun p h => (hv55 p (Nat.lt_of_lt_of_le h hN)).trans (hE p h)
      have hE := hE9
      have hN : xct st ≤ xct o31.2.2.2.2 := Nat.le_trans hN hn56
      obtain rfl := Option.some.inj hf
      exact vx_out (E := "java/lang/IndexOutOfBoundsException") (fun x h => (hne x h).elim) hlocks hce hcv hcl (fun t ht ha => ⟨(ad52, gd53, vad54), ⟨hE, hN⟩, ⟨rfl, by rw [ht]; exact hP, va_K.moved ha hK, hD⟩, hS.F ht⟩) hS.2.2 (Nat.le_refl _) (Nat.le_refl _)
    rw [if_neg hk49] at hf
    exact nomatch hf
  rw [if_neg hc30] at hf
  by_cases hc57 : x0 = 3
  · rw [if_pos hc57] at hf
    refine lv_tableIn (off := 106) (tgt := 107) hx hb dM_binary1_1 (by rw [hc57]; decide) (by rw [hc57]; decide) (by rw [hc57]; decide) (by decide) ?_
    refine xm_aload_n hx hb (xvor _ _) dM_binary1_107 rfl (lv_at hl 2 rfl) ?_
    obtain ⟨hg58, hf⟩ := xifn hf
    refine xm_vget (v := .int ((xpi st 0) (c1 - 1))) hx hb htx hown hK hP 0 (by decide) hg58 rfl ((hZ.1 (93, "kind", "I") (List.mem_of_getElem? (i := 0) rfl)).use rfl) rfl dM_binary1_108 ?_
    refine lv_iconst (v := 4) hx hb dM_binary1_111 (by decide) ?_
    refine lv_icmp_ne (tgt := 130) hx hb dM_binary1_112 (by decide) (fun hc => ?_) (fun hc => ?_)
    · rw [if_neg hc] at hf
      refine xm_aload_n hx hb (xvor _ _) dM_binary1_130 rfl (lv_at hl 2 rfl) ?_
      refine xm_vget (v := .int ((xpi st 0) (c1 - 1))) hx hb htx hown hK hP 0 (by decide) hg58 rfl ((hZ.1 (93, "kind", "I") (List.mem_of_getElem? (i := 0) rfl)).use rfl) rfl dM_binary1_131 ?_
      refine lv_iconst (v := 3) hx hb dM_binary1_134 (by decide) ?_
      refine lv_icmp_ne (tgt := 146) hx hb dM_binary1_135 (by decide) (fun hc => ?_) (fun hc => ?_)
      · rw [if_neg hc] at hf
        refine lv_aload_n hx hb dM_binary1_146 rfl (lv_at hl 0 rfl) ?_
        refine lv_iconst (v := 1) hx hb dM_binary1_147 (by decide) ?_
        obtain ⟨o59, hq60, hf⟩ := xbind hf
        have hl := lv_sub (l' := [(0, .ref aM), (1, .int x0)]) hl [0, 1] rfl
        by_cases hk61 : o59.1 = 1
        · rw [if_pos hk61] at hf
          obtain ⟨hm62, hf⟩ := xmoE hf
          obtain rfl := Option.some.inj hf
          exact absurd (show (1 : Nat) = 2 from hkd) (by decide)
        rw [if_neg hk61] at hf
        exact nomatch hf
      · rw [if_pos hc] at hf
        refine xm_aload_n hx hb (xvor _ _) dM_binary1_138 rfl (lv_at hl 3 rfl) ?_
        obtain ⟨hg59, hf⟩ := xifn hf
        refine xm_vget (v := .int ((xpi st 0) (c2 - 1))) hx hb htx hown hK hP 0 (by decide) hg59 rfl ((hZ.1 (93, "kind", "I") (List.mem_of_getElem? (i := 0) rfl)).use rfl) rfl dM_binary1_139 ?_
        refine lv_iconst (v := 3) hx hb dM_binary1_142 (by decide) ?_
        refine lv_icmp_eq (tgt := 152) hx hb dM_binary1_143 (by decide) (fun hc => ?_) (fun hc => ?_)
        · rw [if_pos hc] at hf
          refine xm_aload_n hx hb (xvor _ _) dM_binary1_152 rfl (lv_at hl 3 rfl) ?_
          refine xm_vget (v := .long ((xpl st) (c2 - 1))) hx hb htx hown hK hP 1 (by decide) hg59 rfl ((hZ.1 (96, "n", "J") (List.mem_of_getElem? (i := 1) rfl)).use rfl) rfl dM_binary1_153 ?_
          refine lv_lconst (v := 0) hx hb dM_binary1_156 (by decide) ?_
          refine W.lcmp hx hb dM_binary1_157 ?_
          refine lv_if_ne (tgt := 169) hx hb dM_binary1_158 (by decide) (fun hc => ?_) (fun hc => ?_)
          · rw [if_neg hc] at hf
            refine lv_aload_n hx hb dM_binary1_169 rfl (lv_at hl 0 rfl) ?_
            refine xm_aload_n hx hb (xvor _ _) dM_binary1_170 rfl (lv_at hl 2 rfl) ?_
            refine xm_vget (v := .long ((xpl st) (c1 - 1))) hx hb htx hown hK hP 1 (by decide) hg58 rfl ((hZ.1 (96, "n", "J") (List.mem_of_getElem? (i := 1) rfl)).use rfl) rfl dM_binary1_171 ?_
            refine xm_aload_n hx hb (xvor _ _) dM_binary1_174 rfl (lv_at hl 3 rfl) ?_
            refine xm_vget (v := .long ((xpl st) (c2 - 1))) hx hb htx hown hK hP 1 (by decide) hg59 rfl ((hZ.1 (96, "n", "J") (List.mem_of_getElem? (i := 1) rfl)).use rfl) rfl dM_binary1_175 ?_
            obtain ⟨hg60, hf⟩ := xifn hf
            refine lv_ldiv hx hb dM_binary1_178 hg60 ?_
            obtain ⟨o61, hq62, hf⟩ := xbind hf
            have hl := lv_sub (l' := [(0, .ref aM), (1, .int x0)]) hl [0, 1] rfl
            by_cases hk63 : o61.1 = 0
            · rw [if_pos hk63] at hf
              obtain ⟨hm64, hf⟩ := xmoE hf
              have hFc := xm_free hD hS hA
              refine va_callq (va_runV (C := "ValueBenchModel") (As := [.long (((xpl st) (c1 - 1)) / ((xpl st) (c2 - 1)))]) (rest := []) ⟨hx, hb, hml, hown, htx⟩ (gM_number l hl9 D cT aK aV s.heap.size n aM ad rd gd vad st (((xpl st) (c1 - 1)) / ((xpl st) (c2 - 1))) o61 hq62 hk63) ⟨callB_of 1 htx (xw_goodC kw_6_88) rfl rfl rfl (htx _ kw_1_5) (htx _ kw_6_85) ⟨by decide, by decide, by decide +kernel⟩ ⟨Nat.le_of_ble_eq_true rfl, Nat.le_of_ble_eq_true rfl⟩, (htx _ kw_6_87), (htx _ kp_M_number)⟩ ⟨xPre_blind, va_recv hK hP (ci := 5) rfl (q0 := 0) rfl, (fun U hU hW => ⟨rfl, xPre_of hZ hS hFc hP hD hK U hU hW⟩)⟩ rfl rfl hl.1 rfl (xm_room (Nat.le_of_ble_eq_true rfl)) dM_binary1_179 ⟨hm64.1, hm64.2⟩) hS (fun q _ h => hFc q h) hFc (fun r65 u9 t H1 locs ht hvm hr9 hB hz1 hk1 hS => ?_)
              obtain ⟨hP1, hK1, hD1⟩ := hB
              rw [ht] at hP1
              obtain ⟨ad66, gd67, vad68⟩ := u9
              obtain ⟨hr9, hv69, hn70⟩ := hr9
              have hP : va_P D xcl (xMw cT aM ad66 rd gd67 vad68 o61.2.2.2.2 []) H1 := hP1
              have hD : va_D A (xMw cT aM ad66 rd gd67 vad68 o61.2.2.2.2 []) := hD1.weaken (fun k q _ h => hFc q.1 h)
              generalize H1 = H at hP hS ⊢
              have hE9 : ∀ p, p < xct st → vad68 p = vad p := fun p h => (hv69 p (Nat.lt_of_lt_of_le h hN)).trans (hE p h)
              have hE := hE9
              have hN : xct st ≤ xct o61.2.2.2.2 := Nat.le_trans hN hn70
              rw [hr9]
              refine W.eq (g2 := F0 m 182 ls [xv vad68 o61.2.2.2.1]) (by first | rfl | (skip; rfl)) ?_
              obtain rfl := Option.some.inj hf
              exact absurd (show (0 : Nat) = 2 from hkd) (by decide)
            rw [if_neg hk63] at hf
            by_cases hk71 : o61.1 = 1
            · rw [if_pos hk71] at hf
              obtain ⟨hm72, hf⟩ := xmoE hf
              obtain rfl := Option.some.inj hf
              exact absurd (show (1 : Nat) = 2 from hkd) (by decide)
            rw [if_neg hk71] at hf
            exact nomatch hf
          · rw [if_pos hc] at hf
            refine lv_aload_n hx hb dM_binary1_161 rfl (lv_at hl 0 rfl) ?_
            refine lv_iconst (v := 3) hx hb dM_binary1_162 (by decide) ?_
            obtain ⟨o60, hq61, hf⟩ := xbind hf
            have hl := lv_sub (l' := [(0, .ref aM), (1, .int x0)]) hl [0, 1] rfl
            by_cases hk62 : o60.1 = 1
            · rw [if_pos hk62] at hf
              obtain ⟨hm63, hf⟩ := xmoE hf
              obtain rfl := Option.some.inj hf
              exact absurd (show (1 : Nat) = 2 from hkd) (by decide)
            rw [if_neg hk62] at hf
            exact nomatch hf
        · rw [if_neg hc] at hf
          refine lv_aload_n hx hb dM_binary1_146 rfl (lv_at hl 0 rfl) ?_
          refine lv_iconst (v := 1) hx hb dM_binary1_147 (by decide) ?_
          obtain ⟨o60, hq61, hf⟩ := xbind hf
          have hl := lv_sub (l' := [(0, .ref aM), (1, .int x0)]) hl [0, 1] rfl
          by_cases hk62 : o60.1 = 1
          · rw [if_pos hk62] at hf
            obtain ⟨hm63, hf⟩ := xmoE hf
            obtain rfl := Option.some.inj hf
            exact absurd (show (1 : Nat) = 2 from hkd) (by decide)
          rw [if_neg hk62] at hf
          exact nomatch hf
    · rw [if_pos hc] at hf
      refine xm_aload_n hx hb (xvor _ _) dM_binary1_115 rfl (lv_at hl 3 rfl) ?_
      obtain ⟨hg59, hf⟩ := xifn hf
      refine xm_vget (v := .int ((xpi st 0) (c2 - 1))) hx hb htx hown hK hP 0 (by decide) hg59 rfl ((hZ.1 (93, "kind", "I") (List.mem_of_getElem? (i := 0) rfl)).use rfl) rfl dM_binary1_116 ?_
      refine lv_iconst (v := 4) hx hb dM_binary1_119 (by decide) ?_
      refine lv_icmp_ne (tgt := 130) hx hb dM_binary1_120 (by decide) (fun hc => ?_) (fun hc => ?_)
      · rw [if_neg hc] at hf
        refine xm_aload_n hx hb (xvor _ _) dM_binary1_130 rfl (lv_at hl 2 rfl) ?_
        refine xm_vget (v := .int ((xpi st 0) (c1 - 1))) hx hb htx hown hK hP 0 (by decide) hg58 rfl ((hZ.1 (93, "kind", "I") (List.mem_of_getElem? (i := 0) rfl)).use rfl) rfl dM_binary1_131 ?_
        refine lv_iconst (v := 3) hx hb dM_binary1_134 (by decide) ?_
        refine lv_icmp_ne (tgt := 146) hx hb dM_binary1_135 (by decide) (fun hc => ?_) (fun hc => ?_)
        · rw [if_neg hc] at hf
          refine lv_aload_n hx hb dM_binary1_146 rfl (lv_at hl 0 rfl) ?_
          refine lv_iconst (v := 1) hx hb dM_binary1_147 (by decide) ?_
          obtain ⟨o60, hq61, hf⟩ := xbind hf
          have hl := lv_sub (l' := [(0, .ref aM), (1, .int x0)]) hl [0, 1] rfl
          by_cases hk62 : o60.1 = 1
          · rw [if_pos hk62] at hf
            obtain ⟨hm63, hf⟩ := xmoE hf
            obtain rfl := Option.some.inj hf
            exact absurd (show (1 : Nat) = 2 from hkd) (by decide)
          rw [if_neg hk62] at hf
          exact nomatch hf
        · rw [if_pos hc] at hf
          refine xm_aload_n hx hb (xvor _ _) dM_binary1_138 rfl (lv_at hl 3 rfl) ?_
          refine xm_vget (v := .int ((xpi st 0) (c2 - 1))) hx hb htx hown hK hP 0 (by decide) hg59 rfl ((hZ.1 (93, "kind", "I") (List.mem_of_getElem? (i := 0) rfl)).use rfl) rfl dM_binary1_139 ?_
          refine lv_iconst (v := 3) hx hb dM_binary1_142 (by decide) ?_
          refine lv_icmp_eq (tgt := 152) hx hb dM_binary1_143 (by decide) (fun hc => ?_) (fun hc => ?_)
          · rw [if_pos hc] at hf
            refine xm_aload_n hx hb (xvor _ _) dM_binary1_152 rfl (lv_at hl 3 rfl) ?_
            refine xm_vget (v := .long ((xpl st) (c2 - 1))) hx hb htx hown hK hP 1 (by decide) hg59 rfl ((hZ.1 (96, "n", "J") (List.mem_of_getElem? (i := 1) rfl)).use rfl) rfl dM_binary1_153 ?_
            refine lv_lconst (v := 0) hx hb dM_binary1_156 (by decide) ?_
            refine W.lcmp hx hb dM_binary1_157 ?_
            refine lv_if_ne (tgt := 169) hx hb dM_binary1_158 (by decide) (fun hc => ?_) (fun hc => ?_)
            · rw [if_neg hc] at hf
              refine lv_aload_n hx hb dM_binary1_169 rfl (lv_at hl 0 rfl) ?_
              refine xm_aload_n hx hb (xvor _ _) dM_binary1_170 rfl (lv_at hl 2 rfl) ?_
              refine xm_vget (v := .long ((xpl st) (c1 - 1))) hx hb htx hown hK hP 1 (by decide) hg58 rfl ((hZ.1 (96, "n", "J") (List.mem_of_getElem? (i := 1) rfl)).use rfl) rfl dM_binary1_171 ?_
              refine xm_aload_n hx hb (xvor _ _) dM_binary1_174 rfl (lv_at hl 3 rfl) ?_
              refine xm_vget (v := .long ((xpl st) (c2 - 1))) hx hb htx hown hK hP 1 (by decide) hg59 rfl ((hZ.1 (96, "n", "J") (List.mem_of_getElem? (i := 1) rfl)).use rfl) rfl dM_binary1_175 ?_
              obtain ⟨hg60, hf⟩ := xifn hf
              refine lv_ldiv hx hb dM_binary1_178 hg60 ?_
              obtain ⟨o61, hq62, hf⟩ := xbind hf
              have hl := lv_sub (l' := [(0, .ref aM), (1, .int x0)]) hl [0, 1] rfl
              by_cases hk63 : o61.1 = 0
              · rw [if_pos hk63] at hf
                obtain ⟨hm64, hf⟩ := xmoE hf
                have hFc := xm_free hD hS hA
                refine va_callq (va_runV (C := "ValueBenchModel") (As := [.long (((xpl st) (c1 - 1)) / ((xpl st) (c2 - 1)))]) (rest := []) ⟨hx, hb, hml, hown, htx⟩ (gM_number l hl9 D cT aK aV s.heap.size n aM ad rd gd vad st (((xpl st) (c1 - 1)) / ((xpl st) (c2 - 1))) o61 hq62 hk63) ⟨callB_of 1 htx (xw_goodC kw_6_88) rfl rfl rfl (htx _ kw_1_5) (htx _ kw_6_85) ⟨by decide, by decide, by decide +kernel⟩ ⟨Nat.le_of_ble_eq_true rfl, Nat.le_of_ble_eq_true rfl⟩, (htx _ kw_6_87), (htx _ kp_M_number)⟩ ⟨xPre_blind, va_recv hK hP (ci := 5) rfl (q0 := 0) rfl, (fun U hU hW => ⟨rfl, xPre_of hZ hS hFc hP hD hK U hU hW⟩)⟩ rfl rfl hl.1 rfl (xm_room (Nat.le_of_ble_eq_true rfl)) dM_binary1_179 ⟨hm64.1, hm64.2⟩) hS (fun q _ h => hFc q h) hFc (fun r65 u9 t H1 locs ht hvm hr9 hB hz1 hk1 hS => ?_)
                obtain ⟨hP1, hK1, hD1⟩ := hB
                rw [ht] at hP1
                obtain ⟨ad66, gd67, vad68⟩ := u9
                obtain ⟨hr9, hv69, hn70⟩ := hr9
                have hP : va_P D xcl (xMw cT aM ad66 rd gd67 vad68 o61.2.2.2.2 []) H1 := hP1
                have hD : va_D A (xMw cT aM ad66 rd gd67 vad68 o61.2.2.2.2 []) := hD1.weaken (fun k q _ h => hFc q.1 h)
                generalize H1 = H at hP hS ⊢
                have hE9 : ∀ p, p < xct st → vad68 p = vad p := fun p h => (hv69 p (Nat.lt_of_lt_of_le h hN)).trans (hE p h)
                have hE := hE9
                have hN : xct st ≤ xct o61.2.2.2.2 := Nat.le_trans hN hn70
                rw [hr9]
                refine W.eq (g2 := F0 m 182 ls [xv vad68 o61.2.2.2.1]) (by first | rfl | (skip; rfl)) ?_
                obtain rfl := Option.some.inj hf
                exact absurd (show (0 : Nat) = 2 from hkd) (by decide)
              rw [if_neg hk63] at hf
              by_cases hk71 : o61.1 = 1
              · rw [if_pos hk71] at hf
                obtain ⟨hm72, hf⟩ := xmoE hf
                obtain rfl := Option.some.inj hf
                exact absurd (show (1 : Nat) = 2 from hkd) (by decide)
              rw [if_neg hk71] at hf
              exact nomatch hf
            · rw [if_pos hc] at hf
              refine lv_aload_n hx hb dM_binary1_161 rfl (lv_at hl 0 rfl) ?_
              refine lv_iconst (v := 3) hx hb dM_binary1_162 (by decide) ?_
              obtain ⟨o60, hq61, hf⟩ := xbind hf
              have hl := lv_sub (l' := [(0, .ref aM), (1, .int x0)]) hl [0, 1] rfl
              by_cases hk62 : o60.1 = 1
              · rw [if_pos hk62] at hf
                obtain ⟨hm63, hf⟩ := xmoE hf
                obtain rfl := Option.some.inj hf
                exact absurd (show (1 : Nat) = 2 from hkd) (by decide)
              rw [if_neg hk62] at hf
              exact nomatch hf
          · rw [if_neg hc] at hf
            refine lv_aload_n hx hb dM_binary1_146 rfl (lv_at hl 0 rfl) ?_
            refine lv_iconst (v := 1) hx hb dM_binary1_147 (by decide) ?_
            obtain ⟨o60, hq61, hf⟩ := xbind hf
            have hl := lv_sub (l' := [(0, .ref aM), (1, .int x0)]) hl [0, 1] rfl
            by_cases hk62 : o60.1 = 1
            · rw [if_pos hk62] at hf
              obtain ⟨hm63, hf⟩ := xmoE hf
              obtain rfl := Option.some.inj hf
              exact absurd (show (1 : Nat) = 2 from hkd) (by decide)
            rw [if_neg hk62] at hf
            exact nomatch hf
      · rw [if_pos hc] at hf
        refine lv_aload_n hx hb dM_binary1_123 rfl (lv_at hl 0 rfl) ?_
        refine xm_aload_n hx hb (xvor _ _) dM_binary1_124 rfl (lv_at hl 2 rfl) ?_
        refine xm_aload_n hx hb (xvor _ _) dM_binary1_125 rfl (lv_at hl 3 rfl) ?_
        obtain ⟨o60, hq61, hf⟩ := xbind hf
        have hl := lv_sub (l' := [(0, .ref aM), (1, .int x0)]) hl [0, 1] rfl
        by_cases hk62 : o60.1 = 0
        · rw [if_pos hk62] at hf
          obtain ⟨hm63, hf⟩ := xmoE hf
          have hFc := xm_free hD hS hA
          refine va_callq (va_runV (C := "ValueBenchModel") (As := [xv vad c1, xv vad c2]) (rest := []) ⟨hx, hb, hml, hown, htx⟩ (gM_split l hl9 D cT aK aV s.heap.size n aM ad rd gd vad st c1 c2 o60 hq61 hk62) ⟨callB_of 2 htx (xw_goodC kw_6_225) rfl rfl rfl (htx _ kw_1_5) (htx _ kw_6_222) ⟨by decide, by decide, by decide +kernel⟩ ⟨Nat.le_of_ble_eq_true rfl, Nat.le_of_ble_eq_true rfl⟩, (htx _ kw_6_224), (htx _ kp_M_split)⟩ ⟨xPre_blind, va_recv hK hP (ci := 5) rfl (q0 := 0) rfl, (fun U hU hW => ⟨rfl, xPre_of hZ hS hFc hP hD hK U hU hW⟩)⟩ rfl rfl hl.1 rfl (xm_room (Nat.le_of_ble_eq_true rfl)) dM_binary1_126 ⟨hm63.1, hm63.2⟩) hS (fun q _ h => hFc q h) hFc (fun r64 u9 t H1 locs ht hvm hr9 hB hz1 hk1 hS => ?_)
          obtain ⟨hP1, hK1, hD1⟩ := hB
          rw [ht] at hP1
          obtain ⟨ad65, gd66, vad67⟩ := u9
          obtain ⟨hr9, hv68, hn69⟩ := hr9
          have hP : va_P D xcl (xMw cT aM ad65 rd gd66 vad67 o60.2.2.2.2 []) H1 := hP1
          have hD : va_D A (xMw cT aM ad65 rd gd66 vad67 o60.2.2.2.2 []) := hD1.weaken (fun k q _ h => hFc q.1 h)
          generalize H1 = H at hP hS ⊢
          have hE9 : ∀ p, p < xct st → vad67 p = vad p := fun p h => (hv68 p (Nat.lt_of_lt_of_le h hN)).trans (hE p h)
          have hE := hE9
          have hN : xct st ≤ xct o60.2.2.2.2 := Nat.le_trans hN hn69
          rw [hr9]
          refine W.eq (g2 := F0 m 129 ls [xv vad67 o60.2.2.2.1]) (by first | rfl | (skip; rfl)) ?_
          obtain rfl := Option.some.inj hf
          exact absurd (show (0 : Nat) = 2 from hkd) (by decide)
        rw [if_neg hk62] at hf
        by_cases hk70 : o60.1 = 1
        · rw [if_pos hk70] at hf
          obtain ⟨hm71, hf⟩ := xmoE hf
          have hFc := xm_free hD hS hA
          refine xx_thr (vx_runV (C := "ValueBenchModel") (As := [xv vad c1, xv vad c2]) (rest := []) ⟨hx, hb, hml, hown, htx⟩ (gM_split_1 l hl9 D cT aK aV s.heap.size n aM ad rd gd vad st c1 c2 o60 hq61 hk70) ⟨callB_of 2 htx (xw_goodC kw_6_225) rfl rfl rfl (htx _ kw_1_5) (htx _ kw_6_222) ⟨by decide, by decide, by decide +kernel⟩ ⟨Nat.le_of_ble_eq_true rfl, Nat.le_of_ble_eq_true rfl⟩, (htx _ kw_6_224), (htx _ kp_M_split)⟩ ⟨xPre_blind, va_recv hK hP (ci := 5) rfl (q0 := 0) rfl, (fun U hU hW => ⟨rfl, xPre_of hZ hS hFc hP hD hK U hU hW⟩)⟩ rfl rfl hl.1 rfl (xm_room (Nat.le_of_ble_eq_true rfl)) dM_binary1_126 ⟨hm71.1, hm71.2⟩) hS hFc (fun q _ h => hFc q h) (fun E ce q9 u9 t H1 locs ht hvm hr9 hB hz1 hk1 hS hce hcv hcl => ?_)
          obtain ⟨rfl, hP1, hK1, hD1⟩ := hB
          rw [ht] at hP1
          obtain ⟨ad73, gd74, vad75⟩ := u9
          obtain ⟨hv76, hn77⟩ := hr9
          have hP : va_P D xcl (xMw cT aM ad73 rd gd74 vad75 o60.2.2.2.2 []) H1 := hP1
          have hD : va_D A (xMw cT aM ad73 rd gd74 vad75 o60.2.2.2.2 []) := hD1.weaken (fun k q _ h => hFc q.1 h)
          generalize H1 = H at hP hS hce ⊢
          have hE9 : ∀ p, p < xct st → vad75 p = vad p := fun p h => (hv76 p (Nat.lt_of_lt_of_le h hN)).trans (hE p h)
          have hE := hE9
          have hN : xct st ≤ xct o60.2.2.2.2 := Nat.le_trans hN hn77
          obtain rfl := Option.some.inj hf
          exact vx_out (E := "java/lang/IndexOutOfBoundsException") (fun x h => (hne x h).elim) hlocks hce hcv hcl (fun t ht ha => ⟨(ad73, gd74, vad75), ⟨hE, hN⟩, ⟨rfl, by rw [ht]; exact hP, va_K.moved ha hK, hD⟩, hS.F ht⟩) hS.2.2 (Nat.le_refl _) (Nat.le_refl _)
        rw [if_neg hk70] at hf
        exact nomatch hf
  rw [if_neg hc57] at hf
  refine lv_tableOut (tgt := 183) hx hb dM_binary1_1 (by have e0 : x0.toInt ≠ 0 := xsw hc1 (by decide); have e1 : x0.toInt ≠ 1 := xsw hc28 (by decide); have e2 : x0.toInt ≠ 2 := xsw hc30 (by decide); have e3 : x0.toInt ≠ 3 := xsw hc57 (by decide); omega) (by decide) ?_
  refine xm_aload_n hx hb (xvor _ _) dM_binary1_183 rfl (lv_at hl 2 rfl) ?_
  obtain ⟨hg59, hf⟩ := xifn hf
  refine xm_vget (v := .int ((xpi st 0) (c1 - 1))) hx hb htx hown hK hP 0 (by decide) hg59 rfl ((hZ.1 (93, "kind", "I") (List.mem_of_getElem? (i := 0) rfl)).use rfl) rfl dM_binary1_184 ?_
  refine lv_iconst (v := 3) hx hb dM_binary1_187 (by decide) ?_
  refine lv_icmp_ne (tgt := 199) hx hb dM_binary1_188 (by decide) (fun hc => ?_) (fun hc => ?_)
  · rw [if_neg hc] at hf
    refine lv_aload_n hx hb dM_binary1_199 rfl (lv_at hl 0 rfl) ?_
    refine lv_iconst (v := 1) hx hb dM_binary1_200 (by decide) ?_
    obtain ⟨o60, hq61, hf⟩ := xbind hf
    have hl := lv_sub (l' := [(0, .ref aM), (1, .int x0)]) hl [0, 1] rfl
    by_cases hk62 : o60.1 = 1
    · rw [if_pos hk62] at hf
      obtain ⟨hm63, hf⟩ := xmoE hf
      obtain rfl := Option.some.inj hf
      exact absurd (show (1 : Nat) = 2 from hkd) (by decide)
    rw [if_neg hk62] at hf
    exact nomatch hf
  · rw [if_pos hc] at hf
    refine xm_aload_n hx hb (xvor _ _) dM_binary1_191 rfl (lv_at hl 3 rfl) ?_
    obtain ⟨hg60, hf⟩ := xifn hf
    refine xm_vget (v := .int ((xpi st 0) (c2 - 1))) hx hb htx hown hK hP 0 (by decide) hg60 rfl ((hZ.1 (93, "kind", "I") (List.mem_of_getElem? (i := 0) rfl)).use rfl) rfl dM_binary1_192 ?_
    refine lv_iconst (v := 3) hx hb dM_binary1_195 (by decide) ?_
    refine lv_icmp_eq (tgt := 205) hx hb dM_binary1_196 (by decide) (fun hc => ?_) (fun hc => ?_)
    · rw [if_pos hc] at hf
      refine xm_aload_n hx hb (xvor _ _) dM_binary1_205 rfl (lv_at hl 3 rfl) ?_
      refine xm_vget (v := .long ((xpl st) (c2 - 1))) hx hb htx hown hK hP 1 (by decide) hg60 rfl ((hZ.1 (96, "n", "J") (List.mem_of_getElem? (i := 1) rfl)).use rfl) rfl dM_binary1_206 ?_
      refine lv_lconst (v := 0) hx hb dM_binary1_209 (by decide) ?_
      refine W.lcmp hx hb dM_binary1_210 ?_
      refine lv_if_ne (tgt := 222) hx hb dM_binary1_211 (by decide) (fun hc => ?_) (fun hc => ?_)
      · rw [if_neg hc] at hf
        refine lv_aload_n hx hb dM_binary1_222 rfl (lv_at hl 0 rfl) ?_
        refine xm_aload_n hx hb (xvor _ _) dM_binary1_223 rfl (lv_at hl 2 rfl) ?_
        refine xm_vget (v := .long ((xpl st) (c1 - 1))) hx hb htx hown hK hP 1 (by decide) hg59 rfl ((hZ.1 (96, "n", "J") (List.mem_of_getElem? (i := 1) rfl)).use rfl) rfl dM_binary1_224 ?_
        refine xm_aload_n hx hb (xvor _ _) dM_binary1_227 rfl (lv_at hl 3 rfl) ?_
        refine xm_vget (v := .long ((xpl st) (c2 - 1))) hx hb htx hown hK hP 1 (by decide) hg60 rfl ((hZ.1 (96, "n", "J") (List.mem_of_getElem? (i := 1) rfl)).use rfl) rfl dM_binary1_228 ?_
        obtain ⟨hg61, hf⟩ := xifn hf
        refine lv_lrem hx hb dM_binary1_231 hg61 ?_
        obtain ⟨o62, hq63, hf⟩ := xbind hf
        have hl := lv_sub (l' := [(0, .ref aM), (1, .int x0)]) hl [0, 1] rfl
        by_cases hk64 : o62.1 = 0
        · rw [if_pos hk64] at hf
          obtain ⟨hm65, hf⟩ := xmoE hf
          have hFc := xm_free hD hS hA
          refine va_callq (va_runV (C := "ValueBenchModel") (As := [.long (((xpl st) (c1 - 1)) - ((xpl st) (c1 - 1)) / ((xpl st) (c2 - 1)) * ((xpl st) (c2 - 1)))]) (rest := []) ⟨hx, hb, hml, hown, htx⟩ (gM_number l hl9 D cT aK aV s.heap.size n aM ad rd gd vad st (((xpl st) (c1 - 1)) - ((xpl st) (c1 - 1)) / ((xpl st) (c2 - 1)) * ((xpl st) (c2 - 1))) o62 hq63 hk64) ⟨callB_of 1 htx (xw_goodC kw_6_88) rfl rfl rfl (htx _ kw_1_5) (htx _ kw_6_85) ⟨by decide, by decide, by decide +kernel⟩ ⟨Nat.le_of_ble_eq_true rfl, Nat.le_of_ble_eq_true rfl⟩, (htx _ kw_6_87), (htx _ kp_M_number)⟩ ⟨xPre_blind, va_recv hK hP (ci := 5) rfl (q0 := 0) rfl, (fun U hU hW => ⟨rfl, xPre_of hZ hS hFc hP hD hK U hU hW⟩)⟩ rfl rfl hl.1 rfl (xm_room (Nat.le_of_ble_eq_true rfl)) dM_binary1_232 ⟨hm65.1, hm65.2⟩) hS (fun q _ h => hFc q h) hFc (fun r66 u9 t H1 locs ht hvm hr9 hB hz1 hk1 hS => ?_)
          obtain ⟨hP1, hK1, hD1⟩ := hB
          rw [ht] at hP1
          obtain ⟨ad67, gd68, vad69⟩ := u9
          obtain ⟨hr9, hv70, hn71⟩ := hr9
          have hP : va_P D xcl (xMw cT aM ad67 rd gd68 vad69 o62.2.2.2.2 []) H1 := hP1
          have hD : va_D A (xMw cT aM ad67 rd gd68 vad69 o62.2.2.2.2 []) := hD1.weaken (fun k q _ h => hFc q.1 h)
          generalize H1 = H at hP hS ⊢
          have hE9 : ∀ p, p < xct st → vad69 p = vad p := fun p h => (hv70 p (Nat.lt_of_lt_of_le h hN)).trans (hE p h)
          have hE := hE9
          have hN : xct st ≤ xct o62.2.2.2.2 := Nat.le_trans hN hn71
          rw [hr9]
          refine W.eq (g2 := F0 m 235 ls [xv vad69 o62.2.2.2.1]) (by first | rfl | (skip; rfl)) ?_
          obtain rfl := Option.some.inj hf
          exact absurd (show (0 : Nat) = 2 from hkd) (by decide)
        rw [if_neg hk64] at hf
        by_cases hk72 : o62.1 = 1
        · rw [if_pos hk72] at hf
          obtain ⟨hm73, hf⟩ := xmoE hf
          obtain rfl := Option.some.inj hf
          exact absurd (show (1 : Nat) = 2 from hkd) (by decide)
        rw [if_neg hk72] at hf
        exact nomatch hf
      · rw [if_pos hc] at hf
        refine lv_aload_n hx hb dM_binary1_214 rfl (lv_at hl 0 rfl) ?_
        refine lv_iconst (v := 3) hx hb dM_binary1_215 (by decide) ?_
        obtain ⟨o61, hq62, hf⟩ := xbind hf
        have hl := lv_sub (l' := [(0, .ref aM), (1, .int x0)]) hl [0, 1] rfl
        by_cases hk63 : o61.1 = 1
        · rw [if_pos hk63] at hf
          obtain ⟨hm64, hf⟩ := xmoE hf
          obtain rfl := Option.some.inj hf
          exact absurd (show (1 : Nat) = 2 from hkd) (by decide)
        rw [if_neg hk63] at hf
        exact nomatch hf
    · rw [if_neg hc] at hf
      refine lv_aload_n hx hb dM_binary1_199 rfl (lv_at hl 0 rfl) ?_
      refine lv_iconst (v := 1) hx hb dM_binary1_200 (by decide) ?_
      obtain ⟨o61, hq62, hf⟩ := xbind hf
      have hl := lv_sub (l' := [(0, .ref aM), (1, .int x0)]) hl [0, 1] rfl
      by_cases hk63 : o61.1 = 1
      · rw [if_pos hk63] at hf
        obtain ⟨hm64, hf⟩ := xmoE hf
        obtain rfl := Option.some.inj hf
        exact absurd (show (1 : Nat) = 2 from hkd) (by decide)
      rw [if_neg hk63] at hf
      exact nomatch hf
