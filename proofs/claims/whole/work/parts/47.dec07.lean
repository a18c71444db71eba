theorem xzb {v : Int32} (h : ¬ ¬ (v = 0 ∨ v = 1)) : narrow .boolean (.int v) = .int v := by
  rcases Decidable.not_not.mp h with rfl | rfl <;> rfl
theorem xloopK {p : Program} {l : Launch} {e : Env} {R : Room} {s : State} {m : MethodId} {args : Array Value} {below : List Frame} {meth : Method} {c : Code} {H1 : Heap} {locs1 : List Loc} {cells slots : Nat} {Q : State → Prop} {g : JFrame} {σ : Type} (inv : Nat → σ → Heap → List Loc → Array Slot → Prop) (pcs : σ → Nat) (h0 : ∀ x H locs ls, ¬ inv 0 x H locs ls)
    (hs : ∀ n, (∀ x H locs ls, inv n x H locs ls → W p l e R s m args below meth c H locs cells slots Q (F0 m (pcs x) ls [])) → ∀ x H locs ls, inv (n + 1) x H locs ls → W p l e R s m args below meth c H locs cells slots Q (F0 m (pcs x) ls [])) (kk : (∀ n x H locs ls, inv n x H locs ls → W p l e R s m args below meth c H locs cells slots Q (F0 m (pcs x) ls [])) → W p l e R s m args below meth c H1 locs1 cells slots Q g) : W p l e R s m args below meth c H1 locs1 cells slots Q g := by
  refine kk (fun n => ?_)
  induction n with
  | zero => exact fun x H locs ls h => absurd h (h0 x H locs ls)
  | succ n ih => exact hs n ih
theorem xifn {α : Type} {c : Prop} [Decidable c] {t : Option α} {out : α} (h : (if c then none else t) = some out) : ¬ c ∧ t = some out := by
  by_cases hc : c
  · rw [if_pos hc] at h
    exact nomatch h
  · rw [if_neg hc] at h
    exact ⟨hc, h⟩
theorem xbind {α β : Type} {o : Option α} {f : α → Option β} {out : β} (h : o.bind f = some out) : ∃ a, o = some a ∧ f a = some out := by
  cases o with
  | none => exact nomatch h
  | some a => exact ⟨a, rfl, h⟩
set_option maxHeartbeats 400000000 in
set_option maxRecDepth 100000 in
theorem gR_after (l : Launch) (hl9 : l.stackTraces = false) (D : va_G) (cT : Nat → ClassId) (aK aV : Nat → Nat) (sz n : Nat) (a0 : Nat) (a1 : Nat) (x1 : Int32) (f0 : Nat → Int64) (v1 : Int32) (v2 : Int32) (out : Int32) (hf : fR_after n x1 f0 v1 v2 = some out) : xMet l yR_after wyR_after 0 0 0 0 D cT aK aV sz [.ref a0, .int x1] [(a0, .inr (2, [.ref a1, .int v1, .int v2])), (a1, .inl (cT 2, 4096, .inr (.inl f0)))] (fun A => va_Qi (fun (r : Int32) (_ : Unit) => r = out) (fun _ t => xB D xcl cT A [(a0, .inr (2, [.ref a1, .int v1, .int v2])), (a1, .inl (cT 2, 4096, .inr (.inl f0)))] t) A) := by
  refine Met.ofW (cc := prog_8_method_11_code) (maxL := 2) (ret := (some .int)) (by decide) rfl ?_
  intro p e s m args below meth c s₁ B hml hv
  obtain ⟨rfl, hsz, hZ, hP, hK, hD0⟩ := hv
  have hx := B.exec
  have hb := B.bytes
  have hr := B.returns
  have hts := atoms_spec (ws := wyR_after) B.pre
  have htx := fun w h => hts w (List.mem_cons_of_mem _ h)
  have hown : s.vm.findClass "ValueBench$Row" = some m.cls := findClass_of_methodNamed B.named
  have hlocks := B.notSynchronized
  subst hsz
  have hD := hD0.self (sz := s.heap.size)
  generalize hAe : va_A [(a0, .inr (2, [.ref a1, .int v1, .int v2])), (a1, .inl (cT 2, 4096, .inr (.inl f0)))] s.heap.size = A at hD hZ ⊢
  have hA : ∀ q : Nat, s.heap.size ≤ q → A q := fun q h => by rw [← hAe]; exact Or.inr h
  have hS : va_S A s.heap s.heap [] := va_S.rf
  have hP : va_P D xcl [(a0, .inr (2, [.ref a1, .int v1, .int v2])), (a1, .inl (cT 2, 4096, .inr (.inl f0)))] s.heap := hP
  have hl := lv_entry ([.ref a0, .int x1]) (n := 2) (Nat.le_of_ble_eq_true rfl)
  rw [lg_entry_eq]
  generalize (lg_sl ([.ref a0, .int x1]) ++ List.replicate (2 - (lg_sl ([.ref a0, .int x1])).length) Slot.unset).toArray = ls at hl ⊢
  have hl : lv_has ls 2 [(0, .ref a0), (1, .int x1)] := hl
  unfold fR_after at hf
  refine lv_iload_n hx hb dR_after_0 rfl (lv_at hl 1 rfl) ?_
  refine lv_if_lt (tgt := 29) hx hb dR_after_1 (by decide) (fun hc => ?_) (fun hc => ?_)
  · rw [if_pos hc] at hf
    refine lv_iload_n hx hb dR_after_29 rfl (lv_at hl 1 rfl) ?_
    refine lv_iconst (v := 1) hx hb dR_after_30 (by decide) ?_
    refine lv_iadd hx hb dR_after_31 ?_
    obtain rfl := Option.some.inj hf
    obtain ⟨hP9, hD9⟩ := xsub (wc := [(a0, .inr (2, [.ref a1, .int v1, .int v2])), (a1, .inl (cT 2, 4096, .inr (.inl f0)))]) hP hD [0, 1] rfl rfl (by decide)
    exact W.iret (v := (x1 + (1 : Int32))) hx hb hr (fun t ht hW => ⟨⟨(x1 + (1 : Int32)), (), rfl, rfl, by rw [ht]; exact hP9, va_K.moved hW.alike hK, hD9⟩, hS.F ht⟩) hS.2.2 dR_after_32
  · rw [if_neg hc] at hf
    refine lv_iload_n hx hb dR_after_4 rfl (lv_at hl 1 rfl) ?_
    refine lv_aload_n hx hb dR_after_5 rfl (lv_at hl 0 rfl) ?_
    refine va_get (D := D) (ci := 2) (v := .int v1) (C := "ValueBench$Row") (T := TR) (N := 3) hx hb htx inR hown hK hP 0 rfl rfl 1 (by decide) (htx _ kw_1_85) (fun _ h9 => h9) rfl dR_after_6 ?_
    refine lv_icmp_ge (tgt := 29) hx hb dR_after_9 (by decide) (fun hc => ?_) (fun hc => ?_)
    · rw [if_pos hc] at hf
      refine lv_iload_n hx hb dR_after_29 rfl (lv_at hl 1 rfl) ?_
      refine lv_iconst (v := 1) hx hb dR_after_30 (by decide) ?_
      refine lv_iadd hx hb dR_after_31 ?_
      obtain rfl := Option.some.inj hf
      obtain ⟨hP9, hD9⟩ := xsub (wc := [(a0, .inr (2, [.ref a1, .int v1, .int v2])), (a1, .inl (cT 2, 4096, .inr (.inl f0)))]) hP hD [0, 1] rfl rfl (by decide)
      exact W.iret (v := (x1 + (1 : Int32))) hx hb hr (fun t ht hW => ⟨⟨(x1 + (1 : Int32)), (), rfl, rfl, by rw [ht]; exact hP9, va_K.moved hW.alike hK, hD9⟩, hS.F ht⟩) hS.2.2 dR_after_32
    · rw [if_neg hc] at hf
      refine lv_aload_n hx hb dR_after_12 rfl (lv_at hl 0 rfl) ?_
      refine va_get (D := D) (ci := 2) (v := .ref a1) (C := "ValueBench$Row") (T := TR) (N := 3) hx hb htx inR hown hK hP 0 rfl rfl 0 (by decide) (htx _ kw_1_84) (fun _ h9 => h9) rfl dR_after_13 ?_
      refine lv_iload_n hx hb dR_after_16 rfl (lv_at hl 1 rfl) ?_
      obtain ⟨hg1, hf⟩ := xifn hf
      refine va_lald hx hb hK hP 1 2 rfl rfl hg1 dR_after_17 ?_
      refine W.eq (g2 := F0 m 18 ls [.long (f0 x1.toNatClampNeg)]) rfl ?_
      refine lv_ldc2 hx hb hown (htx _ kw_2_197) dR_after_18 ?_
      refine lv_land hx hb dR_after_21 ?_
      refine lv_ldc2 hx hb hown (htx _ kw_2_198) dR_after_22 ?_
      refine W.lcmp hx hb dR_after_25 ?_
      refine lv_if_ge (tgt := 33) hx hb dR_after_26 (by decide) (fun hc => ?_) (fun hc => ?_)
      · rw [if_pos hc] at hf
        refine lv_iload_n hx hb dR_after_33 rfl (lv_at hl 1 rfl) ?_
        refine lv_aload_n hx hb dR_after_34 rfl (lv_at hl 0 rfl) ?_
        refine va_get (D := D) (ci := 2) (v := .ref a1) (C := "ValueBench$Row") (T := TR) (N := 3) hx hb htx inR hown hK hP 0 rfl rfl 0 (by decide) (htx _ kw_1_84) (fun _ h9 => h9) rfl dR_after_35 ?_
        refine lv_iload_n hx hb dR_after_38 rfl (lv_at hl 1 rfl) ?_
        obtain ⟨hg2, hf⟩ := xifn hf
        refine va_lald hx hb hK hP 1 2 rfl rfl hg2 dR_after_39 ?_
        refine W.eq (g2 := F0 m 40 ls [.long (f0 x1.toNatClampNeg), .int x1]) rfl ?_
        refine lv_bipush (v := 19) hx hb dR_after_40 (by decide) ?_
        refine lv_lshr hx hb dR_after_42 rfl ?_
        refine lv_l2i hx hb dR_after_43 rfl ?_
        refine lv_iadd hx hb dR_after_44 ?_
        obtain rfl := Option.some.inj hf
        obtain ⟨hP9, hD9⟩ := xsub (wc := [(a0, .inr (2, [.ref a1, .int v1, .int v2])), (a1, .inl (cT 2, 4096, .inr (.inl f0)))]) hP hD [0, 1] rfl rfl (by decide)
        exact W.iret (v := (x1 + ((f0 x1.toNatClampNeg) >>> ((19 : Int32).toInt64 &&& 63)).toInt32)) hx hb hr (fun t ht hW => ⟨⟨(x1 + ((f0 x1.toNatClampNeg) >>> ((19 : Int32).toInt64 &&& 63)).toInt32), (), rfl, rfl, by rw [ht]; exact hP9, va_K.moved hW.alike hK, hD9⟩, hS.F ht⟩) hS.2.2 dR_after_45
      · rw [if_neg hc] at hf
        refine lv_iload_n hx hb dR_after_29 rfl (lv_at hl 1 rfl) ?_
        refine lv_iconst (v := 1) hx hb dR_after_30 (by decide) ?_
        refine lv_iadd hx hb dR_after_31 ?_
        obtain rfl := Option.some.inj hf
        obtain ⟨hP9, hD9⟩ := xsub (wc := [(a0, .inr (2, [.ref a1, .int v1, .int v2])), (a1, .inl (cT 2, 4096, .inr (.inl f0)))]) hP hD [0, 1] rfl rfl (by decide)
        exact W.iret (v := (x1 + (1 : Int32))) hx hb hr (fun t ht hW => ⟨⟨(x1 + (1 : Int32)), (), rfl, rfl, by rw [ht]; exact hP9, va_K.moved hW.alike hK, hD9⟩, hS.F ht⟩) hS.2.2 dR_after_32
set_option maxHeartbeats 400000000 in
set_option maxRecDepth 100000 in
theorem gR_cell (l : Launch) (hl9 : l.stackTraces = false) (D : va_G) (cT : Nat → ClassId) (aK aV : Nat → Nat) (sz n : Nat) (a0 : Nat) (a1 : Nat) (x1 : Int32) (f0 : Nat → Int64) (v1 : Int32) (v2 : Int32) (out : Int64) (hf : fR_cell n x1 f0 v1 v2 = some out) : xMet l yR_cell wyR_cell 0 0 0 0 D cT aK aV sz [.ref a0, .int x1] [(a0, .inr (2, [.ref a1, .int v1, .int v2])), (a1, .inl (cT 2, 4096, .inr (.inl f0)))] (fun A => va_Ql (fun (r : Int64) (_ : Unit) => r = out) (fun _ t => xB D xcl cT A [(a0, .inr (2, [.ref a1, .int v1, .int v2])), (a1, .inl (cT 2, 4096, .inr (.inl f0)))] t) A) := by
  refine Met.ofW (cc := prog_8_method_5_code) (maxL := 2) (ret := (some .long)) (by decide) rfl ?_
  intro p e s m args below meth c s₁ B hml hv
  obtain ⟨rfl, hsz, hZ, hP, hK, hD0⟩ := hv
  have hx := B.exec
  have hb := B.bytes
  have hr := B.returns
  have hts := atoms_spec (ws := wyR_cell) B.pre
  have htx := fun w h => hts w (List.mem_cons_of_mem _ h)
  have hown : s.vm.findClass "ValueBench$Row" = some m.cls := findClass_of_methodNamed B.named
  have hlocks := B.notSynchronized
  subst hsz
  have hD := hD0.self (sz := s.heap.size)
  generalize hAe : va_A [(a0, .inr (2, [.ref a1, .int v1, .int v2])), (a1, .inl (cT 2, 4096, .inr (.inl f0)))] s.heap.size = A at hD hZ ⊢
  have hA : ∀ q : Nat, s.heap.size ≤ q → A q := fun q h => by rw [← hAe]; exact Or.inr h
  have hS : va_S A s.heap s.heap [] := va_S.rf
  have hP : va_P D xcl [(a0, .inr (2, [.ref a1, .int v1, .int v2])), (a1, .inl (cT 2, 4096, .inr (.inl f0)))] s.heap := hP
  have hl := lv_entry ([.ref a0, .int x1]) (n := 2) (Nat.le_of_ble_eq_true rfl)
  rw [lg_entry_eq]
  generalize (lg_sl ([.ref a0, .int x1]) ++ List.replicate (2 - (lg_sl ([.ref a0, .int x1])).length) Slot.unset).toArray = ls at hl ⊢
  have hl : lv_has ls 2 [(0, .ref a0), (1, .int x1)] := hl
  unfold fR_cell at hf
  refine lv_iload_n hx hb dR_cell_0 rfl (lv_at hl 1 rfl) ?_
  refine lv_if_lt (tgt := 21) hx hb dR_cell_1 (by decide) (fun hc => ?_) (fun hc => ?_)
  · rw [if_pos hc] at hf
    refine lv_lconst (v := 0) hx hb dR_cell_21 (by decide) ?_
    obtain rfl := Option.some.inj hf
    obtain ⟨hP9, hD9⟩ := xsub (wc := [(a0, .inr (2, [.ref a1, .int v1, .int v2])), (a1, .inl (cT 2, 4096, .inr (.inl f0)))]) hP hD [0, 1] rfl rfl (by decide)
    exact W.lret (v := (0 : Int64)) hx hb hr (fun t ht hW => ⟨⟨(0 : Int64), (), rfl, rfl, by rw [ht]; exact hP9, va_K.moved hW.alike hK, hD9⟩, hS.F ht⟩) hS.2.2 dR_cell_22
  · rw [if_neg hc] at hf
    refine lv_iload_n hx hb dR_cell_4 rfl (lv_at hl 1 rfl) ?_
    refine lv_aload_n hx hb dR_cell_5 rfl (lv_at hl 0 rfl) ?_
    refine va_get (D := D) (ci := 2) (v := .int v1) (C := "ValueBench$Row") (T := TR) (N := 3) hx hb htx inR hown hK hP 0 rfl rfl 1 (by decide) (htx _ kw_1_85) (fun _ h9 => h9) rfl dR_cell_6 ?_
    refine lv_icmp_ge (tgt := 21) hx hb dR_cell_9 (by decide) (fun hc => ?_) (fun hc => ?_)
    · rw [if_pos hc] at hf
      refine lv_lconst (v := 0) hx hb dR_cell_21 (by decide) ?_
      obtain rfl := Option.some.inj hf
      obtain ⟨hP9, hD9⟩ := xsub (wc := [(a0, .inr (2, [.ref a1, .int v1, .int v2])), (a1, .inl (cT 2, 4096, .inr (.inl f0)))]) hP hD [0, 1] rfl rfl (by decide)
      exact W.lret (v := (0 : Int64)) hx hb hr (fun t ht hW => ⟨⟨(0 : Int64), (), rfl, rfl, by rw [ht]; exact hP9, va_K.moved hW.alike hK, hD9⟩, hS.F ht⟩) hS.2.2 dR_cell_22
    · rw [if_neg hc] at hf
      refine lv_aload_n hx hb dR_cell_12 rfl (lv_at hl 0 rfl) ?_
      refine va_get (D := D) (ci := 2) (v := .ref a1) (C := "ValueBench$Row") (T := TR) (N := 3) hx hb htx inR hown hK hP 0 rfl rfl 0 (by decide) (htx _ kw_1_84) (fun _ h9 => h9) rfl dR_cell_13 ?_
      refine lv_iload_n hx hb dR_cell_16 rfl (lv_at hl 1 rfl) ?_
      obtain ⟨hg1, hf⟩ := xifn hf
      refine va_lald hx hb hK hP 1 2 rfl rfl hg1 dR_cell_17 ?_
      refine W.eq (g2 := F0 m 18 ls [.long (f0 x1.toNatClampNeg)]) rfl ?_
      refine lv_goto (tgt := 22) hx hb dR_cell_18 (by decide) ?_
      obtain rfl := Option.some.inj hf
      obtain ⟨hP9, hD9⟩ := xsub (wc := [(a0, .inr (2, [.ref a1, .int v1, .int v2])), (a1, .inl (cT 2, 4096, .inr (.inl f0)))]) hP hD [0, 1] rfl rfl (by decide)
      exact W.lret (v := (f0 x1.toNatClampNeg)) hx hb hr (fun t ht hW => ⟨⟨(f0 x1.toNatClampNeg), (), rfl, rfl, by rw [ht]; exact hP9, va_K.moved hW.alike hK, hD9⟩, hS.F ht⟩) hS.2.2 dR_cell_22
set_option maxHeartbeats 400000000 in
set_option maxRecDepth 100000 in
theorem gR_clear (l : Launch) (hl9 : l.stackTraces = false) (D : va_G) (cT : Nat → ClassId) (aK aV : Nat → Nat) (sz n : Nat) (a0 : Nat) (a1 : Nat) (f0 : Nat → Int64) (v1 : Int32) (v2 : Int32) (out : Int32 × Int32) (hf : fR_clear n f0 v1 v2 = some out) : xMet l yR_clear wyR_clear 0 0 0 0 D cT aK aV sz [.ref a0] [(a0, .inr (2, [.ref a1, .int v1, .int v2])), (a1, .inl (cT 2, 4096, .inr (.inl f0)))] (fun A => va_Qv (fun _ : Unit => True) (fun _ t => xB D xcl cT A [(a0, .inr (2, [.ref a1, .int out.1, .int out.2])), (a1, .inl (cT 2, 4096, .inr (.inl f0)))] t) A) := by
  refine Met.ofW (cc := prog_8_method_2_code) (maxL := 1) (ret := none) (by decide) rfl ?_
  intro p e s m args below meth c s₁ B hml hv
  obtain ⟨rfl, hsz, hZ, hP, hK, hD0⟩ := hv
  have hx := B.exec
  have hb := B.bytes
  have hr := B.returns
  have hts := atoms_spec (ws := wyR_clear) B.pre
  have htx := fun w h => hts w (List.mem_cons_of_mem _ h)
  have hown : s.vm.findClass "ValueBench$Row" = some m.cls := findClass_of_methodNamed B.named
  have hlocks := B.notSynchronized
  subst hsz
  have hD := hD0.self (sz := s.heap.size)
  generalize hAe : va_A [(a0, .inr (2, [.ref a1, .int v1, .int v2])), (a1, .inl (cT 2, 4096, .inr (.inl f0)))] s.heap.size = A at hD hZ ⊢
  have hA : ∀ q : Nat, s.heap.size ≤ q → A q := fun q h => by rw [← hAe]; exact Or.inr h
  have hS : va_S A s.heap s.heap [] := va_S.rf
  have hP : va_P D xcl [(a0, .inr (2, [.ref a1, .int v1, .int v2])), (a1, .inl (cT 2, 4096, .inr (.inl f0)))] s.heap := hP
  have hl := lv_entry ([.ref a0]) (n := 1) (Nat.le_of_ble_eq_true rfl)
  rw [lg_entry_eq]
  generalize (lg_sl ([.ref a0]) ++ List.replicate (1 - (lg_sl ([.ref a0])).length) Slot.unset).toArray = ls at hl ⊢
  have hl : lv_has ls 1 [(0, .ref a0)] := hl
  unfold fR_clear at hf
  refine lv_aload_n hx hb dR_clear_0 rfl (lv_at hl 0 rfl) ?_
  refine lv_iconst (v := 0) hx hb dR_clear_1 (by decide) ?_
  refine va_put (D := D) (ci := 2) (v := .int 0) (ty := .int) (C := "ValueBench$Row") (T := TR) (N := 3) hx hb htx inR tyR tyR_ok nmR hown hK hP hD hS 0 rfl rfl 1 (by decide) (htx _ kw_1_85) (fun _ h9 => h9) rfl (by decide +kernel) rfl rfl (Nat.le_of_ble_eq_true rfl) dR_clear_2 (fun H locs hP hD hS => ?_)
  obtain ⟨hP, hD⟩ : xPD D xcl A [(a0, .inr (2, [.ref a1, .int 0, .int v2])), (a1, .inl (cT 2, 4096, .inr (.inl f0)))] H := ⟨hP, hD⟩
  refine lv_aload_n hx hb dR_clear_5 rfl (lv_at hl 0 rfl) ?_
  refine lv_iconst (v := 0) hx hb dR_clear_6 (by decide) ?_
  refine va_put (D := D) (ci := 2) (v := .int 0) (ty := .boolean) (C := "ValueBench$Row") (T := TR) (N := 3) hx hb htx inR tyR tyR_ok nmR hown hK hP hD hS 0 rfl rfl 2 (by decide) (htx _ kw_1_86) (fun _ h9 => h9) rfl (by decide +kernel) rfl rfl (Nat.le_of_ble_eq_true rfl) dR_clear_7 (fun H locs hP hD hS => ?_)
  obtain ⟨hP, hD⟩ : xPD D xcl A [(a0, .inr (2, [.ref a1, .int 0, .int 0])), (a1, .inl (cT 2, 4096, .inr (.inl f0)))] H := ⟨hP, hD⟩
  obtain rfl := Option.some.inj hf
  obtain ⟨hP9, hD9⟩ := xsub (wc := [(a0, .inr (2, [.ref a1, .int 0, .int 0])), (a1, .inl (cT 2, 4096, .inr (.inl f0)))]) hP hD [0, 1] rfl rfl (by decide)
  exact W.vret hx hb hr (fun t ht hW => ⟨⟨(), rfl, trivial, by rw [ht]; exact hP9, va_K.moved hW.alike hK, hD9⟩, hS.F ht⟩) hS.2.2 dR_clear_10
set_option maxHeartbeats 400000000 in
set_option maxRecDepth 100000 in
theorem gR_close (l : Launch) (hl9 : l.stackTraces = false) (D : va_G) (cT : Nat → ClassId) (aK aV : Nat → Nat) (sz n : Nat) (a0 : Nat) (a1 : Nat) (x1 : Int32) (x2 : Int32) (x3 : Int32) (f0 : Nat → Int64) (v1 : Int32) (v2 : Int32) (out : (Nat → Int64)) (hf : fR_close n x1 x2 x3 f0 v1 v2 = some out) : xMet l yR_close wyR_close 0 0 0 0 D cT aK aV sz [.ref a0, .int x1, .int x2, .int x3] [(a0, .inr (2, [.ref a1, .int v1, .int v2])), (a1, .inl (cT 2, 4096, .inr (.inl f0)))] (fun A => va_Qv (fun _ : Unit => True) (fun _ t => xB D xcl cT A [(a0, .inr (2, [.ref a1, .int v1, .int v2])), (a1, .inl (cT 2, 4096, .inr (.inl out)))] t) A) := by
  refine Met.ofW (cc := prog_8_method_26_code) (maxL := 4) (ret := none) (by decide) rfl ?_
  intro p e s m args below meth c s₁ B hml hv
  obtain ⟨rfl, hsz, hZ, hP, hK, hD0⟩ := hv
  have hx := B.exec
  have hb := B.bytes
  have hr := B.returns
  have hts := atoms_spec (ws := wyR_close) B.pre
  have htx := fun w h => hts w (List.mem_cons_of_mem _ h)
  have hown : s.vm.findClass "ValueBench$Row" = some m.cls := findClass_of_methodNamed B.named
  have hlocks := B.notSynchronized
  subst hsz
  have hD := hD0.self (sz := s.heap.size)
  generalize hAe : va_A [(a0, .inr (2, [.ref a1, .int v1, .int v2])), (a1, .inl (cT 2, 4096, .inr (.inl f0)))] s.heap.size = A at hD hZ ⊢
  have hA : ∀ q : Nat, s.heap.size ≤ q → A q := fun q h => by rw [← hAe]; exact Or.inr h
  have hS : va_S A s.heap s.heap [] := va_S.rf
  have hP : va_P D xcl [(a0, .inr (2, [.ref a1, .int v1, .int v2])), (a1, .inl (cT 2, 4096, .inr (.inl f0)))] s.heap := hP
  have hl := lv_entry ([.ref a0, .int x1, .int x2, .int x3]) (n := 4) (Nat.le_of_ble_eq_true rfl)
  rw [lg_entry_eq]
  generalize (lg_sl ([.ref a0, .int x1, .int x2, .int x3]) ++ List.replicate (4 - (lg_sl ([.ref a0, .int x1, .int x2, .int x3])).length) Slot.unset).toArray = ls at hl ⊢
  have hl : lv_has ls 4 [(0, .ref a0), (1, .int x1), (2, .int x2), (3, .int x3)] := hl
  unfold fR_close at hf
  refine lv_aload_n hx hb dR_close_0 rfl (lv_at hl 0 rfl) ?_
  refine va_get (D := D) (ci := 2) (v := .int v2) (C := "ValueBench$Row") (T := TR) (N := 3) hx hb htx inR hown hK hP 0 rfl rfl 2 (by decide) (htx _ kw_1_86) (fun _ h9 => h9) rfl dR_close_1 ?_
  refine lv_if_ne (tgt := 43) hx hb dR_close_4 (by decide) (fun hc => ?_) (fun hc => ?_)
  · rw [if_neg hc] at hf
    obtain rfl := Option.some.inj hf
    obtain ⟨hP9, hD9⟩ := xsub (wc := [(a0, .inr (2, [.ref a1, .int v1, .int v2])), (a1, .inl (cT 2, 4096, .inr (.inl f0)))]) hP hD [0, 1] rfl rfl (by decide)
    exact W.vret hx hb hr (fun t ht hW => ⟨⟨(), rfl, trivial, by rw [ht]; exact hP9, va_K.moved hW.alike hK, hD9⟩, hS.F ht⟩) hS.2.2 dR_close_43
  · rw [if_pos hc] at hf
    refine lv_iload_n hx hb dR_close_7 rfl (lv_at hl 1 rfl) ?_
    refine lv_if_lt (tgt := 43) hx hb dR_close_8 (by decide) (fun hc => ?_) (fun hc => ?_)
    · rw [if_pos hc] at hf
      obtain rfl := Option.some.inj hf
      obtain ⟨hP9, hD9⟩ := xsub (wc := [(a0, .inr (2, [.ref a1, .int v1, .int v2])), (a1, .inl (cT 2, 4096, .inr (.inl f0)))]) hP hD [0, 1] rfl rfl (by decide)
      exact W.vret hx hb hr (fun t ht hW => ⟨⟨(), rfl, trivial, by rw [ht]; exact hP9, va_K.moved hW.alike hK, hD9⟩, hS.F ht⟩) hS.2.2 dR_close_43
    · rw [if_neg hc] at hf
      refine lv_iload_n hx hb dR_close_11 rfl (lv_at hl 1 rfl) ?_
      refine lv_aload_n hx hb dR_close_12 rfl (lv_at hl 0 rfl) ?_
      refine va_get (D := D) (ci := 2) (v := .int v1) (C := "ValueBench$Row") (T := TR) (N := 3) hx hb htx inR hown hK hP 0 rfl rfl 1 (by decide) (htx _ kw_1_85) (fun _ h9 => h9) rfl dR_close_13 ?_
      refine lv_icmp_ge (tgt := 43) hx hb dR_close_16 (by decide) (fun hc => ?_) (fun hc => ?_)
      · rw [if_pos hc] at hf
        obtain rfl := Option.some.inj hf
        obtain ⟨hP9, hD9⟩ := xsub (wc := [(a0, .inr (2, [.ref a1, .int v1, .int v2])), (a1, .inl (cT 2, 4096, .inr (.inl f0)))]) hP hD [0, 1] rfl rfl (by decide)
        exact W.vret hx hb hr (fun t ht hW => ⟨⟨(), rfl, trivial, by rw [ht]; exact hP9, va_K.moved hW.alike hK, hD9⟩, hS.F ht⟩) hS.2.2 dR_close_43
      · rw [if_neg hc] at hf
        refine lv_aload_n hx hb dR_close_19 rfl (lv_at hl 0 rfl) ?_
        refine va_get (D := D) (ci := 2) (v := .ref a1) (C := "ValueBench$Row") (T := TR) (N := 3) hx hb htx inR hown hK hP 0 rfl rfl 0 (by decide) (htx _ kw_1_84) (fun _ h9 => h9) rfl dR_close_20 ?_
        refine lv_iload_n hx hb dR_close_23 rfl (lv_at hl 1 rfl) ?_
        refine lv_aload_n hx hb dR_close_24 rfl (lv_at hl 0 rfl) ?_
        refine va_get (D := D) (ci := 2) (v := .int v1) (C := "ValueBench$Row") (T := TR) (N := 3) hx hb htx inR hown hK hP 0 rfl rfl 1 (by decide) (htx _ kw_1_85) (fun _ h9 => h9) rfl dR_close_25 ?_
        refine lv_iload_n hx hb dR_close_28 rfl (lv_at hl 1 rfl) ?_
        refine lv_isub hx hb dR_close_29 ?_
        refine lv_i2l hx hb dR_close_30 rfl ?_
        refine lv_bipush (v := 19) hx hb dR_close_31 (by decide) ?_
        refine lv_lshl hx hb dR_close_33 rfl ?_
        refine lv_iload_n hx hb dR_close_34 rfl (lv_at hl 3 rfl) ?_
        refine lv_i2l hx hb dR_close_35 rfl ?_
        refine lv_iconst (v := 3) hx hb dR_close_36 (by decide) ?_
        refine lv_lshl hx hb dR_close_37 rfl ?_
        refine lv_lor hx hb dR_close_38 ?_
        refine lv_iload_n hx hb dR_close_39 rfl (lv_at hl 2 rfl) ?_
        refine lv_i2l hx hb dR_close_40 rfl ?_
        refine lv_lor hx hb dR_close_41 ?_
        obtain ⟨hg1, hf⟩ := xifn hf
        refine va_last hx hb hK hP hD hS 1 2 rfl rfl hg1 dR_close_42 (fun H locs hP hD hS => ?_)
        obtain ⟨hP, hD⟩ : xPD D xcl A [(a0, .inr (2, [.ref a1, .int v1, .int v2])), (a1, .inl (cT 2, 4096, .inr (.inl (vp_updL f0 x1.toNatClampNeg ((((v1 - x1).toInt64 <<< ((19 : Int32).toInt64 &&& 63)) ||| (x3.toInt64 <<< ((3 : Int32).toInt64 &&& 63))) ||| x2.toInt64)))))] H := ⟨hP, hD⟩
        obtain rfl := Option.some.inj hf
        obtain ⟨hP9, hD9⟩ := xsub (wc := [(a0, .inr (2, [.ref a1, .int v1, .int v2])), (a1, .inl (cT 2, 4096, .inr (.inl (vp_updL f0 x1.toNatClampNeg ((((v1 - x1).toInt64 <<< ((19 : Int32).toInt64 &&& 63)) ||| (x3.toInt64 <<< ((3 : Int32).toInt64 &&& 63))) ||| x2.toInt64)))))]) hP hD [0, 1] rfl rfl (by decide)
        exact W.vret hx hb hr (fun t ht hW => ⟨⟨(), rfl, trivial, by rw [ht]; exact hP9, va_K.moved hW.alike hK, hD9⟩, hS.F ht⟩) hS.2.2 dR_close_43
set_option maxHeartbeats 400000000 in
set_option maxRecDepth 100000 in
theorem gR_code (l : Launch) (hl9 : l.stackTraces = false) (D : va_G) (cT : Nat → ClassId) (aK aV : Nat → Nat) (sz n : Nat) (a0 : Nat) (a1 : Nat) (x1 : Int32) (x2 : Int32) (f0 : Nat → Int64) (v1 : Int32) (v2 : Int32) (out : Int32) (hf : fR_code n x1 x2 f0 v1 v2 = some out) : xMet l yR_code wyR_code 0 0 0 0 D cT aK aV sz [.ref a0, .int x1, .int x2] [(a0, .inr (2, [.ref a1, .int v1, .int v2])), (a1, .inl (cT 2, 4096, .inr (.inl f0)))] (fun A => va_Qi (fun (r : Int32) (_ : Unit) => r = out) (fun _ t => xB D xcl cT A [(a0, .inr (2, [.ref a1, .int v1, .int v2])), (a1, .inl (cT 2, 4096, .inr (.inl f0)))] t) A) := by
  refine Met.ofW (cc := prog_8_method_10_code) (maxL := 4) (ret := (some .int)) (by decide) rfl ?_
  intro p e s m args below meth c s₁ B hml hv
  obtain ⟨rfl, hsz, hZ, hP, hK, hD0⟩ := hv
  have hx := B.exec
  have hb := B.bytes
  have hr := B.returns
  have hts := atoms_spec (ws := wyR_code) B.pre
  have htx := fun w h => hts w (List.mem_cons_of_mem _ h)
  have hown : s.vm.findClass "ValueBench$Row" = some m.cls := findClass_of_methodNamed B.named
  have hlocks := B.notSynchronized
  subst hsz
  have hD := hD0.self (sz := s.heap.size)
  generalize hAe : va_A [(a0, .inr (2, [.ref a1, .int v1, .int v2])), (a1, .inl (cT 2, 4096, .inr (.inl f0)))] s.heap.size = A at hD hZ ⊢
  have hA : ∀ q : Nat, s.heap.size ≤ q → A q := fun q h => by rw [← hAe]; exact Or.inr h
  have hS : va_S A s.heap s.heap [] := va_S.rf
  have hP : va_P D xcl [(a0, .inr (2, [.ref a1, .int v1, .int v2])), (a1, .inl (cT 2, 4096, .inr (.inl f0)))] s.heap := hP
  have hl := lv_entry ([.ref a0, .int x1, .int x2]) (n := 4) (Nat.le_of_ble_eq_true rfl)
  rw [lg_entry_eq]
  generalize (lg_sl ([.ref a0, .int x1, .int x2]) ++ List.replicate (4 - (lg_sl ([.ref a0, .int x1, .int x2])).length) Slot.unset).toArray = ls at hl ⊢
  have hl : lv_has ls 4 [(0, .ref a0), (1, .int x1), (2, .int x2)] := hl
  unfold fR_code at hf
  refine lv_iload_n hx hb dR_code_0 rfl (lv_at hl 1 rfl) ?_
  refine lv_iconst (v := 1) hx hb dR_code_1 (by decide) ?_
  refine lv_iadd hx hb dR_code_2 ?_
  refine lv_iload_n hx hb dR_code_3 rfl (lv_at hl 2 rfl) ?_
  refine lv_iadd hx hb dR_code_4 ?_
  refine lv_istore_n (lv' := [(3, .int ((x1 + (1 : Int32)) + x2)), (0, .ref a0), (1, .int x1), (2, .int x2)]) hx hb dR_code_5 rfl hl (by decide) rfl (fun ls hl => ?_)
  refine lv_iload_n hx hb dR_code_6 rfl (lv_at hl 0 rfl) ?_
  refine lv_if_lt (tgt := 28) hx hb dR_code_7 (by decide) (fun hc => ?_) (fun hc => ?_)
  · rw [if_pos hc] at hf
    refine lv_iconst (v := 0) hx hb dR_code_28 (by decide) ?_
    obtain rfl := Option.some.inj hf
    obtain ⟨hP9, hD9⟩ := xsub (wc := [(a0, .inr (2, [.ref a1, .int v1, .int v2])), (a1, .inl (cT 2, 4096, .inr (.inl f0)))]) hP hD [0, 1] rfl rfl (by decide)
    exact W.iret (v := (0 : Int32)) hx hb hr (fun t ht hW => ⟨⟨(0 : Int32), (), rfl, rfl, by rw [ht]; exact hP9, va_K.moved hW.alike hK, hD9⟩, hS.F ht⟩) hS.2.2 dR_code_29
  · rw [if_neg hc] at hf
    refine lv_iload_n hx hb dR_code_10 rfl (lv_at hl 0 rfl) ?_
    refine lv_aload_n hx hb dR_code_11 rfl (lv_at hl 1 rfl) ?_
    refine va_get (D := D) (ci := 2) (v := .int v1) (C := "ValueBench$Row") (T := TR) (N := 3) hx hb htx inR hown hK hP 0 rfl rfl 1 (by decide) (htx _ kw_1_85) (fun _ h9 => h9) rfl dR_code_12 ?_
    refine lv_icmp_ge (tgt := 28) hx hb dR_code_15 (by decide) (fun hc => ?_) (fun hc => ?_)
    · rw [if_pos hc] at hf
      refine lv_iconst (v := 0) hx hb dR_code_28 (by decide) ?_
      obtain rfl := Option.some.inj hf
      obtain ⟨hP9, hD9⟩ := xsub (wc := [(a0, .inr (2, [.ref a1, .int v1, .int v2])), (a1, .inl (cT 2, 4096, .inr (.inl f0)))]) hP hD [0, 1] rfl rfl (by decide)
      exact W.iret (v := (0 : Int32)) hx hb hr (fun t ht hW => ⟨⟨(0 : Int32), (), rfl, rfl, by rw [ht]; exact hP9, va_K.moved hW.alike hK, hD9⟩, hS.F ht⟩) hS.2.2 dR_code_29
    · rw [if_neg hc] at hf
      refine lv_aload_n hx hb dR_code_18 rfl (lv_at hl 1 rfl) ?_
      refine va_get (D := D) (ci := 2) (v := .ref a1) (C := "ValueBench$Row") (T := TR) (N := 3) hx hb htx inR hown hK hP 0 rfl rfl 0 (by decide) (htx _ kw_1_84) (fun _ h9 => h9) rfl dR_code_19 ?_
      refine lv_iload_n hx hb dR_code_22 rfl (lv_at hl 0 rfl) ?_
      obtain ⟨hg1, hf⟩ := xifn hf
      refine va_lald hx hb hK hP 1 2 rfl rfl hg1 dR_code_23 ?_
      refine W.eq (g2 := F0 m 24 ls [.long (f0 ((x1 + (1 : Int32)) + x2).toNatClampNeg)]) rfl ?_
      refine lv_l2i hx hb dR_code_24 rfl ?_
      refine lv_goto (tgt := 29) hx hb dR_code_25 (by decide) ?_
      obtain rfl := Option.some.inj hf
      obtain ⟨hP9, hD9⟩ := xsub (wc := [(a0, .inr (2, [.ref a1, .int v1, .int v2])), (a1, .inl (cT 2, 4096, .inr (.inl f0)))]) hP hD [0, 1] rfl rfl (by decide)
      exact W.iret (v := (f0 ((x1 + (1 : Int32)) + x2).toNatClampNeg).toInt32) hx hb hr (fun t ht hW => ⟨⟨(f0 ((x1 + (1 : Int32)) + x2).toNatClampNeg).toInt32, (), rfl, rfl, by rw [ht]; exact hP9, va_K.moved hW.alike hK, hD9⟩, hS.F ht⟩) hS.2.2 dR_code_29
set_option maxHeartbeats 400000000 in
set_option maxRecDepth 100000 in
theorem gR_length (l : Launch) (hl9 : l.stackTraces = false) (D : va_G) (cT : Nat → ClassId) (aK aV : Nat → Nat) (sz n : Nat) (a0 : Nat) (a1 : Nat) (x1 : Int32) (f0 : Nat → Int64) (v1 : Int32) (v2 : Int32) (out : Int32) (hf : fR_length n x1 f0 v1 v2 = some out) : xMet l yR_length wyR_length 0 0 0 0 D cT aK aV sz [.ref a0, .int x1] [(a0, .inr (2, [.ref a1, .int v1, .int v2])), (a1, .inl (cT 2, 4096, .inr (.inl f0)))] (fun A => va_Qi (fun (r : Int32) (_ : Unit) => r = out) (fun _ t => xB D xcl cT A [(a0, .inr (2, [.ref a1, .int v1, .int v2])), (a1, .inl (cT 2, 4096, .inr (.inl f0)))] t) A) := by
  refine Met.ofW (cc := prog_8_method_9_code) (maxL := 2) (ret := (some .int)) (by decide) rfl ?_
  intro p e s m args below meth c s₁ B hml hv
  obtain ⟨rfl, hsz, hZ, hP, hK, hD0⟩ := hv
  have hx := B.exec
  have hb := B.bytes
  have hr := B.returns
  have hts := atoms_spec (ws := wyR_length) B.pre
  have htx := fun w h => hts w (List.mem_cons_of_mem _ h)
  have hown : s.vm.findClass "ValueBench$Row" = some m.cls := findClass_of_methodNamed B.named
  have hlocks := B.notSynchronized
  subst hsz
  have hD := hD0.self (sz := s.heap.size)
  generalize hAe : va_A [(a0, .inr (2, [.ref a1, .int v1, .int v2])), (a1, .inl (cT 2, 4096, .inr (.inl f0)))] s.heap.size = A at hD hZ ⊢
  have hA : ∀ q : Nat, s.heap.size ≤ q → A q := fun q h => by rw [← hAe]; exact Or.inr h
  have hS : va_S A s.heap s.heap [] := va_S.rf
  have hP : va_P D xcl [(a0, .inr (2, [.ref a1, .int v1, .int v2])), (a1, .inl (cT 2, 4096, .inr (.inl f0)))] s.heap := hP
  have hl := lv_entry ([.ref a0, .int x1]) (n := 2) (Nat.le_of_ble_eq_true rfl)
  rw [lg_entry_eq]
  generalize (lg_sl ([.ref a0, .int x1]) ++ List.replicate (2 - (lg_sl ([.ref a0, .int x1])).length) Slot.unset).toArray = ls at hl ⊢
  have hl : lv_has ls 2 [(0, .ref a0), (1, .int x1)] := hl
  unfold fR_length at hf
  refine lv_iload_n hx hb dR_length_0 rfl (lv_at hl 1 rfl) ?_
  refine lv_if_lt (tgt := 27) hx hb dR_length_1 (by decide) (fun hc => ?_) (fun hc => ?_)
  · rw [if_pos hc] at hf
    refine lv_iconst (v := 0) hx hb dR_length_27 (by decide) ?_
    obtain rfl := Option.some.inj hf
    obtain ⟨hP9, hD9⟩ := xsub (wc := [(a0, .inr (2, [.ref a1, .int v1, .int v2])), (a1, .inl (cT 2, 4096, .inr (.inl f0)))]) hP hD [0, 1] rfl rfl (by decide)
    exact W.iret (v := (0 : Int32)) hx hb hr (fun t ht hW => ⟨⟨(0 : Int32), (), rfl, rfl, by rw [ht]; exact hP9, va_K.moved hW.alike hK, hD9⟩, hS.F ht⟩) hS.2.2 dR_length_28
  · rw [if_neg hc] at hf
    refine lv_iload_n hx hb dR_length_4 rfl (lv_at hl 1 rfl) ?_
    refine lv_aload_n hx hb dR_length_5 rfl (lv_at hl 0 rfl) ?_
    refine va_get (D := D) (ci := 2) (v := .int v1) (C := "ValueBench$Row") (T := TR) (N := 3) hx hb htx inR hown hK hP 0 rfl rfl 1 (by decide) (htx _ kw_1_85) (fun _ h9 => h9) rfl dR_length_6 ?_
    refine lv_icmp_ge (tgt := 27) hx hb dR_length_9 (by decide) (fun hc => ?_) (fun hc => ?_)
    · rw [if_pos hc] at hf
      refine lv_iconst (v := 0) hx hb dR_length_27 (by decide) ?_
      obtain rfl := Option.some.inj hf
      obtain ⟨hP9, hD9⟩ := xsub (wc := [(a0, .inr (2, [.ref a1, .int v1, .int v2])), (a1, .inl (cT 2, 4096, .inr (.inl f0)))]) hP hD [0, 1] rfl rfl (by decide)
      exact W.iret (v := (0 : Int32)) hx hb hr (fun t ht hW => ⟨⟨(0 : Int32), (), rfl, rfl, by rw [ht]; exact hP9, va_K.moved hW.alike hK, hD9⟩, hS.F ht⟩) hS.2.2 dR_length_28
    · rw [if_neg hc] at hf
      refine lv_aload_n hx hb dR_length_12 rfl (lv_at hl 0 rfl) ?_
      refine va_get (D := D) (ci := 2) (v := .ref a1) (C := "ValueBench$Row") (T := TR) (N := 3) hx hb htx inR hown hK hP 0 rfl rfl 0 (by decide) (htx _ kw_1_84) (fun _ h9 => h9) rfl dR_length_13 ?_
      refine lv_iload_n hx hb dR_length_16 rfl (lv_at hl 1 rfl) ?_
      obtain ⟨hg1, hf⟩ := xifn hf
      refine va_lald hx hb hK hP 1 2 rfl rfl hg1 dR_length_17 ?_
      refine W.eq (g2 := F0 m 18 ls [.long (f0 x1.toNatClampNeg)]) rfl ?_
      refine lv_iconst (v := 3) hx hb dR_length_18 (by decide) ?_
      refine lv_lshr hx hb dR_length_19 rfl ?_
      refine lv_l2i hx hb dR_length_20 rfl ?_
      refine lv_ldc hx hb hown (htx _ kw_2_192) dR_length_21 ?_
      refine lv_iand hx hb dR_length_23 ?_
      refine lv_goto (tgt := 28) hx hb dR_length_24 (by decide) ?_
      obtain rfl := Option.some.inj hf
      obtain ⟨hP9, hD9⟩ := xsub (wc := [(a0, .inr (2, [.ref a1, .int v1, .int v2])), (a1, .inl (cT 2, 4096, .inr (.inl f0)))]) hP hD [0, 1] rfl rfl (by decide)
      exact W.iret (v := (((f0 x1.toNatClampNeg) >>> ((3 : Int32).toInt64 &&& 63)).toInt32 &&& (65535 : Int32))) hx hb hr (fun t ht hW => ⟨⟨(((f0 x1.toNatClampNeg) >>> ((3 : Int32).toInt64 &&& 63)).toInt32 &&& (65535 : Int32)), (), rfl, rfl, by rw [ht]; exact hP9, va_K.moved hW.alike hK, hD9⟩, hS.F ht⟩) hS.2.2 dR_length_28
set_option maxHeartbeats 400000000 in
set_option maxRecDepth 100000 in
theorem gR_element (l : Launch) (hl9 : l.stackTraces = false) (D : va_G) (cT : Nat → ClassId) (aK aV : Nat → Nat) (sz n : Nat) (a0 : Nat) (a1 : Nat) (x1 : Int32) (x2 : Int64) (f0 : Nat → Int64) (v1 : Int32) (v2 : Int32) (out : Int32) (hf : fR_element n x1 x2 f0 v1 v2 = some out) : xMet l yR_element wyR_element 1 0 0 21 D cT aK aV sz [.ref a0, .int x1, .long x2] [(a0, .inr (2, [.ref a1, .int v1, .int v2])), (a1, .inl (cT 2, 4096, .inr (.inl f0)))] (fun A => va_Qi (fun (r : Int32) (_ : Unit) => r = out) (fun _ t => xB D xcl cT A [(a0, .inr (2, [.ref a1, .int v1, .int v2])), (a1, .inl (cT 2, 4096, .inr (.inl f0)))] t) A) := by
  refine Met.ofW (cc := prog_8_method_12_code) (maxL := 6) (ret := (some .int)) (by decide) rfl ?_
  intro p e s m args below meth c s₁ B hml hv
  obtain ⟨rfl, hsz, hZ, hP, hK, hD0⟩ := hv
  have hx := B.exec
  have hb := B.bytes
  have hr := B.returns
  have hts := atoms_spec (ws := wyR_element) B.pre
  have htx := fun w h => hts w (List.mem_cons_of_mem _ h)
  have hown : s.vm.findClass "ValueBench$Row" = some m.cls := findClass_of_methodNamed B.named
  have hlocks := B.notSynchronized
  subst hsz
  have hD := hD0.self (sz := s.heap.size)
  generalize hAe : va_A [(a0, .inr (2, [.ref a1, .int v1, .int v2])), (a1, .inl (cT 2, 4096, .inr (.inl f0)))] s.heap.size = A at hD hZ ⊢
  have hA : ∀ q : Nat, s.heap.size ≤ q → A q := fun q h => by rw [← hAe]; exact Or.inr h
  have hS : va_S A s.heap s.heap [] := va_S.rf
  have hP : va_P D xcl [(a0, .inr (2, [.ref a1, .int v1, .int v2])), (a1, .inl (cT 2, 4096, .inr (.inl f0)))] s.heap := hP
  have hl := lv_entry ([.ref a0, .int x1, .long x2]) (n := 6) (Nat.le_of_ble_eq_true rfl)
  rw [lg_entry_eq]
  generalize (lg_sl ([.ref a0, .int x1, .long x2]) ++ List.replicate (6 - (lg_sl ([.ref a0, .int x1, .long x2])).length) Slot.unset).toArray = ls at hl ⊢
  have hl : lv_has ls 6 [(0, .ref a0), (1, .int x1), (2, .long x2)] := hl
  unfold fR_element at hf
  refine xloopK (σ := Nat × Int32 × Int32 × Int32 × Int64) (fun n x H locs ls => (x.1 = 1 ∧ fR_element_b f0 v1 v2 n x.1 x.2.1 x.2.2.1 x.2.2.2.1 x.2.2.2.2 = some out ∧ va_P D xcl [(a0, .inr (2, [.ref a1, .int v1, .int v2])), (a1, .inl (cT 2, 4096, .inr (.inl f0)))] H ∧ va_D A [(a0, .inr (2, [.ref a1, .int v1, .int v2])), (a1, .inl (cT 2, 4096, .inr (.inl f0)))] ∧ va_S A s.heap H locs ∧ lv_has ls 6 [(5, .int x.2.1), (4, .int x.2.2.1), (0, .ref a0), (1, .int x.2.2.2.1), (2, .long x.2.2.2.2)])) (fun x => 8) (fun x H locs ls h => by exact absurd h.2.1 (by rw [fR_element_b]; exact fun h => nomatch h)) (fun n ih x H locs ls hv => ?_) (fun key => ?_)
  · obtain ⟨lb, y5, y4, y1, y2⟩ := x
    rcases hv with ⟨hj, hf, hP, hD, hS, hl⟩
    subst hj
    have hf : fR_element_b f0 v1 v2 (n + 1) 1 y5 y4 y1 y2 = some out := hf
    rw [fR_element_b] at hf
    obtain ⟨hP, hD⟩ : xPD D xcl A [(a0, .inr (2, [.ref a1, .int v1, .int v2])), (a1, .inl (cT 2, 4096, .inr (.inl f0)))] H := ⟨hP, hD⟩
    have hl : lv_has ls 6 [(5, .int y5), (4, .int y4), (0, .ref a0), (1, .int y1), (2, .long y2)] := hl
    refine W.eq (g2 := F0 m 8 ls []) rfl ?_
    refine lv_iload hx hb dR_element_8 (lv_at hl 0 rfl) ?_
    refine lv_aload_n hx hb dR_element_10 rfl (lv_at hl 2 rfl) ?_
    refine lv_iload_n hx hb dR_element_11 rfl (lv_at hl 3 rfl) ?_
    obtain ⟨o1, hq2, hf⟩ := xbind hf
    obtain ⟨hPc, hDc, hFc⟩ := xcut (wc := [(a0, .inr (2, [.ref a1, .int v1, .int v2])), (a1, .inl (cT 2, 4096, .inr (.inl f0)))]) hP hD hS hA [0, 1] rfl rfl (by decide)
    refine va_calli (va_runV (C := "ValueBench$Row") (As := [.int y1]) (rest := [.int y5]) ⟨hx, hb, hml, hown, htx⟩ (gR_length l hl9 D cT aK aV H.size n a0 a1 y1 f0 v1 v2 o1 hq2) ⟨callB_of 1 htx (xw_goodC kw_2_191) rfl rfl rfl (htx _ kw_1_4) (htx _ kw_2_188) ⟨by decide, by decide, by decide +kernel⟩ ⟨Nat.le_of_ble_eq_true rfl, Nat.le_of_ble_eq_true rfl⟩, (htx _ kw_2_189), (htx _ kw_2_190)⟩ ⟨xPre_blind, va_recv hK hP (ci := 2) rfl (q0 := 0) rfl, (fun U hU hW => ⟨rfl, xPre_of hZ hS hFc hPc hDc hK U hU hW⟩)⟩ rfl rfl hl.1 rfl (lv_room (Nat.le_of_ble_eq_true rfl)) dR_element_12 ⟨Nat.le_of_ble_eq_true rfl, Nat.le_of_ble_eq_true rfl⟩) hS (fun q _ h => hFc q h) hFc (fun r3 u9 t H1 locs ht hvm hr9 hB hz1 hk1 hS => ?_)
    obtain ⟨hP1, hK1, hD1⟩ := hB
    rw [ht] at hP1
    obtain ⟨hP, hD⟩ := xjoin (W := [(a0, .inr (2, [.ref a1, .int v1, .int v2])), (a1, .inl (cT 2, 4096, .inr (.inl f0)))]) hP hD [0, 1] [] 0 rfl rfl (by decide) (by decide) hk1 hFc hP1 hD1
    generalize H1 = H at hP hS ⊢
    rw [hr9]
    refine W.eq (g2 := F0 m 15 ls [.int o1, .int y5]) rfl ?_
    refine lv_icmp_ge (tgt := 40) hx hb dR_element_15 (by decide) (fun hc => ?_) (fun hc => ?_)
    · rw [if_pos hc] at hf
      refine lv_iload hx hb dR_element_40 (lv_at hl 1 rfl) ?_
      obtain rfl := Option.some.inj hf
      obtain ⟨hP9, hD9⟩ := xsub (wc := [(a0, .inr (2, [.ref a1, .int v1, .int v2])), (a1, .inl (cT 2, 4096, .inr (.inl f0)))]) hP hD [0, 1] rfl rfl (by decide)
      exact W.iret (v := y4) hx hb hr (fun t ht hW => ⟨⟨y4, (), rfl, rfl, by rw [ht]; exact hP9, va_K.moved hW.alike hK, hD9⟩, hS.F ht⟩) hS.2.2 dR_element_42
    · rw [if_neg hc] at hf
      refine lv_iload hx hb dR_element_18 (lv_at hl 0 rfl) ?_
      refine lv_i2l hx hb dR_element_20 rfl ?_
      refine lv_lload_n hx hb dR_element_21 rfl (lv_at hl 4 rfl) ?_
      refine W.lcmp hx hb dR_element_22 ?_
      refine lv_if_ge (tgt := 40) hx hb dR_element_23 (by decide) (fun hc => ?_) (fun hc => ?_)
      · rw [if_pos hc] at hf
        refine lv_iload hx hb dR_element_40 (lv_at hl 1 rfl) ?_
        obtain rfl := Option.some.inj hf
        obtain ⟨hP9, hD9⟩ := xsub (wc := [(a0, .inr (2, [.ref a1, .int v1, .int v2])), (a1, .inl (cT 2, 4096, .inr (.inl f0)))]) hP hD [0, 1] rfl rfl (by decide)
        exact W.iret (v := y4) hx hb hr (fun t ht hW => ⟨⟨y4, (), rfl, rfl, by rw [ht]; exact hP9, va_K.moved hW.alike hK, hD9⟩, hS.F ht⟩) hS.2.2 dR_element_42
      · rw [if_neg hc] at hf
        refine lv_aload_n hx hb dR_element_26 rfl (lv_at hl 2 rfl) ?_
        refine lv_iload hx hb dR_element_27 (lv_at hl 1 rfl) ?_
        obtain ⟨o4, hq5, hf⟩ := xbind hf
        obtain ⟨hPc, hDc, hFc⟩ := xcut (wc := [(a0, .inr (2, [.ref a1, .int v1, .int v2])), (a1, .inl (cT 2, 4096, .inr (.inl f0)))]) hP hD hS hA [0, 1] rfl rfl (by decide)
        refine va_calli (va_runV (C := "ValueBench$Row") (As := [.int y4]) (rest := []) ⟨hx, hb, hml, hown, htx⟩ (gR_after l hl9 D cT aK aV H.size n a0 a1 y4 f0 v1 v2 o4 hq5) ⟨callB_of 1 htx (xw_goodC kw_2_196) rfl rfl rfl (htx _ kw_1_4) (htx _ kw_2_193) ⟨by decide, by decide, by decide +kernel⟩ ⟨Nat.le_of_ble_eq_true rfl, Nat.le_of_ble_eq_true rfl⟩, (htx _ kw_2_194), (htx _ kw_2_195)⟩ ⟨xPre_blind, va_recv hK hP (ci := 2) rfl (q0 := 0) rfl, (fun U hU hW => ⟨rfl, xPre_of hZ hS hFc hPc hDc hK U hU hW⟩)⟩ rfl rfl hl.1 rfl (lv_room (Nat.le_of_ble_eq_true rfl)) dR_element_29 ⟨Nat.le_of_ble_eq_true rfl, Nat.le_of_ble_eq_true rfl⟩) hS (fun q _ h => hFc q h) hFc (fun r6 u9 t H1 locs ht hvm hr9 hB hz1 hk1 hS => ?_)
        obtain ⟨hP1, hK1, hD1⟩ := hB
        rw [ht] at hP1
        obtain ⟨hP, hD⟩ := xjoin (W := [(a0, .inr (2, [.ref a1, .int v1, .int v2])), (a1, .inl (cT 2, 4096, .inr (.inl f0)))]) hP hD [0, 1] [] 0 rfl rfl (by decide) (by decide) hk1 hFc hP1 hD1
        generalize H1 = H at hP hS ⊢
        rw [hr9]
        refine W.eq (g2 := F0 m 32 ls [.int o4]) rfl ?_
        refine lv_istore (lv' := [(4, .int o4), (5, .int y5), (0, .ref a0), (1, .int y1), (2, .long y2)]) hx hb dR_element_32 hl (by decide) rfl (fun ls hl => ?_)
        refine lv_iinc (v := (y5 + 1)) (lv' := [(5, .int (y5 + 1)), (4, .int o4), (0, .ref a0), (1, .int y1), (2, .long y2)]) hx hb dR_element_34 hl (k := 1) rfl rfl (by decide) rfl (fun ls hl => ?_)
        refine lv_goto (tgt := 8) hx hb dR_element_37 (by decide) ?_
        obtain ⟨hP9, hD9⟩ := xsub (wc := [(a0, .inr (2, [.ref a1, .int v1, .int v2])), (a1, .inl (cT 2, 4096, .inr (.inl f0)))]) hP hD [0, 1] rfl rfl (by decide)
        exact ih (1, (y5 + 1), o4, y1, y2) _ _ ls (⟨rfl, hf, hP9, hD9, hS, lv_sub hl [0, 1, 2, 3, 4] rfl⟩)
  refine lv_iload_n hx hb dR_element_0 rfl (lv_at hl 1 rfl) ?_
  refine lv_iconst (v := 1) hx hb dR_element_1 (by decide) ?_
  refine lv_iadd hx hb dR_element_2 ?_
  refine lv_istore (lv' := [(4, .int (x1 + (1 : Int32))), (0, .ref a0), (1, .int x1), (2, .long x2)]) hx hb dR_element_3 hl (by decide) rfl (fun ls hl => ?_)
  refine lv_iconst (v := 0) hx hb dR_element_5 (by decide) ?_
  refine lv_istore (lv' := [(5, .int 0), (4, .int (x1 + (1 : Int32))), (0, .ref a0), (1, .int x1), (2, .long x2)]) hx hb dR_element_6 hl (by decide) rfl (fun ls hl => ?_)
  obtain ⟨hP9, hD9⟩ := xsub (wc := [(a0, .inr (2, [.ref a1, .int v1, .int v2])), (a1, .inl (cT 2, 4096, .inr (.inl f0)))]) hP hD [0, 1] rfl rfl (by decide)
  exact key n (1, 0, (x1 + (1 : Int32)), x1, x2) _ _ ls (⟨rfl, hf, hP9, hD9, hS, lv_sub hl [0, 1, 2, 3, 4] rfl⟩)
set_option maxHeartbeats 400000000 in
set_option maxRecDepth 100000 in
theorem gR_hasPart (l : Launch) (hl9 : l.stackTraces = false) (D : va_G) (cT : Nat → ClassId) (aK aV : Nat → Nat) (sz n : Nat) (a0 : Nat) (a1 : Nat) (x1 : Int32) (x2 : Int32) (x4 : Int32) (f0 : Nat → Int64) (v1 : Int32) (v2 : Int32) (out : Int32) (hf : fR_hasPart n x1 x2 x4 f0 v1 v2 = some out) : xMet l yR_hasPart wyR_hasPart 1 0 0 23 D cT aK aV sz [.ref a0, .int x1, .int x2, .ref a0, .int x4] [(a0, .inr (2, [.ref a1, .int v1, .int v2])), (a1, .inl (cT 2, 4096, .inr (.inl f0)))] (fun A => va_Qi (fun (r : Int32) (_ : Unit) => r = out) (fun _ t => xB D xcl cT A [(a0, .inr (2, [.ref a1, .int v1, .int v2])), (a1, .inl (cT 2, 4096, .inr (.inl f0)))] t) A) := by
  refine Met.ofW (cc := prog_8_method_15_code) (maxL := 7) (ret := (some .boolean)) (by decide) rfl ?_
  intro p e s m args below meth c s₁ B hml hv
  obtain ⟨rfl, hsz, hZ, hP, hK, hD0⟩ := hv
  have hx := B.exec
  have hb := B.bytes
  have hr := B.returns
  have hts := atoms_spec (ws := wyR_hasPart) B.pre
  have htx := fun w h => hts w (List.mem_cons_of_mem _ h)
  have hown : s.vm.findClass "ValueBench$Row" = some m.cls := findClass_of_methodNamed B.named
  have hlocks := B.notSynchronized
  subst hsz
  have hD := hD0.self (sz := s.heap.size)
  generalize hAe : va_A [(a0, .inr (2, [.ref a1, .int v1, .int v2])), (a1, .inl (cT 2, 4096, .inr (.inl f0)))] s.heap.size = A at hD hZ ⊢
  have hA : ∀ q : Nat, s.heap.size ≤ q → A q := fun q h => by rw [← hAe]; exact Or.inr h
  have hS : va_S A s.heap s.heap [] := va_S.rf
  have hP : va_P D xcl [(a0, .inr (2, [.ref a1, .int v1, .int v2])), (a1, .inl (cT 2, 4096, .inr (.inl f0)))] s.heap := hP
  have hl := lv_entry ([.ref a0, .int x1, .int x2, .ref a0, .int x4]) (n := 7) (Nat.le_of_ble_eq_true rfl)
  rw [lg_entry_eq]
  generalize (lg_sl ([.ref a0, .int x1, .int x2, .ref a0, .int x4]) ++ List.replicate (7 - (lg_sl ([.ref a0, .int x1, .int x2, .ref a0, .int x4])).length) Slot.unset).toArray = ls at hl ⊢
  have hl : lv_has ls 7 [(0, .ref a0), (1, .int x1), (2, .int x2), (3, .ref a0), (4, .int x4)] := hl
  unfold fR_hasPart at hf
  refine xloopK (σ := Nat × Int32 × Int32 × Int32 × Int32 × Int32) (fun n x H locs ls => (x.1 = 1 ∧ fR_hasPart_b f0 v1 v2 n x.1 x.2.1 x.2.2.1 x.2.2.2.1 x.2.2.2.2.1 x.2.2.2.2.2 = some out ∧ va_P D xcl [(a0, .inr (2, [.ref a1, .int v1, .int v2])), (a1, .inl (cT 2, 4096, .inr (.inl f0)))] H ∧ va_D A [(a0, .inr (2, [.ref a1, .int v1, .int v2])), (a1, .inl (cT 2, 4096, .inr (.inl f0)))] ∧ va_S A s.heap H locs ∧ lv_has ls 7 [(6, .int x.2.1), (5, .int x.2.2.1), (0, .ref a0), (1, .int x.2.2.2.1), (2, .int x.2.2.2.2.1), (3, .ref a0), (4, .int x.2.2.2.2.2)])) (fun x => 29) (fun x H locs ls h => by exact absurd h.2.1 (by rw [fR_hasPart_b]; exact fun h => nomatch h)) (fun n ih x H locs ls hv => ?_) (fun key => ?_)
  · obtain ⟨lb, y6, y5, y1, y2, y4⟩ := x
    rcases hv with ⟨hj, hf, hP, hD, hS, hl⟩
    subst hj
    have hf : fR_hasPart_b f0 v1 v2 (n + 1) 1 y6 y5 y1 y2 y4 = some out := hf
    rw [fR_hasPart_b] at hf
    obtain ⟨hP, hD⟩ : xPD D xcl A [(a0, .inr (2, [.ref a1, .int v1, .int v2])), (a1, .inl (cT 2, 4096, .inr (.inl f0)))] H := ⟨hP, hD⟩
    have hl : lv_has ls 7 [(6, .int y6), (5, .int y5), (0, .ref a0), (1, .int y1), (2, .int y2), (3, .ref a0), (4, .int y4)] := hl
    refine W.eq (g2 := F0 m 29 ls []) rfl ?_
    refine lv_iload hx hb dR_hasPart_29 (lv_at hl 0 rfl) ?_
    refine lv_iload hx hb dR_hasPart_31 (lv_at hl 1 rfl) ?_
    refine lv_icmp_ge (tgt := 64) hx hb dR_hasPart_33 (by decide) (fun hc => ?_) (fun hc => ?_)
    · rw [if_pos hc] at hf
      refine lv_iconst (v := 1) hx hb dR_hasPart_64 (by decide) ?_
      obtain rfl := Option.some.inj hf
      obtain ⟨hP9, hD9⟩ := xsub (wc := [(a0, .inr (2, [.ref a1, .int v1, .int v2])), (a1, .inl (cT 2, 4096, .inr (.inl f0)))]) hP hD [0, 1] rfl rfl (by decide)
      exact W.zret (v := (1 : Int32)) hx hb hr rfl (fun t ht hW => ⟨⟨(1 : Int32), (), rfl, rfl, by rw [ht]; exact hP9, va_K.moved hW.alike hK, hD9⟩, hS.F ht⟩) hS.2.2 dR_hasPart_65
    · rw [if_neg hc] at hf
      refine lv_aload_n hx hb dR_hasPart_36 rfl (lv_at hl 2 rfl) ?_
      refine lv_iload_n hx hb dR_hasPart_37 rfl (lv_at hl 3 rfl) ?_
      refine lv_iload_n hx hb dR_hasPart_38 rfl (lv_at hl 4 rfl) ?_
      refine lv_iload hx hb dR_hasPart_39 (lv_at hl 0 rfl) ?_
      refine lv_iadd hx hb dR_hasPart_41 ?_
      obtain ⟨o1, hq2, hf⟩ := xbind hf
      obtain ⟨hPc, hDc, hFc⟩ := xcut (wc := [(a0, .inr (2, [.ref a1, .int v1, .int v2])), (a1, .inl (cT 2, 4096, .inr (.inl f0)))]) hP hD hS hA [0, 1] rfl rfl (by decide)
      refine va_calli (va_runV (C := "ValueBench$Row") (As := [.int y1, .int (y2 + y6)]) (rest := []) ⟨hx, hb, hml, hown, htx⟩ (gR_code l hl9 D cT aK aV H.size n a0 a1 y1 (y2 + y6) f0 v1 v2 o1 hq2) ⟨callB_of 2 htx (xw_goodC kw_3_56) rfl rfl rfl (htx _ kw_1_4) (htx _ kw_3_218) ⟨by decide, by decide, by decide +kernel⟩ ⟨Nat.le_of_ble_eq_true rfl, Nat.le_of_ble_eq_true rfl⟩, (htx _ kw_3_54), (htx _ kw_3_55)⟩ ⟨xPre_blind, va_recv hK hP (ci := 2) rfl (q0 := 0) rfl, (fun U hU hW => ⟨rfl, xPre_of hZ hS hFc hPc hDc hK U hU hW⟩)⟩ rfl rfl hl.1 rfl (lv_room (Nat.le_of_ble_eq_true rfl)) dR_hasPart_42 ⟨Nat.le_of_ble_eq_true rfl, Nat.le_of_ble_eq_true rfl⟩) hS (fun q _ h => hFc q h) hFc (fun r3 u9 t H1 locs ht hvm hr9 hB hz1 hk1 hS => ?_)
      obtain ⟨hP1, hK1, hD1⟩ := hB
      rw [ht] at hP1
      obtain ⟨hP, hD⟩ := xjoin (W := [(a0, .inr (2, [.ref a1, .int v1, .int v2])), (a1, .inl (cT 2, 4096, .inr (.inl f0)))]) hP hD [0, 1] [] 0 rfl rfl (by decide) (by decide) hk1 hFc hP1 hD1
      generalize H1 = H at hP hS ⊢
      rw [hr9]
      refine W.eq (g2 := F0 m 45 ls [.int o1]) rfl ?_
      refine lv_aload_n hx hb dR_hasPart_45 rfl (lv_at hl 5 rfl) ?_
      refine lv_iload hx hb dR_hasPart_46 (lv_at hl 6 rfl) ?_
      refine lv_iload hx hb dR_hasPart_48 (lv_at hl 0 rfl) ?_
      obtain ⟨o4, hq5, hf⟩ := xbind hf
      obtain ⟨hPc, hDc, hFc⟩ := xcut (wc := [(a0, .inr (2, [.ref a1, .int v1, .int v2])), (a1, .inl (cT 2, 4096, .inr (.inl f0)))]) hP hD hS hA [0, 1] rfl rfl (by decide)
      refine va_calli (va_runV (C := "ValueBench$Row") (As := [.int y4, .int y6]) (rest := [.int o1]) ⟨hx, hb, hml, hown, htx⟩ (gR_code l hl9 D cT aK aV H.size n a0 a1 y4 y6 f0 v1 v2 o4 hq5) ⟨callB_of 2 htx (xw_goodC kw_3_56) rfl rfl rfl (htx _ kw_1_4) (htx _ kw_3_218) ⟨by decide, by decide, by decide +kernel⟩ ⟨Nat.le_of_ble_eq_true rfl, Nat.le_of_ble_eq_true rfl⟩, (htx _ kw_3_54), (htx _ kw_3_55)⟩ ⟨xPre_blind, va_recv hK hP (ci := 2) rfl (q0 := 0) rfl, (fun U hU hW => ⟨rfl, xPre_of hZ hS hFc hPc hDc hK U hU hW⟩)⟩ rfl rfl hl.1 rfl (lv_room (Nat.le_of_ble_eq_true rfl)) dR_hasPart_50 ⟨Nat.le_of_ble_eq_true rfl, Nat.le_of_ble_eq_true rfl⟩) hS (fun q _ h => hFc q h) hFc (fun r6 u9 t H1 locs ht hvm hr9 hB hz1 hk1 hS => ?_)
      obtain ⟨hP1, hK1, hD1⟩ := hB
      rw [ht] at hP1
      obtain ⟨hP, hD⟩ := xjoin (W := [(a0, .inr (2, [.ref a1, .int v1, .int v2])), (a1, .inl (cT 2, 4096, .inr (.inl f0)))]) hP hD [0, 1] [] 0 rfl rfl (by decide) (by decide) hk1 hFc hP1 hD1
      generalize H1 = H at hP hS ⊢
      rw [hr9]
      refine W.eq (g2 := F0 m 53 ls [.int o4, .int o1]) rfl ?_
      refine lv_icmp_eq (tgt := 58) hx hb dR_hasPart_53 (by decide) (fun hc => ?_) (fun hc => ?_)
      · rw [if_pos hc] at hf
        refine lv_iinc (v := (y6 + 1)) (lv' := [(6, .int (y6 + 1)), (5, .int y5), (0, .ref a0), (1, .int y1), (2, .int y2), (3, .ref a0), (4, .int y4)]) hx hb dR_hasPart_58 hl (k := 0) rfl rfl (by decide) rfl (fun ls hl => ?_)
        refine lv_goto (tgt := 29) hx hb dR_hasPart_61 (by decide) ?_
        obtain ⟨hP9, hD9⟩ := xsub (wc := [(a0, .inr (2, [.ref a1, .int v1, .int v2])), (a1, .inl (cT 2, 4096, .inr (.inl f0)))]) hP hD [0, 1] rfl rfl (by decide)
        exact ih (1, (y6 + 1), y5, y1, y2, y4) _ _ ls (⟨rfl, hf, hP9, hD9, hS, lv_sub hl [0, 1, 2, 3, 4, 5, 6] rfl⟩)
      · rw [if_neg hc] at hf
        refine lv_iconst (v := 0) hx hb dR_hasPart_56 (by decide) ?_
        obtain rfl := Option.some.inj hf
        obtain ⟨hP9, hD9⟩ := xsub (wc := [(a0, .inr (2, [.ref a1, .int v1, .int v2])), (a1, .inl (cT 2, 4096, .inr (.inl f0)))]) hP hD [0, 1] rfl rfl (by decide)
        exact W.zret (v := (0 : Int32)) hx hb hr rfl (fun t ht hW => ⟨⟨(0 : Int32), (), rfl, rfl, by rw [ht]; exact hP9, va_K.moved hW.alike hK, hD9⟩, hS.F ht⟩) hS.2.2 dR_hasPart_57
  refine lv_aload_n hx hb dR_hasPart_0 rfl (lv_at hl 3 rfl) ?_
  refine lv_iload hx hb dR_hasPart_1 (lv_at hl 4 rfl) ?_
  obtain ⟨o1, hq2, hf⟩ := xbind hf
  obtain ⟨hPc, hDc, hFc⟩ := xcut (wc := [(a0, .inr (2, [.ref a1, .int v1, .int v2])), (a1, .inl (cT 2, 4096, .inr (.inl f0)))]) hP hD hS hA [0, 1] rfl rfl (by decide)
  refine va_calli (va_runV (C := "ValueBench$Row") (As := [.int x4]) (rest := []) ⟨hx, hb, hml, hown, htx⟩ (gR_length l hl9 D cT aK aV s.heap.size n a0 a1 x4 f0 v1 v2 o1 hq2) ⟨callB_of 1 htx (xw_goodC kw_2_191) rfl rfl rfl (htx _ kw_1_4) (htx _ kw_2_188) ⟨by decide, by decide, by decide +kernel⟩ ⟨Nat.le_of_ble_eq_true rfl, Nat.le_of_ble_eq_true rfl⟩, (htx _ kw_2_189), (htx _ kw_2_190)⟩ ⟨xPre_blind, va_recv hK hP (ci := 2) rfl (q0 := 0) rfl, (fun U hU hW => ⟨rfl, xPre_of hZ hS hFc hPc hDc hK U hU hW⟩)⟩ rfl rfl hl.1 rfl (lv_room (Nat.le_of_ble_eq_true rfl)) dR_hasPart_3 ⟨Nat.le_of_ble_eq_true rfl, Nat.le_of_ble_eq_true rfl⟩) hS (fun q _ h => hFc q h) hFc (fun r3 u9 t H1 locs ht hvm hr9 hB hz1 hk1 hS => ?_)
  obtain ⟨hP1, hK1, hD1⟩ := hB
  rw [ht] at hP1
  obtain ⟨hP, hD⟩ := xjoin (W := [(a0, .inr (2, [.ref a1, .int v1, .int v2])), (a1, .inl (cT 2, 4096, .inr (.inl f0)))]) hP hD [0, 1] [] 0 rfl rfl (by decide) (by decide) hk1 hFc hP1 hD1
  generalize H1 = H at hP hS ⊢
  rw [hr9]
  refine W.eq (g2 := F0 m 6 ls [.int o1]) rfl ?_
  refine lv_istore (lv' := [(5, .int o1), (0, .ref a0), (1, .int x1), (2, .int x2), (3, .ref a0), (4, .int x4)]) hx hb dR_hasPart_6 hl (by decide) rfl (fun ls hl => ?_)
  refine lv_iload_n hx hb dR_hasPart_8 rfl (lv_at hl 3 rfl) ?_
  refine lv_if_lt (tgt := 24) hx hb dR_hasPart_9 (by decide) (fun hc => ?_) (fun hc => ?_)
  · rw [if_pos hc] at hf
    refine lv_iconst (v := 0) hx hb dR_hasPart_24 (by decide) ?_
    obtain rfl := Option.some.inj hf
    obtain ⟨hP9, hD9⟩ := xsub (wc := [(a0, .inr (2, [.ref a1, .int v1, .int v2])), (a1, .inl (cT 2, 4096, .inr (.inl f0)))]) hP hD [0, 1] rfl rfl (by decide)
    exact W.zret (v := (0 : Int32)) hx hb hr rfl (fun t ht hW => ⟨⟨(0 : Int32), (), rfl, rfl, by rw [ht]; exact hP9, va_K.moved hW.alike hK, hD9⟩, hS.F ht⟩) hS.2.2 dR_hasPart_25
  · rw [if_neg hc] at hf
    refine lv_iload_n hx hb dR_hasPart_12 rfl (lv_at hl 3 rfl) ?_
    refine lv_iload hx hb dR_hasPart_13 (lv_at hl 0 rfl) ?_
    refine lv_iadd hx hb dR_hasPart_15 ?_
    refine lv_aload_n hx hb dR_hasPart_16 rfl (lv_at hl 1 rfl) ?_
    refine lv_iload_n hx hb dR_hasPart_17 rfl (lv_at hl 2 rfl) ?_
    obtain ⟨o4, hq5, hf⟩ := xbind hf
    obtain ⟨hPc, hDc, hFc⟩ := xcut (wc := [(a0, .inr (2, [.ref a1, .int v1, .int v2])), (a1, .inl (cT 2, 4096, .inr (.inl f0)))]) hP hD hS hA [0, 1] rfl rfl (by decide)
    refine va_calli (va_runV (C := "ValueBench$Row") (As := [.int x1]) (rest := [.int (x2 + o1)]) ⟨hx, hb, hml, hown, htx⟩ (gR_length l hl9 D cT aK aV H.size n a0 a1 x1 f0 v1 v2 o4 hq5) ⟨callB_of 1 htx (xw_goodC kw_2_191) rfl rfl rfl (htx _ kw_1_4) (htx _ kw_2_188) ⟨by decide, by decide, by decide +kernel⟩ ⟨Nat.le_of_ble_eq_true rfl, Nat.le_of_ble_eq_true rfl⟩, (htx _ kw_2_189), (htx _ kw_2_190)⟩ ⟨xPre_blind, va_recv hK hP (ci := 2) rfl (q0 := 0) rfl, (fun U hU hW => ⟨rfl, xPre_of hZ hS hFc hPc hDc hK U hU hW⟩)⟩ rfl rfl hl.1 rfl (lv_room (Nat.le_of_ble_eq_true rfl)) dR_hasPart_18 ⟨Nat.le_of_ble_eq_true rfl, Nat.le_of_ble_eq_true rfl⟩) hS (fun q _ h => hFc q h) hFc (fun r6 u9 t H1 locs ht hvm hr9 hB hz1 hk1 hS => ?_)
    obtain ⟨hP1, hK1, hD1⟩ := hB
    rw [ht] at hP1
    obtain ⟨hP, hD⟩ := xjoin (W := [(a0, .inr (2, [.ref a1, .int v1, .int v2])), (a1, .inl (cT 2, 4096, .inr (.inl f0)))]) hP hD [0, 1] [] 0 rfl rfl (by decide) (by decide) hk1 hFc hP1 hD1
    generalize H1 = H at hP hS ⊢
    rw [hr9]
    refine W.eq (g2 := F0 m 21 ls [.int o4, .int (x2 + o1)]) rfl ?_
    refine lv_icmp_le (tgt := 26) hx hb dR_hasPart_21 (by decide) (fun hc => ?_) (fun hc => ?_)
    · rw [if_pos hc] at hf
      refine lv_iconst (v := 0) hx hb dR_hasPart_26 (by decide) ?_
      refine lv_istore (lv' := [(6, .int 0), (5, .int o1), (0, .ref a0), (1, .int x1), (2, .int x2), (3, .ref a0), (4, .int x4)]) hx hb dR_hasPart_27 hl (by decide) rfl (fun ls hl => ?_)
      obtain ⟨hP9, hD9⟩ := xsub (wc := [(a0, .inr (2, [.ref a1, .int v1, .int v2])), (a1, .inl (cT 2, 4096, .inr (.inl f0)))]) hP hD [0, 1] rfl rfl (by decide)
      exact key n (1, 0, o1, x1, x2, x4) _ _ ls (⟨rfl, hf, hP9, hD9, hS, lv_sub hl [0, 1, 2, 3, 4, 5, 6] rfl⟩)
    · rw [if_neg hc] at hf
      refine lv_iconst (v := 0) hx hb dR_hasPart_24 (by decide) ?_
      obtain rfl := Option.some.inj hf
      obtain ⟨hP9, hD9⟩ := xsub (wc := [(a0, .inr (2, [.ref a1, .int v1, .int v2])), (a1, .inl (cT 2, 4096, .inr (.inl f0)))]) hP hD [0, 1] rfl rfl (by decide)
      exact W.zret (v := (0 : Int32)) hx hb hr rfl (fun t ht hW => ⟨⟨(0 : Int32), (), rfl, rfl, by rw [ht]; exact hP9, va_K.moved hW.alike hK, hD9⟩, hS.F ht⟩) hS.2.2 dR_hasPart_25
set_option maxHeartbeats 400000000 in
set_option maxRecDepth 100000 in
theorem gR_hasParta (l : Launch) (hl9 : l.stackTraces = false) (D : va_G) (cT : Nat → ClassId) (aK aV : Nat → Nat) (sz n : Nat) (a0 : Nat) (a1 : Nat) (a2 : Nat) (a3 : Nat) (x1 : Int32) (x2 : Int32) (x4 : Int32) (f0 : Nat → Int64) (v1 : Int32) (v2 : Int32) (f3 : Nat → Int64) (v4 : Int32) (v5 : Int32) (out : Int32) (hf : fR_hasParta n x1 x2 x4 f0 v1 v2 f3 v4 v5 = some out) : xMet l yR_hasPart wyR_hasPart 1 0 0 23 D cT aK aV sz [.ref a0, .int x1, .int x2, .ref a2, .int x4] [(a0, .inr (2, [.ref a1, .int v1, .int v2])), (a1, .inl (cT 2, 4096, .inr (.inl f0))), (a2, .inr (2, [.ref a3, .int v4, .int v5])), (a3, .inl (cT 2, 4096, .inr (.inl f3)))] (fun A => va_Qi (fun (r : Int32) (_ : Unit) => r = out) (fun _ t => xB D xcl cT A [(a0, .inr (2, [.ref a1, .int v1, .int v2])), (a1, .inl (cT 2, 4096, .inr (.inl f0))), (a2, .inr (2, [.ref a3, .int v4, .int v5])), (a3, .inl (cT 2, 4096, .inr (.inl f3)))] t) A) := by
  refine Met.ofW (cc := prog_8_method_15_code) (maxL := 7) (ret := (some .boolean)) (by decide) rfl ?_
  intro p e s m args below meth c s₁ B hml hv
  obtain ⟨rfl, hsz, hZ, hP, hK, hD0⟩ := hv
  have hx := B.exec
  have hb := B.bytes
  have hr := B.returns
  have hts := atoms_spec (ws := wyR_hasPart) B.pre
  have htx := fun w h => hts w (List.mem_cons_of_mem _ h)
  have hown : s.vm.findClass "ValueBench$Row" = some m.cls := findClass_of_methodNamed B.named
  have hlocks := B.notSynchronized
  subst hsz
  have hD := hD0.self (sz := s.heap.size)
  generalize hAe : va_A [(a0, .inr (2, [.ref a1, .int v1, .int v2])), (a1, .inl (cT 2, 4096, .inr (.inl f0))), (a2, .inr (2, [.ref a3, .int v4, .int v5])), (a3, .inl (cT 2, 4096, .inr (.inl f3)))] s.heap.size = A at hD hZ ⊢
  have hA : ∀ q : Nat, s.heap.size ≤ q → A q := fun q h => by rw [← hAe]; exact Or.inr h
  have hS : va_S A s.heap s.heap [] := va_S.rf
  have hP : va_P D xcl [(a0, .inr (2, [.ref a1, .int v1, .int v2])), (a1, .inl (cT 2, 4096, .inr (.inl f0))), (a2, .inr (2, [.ref a3, .int v4, .int v5])), (a3, .inl (cT 2, 4096, .inr (.inl f3)))] s.heap := hP
  have hl := lv_entry ([.ref a0, .int x1, .int x2, .ref a2, .int x4]) (n := 7) (Nat.le_of_ble_eq_true rfl)
  rw [lg_entry_eq]
  generalize (lg_sl ([.ref a0, .int x1, .int x2, .ref a2, .int x4]) ++ List.replicate (7 - (lg_sl ([.ref a0, .int x1, .int x2, .ref a2, .int x4])).length) Slot.unset).toArray = ls at hl ⊢
  have hl : lv_has ls 7 [(0, .ref a0), (1, .int x1), (2, .int x2), (3, .ref a2), (4, .int x4)] := hl
  unfold fR_hasParta at hf
  refine xloopK (σ := Nat × Int32 × Int32 × Int32 × Int32 × Int32) (fun n x H locs ls => (x.1 = 1 ∧ fR_hasParta_b f0 v1 v2 f3 v4 v5 n x.1 x.2.1 x.2.2.1 x.2.2.2.1 x.2.2.2.2.1 x.2.2.2.2.2 = some out ∧ va_P D xcl [(a0, .inr (2, [.ref a1, .int v1, .int v2])), (a1, .inl (cT 2, 4096, .inr (.inl f0))), (a2, .inr (2, [.ref a3, .int v4, .int v5])), (a3, .inl (cT 2, 4096, .inr (.inl f3)))] H ∧ va_D A [(a0, .inr (2, [.ref a1, .int v1, .int v2])), (a1, .inl (cT 2, 4096, .inr (.inl f0))), (a2, .inr (2, [.ref a3, .int v4, .int v5])), (a3, .inl (cT 2, 4096, .inr (.inl f3)))] ∧ va_S A s.heap H locs ∧ lv_has ls 7 [(6, .int x.2.1), (5, .int x.2.2.1), (0, .ref a0), (1, .int x.2.2.2.1), (2, .int x.2.2.2.2.1), (3, .ref a2), (4, .int x.2.2.2.2.2)])) (fun x => 29) (fun x H locs ls h => by exact absurd h.2.1 (by rw [fR_hasParta_b]; exact fun h => nomatch h)) (fun n ih x H locs ls hv => ?_) (fun key => ?_)
  · obtain ⟨lb, y6, y5, y1, y2, y4⟩ := x
    rcases hv with ⟨hj, hf, hP, hD, hS, hl⟩
    subst hj
    have hf : fR_hasParta_b f0 v1 v2 f3 v4 v5 (n + 1) 1 y6 y5 y1 y2 y4 = some out := hf
    rw [fR_hasParta_b] at hf
    obtain ⟨hP, hD⟩ : xPD D xcl A [(a0, .inr (2, [.ref a1, .int v1, .int v2])), (a1, .inl (cT 2, 4096, .inr (.inl f0))), (a2, .inr (2, [.ref a3, .int v4, .int v5])), (a3, .inl (cT 2, 4096, .inr (.inl f3)))] H := ⟨hP, hD⟩
    have hl : lv_has ls 7 [(6, .int y6), (5, .int y5), (0, .ref a0), (1, .int y1), (2, .int y2), (3, .ref a2), (4, .int y4)] := hl
    refine W.eq (g2 := F0 m 29 ls []) rfl ?_
    refine lv_iload hx hb dR_hasPart_29 (lv_at hl 0 rfl) ?_
    refine lv_iload hx hb dR_hasPart_31 (lv_at hl 1 rfl) ?_
    refine lv_icmp_ge (tgt := 64) hx hb dR_hasPart_33 (by decide) (fun hc => ?_) (fun hc => ?_)
    · rw [if_pos hc] at hf
      refine lv_iconst (v := 1) hx hb dR_hasPart_64 (by decide) ?_
      obtain rfl := Option.some.inj hf
      obtain ⟨hP9, hD9⟩ := xsub (wc := [(a0, .inr (2, [.ref a1, .int v1, .int v2])), (a1, .inl (cT 2, 4096, .inr (.inl f0))), (a2, .inr (2, [.ref a3, .int v4, .int v5])), (a3, .inl (cT 2, 4096, .inr (.inl f3)))]) hP hD [0, 1, 2, 3] rfl rfl (by decide)
      exact W.zret (v := (1 : Int32)) hx hb hr rfl (fun t ht hW => ⟨⟨(1 : Int32), (), rfl, rfl, by rw [ht]; exact hP9, va_K.moved hW.alike hK, hD9⟩, hS.F ht⟩) hS.2.2 dR_hasPart_65
    · rw [if_neg hc] at hf
      refine lv_aload_n hx hb dR_hasPart_36 rfl (lv_at hl 2 rfl) ?_
      refine lv_iload_n hx hb dR_hasPart_37 rfl (lv_at hl 3 rfl) ?_
      refine lv_iload_n hx hb dR_hasPart_38 rfl (lv_at hl 4 rfl) ?_
      refine lv_iload hx hb dR_hasPart_39 (lv_at hl 0 rfl) ?_
      refine lv_iadd hx hb dR_hasPart_41 ?_
      obtain ⟨o1, hq2, hf⟩ := xbind hf
      obtain ⟨hPc, hDc, hFc⟩ := xcut (wc := [(a0, .inr (2, [.ref a1, .int v1, .int v2])), (a1, .inl (cT 2, 4096, .inr (.inl f0)))]) hP hD hS hA [0, 1] rfl rfl (by decide)
      refine va_calli (va_runV (C := "ValueBench$Row") (As := [.int y1, .int (y2 + y6)]) (rest := []) ⟨hx, hb, hml, hown, htx⟩ (gR_code l hl9 D cT aK aV H.size n a0 a1 y1 (y2 + y6) f0 v1 v2 o1 hq2) ⟨callB_of 2 htx (xw_goodC kw_3_56) rfl rfl rfl (htx _ kw_1_4) (htx _ kw_3_218) ⟨by decide, by decide, by decide +kernel⟩ ⟨Nat.le_of_ble_eq_true rfl, Nat.le_of_ble_eq_true rfl⟩, (htx _ kw_3_54), (htx _ kw_3_55)⟩ ⟨xPre_blind, va_recv hK hP (ci := 2) rfl (q0 := 0) rfl, (fun U hU hW => ⟨rfl, xPre_of hZ hS hFc hPc hDc hK U hU hW⟩)⟩ rfl rfl hl.1 rfl (lv_room (Nat.le_of_ble_eq_true rfl)) dR_hasPart_42 ⟨Nat.le_of_ble_eq_true rfl, Nat.le_of_ble_eq_true rfl⟩) hS (fun q _ h => hFc q h) hFc (fun r3 u9 t H1 locs ht hvm hr9 hB hz1 hk1 hS => ?_)
      obtain ⟨hP1, hK1, hD1⟩ := hB
      rw [ht] at hP1
      obtain ⟨hP, hD⟩ := xjoin (W := [(a2, .inr (2, [.ref a3, .int v4, .int v5])), (a3, .inl (cT 2, 4096, .inr (.inl f3))), (a0, .inr (2, [.ref a1, .int v1, .int v2])), (a1, .inl (cT 2, 4096, .inr (.inl f0)))]) hP hD [0, 1] [2, 3] 2 rfl rfl (by decide) (by decide) hk1 hFc hP1 hD1
      generalize H1 = H at hP hS ⊢
      rw [hr9]
      refine W.eq (g2 := F0 m 45 ls [.int o1]) rfl ?_
      refine lv_aload_n hx hb dR_hasPart_45 rfl (lv_at hl 5 rfl) ?_
      refine lv_iload hx hb dR_hasPart_46 (lv_at hl 6 rfl) ?_
      refine lv_iload hx hb dR_hasPart_48 (lv_at hl 0 rfl) ?_
      obtain ⟨o4, hq5, hf⟩ := xbind hf
      obtain ⟨hPc, hDc, hFc⟩ := xcut (wc := [(a2, .inr (2, [.ref a3, .int v4, .int v5])), (a3, .inl (cT 2, 4096, .inr (.inl f3)))]) hP hD hS hA [0, 1] rfl rfl (by decide)
      refine va_calli (va_runV (C := "ValueBench$Row") (As := [.int y4, .int y6]) (rest := [.int o1]) ⟨hx, hb, hml, hown, htx⟩ (gR_code l hl9 D cT aK aV H.size n a2 a3 y4 y6 f3 v4 v5 o4 hq5) ⟨callB_of 2 htx (xw_goodC kw_3_56) rfl rfl rfl (htx _ kw_1_4) (htx _ kw_3_218) ⟨by decide, by decide, by decide +kernel⟩ ⟨Nat.le_of_ble_eq_true rfl, Nat.le_of_ble_eq_true rfl⟩, (htx _ kw_3_54), (htx _ kw_3_55)⟩ ⟨xPre_blind, va_recv hK hP (ci := 2) rfl (q0 := 0) rfl, (fun U hU hW => ⟨rfl, xPre_of hZ hS hFc hPc hDc hK U hU hW⟩)⟩ rfl rfl hl.1 rfl (lv_room (Nat.le_of_ble_eq_true rfl)) dR_hasPart_50 ⟨Nat.le_of_ble_eq_true rfl, Nat.le_of_ble_eq_true rfl⟩) hS (fun q _ h => hFc q h) hFc (fun r6 u9 t H1 locs ht hvm hr9 hB hz1 hk1 hS => ?_)
      obtain ⟨hP1, hK1, hD1⟩ := hB
      rw [ht] at hP1
      obtain ⟨hP, hD⟩ := xjoin (W := [(a0, .inr (2, [.ref a1, .int v1, .int v2])), (a1, .inl (cT 2, 4096, .inr (.inl f0))), (a2, .inr (2, [.ref a3, .int v4, .int v5])), (a3, .inl (cT 2, 4096, .inr (.inl f3)))]) hP hD [0, 1] [2, 3] 2 rfl rfl (by decide) (by decide) hk1 hFc hP1 hD1
      generalize H1 = H at hP hS ⊢
      rw [hr9]
      refine W.eq (g2 := F0 m 53 ls [.int o4, .int o1]) rfl ?_
      refine lv_icmp_eq (tgt := 58) hx hb dR_hasPart_53 (by decide) (fun hc => ?_) (fun hc => ?_)
      · rw [if_pos hc] at hf
        refine lv_iinc (v := (y6 + 1)) (lv' := [(6, .int (y6 + 1)), (5, .int y5), (0, .ref a0), (1, .int y1), (2, .int y2), (3, .ref a2), (4, .int y4)]) hx hb dR_hasPart_58 hl (k := 0) rfl rfl (by decide) rfl (fun ls hl => ?_)
        refine lv_goto (tgt := 29) hx hb dR_hasPart_61 (by decide) ?_
        obtain ⟨hP9, hD9⟩ := xsub (wc := [(a0, .inr (2, [.ref a1, .int v1, .int v2])), (a1, .inl (cT 2, 4096, .inr (.inl f0))), (a2, .inr (2, [.ref a3, .int v4, .int v5])), (a3, .inl (cT 2, 4096, .inr (.inl f3)))]) hP hD [0, 1, 2, 3] rfl rfl (by decide)
        exact ih (1, (y6 + 1), y5, y1, y2, y4) _ _ ls (⟨rfl, hf, hP9, hD9, hS, lv_sub hl [0, 1, 2, 3, 4, 5, 6] rfl⟩)
      · rw [if_neg hc] at hf
        refine lv_iconst (v := 0) hx hb dR_hasPart_56 (by decide) ?_
        obtain rfl := Option.some.inj hf
        obtain ⟨hP9, hD9⟩ := xsub (wc := [(a0, .inr (2, [.ref a1, .int v1, .int v2])), (a1, .inl (cT 2, 4096, .inr (.inl f0))), (a2, .inr (2, [.ref a3, .int v4, .int v5])), (a3, .inl (cT 2, 4096, .inr (.inl f3)))]) hP hD [0, 1, 2, 3] rfl rfl (by decide)
        exact W.zret (v := (0 : Int32)) hx hb hr rfl (fun t ht hW => ⟨⟨(0 : Int32), (), rfl, rfl, by rw [ht]; exact hP9, va_K.moved hW.alike hK, hD9⟩, hS.F ht⟩) hS.2.2 dR_hasPart_57
  refine lv_aload_n hx hb dR_hasPart_0 rfl (lv_at hl 3 rfl) ?_
  refine lv_iload hx hb dR_hasPart_1 (lv_at hl 4 rfl) ?_
  obtain ⟨o1, hq2, hf⟩ := xbind hf
  obtain ⟨hPc, hDc, hFc⟩ := xcut (wc := [(a2, .inr (2, [.ref a3, .int v4, .int v5])), (a3, .inl (cT 2, 4096, .inr (.inl f3)))]) hP hD hS hA [2, 3] rfl rfl (by decide)
  refine va_calli (va_runV (C := "ValueBench$Row") (As := [.int x4]) (rest := []) ⟨hx, hb, hml, hown, htx⟩ (gR_length l hl9 D cT aK aV s.heap.size n a2 a3 x4 f3 v4 v5 o1 hq2) ⟨callB_of 1 htx (xw_goodC kw_2_191) rfl rfl rfl (htx _ kw_1_4) (htx _ kw_2_188) ⟨by decide, by decide, by decide +kernel⟩ ⟨Nat.le_of_ble_eq_true rfl, Nat.le_of_ble_eq_true rfl⟩, (htx _ kw_2_189), (htx _ kw_2_190)⟩ ⟨xPre_blind, va_recv hK hP (ci := 2) rfl (q0 := 2) rfl, (fun U hU hW => ⟨rfl, xPre_of hZ hS hFc hPc hDc hK U hU hW⟩)⟩ rfl rfl hl.1 rfl (lv_room (Nat.le_of_ble_eq_true rfl)) dR_hasPart_3 ⟨Nat.le_of_ble_eq_true rfl, Nat.le_of_ble_eq_true rfl⟩) hS (fun q _ h => hFc q h) hFc (fun r3 u9 t H1 locs ht hvm hr9 hB hz1 hk1 hS => ?_)
  obtain ⟨hP1, hK1, hD1⟩ := hB
  rw [ht] at hP1
  obtain ⟨hP, hD⟩ := xjoin (W := [(a0, .inr (2, [.ref a1, .int v1, .int v2])), (a1, .inl (cT 2, 4096, .inr (.inl f0))), (a2, .inr (2, [.ref a3, .int v4, .int v5])), (a3, .inl (cT 2, 4096, .inr (.inl f3)))]) hP hD [2, 3] [0, 1] 2 rfl rfl (by decide) (by decide) hk1 hFc hP1 hD1
  generalize H1 = H at hP hS ⊢
  rw [hr9]
  refine W.eq (g2 := F0 m 6 ls [.int o1]) rfl ?_
  refine lv_istore (lv' := [(5, .int o1), (0, .ref a0), (1, .int x1), (2, .int x2), (3, .ref a2), (4, .int x4)]) hx hb dR_hasPart_6 hl (by decide) rfl (fun ls hl => ?_)
  refine lv_iload_n hx hb dR_hasPart_8 rfl (lv_at hl 3 rfl) ?_
  refine lv_if_lt (tgt := 24) hx hb dR_hasPart_9 (by decide) (fun hc => ?_) (fun hc => ?_)
  · rw [if_pos hc] at hf
    refine lv_iconst (v := 0) hx hb dR_hasPart_24 (by decide) ?_
    obtain rfl := Option.some.inj hf
    obtain ⟨hP9, hD9⟩ := xsub (wc := [(a0, .inr (2, [.ref a1, .int v1, .int v2])), (a1, .inl (cT 2, 4096, .inr (.inl f0))), (a2, .inr (2, [.ref a3, .int v4, .int v5])), (a3, .inl (cT 2, 4096, .inr (.inl f3)))]) hP hD [0, 1, 2, 3] rfl rfl (by decide)
    exact W.zret (v := (0 : Int32)) hx hb hr rfl (fun t ht hW => ⟨⟨(0 : Int32), (), rfl, rfl, by rw [ht]; exact hP9, va_K.moved hW.alike hK, hD9⟩, hS.F ht⟩) hS.2.2 dR_hasPart_25
  · rw [if_neg hc] at hf
    refine lv_iload_n hx hb dR_hasPart_12 rfl (lv_at hl 3 rfl) ?_
    refine lv_iload hx hb dR_hasPart_13 (lv_at hl 0 rfl) ?_
    refine lv_iadd hx hb dR_hasPart_15 ?_
    refine lv_aload_n hx hb dR_hasPart_16 rfl (lv_at hl 1 rfl) ?_
    refine lv_iload_n hx hb dR_hasPart_17 rfl (lv_at hl 2 rfl) ?_
    obtain ⟨o4, hq5, hf⟩ := xbind hf
    obtain ⟨hPc, hDc, hFc⟩ := xcut (wc := [(a0, .inr (2, [.ref a1, .int v1, .int v2])), (a1, .inl (cT 2, 4096, .inr (.inl f0)))]) hP hD hS hA [0, 1] rfl rfl (by decide)
    refine va_calli (va_runV (C := "ValueBench$Row") (As := [.int x1]) (rest := [.int (x2 + o1)]) ⟨hx, hb, hml, hown, htx⟩ (gR_length l hl9 D cT aK aV H.size n a0 a1 x1 f0 v1 v2 o4 hq5) ⟨callB_of 1 htx (xw_goodC kw_2_191) rfl rfl rfl (htx _ kw_1_4) (htx _ kw_2_188) ⟨by decide, by decide, by decide +kernel⟩ ⟨Nat.le_of_ble_eq_true rfl, Nat.le_of_ble_eq_true rfl⟩, (htx _ kw_2_189), (htx _ kw_2_190)⟩ ⟨xPre_blind, va_recv hK hP (ci := 2) rfl (q0 := 0) rfl, (fun U hU hW => ⟨rfl, xPre_of hZ hS hFc hPc hDc hK U hU hW⟩)⟩ rfl rfl hl.1 rfl (lv_room (Nat.le_of_ble_eq_true rfl)) dR_hasPart_18 ⟨Nat.le_of_ble_eq_true rfl, Nat.le_of_ble_eq_true rfl⟩) hS (fun q _ h => hFc q h) hFc (fun r6 u9 t H1 locs ht hvm hr9 hB hz1 hk1 hS => ?_)
    obtain ⟨hP1, hK1, hD1⟩ := hB
    rw [ht] at hP1
    obtain ⟨hP, hD⟩ := xjoin (W := [(a2, .inr (2, [.ref a3, .int v4, .int v5])), (a3, .inl (cT 2, 4096, .inr (.inl f3))), (a0, .inr (2, [.ref a1, .int v1, .int v2])), (a1, .inl (cT 2, 4096, .inr (.inl f0)))]) hP hD [0, 1] [2, 3] 2 rfl rfl (by decide) (by decide) hk1 hFc hP1 hD1
    generalize H1 = H at hP hS ⊢
    rw [hr9]
    refine W.eq (g2 := F0 m 21 ls [.int o4, .int (x2 + o1)]) rfl ?_
    refine lv_icmp_le (tgt := 26) hx hb dR_hasPart_21 (by decide) (fun hc => ?_) (fun hc => ?_)
    · rw [if_pos hc] at hf
      refine lv_iconst (v := 0) hx hb dR_hasPart_26 (by decide) ?_
      refine lv_istore (lv' := [(6, .int 0), (5, .int o1), (0, .ref a0), (1, .int x1), (2, .int x2), (3, .ref a2), (4, .int x4)]) hx hb dR_hasPart_27 hl (by decide) rfl (fun ls hl => ?_)
      obtain ⟨hP9, hD9⟩ := xsub (wc := [(a0, .inr (2, [.ref a1, .int v1, .int v2])), (a1, .inl (cT 2, 4096, .inr (.inl f0))), (a2, .inr (2, [.ref a3, .int v4, .int v5])), (a3, .inl (cT 2, 4096, .inr (.inl f3)))]) hP hD [2, 3, 0, 1] rfl rfl (by decide)
      exact key n (1, 0, o1, x1, x2, x4) _ _ ls (⟨rfl, hf, hP9, hD9, hS, lv_sub hl [0, 1, 2, 3, 4, 5, 6] rfl⟩)
    · rw [if_neg hc] at hf
      refine lv_iconst (v := 0) hx hb dR_hasPart_24 (by decide) ?_
      obtain rfl := Option.some.inj hf
      obtain ⟨hP9, hD9⟩ := xsub (wc := [(a0, .inr (2, [.ref a1, .int v1, .int v2])), (a1, .inl (cT 2, 4096, .inr (.inl f0))), (a2, .inr (2, [.ref a3, .int v4, .int v5])), (a3, .inl (cT 2, 4096, .inr (.inl f3)))]) hP hD [2, 3, 0, 1] rfl rfl (by decide)
      exact W.zret (v := (0 : Int32)) hx hb hr rfl (fun t ht hW => ⟨⟨(0 : Int32), (), rfl, rfl, by rw [ht]; exact hP9, va_K.moved hW.alike hK, hD9⟩, hS.F ht⟩) hS.2.2 dR_hasPart_25
set_option maxHeartbeats 400000000 in
set_option maxRecDepth 100000 in
theorem gR_kind (l : Launch) (hl9 : l.stackTraces = false) (D : va_G) (cT : Nat → ClassId) (aK aV : Nat → Nat) (sz n : Nat) (a0 : Nat) (a1 : Nat) (x1 : Int32) (f0 : Nat → Int64) (v1 : Int32) (v2 : Int32) (out : Int32) (hf : fR_kind n x1 f0 v1 v2 = some out) : xMet l yR_kind wyR_kind 0 0 0 0 D cT aK aV sz [.ref a0, .int x1] [(a0, .inr (2, [.ref a1, .int v1, .int v2])), (a1, .inl (cT 2, 4096, .inr (.inl f0)))] (fun A => va_Qi (fun (r : Int32) (_ : Unit) => r = out) (fun _ t => xB D xcl cT A [(a0, .inr (2, [.ref a1, .int v1, .int v2])), (a1, .inl (cT 2, 4096, .inr (.inl f0)))] t) A) := by
  refine Met.ofW (cc := prog_8_method_6_code) (maxL := 2) (ret := (some .int)) (by decide) rfl ?_
  intro p e s m args below meth c s₁ B hml hv
  obtain ⟨rfl, hsz, hZ, hP, hK, hD0⟩ := hv
  have hx := B.exec
  have hb := B.bytes
  have hr := B.returns
  have hts := atoms_spec (ws := wyR_kind) B.pre
  have htx := fun w h => hts w (List.mem_cons_of_mem _ h)
  have hown : s.vm.findClass "ValueBench$Row" = some m.cls := findClass_of_methodNamed B.named
  have hlocks := B.notSynchronized
  subst hsz
  have hD := hD0.self (sz := s.heap.size)
  generalize hAe : va_A [(a0, .inr (2, [.ref a1, .int v1, .int v2])), (a1, .inl (cT 2, 4096, .inr (.inl f0)))] s.heap.size = A at hD hZ ⊢
  have hA : ∀ q : Nat, s.heap.size ≤ q → A q := fun q h => by rw [← hAe]; exact Or.inr h
  have hS : va_S A s.heap s.heap [] := va_S.rf
  have hP : va_P D xcl [(a0, .inr (2, [.ref a1, .int v1, .int v2])), (a1, .inl (cT 2, 4096, .inr (.inl f0)))] s.heap := hP
  have hl := lv_entry ([.ref a0, .int x1]) (n := 2) (Nat.le_of_ble_eq_true rfl)
  rw [lg_entry_eq]
  generalize (lg_sl ([.ref a0, .int x1]) ++ List.replicate (2 - (lg_sl ([.ref a0, .int x1])).length) Slot.unset).toArray = ls at hl ⊢
  have hl : lv_has ls 2 [(0, .ref a0), (1, .int x1)] := hl
  unfold fR_kind at hf
  refine lv_iload_n hx hb dR_kind_0 rfl (lv_at hl 1 rfl) ?_
  refine lv_if_lt (tgt := 25) hx hb dR_kind_1 (by decide) (fun hc => ?_) (fun hc => ?_)
  · rw [if_pos hc] at hf
    refine lv_iconst (v := 0) hx hb dR_kind_25 (by decide) ?_
    obtain rfl := Option.some.inj hf
    obtain ⟨hP9, hD9⟩ := xsub (wc := [(a0, .inr (2, [.ref a1, .int v1, .int v2])), (a1, .inl (cT 2, 4096, .inr (.inl f0)))]) hP hD [0, 1] rfl rfl (by decide)
    exact W.iret (v := (0 : Int32)) hx hb hr (fun t ht hW => ⟨⟨(0 : Int32), (), rfl, rfl, by rw [ht]; exact hP9, va_K.moved hW.alike hK, hD9⟩, hS.F ht⟩) hS.2.2 dR_kind_26
  · rw [if_neg hc] at hf
    refine lv_iload_n hx hb dR_kind_4 rfl (lv_at hl 1 rfl) ?_
    refine lv_aload_n hx hb dR_kind_5 rfl (lv_at hl 0 rfl) ?_
    refine va_get (D := D) (ci := 2) (v := .int v1) (C := "ValueBench$Row") (T := TR) (N := 3) hx hb htx inR hown hK hP 0 rfl rfl 1 (by decide) (htx _ kw_1_85) (fun _ h9 => h9) rfl dR_kind_6 ?_
    refine lv_icmp_ge (tgt := 25) hx hb dR_kind_9 (by decide) (fun hc => ?_) (fun hc => ?_)
    · rw [if_pos hc] at hf
      refine lv_iconst (v := 0) hx hb dR_kind_25 (by decide) ?_
      obtain rfl := Option.some.inj hf
      obtain ⟨hP9, hD9⟩ := xsub (wc := [(a0, .inr (2, [.ref a1, .int v1, .int v2])), (a1, .inl (cT 2, 4096, .inr (.inl f0)))]) hP hD [0, 1] rfl rfl (by decide)
      exact W.iret (v := (0 : Int32)) hx hb hr (fun t ht hW => ⟨⟨(0 : Int32), (), rfl, rfl, by rw [ht]; exact hP9, va_K.moved hW.alike hK, hD9⟩, hS.F ht⟩) hS.2.2 dR_kind_26
    · rw [if_neg hc] at hf
      refine lv_aload_n hx hb dR_kind_12 rfl (lv_at hl 0 rfl) ?_
      refine va_get (D := D) (ci := 2) (v := .ref a1) (C := "ValueBench$Row") (T := TR) (N := 3) hx hb htx inR hown hK hP 0 rfl rfl 0 (by decide) (htx _ kw_1_84) (fun _ h9 => h9) rfl dR_kind_13 ?_
      refine lv_iload_n hx hb dR_kind_16 rfl (lv_at hl 1 rfl) ?_
      obtain ⟨hg1, hf⟩ := xifn hf
      refine va_lald hx hb hK hP 1 2 rfl rfl hg1 dR_kind_17 ?_
      refine W.eq (g2 := F0 m 18 ls [.long (f0 x1.toNatClampNeg)]) rfl ?_
      refine lv_l2i hx hb dR_kind_18 rfl ?_
      refine lv_bipush (v := 7) hx hb dR_kind_19 (by decide) ?_
      refine lv_iand hx hb dR_kind_21 ?_
      refine lv_goto (tgt := 26) hx hb dR_kind_22 (by decide) ?_
      obtain rfl := Option.some.inj hf
      obtain ⟨hP9, hD9⟩ := xsub (wc := [(a0, .inr (2, [.ref a1, .int v1, .int v2])), (a1, .inl (cT 2, 4096, .inr (.inl f0)))]) hP hD [0, 1] rfl rfl (by decide)
      exact W.iret (v := ((f0 x1.toNatClampNeg).toInt32 &&& (7 : Int32))) hx hb hr (fun t ht hW => ⟨⟨((f0 x1.toNatClampNeg).toInt32 &&& (7 : Int32)), (), rfl, rfl, by rw [ht]; exact hP9, va_K.moved hW.alike hK, hD9⟩, hS.F ht⟩) hS.2.2 dR_kind_26
set_option maxHeartbeats 400000000 in
set_option maxRecDepth 100000 in
theorem gR_is (l : Launch) (hl9 : l.stackTraces = false) (D : va_G) (cT : Nat → ClassId) (aK aV : Nat → Nat) (sz n : Nat) (a0 : Nat) (a1 : Nat) (x1 : Int32) (x2 : Int32) (f0 : Nat → Int64) (v1 : Int32) (v2 : Int32) (out : Int32) (hf : fR_is n x1 x2 f0 v1 v2 = some out) : xMet l yR_is wyR_is 1 0 0 21 D cT aK aV sz [.ref a0, .int x1, .int x2] [(a0, .inr (2, [.ref a1, .int v1, .int v2])), (a1, .inl (cT 2, 4096, .inr (.inl f0)))] (fun A => va_Qi (fun (r : Int32) (_ : Unit) => r = out) (fun _ t => xB D xcl cT A [(a0, .inr (2, [.ref a1, .int v1, .int v2])), (a1, .inl (cT 2, 4096, .inr (.inl f0)))] t) A) := by
  refine Met.ofW (cc := prog_8_method_7_code) (maxL := 3) (ret := (some .boolean)) (by decide) rfl ?_
  intro p e s m args below meth c s₁ B hml hv
  obtain ⟨rfl, hsz, hZ, hP, hK, hD0⟩ := hv
  have hx := B.exec
  have hb := B.bytes
  have hr := B.returns
  have hts := atoms_spec (ws := wyR_is) B.pre
  have htx := fun w h => hts w (List.mem_cons_of_mem _ h)
  have hown : s.vm.findClass "ValueBench$Row" = some m.cls := findClass_of_methodNamed B.named
  have hlocks := B.notSynchronized
  subst hsz
  have hD := hD0.self (sz := s.heap.size)
  generalize hAe : va_A [(a0, .inr (2, [.ref a1, .int v1, .int v2])), (a1, .inl (cT 2, 4096, .inr (.inl f0)))] s.heap.size = A at hD hZ ⊢
  have hA : ∀ q : Nat, s.heap.size ≤ q → A q := fun q h => by rw [← hAe]; exact Or.inr h
  have hS : va_S A s.heap s.heap [] := va_S.rf
  have hP : va_P D xcl [(a0, .inr (2, [.ref a1, .int v1, .int v2])), (a1, .inl (cT 2, 4096, .inr (.inl f0)))] s.heap := hP
  have hl := lv_entry ([.ref a0, .int x1, .int x2]) (n := 3) (Nat.le_of_ble_eq_true rfl)
  rw [lg_entry_eq]
  generalize (lg_sl ([.ref a0, .int x1, .int x2]) ++ List.replicate (3 - (lg_sl ([.ref a0, .int x1, .int x2])).length) Slot.unset).toArray = ls at hl ⊢
  have hl : lv_has ls 3 [(0, .ref a0), (1, .int x1), (2, .int x2)] := hl
  unfold fR_is at hf
  refine lv_aload_n hx hb dR_is_0 rfl (lv_at hl 0 rfl) ?_
  refine lv_iload_n hx hb dR_is_1 rfl (lv_at hl 1 rfl) ?_
  obtain ⟨o1, hq2, hf⟩ := xbind hf
  obtain ⟨hPc, hDc, hFc⟩ := xcut (wc := [(a0, .inr (2, [.ref a1, .int v1, .int v2])), (a1, .inl (cT 2, 4096, .inr (.inl f0)))]) hP hD hS hA [0, 1] rfl rfl (by decide)
  refine va_calli (va_runV (C := "ValueBench$Row") (As := [.int x1]) (rest := []) ⟨hx, hb, hml, hown, htx⟩ (gR_kind l hl9 D cT aK aV s.heap.size n a0 a1 x1 f0 v1 v2 o1 hq2) ⟨callB_of 1 htx (xw_goodC kw_3_24) rfl rfl rfl (htx _ kw_1_4) (htx _ kw_3_76) ⟨by decide, by decide, by decide +kernel⟩ ⟨Nat.le_of_ble_eq_true rfl, Nat.le_of_ble_eq_true rfl⟩, (htx _ kw_3_22), (htx _ kw_3_23)⟩ ⟨xPre_blind, va_recv hK hP (ci := 2) rfl (q0 := 0) rfl, (fun U hU hW => ⟨rfl, xPre_of hZ hS hFc hPc hDc hK U hU hW⟩)⟩ rfl rfl hl.1 rfl (lv_room (Nat.le_of_ble_eq_true rfl)) dR_is_2 ⟨Nat.le_of_ble_eq_true rfl, Nat.le_of_ble_eq_true rfl⟩) hS (fun q _ h => hFc q h) hFc (fun r3 u9 t H1 locs ht hvm hr9 hB hz1 hk1 hS => ?_)
  obtain ⟨hP1, hK1, hD1⟩ := hB
  rw [ht] at hP1
  obtain ⟨hP, hD⟩ := xjoin (W := [(a0, .inr (2, [.ref a1, .int v1, .int v2])), (a1, .inl (cT 2, 4096, .inr (.inl f0)))]) hP hD [0, 1] [] 0 rfl rfl (by decide) (by decide) hk1 hFc hP1 hD1
  generalize H1 = H at hP hS ⊢
  rw [hr9]
  refine W.eq (g2 := F0 m 5 ls [.int o1]) rfl ?_
  refine lv_iload_n hx hb dR_is_5 rfl (lv_at hl 2 rfl) ?_
  refine lv_icmp_ne (tgt := 13) hx hb dR_is_6 (by decide) (fun hc => ?_) (fun hc => ?_)
  · rw [if_neg hc] at hf
    refine lv_iconst (v := 0) hx hb dR_is_13 (by decide) ?_
    obtain rfl := Option.some.inj hf
    obtain ⟨hP9, hD9⟩ := xsub (wc := [(a0, .inr (2, [.ref a1, .int v1, .int v2])), (a1, .inl (cT 2, 4096, .inr (.inl f0)))]) hP hD [0, 1] rfl rfl (by decide)
    exact W.zret (v := (0 : Int32)) hx hb hr rfl (fun t ht hW => ⟨⟨(0 : Int32), (), rfl, rfl, by rw [ht]; exact hP9, va_K.moved hW.alike hK, hD9⟩, hS.F ht⟩) hS.2.2 dR_is_14
  · rw [if_pos hc] at hf
    refine lv_iconst (v := 1) hx hb dR_is_9 (by decide) ?_
    refine lv_goto (tgt := 14) hx hb dR_is_10 (by decide) ?_
    obtain rfl := Option.some.inj hf
    obtain ⟨hP9, hD9⟩ := xsub (wc := [(a0, .inr (2, [.ref a1, .int v1, .int v2])), (a1, .inl (cT 2, 4096, .inr (.inl f0)))]) hP hD [0, 1] rfl rfl (by decide)
    exact W.zret (v := (1 : Int32)) hx hb hr rfl (fun t ht hW => ⟨⟨(1 : Int32), (), rfl, rfl, by rw [ht]; exact hP9, va_K.moved hW.alike hK, hD9⟩, hS.F ht⟩) hS.2.2 dR_is_14
set_option maxHeartbeats 400000000 in
set_option maxRecDepth 100000 in
theorem gR_isOver (l : Launch) (hl9 : l.stackTraces = false) (D : va_G) (cT : Nat → ClassId) (aK aV : Nat → Nat) (sz n : Nat) (a0 : Nat) (a1 : Nat) (f0 : Nat → Int64) (v1 : Int32) (v2 : Int32) (out : Int32) (hf : fR_isOver n f0 v1 v2 = some out) : xMet l yR_isOver wyR_isOver 0 0 0 0 D cT aK aV sz [.ref a0] [(a0, .inr (2, [.ref a1, .int v1, .int v2])), (a1, .inl (cT 2, 4096, .inr (.inl f0)))] (fun A => va_Qi (fun (r : Int32) (_ : Unit) => r = out) (fun _ t => xB D xcl cT A [(a0, .inr (2, [.ref a1, .int v1, .int v2])), (a1, .inl (cT 2, 4096, .inr (.inl f0)))] t) A) := by
  refine Met.ofW (cc := prog_8_method_4_code) (maxL := 1) (ret := (some .boolean)) (by decide) rfl ?_
  intro p e s m args below meth c s₁ B hml hv
  obtain ⟨rfl, hsz, hZ, hP, hK, hD0⟩ := hv
  have hx := B.exec
  have hb := B.bytes
  have hr := B.returns
  have hts := atoms_spec (ws := wyR_isOver) B.pre
  have htx := fun w h => hts w (List.mem_cons_of_mem _ h)
  have hown : s.vm.findClass "ValueBench$Row" = some m.cls := findClass_of_methodNamed B.named
  have hlocks := B.notSynchronized
  subst hsz
  have hD := hD0.self (sz := s.heap.size)
  generalize hAe : va_A [(a0, .inr (2, [.ref a1, .int v1, .int v2])), (a1, .inl (cT 2, 4096, .inr (.inl f0)))] s.heap.size = A at hD hZ ⊢
  have hA : ∀ q : Nat, s.heap.size ≤ q → A q := fun q h => by rw [← hAe]; exact Or.inr h
  have hS : va_S A s.heap s.heap [] := va_S.rf
  have hP : va_P D xcl [(a0, .inr (2, [.ref a1, .int v1, .int v2])), (a1, .inl (cT 2, 4096, .inr (.inl f0)))] s.heap := hP
  have hl := lv_entry ([.ref a0]) (n := 1) (Nat.le_of_ble_eq_true rfl)
  rw [lg_entry_eq]
  generalize (lg_sl ([.ref a0]) ++ List.replicate (1 - (lg_sl ([.ref a0])).length) Slot.unset).toArray = ls at hl ⊢
  have hl : lv_has ls 1 [(0, .ref a0)] := hl
  unfold fR_isOver at hf
  refine lv_aload_n hx hb dR_isOver_0 rfl (lv_at hl 0 rfl) ?_
  refine va_get (D := D) (ci := 2) (v := .int v2) (C := "ValueBench$Row") (T := TR) (N := 3) hx hb htx inR hown hK hP 0 rfl rfl 2 (by decide) (htx _ kw_1_86) (fun _ h9 => h9) rfl dR_isOver_1 ?_
  obtain ⟨hg1, hf⟩ := xifn hf
  obtain rfl := Option.some.inj hf
  obtain ⟨hP9, hD9⟩ := xsub (wc := [(a0, .inr (2, [.ref a1, .int v1, .int v2])), (a1, .inl (cT 2, 4096, .inr (.inl f0)))]) hP hD [0, 1] rfl rfl (by decide)
  exact W.zret (v := v2) hx hb hr (xzb hg1) (fun t ht hW => ⟨⟨v2, (), rfl, rfl, by rw [ht]; exact hP9, va_K.moved hW.alike hK, hD9⟩, hS.F ht⟩) hS.2.2 dR_isOver_4
set_option maxHeartbeats 400000000 in
set_option maxRecDepth 100000 in
theorem gR_number (l : Launch) (hl9 : l.stackTraces = false) (D : va_G) (cT : Nat → ClassId) (aK aV : Nat → Nat) (sz n : Nat) (a0 : Nat) (a1 : Nat) (x1 : Int32) (f0 : Nat → Int64) (v1 : Int32) (v2 : Int32) (out : Int64) (hf : fR_number n x1 f0 v1 v2 = some out) : xMet l yR_number wyR_number 0 0 0 0 D cT aK aV sz [.ref a0, .int x1] [(a0, .inr (2, [.ref a1, .int v1, .int v2])), (a1, .inl (cT 2, 4096, .inr (.inl f0)))] (fun A => va_Ql (fun (r : Int64) (_ : Unit) => r = out) (fun _ t => xB D xcl cT A [(a0, .inr (2, [.ref a1, .int v1, .int v2])), (a1, .inl (cT 2, 4096, .inr (.inl f0)))] t) A) := by
  refine Met.ofW (cc := prog_8_method_8_code) (maxL := 2) (ret := (some .long)) (by decide) rfl ?_
  intro p e s m args below meth c s₁ B hml hv
  obtain ⟨rfl, hsz, hZ, hP, hK, hD0⟩ := hv
  have hx := B.exec
  have hb := B.bytes
  have hr := B.returns
  have hts := atoms_spec (ws := wyR_number) B.pre
  have htx := fun w h => hts w (List.mem_cons_of_mem _ h)
  have hown : s.vm.findClass "ValueBench$Row" = some m.cls := findClass_of_methodNamed B.named
  have hlocks := B.notSynchronized
  subst hsz
  have hD := hD0.self (sz := s.heap.size)
  generalize hAe : va_A [(a0, .inr (2, [.ref a1, .int v1, .int v2])), (a1, .inl (cT 2, 4096, .inr (.inl f0)))] s.heap.size = A at hD hZ ⊢
  have hA : ∀ q : Nat, s.heap.size ≤ q → A q := fun q h => by rw [← hAe]; exact Or.inr h
  have hS : va_S A s.heap s.heap [] := va_S.rf
  have hP : va_P D xcl [(a0, .inr (2, [.ref a1, .int v1, .int v2])), (a1, .inl (cT 2, 4096, .inr (.inl f0)))] s.heap := hP
  have hl := lv_entry ([.ref a0, .int x1]) (n := 2) (Nat.le_of_ble_eq_true rfl)
  rw [lg_entry_eq]
  generalize (lg_sl ([.ref a0, .int x1]) ++ List.replicate (2 - (lg_sl ([.ref a0, .int x1])).length) Slot.unset).toArray = ls at hl ⊢
  have hl : lv_has ls 2 [(0, .ref a0), (1, .int x1)] := hl
  unfold fR_number at hf
  refine lv_iload_n hx hb dR_number_0 rfl (lv_at hl 1 rfl) ?_
  refine lv_if_lt (tgt := 23) hx hb dR_number_1 (by decide) (fun hc => ?_) (fun hc => ?_)
  · rw [if_pos hc] at hf
    refine lv_lconst (v := 0) hx hb dR_number_23 (by decide) ?_
    obtain rfl := Option.some.inj hf
    obtain ⟨hP9, hD9⟩ := xsub (wc := [(a0, .inr (2, [.ref a1, .int v1, .int v2])), (a1, .inl (cT 2, 4096, .inr (.inl f0)))]) hP hD [0, 1] rfl rfl (by decide)
    exact W.lret (v := (0 : Int64)) hx hb hr (fun t ht hW => ⟨⟨(0 : Int64), (), rfl, rfl, by rw [ht]; exact hP9, va_K.moved hW.alike hK, hD9⟩, hS.F ht⟩) hS.2.2 dR_number_24
  · rw [if_neg hc] at hf
    refine lv_iload_n hx hb dR_number_4 rfl (lv_at hl 1 rfl) ?_
    refine lv_aload_n hx hb dR_number_5 rfl (lv_at hl 0 rfl) ?_
    refine va_get (D := D) (ci := 2) (v := .int v1) (C := "ValueBench$Row") (T := TR) (N := 3) hx hb htx inR hown hK hP 0 rfl rfl 1 (by decide) (htx _ kw_1_85) (fun _ h9 => h9) rfl dR_number_6 ?_
    refine lv_icmp_ge (tgt := 23) hx hb dR_number_9 (by decide) (fun hc => ?_) (fun hc => ?_)
    · rw [if_pos hc] at hf
      refine lv_lconst (v := 0) hx hb dR_number_23 (by decide) ?_
      obtain rfl := Option.some.inj hf
      obtain ⟨hP9, hD9⟩ := xsub (wc := [(a0, .inr (2, [.ref a1, .int v1, .int v2])), (a1, .inl (cT 2, 4096, .inr (.inl f0)))]) hP hD [0, 1] rfl rfl (by decide)
      exact W.lret (v := (0 : Int64)) hx hb hr (fun t ht hW => ⟨⟨(0 : Int64), (), rfl, rfl, by rw [ht]; exact hP9, va_K.moved hW.alike hK, hD9⟩, hS.F ht⟩) hS.2.2 dR_number_24
    · rw [if_neg hc] at hf
      refine lv_aload_n hx hb dR_number_12 rfl (lv_at hl 0 rfl) ?_
      refine va_get (D := D) (ci := 2) (v := .ref a1) (C := "ValueBench$Row") (T := TR) (N := 3) hx hb htx inR hown hK hP 0 rfl rfl 0 (by decide) (htx _ kw_1_84) (fun _ h9 => h9) rfl dR_number_13 ?_
      refine lv_iload_n hx hb dR_number_16 rfl (lv_at hl 1 rfl) ?_
      obtain ⟨hg1, hf⟩ := xifn hf
      refine va_lald hx hb hK hP 1 2 rfl rfl hg1 dR_number_17 ?_
      refine W.eq (g2 := F0 m 18 ls [.long (f0 x1.toNatClampNeg)]) rfl ?_
      refine lv_iconst (v := 3) hx hb dR_number_18 (by decide) ?_
      refine lv_lshr hx hb dR_number_19 rfl ?_
      refine lv_goto (tgt := 24) hx hb dR_number_20 (by decide) ?_
      obtain rfl := Option.some.inj hf
      obtain ⟨hP9, hD9⟩ := xsub (wc := [(a0, .inr (2, [.ref a1, .int v1, .int v2])), (a1, .inl (cT 2, 4096, .inr (.inl f0)))]) hP hD [0, 1] rfl rfl (by decide)
      exact W.lret (v := ((f0 x1.toNatClampNeg) >>> ((3 : Int32).toInt64 &&& 63))) hx hb hr (fun t ht hW => ⟨⟨((f0 x1.toNatClampNeg) >>> ((3 : Int32).toInt64 &&& 63)), (), rfl, rfl, by rw [ht]; exact hP9, va_K.moved hW.alike hK, hD9⟩, hS.F ht⟩) hS.2.2 dR_number_24
set_option maxHeartbeats 400000000 in
set_option maxRecDepth 100000 in
theorem gR_put (l : Launch) (hl9 : l.stackTraces = false) (D : va_G) (cT : Nat → ClassId) (aK aV : Nat → Nat) (sz n : Nat) (a0 : Nat) (a1 : Nat) (x1 : Int64) (f0 : Nat → Int64) (v1 : Int32) (v2 : Int32) (out : (Nat → Int64) × Int32 × Int32) (hf : fR_put n x1 f0 v1 v2 = some out) : xMet l yR_put wyR_put 0 0 0 0 D cT aK aV sz [.ref a0, .long x1] [(a0, .inr (2, [.ref a1, .int v1, .int v2])), (a1, .inl (cT 2, 4096, .inr (.inl f0)))] (fun A => va_Qv (fun _ : Unit => True) (fun _ t => xB D xcl cT A [(a0, .inr (2, [.ref a1, .int out.2.1, .int out.2.2])), (a1, .inl (cT 2, 4096, .inr (.inl out.1)))] t) A) := by
  refine Met.ofW (cc := prog_8_method_16_code) (maxL := 3) (ret := none) (by decide) rfl ?_
  intro p e s m args below meth c s₁ B hml hv
  obtain ⟨rfl, hsz, hZ, hP, hK, hD0⟩ := hv
  have hx := B.exec
  have hb := B.bytes
  have hr := B.returns
  have hts := atoms_spec (ws := wyR_put) B.pre
  have htx := fun w h => hts w (List.mem_cons_of_mem _ h)
  have hown : s.vm.findClass "ValueBench$Row" = some m.cls := findClass_of_methodNamed B.named
  have hlocks := B.notSynchronized
  subst hsz
  have hD := hD0.self (sz := s.heap.size)
  generalize hAe : va_A [(a0, .inr (2, [.ref a1, .int v1, .int v2])), (a1, .inl (cT 2, 4096, .inr (.inl f0)))] s.heap.size = A at hD hZ ⊢
  have hA : ∀ q : Nat, s.heap.size ≤ q → A q := fun q h => by rw [← hAe]; exact Or.inr h
  have hS : va_S A s.heap s.heap [] := va_S.rf
  have hP : va_P D xcl [(a0, .inr (2, [.ref a1, .int v1, .int v2])), (a1, .inl (cT 2, 4096, .inr (.inl f0)))] s.heap := hP
  have hl := lv_entry ([.ref a0, .long x1]) (n := 3) (Nat.le_of_ble_eq_true rfl)
  rw [lg_entry_eq]
  generalize (lg_sl ([.ref a0, .long x1]) ++ List.replicate (3 - (lg_sl ([.ref a0, .long x1])).length) Slot.unset).toArray = ls at hl ⊢
  have hl : lv_has ls 3 [(0, .ref a0), (1, .long x1)] := hl
  unfold fR_put at hf
  refine lv_aload_n hx hb dR_put_0 rfl (lv_at hl 0 rfl) ?_
  refine va_get (D := D) (ci := 2) (v := .int v2) (C := "ValueBench$Row") (T := TR) (N := 3) hx hb htx inR hown hK hP 0 rfl rfl 2 (by decide) (htx _ kw_1_86) (fun _ h9 => h9) rfl dR_put_1 ?_
  refine lv_if_ne (tgt := 17) hx hb dR_put_4 (by decide) (fun hc => ?_) (fun hc => ?_)
  · rw [if_neg hc] at hf
    refine lv_aload_n hx hb dR_put_17 rfl (lv_at hl 0 rfl) ?_
    refine lv_iconst (v := 1) hx hb dR_put_18 (by decide) ?_
    refine va_put (D := D) (ci := 2) (v := .int 1) (ty := .boolean) (C := "ValueBench$Row") (T := TR) (N := 3) hx hb htx inR tyR tyR_ok nmR hown hK hP hD hS 0 rfl rfl 2 (by decide) (htx _ kw_1_86) (fun _ h9 => h9) rfl (by decide +kernel) rfl rfl (Nat.le_of_ble_eq_true rfl) dR_put_19 (fun H locs hP hD hS => ?_)
    obtain ⟨hP, hD⟩ : xPD D xcl A [(a0, .inr (2, [.ref a1, .int v1, .int 1])), (a1, .inl (cT 2, 4096, .inr (.inl f0)))] H := ⟨hP, hD⟩
    obtain rfl := Option.some.inj hf
    obtain ⟨hP9, hD9⟩ := xsub (wc := [(a0, .inr (2, [.ref a1, .int v1, .int 1])), (a1, .inl (cT 2, 4096, .inr (.inl f0)))]) hP hD [0, 1] rfl rfl (by decide)
    exact W.vret hx hb hr (fun t ht hW => ⟨⟨(), rfl, trivial, by rw [ht]; exact hP9, va_K.moved hW.alike hK, hD9⟩, hS.F ht⟩) hS.2.2 dR_put_22
  · rw [if_pos hc] at hf
    refine lv_aload_n hx hb dR_put_7 rfl (lv_at hl 0 rfl) ?_
    refine va_get (D := D) (ci := 2) (v := .int v1) (C := "ValueBench$Row") (T := TR) (N := 3) hx hb htx inR hown hK hP 0 rfl rfl 1 (by decide) (htx _ kw_1_85) (fun _ h9 => h9) rfl dR_put_8 ?_
    refine lv_sipush (v := 4096) hx hb dR_put_11 (by decide) ?_
    refine lv_icmp_lt (tgt := 23) hx hb dR_put_14 (by decide) (fun hc => ?_) (fun hc => ?_)
    · rw [if_pos hc] at hf
      refine lv_aload_n hx hb dR_put_23 rfl (lv_at hl 0 rfl) ?_
      refine va_get (D := D) (ci := 2) (v := .ref a1) (C := "ValueBench$Row") (T := TR) (N := 3) hx hb htx inR hown hK hP 0 rfl rfl 0 (by decide) (htx _ kw_1_84) (fun _ h9 => h9) rfl dR_put_24 ?_
      refine lv_aload_n hx hb dR_put_27 rfl (lv_at hl 0 rfl) ?_
      refine va_get (D := D) (ci := 2) (v := .int v1) (C := "ValueBench$Row") (T := TR) (N := 3) hx hb htx inR hown hK hP 0 rfl rfl 1 (by decide) (htx _ kw_1_85) (fun _ h9 => h9) rfl dR_put_28 ?_
      refine lv_lload_n hx hb dR_put_31 rfl (lv_at hl 1 rfl) ?_
      obtain ⟨hg1, hf⟩ := xifn hf
      refine va_last hx hb hK hP hD hS 1 2 rfl rfl hg1 dR_put_32 (fun H locs hP hD hS => ?_)
      obtain ⟨hP, hD⟩ : xPD D xcl A [(a0, .inr (2, [.ref a1, .int v1, .int v2])), (a1, .inl (cT 2, 4096, .inr (.inl (vp_updL f0 v1.toNatClampNeg x1))))] H := ⟨hP, hD⟩
      refine lv_aload_n hx hb dR_put_33 rfl (lv_at hl 0 rfl) ?_
      refine lv_dup hx hb dR_put_34 rfl ?_
      refine va_get (D := D) (ci := 2) (v := .int v1) (C := "ValueBench$Row") (T := TR) (N := 3) hx hb htx inR hown hK hP 0 rfl rfl 1 (by decide) (htx _ kw_1_85) (fun _ h9 => h9) rfl dR_put_35 ?_
      refine lv_iconst (v := 1) hx hb dR_put_38 (by decide) ?_
      refine lv_iadd hx hb dR_put_39 ?_
      refine va_put (D := D) (ci := 2) (v := .int (v1 + (1 : Int32))) (ty := .int) (C := "ValueBench$Row") (T := TR) (N := 3) hx hb htx inR tyR tyR_ok nmR hown hK hP hD hS 0 rfl rfl 1 (by decide) (htx _ kw_1_85) (fun _ h9 => h9) rfl (by decide +kernel) rfl rfl (Nat.le_of_ble_eq_true rfl) dR_put_40 (fun H locs hP hD hS => ?_)
      obtain ⟨hP, hD⟩ : xPD D xcl A [(a0, .inr (2, [.ref a1, .int (v1 + (1 : Int32)), .int v2])), (a1, .inl (cT 2, 4096, .inr (.inl (vp_updL f0 v1.toNatClampNeg x1))))] H := ⟨hP, hD⟩
      obtain rfl := Option.some.inj hf
      obtain ⟨hP9, hD9⟩ := xsub (wc := [(a0, .inr (2, [.ref a1, .int (v1 + (1 : Int32)), .int v2])), (a1, .inl (cT 2, 4096, .inr (.inl (vp_updL f0 v1.toNatClampNeg x1))))]) hP hD [0, 1] rfl rfl (by decide)
      exact W.vret hx hb hr (fun t ht hW => ⟨⟨(), rfl, trivial, by rw [ht]; exact hP9, va_K.moved hW.alike hK, hD9⟩, hS.F ht⟩) hS.2.2 dR_put_43
    · rw [if_neg hc] at hf
      refine lv_aload_n hx hb dR_put_17 rfl (lv_at hl 0 rfl) ?_
      refine lv_iconst (v := 1) hx hb dR_put_18 (by decide) ?_
      refine va_put (D := D) (ci := 2) (v := .int 1) (ty := .boolean) (C := "ValueBench$Row") (T := TR) (N := 3) hx hb htx inR tyR tyR_ok nmR hown hK hP hD hS 0 rfl rfl 2 (by decide) (htx _ kw_1_86) (fun _ h9 => h9) rfl (by decide +kernel) rfl rfl (Nat.le_of_ble_eq_true rfl) dR_put_19 (fun H locs hP hD hS => ?_)
      obtain ⟨hP, hD⟩ : xPD D xcl A [(a0, .inr (2, [.ref a1, .int v1, .int 1])), (a1, .inl (cT 2, 4096, .inr (.inl f0)))] H := ⟨hP, hD⟩
      obtain rfl := Option.some.inj hf
      obtain ⟨hP9, hD9⟩ := xsub (wc := [(a0, .inr (2, [.ref a1, .int v1, .int 1])), (a1, .inl (cT 2, 4096, .inr (.inl f0)))]) hP hD [0, 1] rfl rfl (by decide)
      exact W.vret hx hb hr (fun t ht hW => ⟨⟨(), rfl, trivial, by rw [ht]; exact hP9, va_K.moved hW.alike hK, hD9⟩, hS.F ht⟩) hS.2.2 dR_put_22
set_option maxHeartbeats 400000000 in
set_option maxRecDepth 100000 in
theorem gR_open (l : Launch) (hl9 : l.stackTraces = false) (D : va_G) (cT : Nat → ClassId) (aK aV : Nat → Nat) (sz n : Nat) (a0 : Nat) (a1 : Nat) (f0 : Nat → Int64) (v1 : Int32) (v2 : Int32) (out : Int32 × (Nat → Int64) × Int32 × Int32) (hf : fR_open n f0 v1 v2 = some out) : xMet l yR_open wyR_open 1 0 0 22 D cT aK aV sz [.ref a0] [(a0, .inr (2, [.ref a1, .int v1, .int v2])), (a1, .inl (cT 2, 4096, .inr (.inl f0)))] (fun A => va_Qi (fun (r : Int32) (_ : Unit) => r = out.1) (fun _ t => xB D xcl cT A [(a0, .inr (2, [.ref a1, .int out.2.2.1, .int out.2.2.2])), (a1, .inl (cT 2, 4096, .inr (.inl out.2.1)))] t) A) := by
  refine Met.ofW (cc := prog_8_method_25_code) (maxL := 1) (ret := (some .int)) (by decide) rfl ?_
  intro p e s m args below meth c s₁ B hml hv
  obtain ⟨rfl, hsz, hZ, hP, hK, hD0⟩ := hv
  have hx := B.exec
  have hb := B.bytes
  have hr := B.returns
  have hts := atoms_spec (ws := wyR_open) B.pre
  have htx := fun w h => hts w (List.mem_cons_of_mem _ h)
  have hown : s.vm.findClass "ValueBench$Row" = some m.cls := findClass_of_methodNamed B.named
  have hlocks := B.notSynchronized
  subst hsz
  have hD := hD0.self (sz := s.heap.size)
  generalize hAe : va_A [(a0, .inr (2, [.ref a1, .int v1, .int v2])), (a1, .inl (cT 2, 4096, .inr (.inl f0)))] s.heap.size = A at hD hZ ⊢
  have hA : ∀ q : Nat, s.heap.size ≤ q → A q := fun q h => by rw [← hAe]; exact Or.inr h
  have hS : va_S A s.heap s.heap [] := va_S.rf
  have hP : va_P D xcl [(a0, .inr (2, [.ref a1, .int v1, .int v2])), (a1, .inl (cT 2, 4096, .inr (.inl f0)))] s.heap := hP
  have hl := lv_entry ([.ref a0]) (n := 1) (Nat.le_of_ble_eq_true rfl)
  rw [lg_entry_eq]
  generalize (lg_sl ([.ref a0]) ++ List.replicate (1 - (lg_sl ([.ref a0])).length) Slot.unset).toArray = ls at hl ⊢
  have hl : lv_has ls 1 [(0, .ref a0)] := hl
  unfold fR_open at hf
  refine lv_aload_n hx hb dR_open_0 rfl (lv_at hl 0 rfl) ?_
  refine lv_lconst (v := 0) hx hb dR_open_1 (by decide) ?_
  obtain ⟨o1, hq2, hf⟩ := xbind hf
  obtain ⟨hPc, hDc, hFc⟩ := xcut (wc := [(a0, .inr (2, [.ref a1, .int v1, .int v2])), (a1, .inl (cT 2, 4096, .inr (.inl f0)))]) hP hD hS hA [0, 1] rfl rfl (by decide)
  refine va_callv (va_runV (C := "ValueBench$Row") (As := [.long 0]) (rest := []) ⟨hx, hb, hml, hown, htx⟩ (gR_put l hl9 D cT aK aV s.heap.size n a0 a1 (0 : Int64) f0 v1 v2 o1 hq2) ⟨callB_of 1 htx (xw_goodC kw_2_126) rfl rfl rfl (htx _ kw_1_4) (htx _ kw_2_137) ⟨by decide, by decide, by decide +kernel⟩ ⟨Nat.le_of_ble_eq_true rfl, Nat.le_of_ble_eq_true rfl⟩, (htx _ kw_2_124), (htx _ kw_2_125)⟩ ⟨xPre_blind, va_recv hK hP (ci := 2) rfl (q0 := 0) rfl, (fun U hU hW => ⟨rfl, xPre_of hZ hS hFc hPc hDc hK U hU hW⟩)⟩ rfl rfl hl.1 rfl (lv_room (Nat.le_of_ble_eq_true rfl)) dR_open_2 ⟨Nat.le_of_ble_eq_true rfl, Nat.le_of_ble_eq_true rfl⟩) hS (fun q _ h => hFc q h) hFc (fun u9 t H1 locs ht hvm hr9 hB hz1 hk1 hS => ?_)
  obtain ⟨hP1, hK1, hD1⟩ := hB
  rw [ht] at hP1
  obtain ⟨hP, hD⟩ := xjoin (W := [(a0, .inr (2, [.ref a1, .int o1.2.1, .int o1.2.2])), (a1, .inl (cT 2, 4096, .inr (.inl o1.1)))]) hP hD [0, 1] [] 0 rfl rfl (by decide) (by decide) hk1 hFc hP1 hD1
  generalize H1 = H at hP hS ⊢
  refine lv_aload_n hx hb dR_open_5 rfl (lv_at hl 0 rfl) ?_
  refine va_get (D := D) (ci := 2) (v := .int o1.2.1) (C := "ValueBench$Row") (T := TR) (N := 3) hx hb htx inR hown hK hP 0 rfl rfl 1 (by decide) (htx _ kw_1_85) (fun _ h9 => h9) rfl dR_open_6 ?_
  refine lv_iconst (v := 1) hx hb dR_open_9 (by decide) ?_
  refine lv_isub hx hb dR_open_10 ?_
  obtain rfl := Option.some.inj hf
  obtain ⟨hP9, hD9⟩ := xsub (wc := [(a0, .inr (2, [.ref a1, .int o1.2.1, .int o1.2.2])), (a1, .inl (cT 2, 4096, .inr (.inl o1.1)))]) hP hD [0, 1] rfl rfl (by decide)
  exact W.iret (v := (o1.2.1 - (1 : Int32))) hx hb hr (fun t ht hW => ⟨⟨(o1.2.1 - (1 : Int32)), (), rfl, rfl, by rw [ht]; exact hP9, va_K.moved hW.alike hK, hD9⟩, hS.F ht⟩) hS.2.2 dR_open_11
set_option maxHeartbeats 400000000 in
set_option maxRecDepth 100000 in
theorem gR_orderOfStrings (l : Launch) (hl9 : l.stackTraces = false) (D : va_G) (cT : Nat → ClassId) (aK aV : Nat → Nat) (sz n : Nat) (a0 : Nat) (a1 : Nat) (x1 : Int32) (x3 : Int32) (f0 : Nat → Int64) (v1 : Int32) (v2 : Int32) (out : Int32) (hf : fR_orderOfStrings n x1 x3 f0 v1 v2 = some out) : xMet l yR_orderOfStrings wyR_orderOfStrings 0 0 0 0 D cT aK aV sz [.ref a0, .int x1, .ref a0, .int x3] [(a0, .inr (2, [.ref a1, .int v1, .int v2])), (a1, .inl (cT 2, 4096, .inr (.inl f0)))] (fun A => va_Qi (fun (r : Int32) (_ : Unit) => r = out) (fun _ t => xB D xcl cT A [(a0, .inr (2, [.ref a1, .int v1, .int v2])), (a1, .inl (cT 2, 4096, .inr (.inl f0)))] t) A) := by
  refine Met.ofW (cc := prog_8_method_14_code) (maxL := 10) (ret := (some .int)) (by decide) rfl ?_
  intro p e s m args below meth c s₁ B hml hv
  obtain ⟨rfl, hsz, hZ, hP, hK, hD0⟩ := hv
  have hx := B.exec
  have hb := B.bytes
  have hr := B.returns
  have hts := atoms_spec (ws := wyR_orderOfStrings) B.pre
  have htx := fun w h => hts w (List.mem_cons_of_mem _ h)
  have hown : s.vm.findClass "ValueBench$Row" = some m.cls := findClass_of_methodNamed B.named
  have hlocks := B.notSynchronized
  subst hsz
  have hD := hD0.self (sz := s.heap.size)
  generalize hAe : va_A [(a0, .inr (2, [.ref a1, .int v1, .int v2])), (a1, .inl (cT 2, 4096, .inr (.inl f0)))] s.heap.size = A at hD hZ ⊢
  have hA : ∀ q : Nat, s.heap.size ≤ q → A q := fun q h => by rw [← hAe]; exact Or.inr h
  have hS : va_S A s.heap s.heap [] := va_S.rf
  have hP : va_P D xcl [(a0, .inr (2, [.ref a1, .int v1, .int v2])), (a1, .inl (cT 2, 4096, .inr (.inl f0)))] s.heap := hP
  have hl := lv_entry ([.ref a0, .int x1, .ref a0, .int x3]) (n := 10) (Nat.le_of_ble_eq_true rfl)
  rw [lg_entry_eq]
  generalize (lg_sl ([.ref a0, .int x1, .ref a0, .int x3]) ++ List.replicate (10 - (lg_sl ([.ref a0, .int x1, .ref a0, .int x3])).length) Slot.unset).toArray = ls at hl ⊢
  have hl : lv_has ls 10 [(0, .ref a0), (1, .int x1), (2, .ref a0), (3, .int x3)] := hl
  unfold fR_orderOfStrings at hf
  refine xloopK (σ := Nat × Int32 × Int32 × Int32 × Int32 × Int32 × Int32) (fun n x H locs ls => (x.1 = 1 ∧ fR_orderOfStrings_b f0 v1 v2 n x.1 x.2.1 x.2.2.1 x.2.2.2.1 x.2.2.2.2.1 x.2.2.2.2.2.1 x.2.2.2.2.2.2 = some out ∧ va_P D xcl [(a0, .inr (2, [.ref a1, .int v1, .int v2])), (a1, .inl (cT 2, 4096, .inr (.inl f0)))] H ∧ va_D A [(a0, .inr (2, [.ref a1, .int v1, .int v2])), (a1, .inl (cT 2, 4096, .inr (.inl f0)))] ∧ va_S A s.heap H locs ∧ lv_has ls 10 [(7, .int x.2.1), (6, .int x.2.2.1), (5, .int x.2.2.2.1), (4, .int x.2.2.2.2.1), (0, .ref a0), (1, .int x.2.2.2.2.2.1), (2, .ref a0), (3, .int x.2.2.2.2.2.2)])) (fun x => 73) (fun x H locs ls h => by exact absurd h.2.1 (by rw [fR_orderOfStrings_b]; exact fun h => nomatch h)) (fun n ih x H locs ls hv => ?_) (fun key => ?_)
  · obtain ⟨lb, y7, y6, y5, y4, y1, y3⟩ := x
    rcases hv with ⟨hj, hf, hP, hD, hS, hl⟩
    subst hj
    have hf : fR_orderOfStrings_b f0 v1 v2 (n + 1) 1 y7 y6 y5 y4 y1 y3 = some out := hf
    rw [fR_orderOfStrings_b] at hf
    obtain ⟨hP, hD⟩ : xPD D xcl A [(a0, .inr (2, [.ref a1, .int v1, .int v2])), (a1, .inl (cT 2, 4096, .inr (.inl f0)))] H := ⟨hP, hD⟩
    have hl : lv_has ls 10 [(7, .int y7), (6, .int y6), (5, .int y5), (4, .int y4), (0, .ref a0), (1, .int y1), (2, .ref a0), (3, .int y3)] := hl
    refine W.eq (g2 := F0 m 73 ls []) rfl ?_
    refine lv_iload hx hb dR_orderOfStrings_73 (lv_at hl 0 rfl) ?_
    refine lv_iload hx hb dR_orderOfStrings_75 (lv_at hl 1 rfl) ?_
    refine lv_icmp_gt (tgt := 149) hx hb dR_orderOfStrings_77 (by decide) (fun hc => ?_) (fun hc => ?_)
    · rw [if_pos hc] at hf
      refine lv_iload hx hb dR_orderOfStrings_149 (lv_at hl 3 rfl) ?_
      refine lv_iload hx hb dR_orderOfStrings_151 (lv_at hl 2 rfl) ?_
      refine lv_icmp_ne (tgt := 160) hx hb dR_orderOfStrings_153 (by decide) (fun hc => ?_) (fun hc => ?_)
      · rw [if_neg hc] at hf
        refine lv_iload hx hb dR_orderOfStrings_160 (lv_at hl 3 rfl) ?_
        refine lv_iload hx hb dR_orderOfStrings_162 (lv_at hl 2 rfl) ?_
        refine lv_icmp_ge (tgt := 171) hx hb dR_orderOfStrings_164 (by decide) (fun hc => ?_) (fun hc => ?_)
        · rw [if_pos hc] at hf
          refine lv_iconst (v := 1) hx hb dR_orderOfStrings_171 (by decide) ?_
          obtain rfl := Option.some.inj hf
          obtain ⟨hP9, hD9⟩ := xsub (wc := [(a0, .inr (2, [.ref a1, .int v1, .int v2])), (a1, .inl (cT 2, 4096, .inr (.inl f0)))]) hP hD [0, 1] rfl rfl (by decide)
          exact W.iret (v := (1 : Int32)) hx hb hr (fun t ht hW => ⟨⟨(1 : Int32), (), rfl, rfl, by rw [ht]; exact hP9, va_K.moved hW.alike hK, hD9⟩, hS.F ht⟩) hS.2.2 dR_orderOfStrings_172
        · rw [if_neg hc] at hf
          refine lv_iconst (v := (-1)) hx hb dR_orderOfStrings_167 (by decide) ?_
          refine lv_goto (tgt := 172) hx hb dR_orderOfStrings_168 (by decide) ?_
          obtain rfl := Option.some.inj hf
          obtain ⟨hP9, hD9⟩ := xsub (wc := [(a0, .inr (2, [.ref a1, .int v1, .int v2])), (a1, .inl (cT 2, 4096, .inr (.inl f0)))]) hP hD [0, 1] rfl rfl (by decide)
          exact W.iret (v := ((-1) : Int32)) hx hb hr (fun t ht hW => ⟨⟨((-1) : Int32), (), rfl, rfl, by rw [ht]; exact hP9, va_K.moved hW.alike hK, hD9⟩, hS.F ht⟩) hS.2.2 dR_orderOfStrings_172
      · rw [if_pos hc] at hf
        refine lv_iconst (v := 0) hx hb dR_orderOfStrings_156 (by decide) ?_
        refine lv_goto (tgt := 172) hx hb dR_orderOfStrings_157 (by decide) ?_
        obtain rfl := Option.some.inj hf
        obtain ⟨hP9, hD9⟩ := xsub (wc := [(a0, .inr (2, [.ref a1, .int v1, .int v2])), (a1, .inl (cT 2, 4096, .inr (.inl f0)))]) hP hD [0, 1] rfl rfl (by decide)
        exact W.iret (v := (0 : Int32)) hx hb hr (fun t ht hW => ⟨⟨(0 : Int32), (), rfl, rfl, by rw [ht]; exact hP9, va_K.moved hW.alike hK, hD9⟩, hS.F ht⟩) hS.2.2 dR_orderOfStrings_172
    · rw [if_neg hc] at hf
      refine lv_iload_n hx hb dR_orderOfStrings_80 rfl (lv_at hl 5 rfl) ?_
      refine lv_iload hx hb dR_orderOfStrings_81 (lv_at hl 0 rfl) ?_
      refine lv_iadd hx hb dR_orderOfStrings_83 ?_
      refine lv_aload_n hx hb dR_orderOfStrings_84 rfl (lv_at hl 4 rfl) ?_
      refine va_get (D := D) (ci := 2) (v := .int v1) (C := "ValueBench$Row") (T := TR) (N := 3) hx hb htx inR hown hK hP 0 rfl rfl 1 (by decide) (htx _ kw_1_85) (fun _ h9 => h9) rfl dR_orderOfStrings_85 ?_
      refine lv_icmp_ge (tgt := 149) hx hb dR_orderOfStrings_88 (by decide) (fun hc => ?_) (fun hc => ?_)
      · rw [if_pos hc] at hf
        refine lv_iload hx hb dR_orderOfStrings_149 (lv_at hl 3 rfl) ?_
        refine lv_iload hx hb dR_orderOfStrings_151 (lv_at hl 2 rfl) ?_
        refine lv_icmp_ne (tgt := 160) hx hb dR_orderOfStrings_153 (by decide) (fun hc => ?_) (fun hc => ?_)
        · rw [if_neg hc] at hf
          refine lv_iload hx hb dR_orderOfStrings_160 (lv_at hl 3 rfl) ?_
          refine lv_iload hx hb dR_orderOfStrings_162 (lv_at hl 2 rfl) ?_
          refine lv_icmp_ge (tgt := 171) hx hb dR_orderOfStrings_164 (by decide) (fun hc => ?_) (fun hc => ?_)
          · rw [if_pos hc] at hf
            refine lv_iconst (v := 1) hx hb dR_orderOfStrings_171 (by decide) ?_
            obtain rfl := Option.some.inj hf
            obtain ⟨hP9, hD9⟩ := xsub (wc := [(a0, .inr (2, [.ref a1, .int v1, .int v2])), (a1, .inl (cT 2, 4096, .inr (.inl f0)))]) hP hD [0, 1] rfl rfl (by decide)
            exact W.iret (v := (1 : Int32)) hx hb hr (fun t ht hW => ⟨⟨(1 : Int32), (), rfl, rfl, by rw [ht]; exact hP9, va_K.moved hW.alike hK, hD9⟩, hS.F ht⟩) hS.2.2 dR_orderOfStrings_172
          · rw [if_neg hc] at hf
            refine lv_iconst (v := (-1)) hx hb dR_orderOfStrings_167 (by decide) ?_
            refine lv_goto (tgt := 172) hx hb dR_orderOfStrings_168 (by decide) ?_
            obtain rfl := Option.some.inj hf
            obtain ⟨hP9, hD9⟩ := xsub (wc := [(a0, .inr (2, [.ref a1, .int v1, .int v2])), (a1, .inl (cT 2, 4096, .inr (.inl f0)))]) hP hD [0, 1] rfl rfl (by decide)
            exact W.iret (v := ((-1) : Int32)) hx hb hr (fun t ht hW => ⟨⟨((-1) : Int32), (), rfl, rfl, by rw [ht]; exact hP9, va_K.moved hW.alike hK, hD9⟩, hS.F ht⟩) hS.2.2 dR_orderOfStrings_172
        · rw [if_pos hc] at hf
          refine lv_iconst (v := 0) hx hb dR_orderOfStrings_156 (by decide) ?_
          refine lv_goto (tgt := 172) hx hb dR_orderOfStrings_157 (by decide) ?_
          obtain rfl := Option.some.inj hf
          obtain ⟨hP9, hD9⟩ := xsub (wc := [(a0, .inr (2, [.ref a1, .int v1, .int v2])), (a1, .inl (cT 2, 4096, .inr (.inl f0)))]) hP hD [0, 1] rfl rfl (by decide)
          exact W.iret (v := (0 : Int32)) hx hb hr (fun t ht hW => ⟨⟨(0 : Int32), (), rfl, rfl, by rw [ht]; exact hP9, va_K.moved hW.alike hK, hD9⟩, hS.F ht⟩) hS.2.2 dR_orderOfStrings_172
      · rw [if_neg hc] at hf
        refine lv_iload_n hx hb dR_orderOfStrings_91 rfl (lv_at hl 7 rfl) ?_
        refine lv_iload hx hb dR_orderOfStrings_92 (lv_at hl 0 rfl) ?_
        refine lv_iadd hx hb dR_orderOfStrings_94 ?_
        refine lv_aload_n hx hb dR_orderOfStrings_95 rfl (lv_at hl 6 rfl) ?_
        refine va_get (D := D) (ci := 2) (v := .int v1) (C := "ValueBench$Row") (T := TR) (N := 3) hx hb htx inR hown hK hP 0 rfl rfl 1 (by decide) (htx _ kw_1_85) (fun _ h9 => h9) rfl dR_orderOfStrings_96 ?_
        refine lv_icmp_ge (tgt := 149) hx hb dR_orderOfStrings_99 (by decide) (fun hc => ?_) (fun hc => ?_)
        · rw [if_pos hc] at hf
          refine lv_iload hx hb dR_orderOfStrings_149 (lv_at hl 3 rfl) ?_
          refine lv_iload hx hb dR_orderOfStrings_151 (lv_at hl 2 rfl) ?_
          refine lv_icmp_ne (tgt := 160) hx hb dR_orderOfStrings_153 (by decide) (fun hc => ?_) (fun hc => ?_)
          · rw [if_neg hc] at hf
            refine lv_iload hx hb dR_orderOfStrings_160 (lv_at hl 3 rfl) ?_
            refine lv_iload hx hb dR_orderOfStrings_162 (lv_at hl 2 rfl) ?_
            refine lv_icmp_ge (tgt := 171) hx hb dR_orderOfStrings_164 (by decide) (fun hc => ?_) (fun hc => ?_)
            · rw [if_pos hc] at hf
              refine lv_iconst (v := 1) hx hb dR_orderOfStrings_171 (by decide) ?_
              obtain rfl := Option.some.inj hf
              obtain ⟨hP9, hD9⟩ := xsub (wc := [(a0, .inr (2, [.ref a1, .int v1, .int v2])), (a1, .inl (cT 2, 4096, .inr (.inl f0)))]) hP hD [0, 1] rfl rfl (by decide)
              exact W.iret (v := (1 : Int32)) hx hb hr (fun t ht hW => ⟨⟨(1 : Int32), (), rfl, rfl, by rw [ht]; exact hP9, va_K.moved hW.alike hK, hD9⟩, hS.F ht⟩) hS.2.2 dR_orderOfStrings_172
            · rw [if_neg hc] at hf
              refine lv_iconst (v := (-1)) hx hb dR_orderOfStrings_167 (by decide) ?_
              refine lv_goto (tgt := 172) hx hb dR_orderOfStrings_168 (by decide) ?_
              obtain rfl := Option.some.inj hf
              obtain ⟨hP9, hD9⟩ := xsub (wc := [(a0, .inr (2, [.ref a1, .int v1, .int v2])), (a1, .inl (cT 2, 4096, .inr (.inl f0)))]) hP hD [0, 1] rfl rfl (by decide)
              exact W.iret (v := ((-1) : Int32)) hx hb hr (fun t ht hW => ⟨⟨((-1) : Int32), (), rfl, rfl, by rw [ht]; exact hP9, va_K.moved hW.alike hK, hD9⟩, hS.F ht⟩) hS.2.2 dR_orderOfStrings_172
          · rw [if_pos hc] at hf
            refine lv_iconst (v := 0) hx hb dR_orderOfStrings_156 (by decide) ?_
            refine lv_goto (tgt := 172) hx hb dR_orderOfStrings_157 (by decide) ?_
            obtain rfl := Option.some.inj hf
            obtain ⟨hP9, hD9⟩ := xsub (wc := [(a0, .inr (2, [.ref a1, .int v1, .int v2])), (a1, .inl (cT 2, 4096, .inr (.inl f0)))]) hP hD [0, 1] rfl rfl (by decide)
            exact W.iret (v := (0 : Int32)) hx hb hr (fun t ht hW => ⟨⟨(0 : Int32), (), rfl, rfl, by rw [ht]; exact hP9, va_K.moved hW.alike hK, hD9⟩, hS.F ht⟩) hS.2.2 dR_orderOfStrings_172
        · rw [if_neg hc] at hf
          refine lv_aload_n hx hb dR_orderOfStrings_102 rfl (lv_at hl 4 rfl) ?_
          refine va_get (D := D) (ci := 2) (v := .ref a1) (C := "ValueBench$Row") (T := TR) (N := 3) hx hb htx inR hown hK hP 0 rfl rfl 0 (by decide) (htx _ kw_1_84) (fun _ h9 => h9) rfl dR_orderOfStrings_103 ?_
          refine lv_iload_n hx hb dR_orderOfStrings_106 rfl (lv_at hl 5 rfl) ?_
          refine lv_iload hx hb dR_orderOfStrings_107 (lv_at hl 0 rfl) ?_
          refine lv_iadd hx hb dR_orderOfStrings_109 ?_
          obtain ⟨hg1, hf⟩ := xifn hf
          refine va_lald hx hb hK hP 1 2 rfl rfl hg1 dR_orderOfStrings_110 ?_
          refine W.eq (g2 := F0 m 111 ls [.long (f0 (y1 + y7).toNatClampNeg)]) rfl ?_
          refine lv_aload_n hx hb dR_orderOfStrings_111 rfl (lv_at hl 6 rfl) ?_
          refine va_get (D := D) (ci := 2) (v := .ref a1) (C := "ValueBench$Row") (T := TR) (N := 3) hx hb htx inR hown hK hP 0 rfl rfl 0 (by decide) (htx _ kw_1_84) (fun _ h9 => h9) rfl dR_orderOfStrings_112 ?_
          refine lv_iload_n hx hb dR_orderOfStrings_115 rfl (lv_at hl 7 rfl) ?_
          refine lv_iload hx hb dR_orderOfStrings_116 (lv_at hl 0 rfl) ?_
          refine lv_iadd hx hb dR_orderOfStrings_118 ?_
          obtain ⟨hg2, hf⟩ := xifn hf
          refine va_lald hx hb hK hP 1 2 rfl rfl hg2 dR_orderOfStrings_119 ?_
          refine W.eq (g2 := F0 m 120 ls [.long (f0 (y3 + y7).toNatClampNeg), .long (f0 (y1 + y7).toNatClampNeg)]) rfl ?_
          refine lv_lsub hx hb dR_orderOfStrings_120 ?_
          refine lv_lstore (lv' := [(8, .long ((f0 (y1 + y7).toNatClampNeg) - (f0 (y3 + y7).toNatClampNeg))), (7, .int y7), (6, .int y6), (5, .int y5), (4, .int y4), (0, .ref a0), (1, .int y1), (2, .ref a0), (3, .int y3)]) hx hb dR_orderOfStrings_121 hl (by decide) rfl (fun ls hl => ?_)
          refine lv_lload hx hb dR_orderOfStrings_123 (lv_at hl 0 rfl) ?_
          refine lv_lconst (v := 0) hx hb dR_orderOfStrings_125 (by decide) ?_
          refine W.lcmp hx hb dR_orderOfStrings_126 ?_
          refine lv_if_eq (tgt := 143) hx hb dR_orderOfStrings_127 (by decide) (fun hc => ?_) (fun hc => ?_)
          · rw [if_pos hc] at hf
            refine lv_iinc (v := (y7 + 1)) (lv' := [(7, .int (y7 + 1)), (8, .long ((f0 (y1 + y7).toNatClampNeg) - (f0 (y3 + y7).toNatClampNeg))), (6, .int y6), (5, .int y5), (4, .int y4), (0, .ref a0), (1, .int y1), (2, .ref a0), (3, .int y3)]) hx hb dR_orderOfStrings_143 hl (k := 1) rfl rfl (by decide) rfl (fun ls hl => ?_)
            refine lv_goto (tgt := 73) hx hb dR_orderOfStrings_146 (by decide) ?_
            obtain ⟨hP9, hD9⟩ := xsub (wc := [(a0, .inr (2, [.ref a1, .int v1, .int v2])), (a1, .inl (cT 2, 4096, .inr (.inl f0)))]) hP hD [0, 1] rfl rfl (by decide)
            exact ih (1, (y7 + 1), y6, y5, y4, y1, y3) _ _ ls (⟨rfl, hf, hP9, hD9, hS, lv_sub hl [0, 2, 3, 4, 5, 6, 7, 8] rfl⟩)
          · rw [if_neg hc] at hf
            refine lv_lload hx hb dR_orderOfStrings_130 (lv_at hl 0 rfl) ?_
            refine lv_lconst (v := 0) hx hb dR_orderOfStrings_132 (by decide) ?_
            refine W.lcmp hx hb dR_orderOfStrings_133 ?_
            refine lv_if_ge (tgt := 141) hx hb dR_orderOfStrings_134 (by decide) (fun hc => ?_) (fun hc => ?_)
            · rw [if_pos hc] at hf
              refine lv_iconst (v := 1) hx hb dR_orderOfStrings_141 (by decide) ?_
              obtain rfl := Option.some.inj hf
              obtain ⟨hP9, hD9⟩ := xsub (wc := [(a0, .inr (2, [.ref a1, .int v1, .int v2])), (a1, .inl (cT 2, 4096, .inr (.inl f0)))]) hP hD [0, 1] rfl rfl (by decide)
              exact W.iret (v := (1 : Int32)) hx hb hr (fun t ht hW => ⟨⟨(1 : Int32), (), rfl, rfl, by rw [ht]; exact hP9, va_K.moved hW.alike hK, hD9⟩, hS.F ht⟩) hS.2.2 dR_orderOfStrings_142
            · rw [if_neg hc] at hf
              refine lv_iconst (v := (-1)) hx hb dR_orderOfStrings_137 (by decide) ?_
              refine lv_goto (tgt := 142) hx hb dR_orderOfStrings_138 (by decide) ?_
              obtain rfl := Option.some.inj hf
              obtain ⟨hP9, hD9⟩ := xsub (wc := [(a0, .inr (2, [.ref a1, .int v1, .int v2])), (a1, .inl (cT 2, 4096, .inr (.inl f0)))]) hP hD [0, 1] rfl rfl (by decide)
              exact W.iret (v := ((-1) : Int32)) hx hb hr (fun t ht hW => ⟨⟨((-1) : Int32), (), rfl, rfl, by rw [ht]; exact hP9, va_K.moved hW.alike hK, hD9⟩, hS.F ht⟩) hS.2.2 dR_orderOfStrings_142
  refine lv_iload_n hx hb dR_orderOfStrings_0 rfl (lv_at hl 1 rfl) ?_
  refine lv_if_lt (tgt := 24) hx hb dR_orderOfStrings_1 (by decide) (fun hc => ?_) (fun hc => ?_)
  · rw [if_pos hc] at hf
    refine lv_iconst (v := 0) hx hb dR_orderOfStrings_24 (by decide) ?_
    obtain rfl := Option.some.inj hf
    obtain ⟨hP9, hD9⟩ := xsub (wc := [(a0, .inr (2, [.ref a1, .int v1, .int v2])), (a1, .inl (cT 2, 4096, .inr (.inl f0)))]) hP hD [0, 1] rfl rfl (by decide)
    exact W.iret (v := (0 : Int32)) hx hb hr (fun t ht hW => ⟨⟨(0 : Int32), (), rfl, rfl, by rw [ht]; exact hP9, va_K.moved hW.alike hK, hD9⟩, hS.F ht⟩) hS.2.2 dR_orderOfStrings_25
  · rw [if_neg hc] at hf
    refine lv_iload_n hx hb dR_orderOfStrings_4 rfl (lv_at hl 1 rfl) ?_
    refine lv_aload_n hx hb dR_orderOfStrings_5 rfl (lv_at hl 0 rfl) ?_
    refine va_get (D := D) (ci := 2) (v := .int v1) (C := "ValueBench$Row") (T := TR) (N := 3) hx hb htx inR hown hK hP 0 rfl rfl 1 (by decide) (htx _ kw_1_85) (fun _ h9 => h9) rfl dR_orderOfStrings_6 ?_
    refine lv_icmp_ge (tgt := 24) hx hb dR_orderOfStrings_9 (by decide) (fun hc => ?_) (fun hc => ?_)
    · rw [if_pos hc] at hf
      refine lv_iconst (v := 0) hx hb dR_orderOfStrings_24 (by decide) ?_
      obtain rfl := Option.some.inj hf
      obtain ⟨hP9, hD9⟩ := xsub (wc := [(a0, .inr (2, [.ref a1, .int v1, .int v2])), (a1, .inl (cT 2, 4096, .inr (.inl f0)))]) hP hD [0, 1] rfl rfl (by decide)
      exact W.iret (v := (0 : Int32)) hx hb hr (fun t ht hW => ⟨⟨(0 : Int32), (), rfl, rfl, by rw [ht]; exact hP9, va_K.moved hW.alike hK, hD9⟩, hS.F ht⟩) hS.2.2 dR_orderOfStrings_25
    · rw [if_neg hc] at hf
      refine lv_iload_n hx hb dR_orderOfStrings_12 rfl (lv_at hl 3 rfl) ?_
      refine lv_if_lt (tgt := 24) hx hb dR_orderOfStrings_13 (by decide) (fun hc => ?_) (fun hc => ?_)
      · rw [if_pos hc] at hf
        refine lv_iconst (v := 0) hx hb dR_orderOfStrings_24 (by decide) ?_
        obtain rfl := Option.some.inj hf
        obtain ⟨hP9, hD9⟩ := xsub (wc := [(a0, .inr (2, [.ref a1, .int v1, .int v2])), (a1, .inl (cT 2, 4096, .inr (.inl f0)))]) hP hD [0, 1] rfl rfl (by decide)
        exact W.iret (v := (0 : Int32)) hx hb hr (fun t ht hW => ⟨⟨(0 : Int32), (), rfl, rfl, by rw [ht]; exact hP9, va_K.moved hW.alike hK, hD9⟩, hS.F ht⟩) hS.2.2 dR_orderOfStrings_25
      · rw [if_neg hc] at hf
        refine lv_iload_n hx hb dR_orderOfStrings_16 rfl (lv_at hl 3 rfl) ?_
        refine lv_aload_n hx hb dR_orderOfStrings_17 rfl (lv_at hl 2 rfl) ?_
        refine va_get (D := D) (ci := 2) (v := .int v1) (C := "ValueBench$Row") (T := TR) (N := 3) hx hb htx inR hown hK hP 0 rfl rfl 1 (by decide) (htx _ kw_1_85) (fun _ h9 => h9) rfl dR_orderOfStrings_18 ?_
        refine lv_icmp_lt (tgt := 26) hx hb dR_orderOfStrings_21 (by decide) (fun hc => ?_) (fun hc => ?_)
        · rw [if_pos hc] at hf
          refine lv_aload_n hx hb dR_orderOfStrings_26 rfl (lv_at hl 0 rfl) ?_
          refine va_get (D := D) (ci := 2) (v := .ref a1) (C := "ValueBench$Row") (T := TR) (N := 3) hx hb htx inR hown hK hP 0 rfl rfl 0 (by decide) (htx _ kw_1_84) (fun _ h9 => h9) rfl dR_orderOfStrings_27 ?_
          refine lv_iload_n hx hb dR_orderOfStrings_30 rfl (lv_at hl 1 rfl) ?_
          obtain ⟨hg1, hf⟩ := xifn hf
          refine va_lald hx hb hK hP 1 2 rfl rfl hg1 dR_orderOfStrings_31 ?_
          refine W.eq (g2 := F0 m 32 ls [.long (f0 x1.toNatClampNeg)]) rfl ?_
          refine lv_iconst (v := 3) hx hb dR_orderOfStrings_32 (by decide) ?_
          refine lv_lshr hx hb dR_orderOfStrings_33 rfl ?_
          refine lv_l2i hx hb dR_orderOfStrings_34 rfl ?_
          refine lv_ldc hx hb hown (htx _ kw_2_192) dR_orderOfStrings_35 ?_
          refine lv_iand hx hb dR_orderOfStrings_37 ?_
          refine lv_istore (lv' := [(4, .int (((f0 x1.toNatClampNeg) >>> ((3 : Int32).toInt64 &&& 63)).toInt32 &&& (65535 : Int32))), (0, .ref a0), (1, .int x1), (2, .ref a0), (3, .int x3)]) hx hb dR_orderOfStrings_38 hl (by decide) rfl (fun ls hl => ?_)
          refine lv_aload_n hx hb dR_orderOfStrings_40 rfl (lv_at hl 3 rfl) ?_
          refine va_get (D := D) (ci := 2) (v := .ref a1) (C := "ValueBench$Row") (T := TR) (N := 3) hx hb htx inR hown hK hP 0 rfl rfl 0 (by decide) (htx _ kw_1_84) (fun _ h9 => h9) rfl dR_orderOfStrings_41 ?_
          refine lv_iload_n hx hb dR_orderOfStrings_44 rfl (lv_at hl 4 rfl) ?_
          obtain ⟨hg2, hf⟩ := xifn hf
          refine va_lald hx hb hK hP 1 2 rfl rfl hg2 dR_orderOfStrings_45 ?_
          refine W.eq (g2 := F0 m 46 ls [.long (f0 x3.toNatClampNeg)]) rfl ?_
          refine lv_iconst (v := 3) hx hb dR_orderOfStrings_46 (by decide) ?_
          refine lv_lshr hx hb dR_orderOfStrings_47 rfl ?_
          refine lv_l2i hx hb dR_orderOfStrings_48 rfl ?_
          refine lv_ldc hx hb hown (htx _ kw_2_192) dR_orderOfStrings_49 ?_
          refine lv_iand hx hb dR_orderOfStrings_51 ?_
          refine lv_istore (lv' := [(5, .int (((f0 x3.toNatClampNeg) >>> ((3 : Int32).toInt64 &&& 63)).toInt32 &&& (65535 : Int32))), (4, .int (((f0 x1.toNatClampNeg) >>> ((3 : Int32).toInt64 &&& 63)).toInt32 &&& (65535 : Int32))), (0, .ref a0), (1, .int x1), (2, .ref a0), (3, .int x3)]) hx hb dR_orderOfStrings_52 hl (by decide) rfl (fun ls hl => ?_)
          refine lv_iload hx hb dR_orderOfStrings_54 (lv_at hl 1 rfl) ?_
          refine lv_iload hx hb dR_orderOfStrings_56 (lv_at hl 0 rfl) ?_
          refine lv_icmp_ge (tgt := 66) hx hb dR_orderOfStrings_58 (by decide) (fun hc => ?_) (fun hc => ?_)
          · rw [if_pos hc] at hf
            refine lv_iload hx hb dR_orderOfStrings_66 (lv_at hl 0 rfl) ?_
            refine lv_istore (lv' := [(6, .int (((f0 x3.toNatClampNeg) >>> ((3 : Int32).toInt64 &&& 63)).toInt32 &&& (65535 : Int32))), (5, .int (((f0 x3.toNatClampNeg) >>> ((3 : Int32).toInt64 &&& 63)).toInt32 &&& (65535 : Int32))), (4, .int (((f0 x1.toNatClampNeg) >>> ((3 : Int32).toInt64 &&& 63)).toInt32 &&& (65535 : Int32))), (0, .ref a0), (1, .int x1), (2, .ref a0), (3, .int x3)]) hx hb dR_orderOfStrings_68 hl (by decide) rfl (fun ls hl => ?_)
            refine lv_iconst (v := 1) hx hb dR_orderOfStrings_70 (by decide) ?_
            refine lv_istore (lv' := [(7, .int 1), (6, .int (((f0 x3.toNatClampNeg) >>> ((3 : Int32).toInt64 &&& 63)).toInt32 &&& (65535 : Int32))), (5, .int (((f0 x3.toNatClampNeg) >>> ((3 : Int32).toInt64 &&& 63)).toInt32 &&& (65535 : Int32))), (4, .int (((f0 x1.toNatClampNeg) >>> ((3 : Int32).toInt64 &&& 63)).toInt32 &&& (65535 : Int32))), (0, .ref a0), (1, .int x1), (2, .ref a0), (3, .int x3)]) hx hb dR_orderOfStrings_71 hl (by decide) rfl (fun ls hl => ?_)
            obtain ⟨hP9, hD9⟩ := xsub (wc := [(a0, .inr (2, [.ref a1, .int v1, .int v2])), (a1, .inl (cT 2, 4096, .inr (.inl f0)))]) hP hD [0, 1] rfl rfl (by decide)
            exact key n (1, 1, (((f0 x3.toNatClampNeg) >>> ((3 : Int32).toInt64 &&& 63)).toInt32 &&& (65535 : Int32)), (((f0 x3.toNatClampNeg) >>> ((3 : Int32).toInt64 &&& 63)).toInt32 &&& (65535 : Int32)), (((f0 x1.toNatClampNeg) >>> ((3 : Int32).toInt64 &&& 63)).toInt32 &&& (65535 : Int32)), x1, x3) _ _ ls (⟨rfl, hf, hP9, hD9, hS, lv_sub hl [0, 1, 2, 3, 4, 5, 6, 7] rfl⟩)
          · rw [if_neg hc] at hf
            refine lv_iload hx hb dR_orderOfStrings_61 (lv_at hl 1 rfl) ?_
            refine lv_goto (tgt := 68) hx hb dR_orderOfStrings_63 (by decide) ?_
            refine lv_istore (lv' := [(6, .int (((f0 x1.toNatClampNeg) >>> ((3 : Int32).toInt64 &&& 63)).toInt32 &&& (65535 : Int32))), (5, .int (((f0 x3.toNatClampNeg) >>> ((3 : Int32).toInt64 &&& 63)).toInt32 &&& (65535 : Int32))), (4, .int (((f0 x1.toNatClampNeg) >>> ((3 : Int32).toInt64 &&& 63)).toInt32 &&& (65535 : Int32))), (0, .ref a0), (1, .int x1), (2, .ref a0), (3, .int x3)]) hx hb dR_orderOfStrings_68 hl (by decide) rfl (fun ls hl => ?_)
            refine lv_iconst (v := 1) hx hb dR_orderOfStrings_70 (by decide) ?_
            refine lv_istore (lv' := [(7, .int 1), (6, .int (((f0 x1.toNatClampNeg) >>> ((3 : Int32).toInt64 &&& 63)).toInt32 &&& (65535 : Int32))), (5, .int (((f0 x3.toNatClampNeg) >>> ((3 : Int32).toInt64 &&& 63)).toInt32 &&& (65535 : Int32))), (4, .int (((f0 x1.toNatClampNeg) >>> ((3 : Int32).toInt64 &&& 63)).toInt32 &&& (65535 : Int32))), (0, .ref a0), (1, .int x1), (2, .ref a0), (3, .int x3)]) hx hb dR_orderOfStrings_71 hl (by decide) rfl (fun ls hl => ?_)
            obtain ⟨hP9, hD9⟩ := xsub (wc := [(a0, .inr (2, [.ref a1, .int v1, .int v2])), (a1, .inl (cT 2, 4096, .inr (.inl f0)))]) hP hD [0, 1] rfl rfl (by decide)
            exact key n (1, 1, (((f0 x1.toNatClampNeg) >>> ((3 : Int32).toInt64 &&& 63)).toInt32 &&& (65535 : Int32)), (((f0 x3.toNatClampNeg) >>> ((3 : Int32).toInt64 &&& 63)).toInt32 &&& (65535 : Int32)), (((f0 x1.toNatClampNeg) >>> ((3 : Int32).toInt64 &&& 63)).toInt32 &&& (65535 : Int32)), x1, x3) _ _ ls (⟨rfl, hf, hP9, hD9, hS, lv_sub hl [0, 1, 2, 3, 4, 5, 6, 7] rfl⟩)
        · rw [if_neg hc] at hf
          refine lv_iconst (v := 0) hx hb dR_orderOfStrings_24 (by decide) ?_
          obtain rfl := Option.some.inj hf
          obtain ⟨hP9, hD9⟩ := xsub (wc := [(a0, .inr (2, [.ref a1, .int v1, .int v2])), (a1, .inl (cT 2, 4096, .inr (.inl f0)))]) hP hD [0, 1] rfl rfl (by decide)
          exact W.iret (v := (0 : Int32)) hx hb hr (fun t ht hW => ⟨⟨(0 : Int32), (), rfl, rfl, by rw [ht]; exact hP9, va_K.moved hW.alike hK, hD9⟩, hS.F ht⟩) hS.2.2 dR_orderOfStrings_25
set_option maxHeartbeats 400000000 in
set_option maxRecDepth 100000 in
theorem gR_orderOfStringsa (l : Launch) (hl9 : l.stackTraces = false) (D : va_G) (cT : Nat → ClassId) (aK aV : Nat → Nat) (sz n : Nat) (a0 : Nat) (a1 : Nat) (a2 : Nat) (a3 : Nat) (x1 : Int32) (x3 : Int32) (f0 : Nat → Int64) (v1 : Int32) (v2 : Int32) (f3 : Nat → Int64) (v4 : Int32) (v5 : Int32) (out : Int32) (hf : fR_orderOfStringsa n x1 x3 f0 v1 v2 f3 v4 v5 = some out) : xMet l yR_orderOfStrings wyR_orderOfStrings 0 0 0 0 D cT aK aV sz [.ref a0, .int x1, .ref a2, .int x3] [(a0, .inr (2, [.ref a1, .int v1, .int v2])), (a1, .inl (cT 2, 4096, .inr (.inl f0))), (a2, .inr (2, [.ref a3, .int v4, .int v5])), (a3, .inl (cT 2, 4096, .inr (.inl f3)))] (fun A => va_Qi (fun (r : Int32) (_ : Unit) => r = out) (fun _ t => xB D xcl cT A [(a0, .inr (2, [.ref a1, .int v1, .int v2])), (a1, .inl (cT 2, 4096, .inr (.inl f0))), (a2, .inr (2, [.ref a3, .int v4, .int v5])), (a3, .inl (cT 2, 4096, .inr (.inl f3)))] t) A) := by
  refine Met.ofW (cc := prog_8_method_14_code) (maxL := 10) (ret := (some .int)) (by decide) rfl ?_
  intro p e s m args below meth c s₁ B hml hv
  obtain ⟨rfl, hsz, hZ, hP, hK, hD0⟩ := hv
  have hx := B.exec
  have hb := B.bytes
  have hr := B.returns
  have hts := atoms_spec (ws := wyR_orderOfStrings) B.pre
  have htx := fun w h => hts w (List.mem_cons_of_mem _ h)
  have hown : s.vm.findClass "ValueBench$Row" = some m.cls := findClass_of_methodNamed B.named
  have hlocks := B.notSynchronized
  subst hsz
  have hD := hD0.self (sz := s.heap.size)
  generalize hAe : va_A [(a0, .inr (2, [.ref a1, .int v1, .int v2])), (a1, .inl (cT 2, 4096, .inr (.inl f0))), (a2, .inr (2, [.ref a3, .int v4, .int v5])), (a3, .inl (cT 2, 4096, .inr (.inl f3)))] s.heap.size = A at hD hZ ⊢
  have hA : ∀ q : Nat, s.heap.size ≤ q → A q := fun q h => by rw [← hAe]; exact Or.inr h
  have hS : va_S A s.heap s.heap [] := va_S.rf
  have hP : va_P D xcl [(a0, .inr (2, [.ref a1, .int v1, .int v2])), (a1, .inl (cT 2, 4096, .inr (.inl f0))), (a2, .inr (2, [.ref a3, .int v4, .int v5])), (a3, .inl (cT 2, 4096, .inr (.inl f3)))] s.heap := hP
  have hl := lv_entry ([.ref a0, .int x1, .ref a2, .int x3]) (n := 10) (Nat.le_of_ble_eq_true rfl)
  rw [lg_entry_eq]
  generalize (lg_sl ([.ref a0, .int x1, .ref a2, .int x3]) ++ List.replicate (10 - (lg_sl ([.ref a0, .int x1, .ref a2, .int x3])).length) Slot.unset).toArray = ls at hl ⊢
  have hl : lv_has ls 10 [(0, .ref a0), (1, .int x1), (2, .ref a2), (3, .int x3)] := hl
  unfold fR_orderOfStringsa at hf
  refine xloopK (σ := Nat × Int32 × Int32 × Int32 × Int32 × Int32 × Int32) (fun n x H locs ls => (x.1 = 1 ∧ fR_orderOfStringsa_b f0 v1 v2 f3 v4 v5 n x.1 x.2.1 x.2.2.1 x.2.2.2.1 x.2.2.2.2.1 x.2.2.2.2.2.1 x.2.2.2.2.2.2 = some out ∧ va_P D xcl [(a0, .inr (2, [.ref a1, .int v1, .int v2])), (a1, .inl (cT 2, 4096, .inr (.inl f0))), (a2, .inr (2, [.ref a3, .int v4, .int v5])), (a3, .inl (cT 2, 4096, .inr (.inl f3)))] H ∧ va_D A [(a0, .inr (2, [.ref a1, .int v1, .int v2])), (a1, .inl (cT 2, 4096, .inr (.inl f0))), (a2, .inr (2, [.ref a3, .int v4, .int v5])), (a3, .inl (cT 2, 4096, .inr (.inl f3)))] ∧ va_S A s.heap H locs ∧ lv_has ls 10 [(7, .int x.2.1), (6, .int x.2.2.1), (5, .int x.2.2.2.1), (4, .int x.2.2.2.2.1), (0, .ref a0), (1, .int x.2.2.2.2.2.1), (2, .ref a2), (3, .int x.2.2.2.2.2.2)])) (fun x => 73) (fun x H locs ls h => by exact absurd h.2.1 (by rw [fR_orderOfStringsa_b]; exact fun h => nomatch h)) (fun n ih x H locs ls hv => ?_) (fun key => ?_)
  · obtain ⟨lb, y7, y6, y5, y4, y1, y3⟩ := x
    rcases hv with ⟨hj, hf, hP, hD, hS, hl⟩
    subst hj
    have hf : fR_orderOfStringsa_b f0 v1 v2 f3 v4 v5 (n + 1) 1 y7 y6 y5 y4 y1 y3 = some out := hf
    rw [fR_orderOfStringsa_b] at hf
    obtain ⟨hP, hD⟩ : xPD D xcl A [(a0, .inr (2, [.ref a1, .int v1, .int v2])), (a1, .inl (cT 2, 4096, .inr (.inl f0))), (a2, .inr (2, [.ref a3, .int v4, .int v5])), (a3, .inl (cT 2, 4096, .inr (.inl f3)))] H := ⟨hP, hD⟩
    have hl : lv_has ls 10 [(7, .int y7), (6, .int y6), (5, .int y5), (4, .int y4), (0, .ref a0), (1, .int y1), (2, .ref a2), (3, .int y3)] := hl
    refine W.eq (g2 := F0 m 73 ls []) rfl ?_
    refine lv_iload hx hb dR_orderOfStrings_73 (lv_at hl 0 rfl) ?_
    refine lv_iload hx hb dR_orderOfStrings_75 (lv_at hl 1 rfl) ?_
    refine lv_icmp_gt (tgt := 149) hx hb dR_orderOfStrings_77 (by decide) (fun hc => ?_) (fun hc => ?_)
    · rw [if_pos hc] at hf
      refine lv_iload hx hb dR_orderOfStrings_149 (lv_at hl 3 rfl) ?_
      refine lv_iload hx hb dR_orderOfStrings_151 (lv_at hl 2 rfl) ?_
      refine lv_icmp_ne (tgt := 160) hx hb dR_orderOfStrings_153 (by decide) (fun hc => ?_) (fun hc => ?_)
      · rw [if_neg hc] at hf
        refine lv_iload hx hb dR_orderOfStrings_160 (lv_at hl 3 rfl) ?_
        refine lv_iload hx hb dR_orderOfStrings_162 (lv_at hl 2 rfl) ?_
        refine lv_icmp_ge (tgt := 171) hx hb dR_orderOfStrings_164 (by decide) (fun hc => ?_) (fun hc => ?_)
        · rw [if_pos hc] at hf
          refine lv_iconst (v := 1) hx hb dR_orderOfStrings_171 (by decide) ?_
          obtain rfl := Option.some.inj hf
          obtain ⟨hP9, hD9⟩ := xsub (wc := [(a0, .inr (2, [.ref a1, .int v1, .int v2])), (a1, .inl (cT 2, 4096, .inr (.inl f0))), (a2, .inr (2, [.ref a3, .int v4, .int v5])), (a3, .inl (cT 2, 4096, .inr (.inl f3)))]) hP hD [0, 1, 2, 3] rfl rfl (by decide)
          exact W.iret (v := (1 : Int32)) hx hb hr (fun t ht hW => ⟨⟨(1 : Int32), (), rfl, rfl, by rw [ht]; exact hP9, va_K.moved hW.alike hK, hD9⟩, hS.F ht⟩) hS.2.2 dR_orderOfStrings_172
        · rw [if_neg hc] at hf
          refine lv_iconst (v := (-1)) hx hb dR_orderOfStrings_167 (by decide) ?_
          refine lv_goto (tgt := 172) hx hb dR_orderOfStrings_168 (by decide) ?_
          obtain rfl := Option.some.inj hf
          obtain ⟨hP9, hD9⟩ := xsub (wc := [(a0, .inr (2, [.ref a1, .int v1, .int v2])), (a1, .inl (cT 2, 4096, .inr (.inl f0))), (a2, .inr (2, [.ref a3, .int v4, .int v5])), (a3, .inl (cT 2, 4096, .inr (.inl f3)))]) hP hD [0, 1, 2, 3] rfl rfl (by decide)
          exact W.iret (v := ((-1) : Int32)) hx hb hr (fun t ht hW => ⟨⟨((-1) : Int32), (), rfl, rfl, by rw [ht]; exact hP9, va_K.moved hW.alike hK, hD9⟩, hS.F ht⟩) hS.2.2 dR_orderOfStrings_172
      · rw [if_pos hc] at hf
        refine lv_iconst (v := 0) hx hb dR_orderOfStrings_156 (by decide) ?_
        refine lv_goto (tgt := 172) hx hb dR_orderOfStrings_157 (by decide) ?_
        obtain rfl := Option.some.inj hf
        obtain ⟨hP9, hD9⟩ := xsub (wc := [(a0, .inr (2, [.ref a1, .int v1, .int v2])), (a1, .inl (cT 2, 4096, .inr (.inl f0))), (a2, .inr (2, [.ref a3, .int v4, .int v5])), (a3, .inl (cT 2, 4096, .inr (.inl f3)))]) hP hD [0, 1, 2, 3] rfl rfl (by decide)
        exact W.iret (v := (0 : Int32)) hx hb hr (fun t ht hW => ⟨⟨(0 : Int32), (), rfl, rfl, by rw [ht]; exact hP9, va_K.moved hW.alike hK, hD9⟩, hS.F ht⟩) hS.2.2 dR_orderOfStrings_172
    · rw [if_neg hc] at hf
      refine lv_iload_n hx hb dR_orderOfStrings_80 rfl (lv_at hl 5 rfl) ?_
      refine lv_iload hx hb dR_orderOfStrings_81 (lv_at hl 0 rfl) ?_
      refine lv_iadd hx hb dR_orderOfStrings_83 ?_
      refine lv_aload_n hx hb dR_orderOfStrings_84 rfl (lv_at hl 4 rfl) ?_
      refine va_get (D := D) (ci := 2) (v := .int v1) (C := "ValueBench$Row") (T := TR) (N := 3) hx hb htx inR hown hK hP 0 rfl rfl 1 (by decide) (htx _ kw_1_85) (fun _ h9 => h9) rfl dR_orderOfStrings_85 ?_
      refine lv_icmp_ge (tgt := 149) hx hb dR_orderOfStrings_88 (by decide) (fun hc => ?_) (fun hc => ?_)
      · rw [if_pos hc] at hf
        refine lv_iload hx hb dR_orderOfStrings_149 (lv_at hl 3 rfl) ?_
        refine lv_iload hx hb dR_orderOfStrings_151 (lv_at hl 2 rfl) ?_
        refine lv_icmp_ne (tgt := 160) hx hb dR_orderOfStrings_153 (by decide) (fun hc => ?_) (fun hc => ?_)
        · rw [if_neg hc] at hf
          refine lv_iload hx hb dR_orderOfStrings_160 (lv_at hl 3 rfl) ?_
          refine lv_iload hx hb dR_orderOfStrings_162 (lv_at hl 2 rfl) ?_
          refine lv_icmp_ge (tgt := 171) hx hb dR_orderOfStrings_164 (by decide) (fun hc => ?_) (fun hc => ?_)
          · rw [if_pos hc] at hf
            refine lv_iconst (v := 1) hx hb dR_orderOfStrings_171 (by decide) ?_
            obtain rfl := Option.some.inj hf
            obtain ⟨hP9, hD9⟩ := xsub (wc := [(a0, .inr (2, [.ref a1, .int v1, .int v2])), (a1, .inl (cT 2, 4096, .inr (.inl f0))), (a2, .inr (2, [.ref a3, .int v4, .int v5])), (a3, .inl (cT 2, 4096, .inr (.inl f3)))]) hP hD [0, 1, 2, 3] rfl rfl (by decide)
            exact W.iret (v := (1 : Int32)) hx hb hr (fun t ht hW => ⟨⟨(1 : Int32), (), rfl, rfl, by rw [ht]; exact hP9, va_K.moved hW.alike hK, hD9⟩, hS.F ht⟩) hS.2.2 dR_orderOfStrings_172
          · rw [if_neg hc] at hf
            refine lv_iconst (v := (-1)) hx hb dR_orderOfStrings_167 (by decide) ?_
            refine lv_goto (tgt := 172) hx hb dR_orderOfStrings_168 (by decide) ?_
            obtain rfl := Option.some.inj hf
            obtain ⟨hP9, hD9⟩ := xsub (wc := [(a0, .inr (2, [.ref a1, .int v1, .int v2])), (a1, .inl (cT 2, 4096, .inr (.inl f0))), (a2, .inr (2, [.ref a3, .int v4, .int v5])), (a3, .inl (cT 2, 4096, .inr (.inl f3)))]) hP hD [0, 1, 2, 3] rfl rfl (by decide)
            exact W.iret (v := ((-1) : Int32)) hx hb hr (fun t ht hW => ⟨⟨((-1) : Int32), (), rfl, rfl, by rw [ht]; exact hP9, va_K.moved hW.alike hK, hD9⟩, hS.F ht⟩) hS.2.2 dR_orderOfStrings_172
        · rw [if_pos hc] at hf
          refine lv_iconst (v := 0) hx hb dR_orderOfStrings_156 (by decide) ?_
          refine lv_goto (tgt := 172) hx hb dR_orderOfStrings_157 (by decide) ?_
          obtain rfl := Option.some.inj hf
          obtain ⟨hP9, hD9⟩ := xsub (wc := [(a0, .inr (2, [.ref a1, .int v1, .int v2])), (a1, .inl (cT 2, 4096, .inr (.inl f0))), (a2, .inr (2, [.ref a3, .int v4, .int v5])), (a3, .inl (cT 2, 4096, .inr (.inl f3)))]) hP hD [0, 1, 2, 3] rfl rfl (by decide)
          exact W.iret (v := (0 : Int32)) hx hb hr (fun t ht hW => ⟨⟨(0 : Int32), (), rfl, rfl, by rw [ht]; exact hP9, va_K.moved hW.alike hK, hD9⟩, hS.F ht⟩) hS.2.2 dR_orderOfStrings_172
      · rw [if_neg hc] at hf
        refine lv_iload_n hx hb dR_orderOfStrings_91 rfl (lv_at hl 7 rfl) ?_
        refine lv_iload hx hb dR_orderOfStrings_92 (lv_at hl 0 rfl) ?_
        refine lv_iadd hx hb dR_orderOfStrings_94 ?_
        refine lv_aload_n hx hb dR_orderOfStrings_95 rfl (lv_at hl 6 rfl) ?_
        refine va_get (D := D) (ci := 2) (v := .int v4) (C := "ValueBench$Row") (T := TR) (N := 3) hx hb htx inR hown hK hP 2 rfl rfl 1 (by decide) (htx _ kw_1_85) (fun _ h9 => h9) rfl dR_orderOfStrings_96 ?_
        refine lv_icmp_ge (tgt := 149) hx hb dR_orderOfStrings_99 (by decide) (fun hc => ?_) (fun hc => ?_)
        · rw [if_pos hc] at hf
          refine lv_iload hx hb dR_orderOfStrings_149 (lv_at hl 3 rfl) ?_
          refine lv_iload hx hb dR_orderOfStrings_151 (lv_at hl 2 rfl) ?_
          refine lv_icmp_ne (tgt := 160) hx hb dR_orderOfStrings_153 (by decide) (fun hc => ?_) (fun hc => ?_)
          · rw [if_neg hc] at hf
            refine lv_iload hx hb dR_orderOfStrings_160 (lv_at hl 3 rfl) ?_
            refine lv_iload hx hb dR_orderOfStrings_162 (lv_at hl 2 rfl) ?_
            refine lv_icmp_ge (tgt := 171) hx hb dR_orderOfStrings_164 (by decide) (fun hc => ?_) (fun hc => ?_)
            · rw [if_pos hc] at hf
              refine lv_iconst (v := 1) hx hb dR_orderOfStrings_171 (by decide) ?_
              obtain rfl := Option.some.inj hf
              obtain ⟨hP9, hD9⟩ := xsub (wc := [(a0, .inr (2, [.ref a1, .int v1, .int v2])), (a1, .inl (cT 2, 4096, .inr (.inl f0))), (a2, .inr (2, [.ref a3, .int v4, .int v5])), (a3, .inl (cT 2, 4096, .inr (.inl f3)))]) hP hD [0, 1, 2, 3] rfl rfl (by decide)
              exact W.iret (v := (1 : Int32)) hx hb hr (fun t ht hW => ⟨⟨(1 : Int32), (), rfl, rfl, by rw [ht]; exact hP9, va_K.moved hW.alike hK, hD9⟩, hS.F ht⟩) hS.2.2 dR_orderOfStrings_172
            · rw [if_neg hc] at hf
              refine lv_iconst (v := (-1)) hx hb dR_orderOfStrings_167 (by decide) ?_
              refine lv_goto (tgt := 172) hx hb dR_orderOfStrings_168 (by decide) ?_
              obtain rfl := Option.some.inj hf
              obtain ⟨hP9, hD9⟩ := xsub (wc := [(a0, .inr (2, [.ref a1, .int v1, .int v2])), (a1, .inl (cT 2, 4096, .inr (.inl f0))), (a2, .inr (2, [.ref a3, .int v4, .int v5])), (a3, .inl (cT 2, 4096, .inr (.inl f3)))]) hP hD [0, 1, 2, 3] rfl rfl (by decide)
              exact W.iret (v := ((-1) : Int32)) hx hb hr (fun t ht hW => ⟨⟨((-1) : Int32), (), rfl, rfl, by rw [ht]; exact hP9, va_K.moved hW.alike hK, hD9⟩, hS.F ht⟩) hS.2.2 dR_orderOfStrings_172
          · rw [if_pos hc] at hf
            refine lv_iconst (v := 0) hx hb dR_orderOfStrings_156 (by decide) ?_
            refine lv_goto (tgt := 172) hx hb dR_orderOfStrings_157 (by decide) ?_
            obtain rfl := Option.some.inj hf
            obtain ⟨hP9, hD9⟩ := xsub (wc := [(a0, .inr (2, [.ref a1, .int v1, .int v2])), (a1, .inl (cT 2, 4096, .inr (.inl f0))), (a2, .inr (2, [.ref a3, .int v4, .int v5])), (a3, .inl (cT 2, 4096, .inr (.inl f3)))]) hP hD [0, 1, 2, 3] rfl rfl (by decide)
            exact W.iret (v := (0 : Int32)) hx hb hr (fun t ht hW => ⟨⟨(0 : Int32), (), rfl, rfl, by rw [ht]; exact hP9, va_K.moved hW.alike hK, hD9⟩, hS.F ht⟩) hS.2.2 dR_orderOfStrings_172
        · rw [if_neg hc] at hf
          refine lv_aload_n hx hb dR_orderOfStrings_102 rfl (lv_at hl 4 rfl) ?_
          refine va_get (D := D) (ci := 2) (v := .ref a1) (C := "ValueBench$Row") (T := TR) (N := 3) hx hb htx inR hown hK hP 0 rfl rfl 0 (by decide) (htx _ kw_1_84) (fun _ h9 => h9) rfl dR_orderOfStrings_103 ?_
          refine lv_iload_n hx hb dR_orderOfStrings_106 rfl (lv_at hl 5 rfl) ?_
          refine lv_iload hx hb dR_orderOfStrings_107 (lv_at hl 0 rfl) ?_
          refine lv_iadd hx hb dR_orderOfStrings_109 ?_
          obtain ⟨hg1, hf⟩ := xifn hf
          refine va_lald hx hb hK hP 1 2 rfl rfl hg1 dR_orderOfStrings_110 ?_
          refine W.eq (g2 := F0 m 111 ls [.long (f0 (y1 + y7).toNatClampNeg)]) rfl ?_
          refine lv_aload_n hx hb dR_orderOfStrings_111 rfl (lv_at hl 6 rfl) ?_
          refine va_get (D := D) (ci := 2) (v := .ref a3) (C := "ValueBench$Row") (T := TR) (N := 3) hx hb htx inR hown hK hP 2 rfl rfl 0 (by decide) (htx _ kw_1_84) (fun _ h9 => h9) rfl dR_orderOfStrings_112 ?_
          refine lv_iload_n hx hb dR_orderOfStrings_115 rfl (lv_at hl 7 rfl) ?_
          refine lv_iload hx hb dR_orderOfStrings_116 (lv_at hl 0 rfl) ?_
          refine lv_iadd hx hb dR_orderOfStrings_118 ?_
          obtain ⟨hg2, hf⟩ := xifn hf
          refine va_lald hx hb hK hP 3 2 rfl rfl hg2 dR_orderOfStrings_119 ?_
          refine W.eq (g2 := F0 m 120 ls [.long (f3 (y3 + y7).toNatClampNeg), .long (f0 (y1 + y7).toNatClampNeg)]) rfl ?_
          refine lv_lsub hx hb dR_orderOfStrings_120 ?_
          refine lv_lstore (lv' := [(8, .long ((f0 (y1 + y7).toNatClampNeg) - (f3 (y3 + y7).toNatClampNeg))), (7, .int y7), (6, .int y6), (5, .int y5), (4, .int y4), (0, .ref a0), (1, .int y1), (2, .ref a2), (3, .int y3)]) hx hb dR_orderOfStrings_121 hl (by decide) rfl (fun ls hl => ?_)
          refine lv_lload hx hb dR_orderOfStrings_123 (lv_at hl 0 rfl) ?_
          refine lv_lconst (v := 0) hx hb dR_orderOfStrings_125 (by decide) ?_
          refine W.lcmp hx hb dR_orderOfStrings_126 ?_
          refine lv_if_eq (tgt := 143) hx hb dR_orderOfStrings_127 (by decide) (fun hc => ?_) (fun hc => ?_)
          · rw [if_pos hc] at hf
            refine lv_iinc (v := (y7 + 1)) (lv' := [(7, .int (y7 + 1)), (8, .long ((f0 (y1 + y7).toNatClampNeg) - (f3 (y3 + y7).toNatClampNeg))), (6, .int y6), (5, .int y5), (4, .int y4), (0, .ref a0), (1, .int y1), (2, .ref a2), (3, .int y3)]) hx hb dR_orderOfStrings_143 hl (k := 1) rfl rfl (by decide) rfl (fun ls hl => ?_)
            refine lv_goto (tgt := 73) hx hb dR_orderOfStrings_146 (by decide) ?_
            obtain ⟨hP9, hD9⟩ := xsub (wc := [(a0, .inr (2, [.ref a1, .int v1, .int v2])), (a1, .inl (cT 2, 4096, .inr (.inl f0))), (a2, .inr (2, [.ref a3, .int v4, .int v5])), (a3, .inl (cT 2, 4096, .inr (.inl f3)))]) hP hD [0, 1, 2, 3] rfl rfl (by decide)
            exact ih (1, (y7 + 1), y6, y5, y4, y1, y3) _ _ ls (⟨rfl, hf, hP9, hD9, hS, lv_sub hl [0, 2, 3, 4, 5, 6, 7, 8] rfl⟩)
          · rw [if_neg hc] at hf
            refine lv_lload hx hb dR_orderOfStrings_130 (lv_at hl 0 rfl) ?_
            refine lv_lconst (v := 0) hx hb dR_orderOfStrings_132 (by decide) ?_
            refine W.lcmp hx hb dR_orderOfStrings_133 ?_
            refine lv_if_ge (tgt := 141) hx hb dR_orderOfStrings_134 (by decide) (fun hc => ?_) (fun hc => ?_)
            · rw [if_pos hc] at hf
              refine lv_iconst (v := 1) hx hb dR_orderOfStrings_141 (by decide) ?_
              obtain rfl := Option.some.inj hf
              obtain ⟨hP9, hD9⟩ := xsub (wc := [(a0, .inr (2, [.ref a1, .int v1, .int v2])), (a1, .inl (cT 2, 4096, .inr (.inl f0))), (a2, .inr (2, [.ref a3, .int v4, .int v5])), (a3, .inl (cT 2, 4096, .inr (.inl f3)))]) hP hD [0, 1, 2, 3] rfl rfl (by decide)
              exact W.iret (v := (1 : Int32)) hx hb hr (fun t ht hW => ⟨⟨(1 : Int32), (), rfl, rfl, by rw [ht]; exact hP9, va_K.moved hW.alike hK, hD9⟩, hS.F ht⟩) hS.2.2 dR_orderOfStrings_142
            · rw [if_neg hc] at hf
              refine lv_iconst (v := (-1)) hx hb dR_orderOfStrings_137 (by decide) ?_
              refine lv_goto (tgt := 142) hx hb dR_orderOfStrings_138 (by decide) ?_
              obtain rfl := Option.some.inj hf
              obtain ⟨hP9, hD9⟩ := xsub (wc := [(a0, .inr (2, [.ref a1, .int v1, .int v2])), (a1, .inl (cT 2, 4096, .inr (.inl f0))), (a2, .inr (2, [.ref a3, .int v4, .int v5])), (a3, .inl (cT 2, 4096, .inr (.inl f3)))]) hP hD [0, 1, 2, 3] rfl rfl (by decide)
              exact W.iret (v := ((-1) : Int32)) hx hb hr (fun t ht hW => ⟨⟨((-1) : Int32), (), rfl, rfl, by rw [ht]; exact hP9, va_K.moved hW.alike hK, hD9⟩, hS.F ht⟩) hS.2.2 dR_orderOfStrings_142
  refine lv_iload_n hx hb dR_orderOfStrings_0 rfl (lv_at hl 1 rfl) ?_
  refine lv_if_lt (tgt := 24) hx hb dR_orderOfStrings_1 (by decide) (fun hc => ?_) (fun hc => ?_)
  · rw [if_pos hc] at hf
    refine lv_iconst (v := 0) hx hb dR_orderOfStrings_24 (by decide) ?_
    obtain rfl := Option.some.inj hf
    obtain ⟨hP9, hD9⟩ := xsub (wc := [(a0, .inr (2, [.ref a1, .int v1, .int v2])), (a1, .inl (cT 2, 4096, .inr (.inl f0))), (a2, .inr (2, [.ref a3, .int v4, .int v5])), (a3, .inl (cT 2, 4096, .inr (.inl f3)))]) hP hD [0, 1, 2, 3] rfl rfl (by decide)
    exact W.iret (v := (0 : Int32)) hx hb hr (fun t ht hW => ⟨⟨(0 : Int32), (), rfl, rfl, by rw [ht]; exact hP9, va_K.moved hW.alike hK, hD9⟩, hS.F ht⟩) hS.2.2 dR_orderOfStrings_25
  · rw [if_neg hc] at hf
    refine lv_iload_n hx hb dR_orderOfStrings_4 rfl (lv_at hl 1 rfl) ?_
    refine lv_aload_n hx hb dR_orderOfStrings_5 rfl (lv_at hl 0 rfl) ?_
    refine va_get (D := D) (ci := 2) (v := .int v1) (C := "ValueBench$Row") (T := TR) (N := 3) hx hb htx inR hown hK hP 0 rfl rfl 1 (by decide) (htx _ kw_1_85) (fun _ h9 => h9) rfl dR_orderOfStrings_6 ?_
    refine lv_icmp_ge (tgt := 24) hx hb dR_orderOfStrings_9 (by decide) (fun hc => ?_) (fun hc => ?_)
    · rw [if_pos hc] at hf
      refine lv_iconst (v := 0) hx hb dR_orderOfStrings_24 (by decide) ?_
      obtain rfl := Option.some.inj hf
      obtain ⟨hP9, hD9⟩ := xsub (wc := [(a0, .inr (2, [.ref a1, .int v1, .int v2])), (a1, .inl (cT 2, 4096, .inr (.inl f0))), (a2, .inr (2, [.ref a3, .int v4, .int v5])), (a3, .inl (cT 2, 4096, .inr (.inl f3)))]) hP hD [0, 1, 2, 3] rfl rfl (by decide)
      exact W.iret (v := (0 : Int32)) hx hb hr (fun t ht hW => ⟨⟨(0 : Int32), (), rfl, rfl, by rw [ht]; exact hP9, va_K.moved hW.alike hK, hD9⟩, hS.F ht⟩) hS.2.2 dR_orderOfStrings_25
    · rw [if_neg hc] at hf
      refine lv_iload_n hx hb dR_orderOfStrings_12 rfl (lv_at hl 3 rfl) ?_
      refine lv_if_lt (tgt := 24) hx hb dR_orderOfStrings_13 (by decide) (fun hc => ?_) (fun hc => ?_)
      · rw [if_pos hc] at hf
        refine lv_iconst (v := 0) hx hb dR_orderOfStrings_24 (by decide) ?_
        obtain rfl := Option.some.inj hf
        obtain ⟨hP9, hD9⟩ := xsub (wc := [(a0, .inr (2, [.ref a1, .int v1, .int v2])), (a1, .inl (cT 2, 4096, .inr (.inl f0))), (a2, .inr (2, [.ref a3, .int v4, .int v5])), (a3, .inl (cT 2, 4096, .inr (.inl f3)))]) hP hD [0, 1, 2, 3] rfl rfl (by decide)
        exact W.iret (v := (0 : Int32)) hx hb hr (fun t ht hW => ⟨⟨(0 : Int32), (), rfl, rfl, by rw [ht]; exact hP9, va_K.moved hW.alike hK, hD9⟩, hS.F ht⟩) hS.2.2 dR_orderOfStrings_25
      · rw [if_neg hc] at hf
        refine lv_iload_n hx hb dR_orderOfStrings_16 rfl (lv_at hl 3 rfl) ?_
        refine lv_aload_n hx hb dR_orderOfStrings_17 rfl (lv_at hl 2 rfl) ?_
        refine va_get (D := D) (ci := 2) (v := .int v4) (C := "ValueBench$Row") (T := TR) (N := 3) hx hb htx inR hown hK hP 2 rfl rfl 1 (by decide) (htx _ kw_1_85) (fun _ h9 => h9) rfl dR_orderOfStrings_18 ?_
        refine lv_icmp_lt (tgt := 26) hx hb dR_orderOfStrings_21 (by decide) (fun hc => ?_) (fun hc => ?_)
        · rw [if_pos hc] at hf
          refine lv_aload_n hx hb dR_orderOfStrings_26 rfl (lv_at hl 0 rfl) ?_
          refine va_get (D := D) (ci := 2) (v := .ref a1) (C := "ValueBench$Row") (T := TR) (N := 3) hx hb htx inR hown hK hP 0 rfl rfl 0 (by decide) (htx _ kw_1_84) (fun _ h9 => h9) rfl dR_orderOfStrings_27 ?_
          refine lv_iload_n hx hb dR_orderOfStrings_30 rfl (lv_at hl 1 rfl) ?_
          obtain ⟨hg1, hf⟩ := xifn hf
          refine va_lald hx hb hK hP 1 2 rfl rfl hg1 dR_orderOfStrings_31 ?_
          refine W.eq (g2 := F0 m 32 ls [.long (f0 x1.toNatClampNeg)]) rfl ?_
          refine lv_iconst (v := 3) hx hb dR_orderOfStrings_32 (by decide) ?_
          refine lv_lshr hx hb dR_orderOfStrings_33 rfl ?_
          refine lv_l2i hx hb dR_orderOfStrings_34 rfl ?_
          refine lv_ldc hx hb hown (htx _ kw_2_192) dR_orderOfStrings_35 ?_
          refine lv_iand hx hb dR_orderOfStrings_37 ?_
          refine lv_istore (lv' := [(4, .int (((f0 x1.toNatClampNeg) >>> ((3 : Int32).toInt64 &&& 63)).toInt32 &&& (65535 : Int32))), (0, .ref a0), (1, .int x1), (2, .ref a2), (3, .int x3)]) hx hb dR_orderOfStrings_38 hl (by decide) rfl (fun ls hl => ?_)
          refine lv_aload_n hx hb dR_orderOfStrings_40 rfl (lv_at hl 3 rfl) ?_
          refine va_get (D := D) (ci := 2) (v := .ref a3) (C := "ValueBench$Row") (T := TR) (N := 3) hx hb htx inR hown hK hP 2 rfl rfl 0 (by decide) (htx _ kw_1_84) (fun _ h9 => h9) rfl dR_orderOfStrings_41 ?_
          refine lv_iload_n hx hb dR_orderOfStrings_44 rfl (lv_at hl 4 rfl) ?_
          obtain ⟨hg2, hf⟩ := xifn hf
          refine va_lald hx hb hK hP 3 2 rfl rfl hg2 dR_orderOfStrings_45 ?_
          refine W.eq (g2 := F0 m 46 ls [.long (f3 x3.toNatClampNeg)]) rfl ?_
          refine lv_iconst (v := 3) hx hb dR_orderOfStrings_46 (by decide) ?_
          refine lv_lshr hx hb dR_orderOfStrings_47 rfl ?_
          refine lv_l2i hx hb dR_orderOfStrings_48 rfl ?_
          refine lv_ldc hx hb hown (htx _ kw_2_192) dR_orderOfStrings_49 ?_
          refine lv_iand hx hb dR_orderOfStrings_51 ?_
          refine lv_istore (lv' := [(5, .int (((f3 x3.toNatClampNeg) >>> ((3 : Int32).toInt64 &&& 63)).toInt32 &&& (65535 : Int32))), (4, .int (((f0 x1.toNatClampNeg) >>> ((3 : Int32).toInt64 &&& 63)).toInt32 &&& (65535 : Int32))), (0, .ref a0), (1, .int x1), (2, .ref a2), (3, .int x3)]) hx hb dR_orderOfStrings_52 hl (by decide) rfl (fun ls hl => ?_)
          refine lv_iload hx hb dR_orderOfStrings_54 (lv_at hl 1 rfl) ?_
          refine lv_iload hx hb dR_orderOfStrings_56 (lv_at hl 0 rfl) ?_
          refine lv_icmp_ge (tgt := 66) hx hb dR_orderOfStrings_58 (by decide) (fun hc => ?_) (fun hc => ?_)
          · rw [if_pos hc] at hf
            refine lv_iload hx hb dR_orderOfStrings_66 (lv_at hl 0 rfl) ?_
            refine lv_istore (lv' := [(6, .int (((f3 x3.toNatClampNeg) >>> ((3 : Int32).toInt64 &&& 63)).toInt32 &&& (65535 : Int32))), (5, .int (((f3 x3.toNatClampNeg) >>> ((3 : Int32).toInt64 &&& 63)).toInt32 &&& (65535 : Int32))), (4, .int (((f0 x1.toNatClampNeg) >>> ((3 : Int32).toInt64 &&& 63)).toInt32 &&& (65535 : Int32))), (0, .ref a0), (1, .int x1), (2, .ref a2), (3, .int x3)]) hx hb dR_orderOfStrings_68 hl (by decide) rfl (fun ls hl => ?_)
            refine lv_iconst (v := 1) hx hb dR_orderOfStrings_70 (by decide) ?_
            refine lv_istore (lv' := [(7, .int 1), (6, .int (((f3 x3.toNatClampNeg) >>> ((3 : Int32).toInt64 &&& 63)).toInt32 &&& (65535 : Int32))), (5, .int (((f3 x3.toNatClampNeg) >>> ((3 : Int32).toInt64 &&& 63)).toInt32 &&& (65535 : Int32))), (4, .int (((f0 x1.toNatClampNeg) >>> ((3 : Int32).toInt64 &&& 63)).toInt32 &&& (65535 : Int32))), (0, .ref a0), (1, .int x1), (2, .ref a2), (3, .int x3)]) hx hb dR_orderOfStrings_71 hl (by decide) rfl (fun ls hl => ?_)
            obtain ⟨hP9, hD9⟩ := xsub (wc := [(a0, .inr (2, [.ref a1, .int v1, .int v2])), (a1, .inl (cT 2, 4096, .inr (.inl f0))), (a2, .inr (2, [.ref a3, .int v4, .int v5])), (a3, .inl (cT 2, 4096, .inr (.inl f3)))]) hP hD [0, 1, 2, 3] rfl rfl (by decide)
            exact key n (1, 1, (((f3 x3.toNatClampNeg) >>> ((3 : Int32).toInt64 &&& 63)).toInt32 &&& (65535 : Int32)), (((f3 x3.toNatClampNeg) >>> ((3 : Int32).toInt64 &&& 63)).toInt32 &&& (65535 : Int32)), (((f0 x1.toNatClampNeg) >>> ((3 : Int32).toInt64 &&& 63)).toInt32 &&& (65535 : Int32)), x1, x3) _ _ ls (⟨rfl, hf, hP9, hD9, hS, lv_sub hl [0, 1, 2, 3, 4, 5, 6, 7] rfl⟩)
          · rw [if_neg hc] at hf
            refine lv_iload hx hb dR_orderOfStrings_61 (lv_at hl 1 rfl) ?_
            refine lv_goto (tgt := 68) hx hb dR_orderOfStrings_63 (by decide) ?_
            refine lv_istore (lv' := [(6, .int (((f0 x1.toNatClampNeg) >>> ((3 : Int32).toInt64 &&& 63)).toInt32 &&& (65535 : Int32))), (5, .int (((f3 x3.toNatClampNeg) >>> ((3 : Int32).toInt64 &&& 63)).toInt32 &&& (65535 : Int32))), (4, .int (((f0 x1.toNatClampNeg) >>> ((3 : Int32).toInt64 &&& 63)).toInt32 &&& (65535 : Int32))), (0, .ref a0), (1, .int x1), (2, .ref a2), (3, .int x3)]) hx hb dR_orderOfStrings_68 hl (by decide) rfl (fun ls hl => ?_)
            refine lv_iconst (v := 1) hx hb dR_orderOfStrings_70 (by decide) ?_
            refine lv_istore (lv' := [(7, .int 1), (6, .int (((f0 x1.toNatClampNeg) >>> ((3 : Int32).toInt64 &&& 63)).toInt32 &&& (65535 : Int32))), (5, .int (((f3 x3.toNatClampNeg) >>> ((3 : Int32).toInt64 &&& 63)).toInt32 &&& (65535 : Int32))), (4, .int (((f0 x1.toNatClampNeg) >>> ((3 : Int32).toInt64 &&& 63)).toInt32 &&& (65535 : Int32))), (0, .ref a0), (1, .int x1), (2, .ref a2), (3, .int x3)]) hx hb dR_orderOfStrings_71 hl (by decide) rfl (fun ls hl => ?_)
            obtain ⟨hP9, hD9⟩ := xsub (wc := [(a0, .inr (2, [.ref a1, .int v1, .int v2])), (a1, .inl (cT 2, 4096, .inr (.inl f0))), (a2, .inr (2, [.ref a3, .int v4, .int v5])), (a3, .inl (cT 2, 4096, .inr (.inl f3)))]) hP hD [0, 1, 2, 3] rfl rfl (by decide)
            exact key n (1, 1, (((f0 x1.toNatClampNeg) >>> ((3 : Int32).toInt64 &&& 63)).toInt32 &&& (65535 : Int32)), (((f3 x3.toNatClampNeg) >>> ((3 : Int32).toInt64 &&& 63)).toInt32 &&& (65535 : Int32)), (((f0 x1.toNatClampNeg) >>> ((3 : Int32).toInt64 &&& 63)).toInt32 &&& (65535 : Int32)), x1, x3) _ _ ls (⟨rfl, hf, hP9, hD9, hS, lv_sub hl [0, 1, 2, 3, 4, 5, 6, 7] rfl⟩)
        · rw [if_neg hc] at hf
          refine lv_iconst (v := 0) hx hb dR_orderOfStrings_24 (by decide) ?_
          obtain rfl := Option.some.inj hf
          obtain ⟨hP9, hD9⟩ := xsub (wc := [(a0, .inr (2, [.ref a1, .int v1, .int v2])), (a1, .inl (cT 2, 4096, .inr (.inl f0))), (a2, .inr (2, [.ref a3, .int v4, .int v5])), (a3, .inl (cT 2, 4096, .inr (.inl f3)))]) hP hD [0, 1, 2, 3] rfl rfl (by decide)
          exact W.iret (v := (0 : Int32)) hx hb hr (fun t ht hW => ⟨⟨(0 : Int32), (), rfl, rfl, by rw [ht]; exact hP9, va_K.moved hW.alike hK, hD9⟩, hS.F ht⟩) hS.2.2 dR_orderOfStrings_25
set_option maxHeartbeats 400000000 in
set_option maxRecDepth 100000 in
theorem gR_putCells (l : Launch) (hl9 : l.stackTraces = false) (D : va_G) (cT : Nat → ClassId) (aK aV : Nat → Nat) (sz n : Nat) (a0 : Nat) (a1 : Nat) (a2 : Nat) (a3 : Nat) (x2 : Int32) (x3 : Int32) (f0 : Nat → Int64) (v1 : Int32) (v2 : Int32) (f3 : Nat → Int64) (v4 : Int32) (v5 : Int32) (out : (Nat → Int64) × Int32 × Int32) (hf : fR_putCells n x2 x3 f0 v1 v2 f3 v4 v5 = some out) : xMet l yR_putCells wyR_putCells 1 0 0 60 D cT aK aV sz [.ref a0, .ref a2, .int x2, .int x3] [(a0, .inr (2, [.ref a1, .int v1, .int v2])), (a1, .inl (cT 2, 4096, .inr (.inl f0))), (a2, .inr (2, [.ref a3, .int v4, .int v5])), (a3, .inl (cT 2, 4096, .inr (.inl f3)))] (fun A => va_Qv (fun _ : Unit => True) (fun _ t => xB D xcl cT A [(a0, .inr (2, [.ref a1, .int out.2.1, .int out.2.2])), (a1, .inl (cT 2, 4096, .inr (.inl out.1))), (a2, .inr (2, [.ref a3, .int v4, .int v5])), (a3, .inl (cT 2, 4096, .inr (.inl f3)))] t) A) := by
  refine Met.ofW (cc := prog_8_method_24_code) (maxL := 4) (ret := none) (by decide) rfl ?_
  intro p e s m args below meth c s₁ B hml hv
  obtain ⟨rfl, hsz, hZ, hP, hK, hD0⟩ := hv
  have hx := B.exec
  have hb := B.bytes
  have hr := B.returns
  have hts := atoms_spec (ws := wyR_putCells) B.pre
  have htx := fun w h => hts w (List.mem_cons_of_mem _ h)
  have hown : s.vm.findClass "ValueBench$Row" = some m.cls := findClass_of_methodNamed B.named
  have hlocks := B.notSynchronized
  subst hsz
  have hD := hD0.self (sz := s.heap.size)
  generalize hAe : va_A [(a0, .inr (2, [.ref a1, .int v1, .int v2])), (a1, .inl (cT 2, 4096, .inr (.inl f0))), (a2, .inr (2, [.ref a3, .int v4, .int v5])), (a3, .inl (cT 2, 4096, .inr (.inl f3)))] s.heap.size = A at hD hZ ⊢
  have hA : ∀ q : Nat, s.heap.size ≤ q → A q := fun q h => by rw [← hAe]; exact Or.inr h
  have hS : va_S A s.heap s.heap [] := va_S.rf
  have hP : va_P D xcl [(a0, .inr (2, [.ref a1, .int v1, .int v2])), (a1, .inl (cT 2, 4096, .inr (.inl f0))), (a2, .inr (2, [.ref a3, .int v4, .int v5])), (a3, .inl (cT 2, 4096, .inr (.inl f3)))] s.heap := hP
  have hl := lv_entry ([.ref a0, .ref a2, .int x2, .int x3]) (n := 4) (Nat.le_of_ble_eq_true rfl)
  rw [lg_entry_eq]
  generalize (lg_sl ([.ref a0, .ref a2, .int x2, .int x3]) ++ List.replicate (4 - (lg_sl ([.ref a0, .ref a2, .int x2, .int x3])).length) Slot.unset).toArray = ls at hl ⊢
  have hl : lv_has ls 4 [(0, .ref a0), (1, .ref a2), (2, .int x2), (3, .int x3)] := hl
  unfold fR_putCells at hf
  refine lv_aload_n hx hb dR_putCells_0 rfl (lv_at hl 0 rfl) ?_
  refine va_get (D := D) (ci := 2) (v := .int v2) (C := "ValueBench$Row") (T := TR) (N := 3) hx hb htx inR hown hK hP 0 rfl rfl 2 (by decide) (htx _ kw_1_86) (fun _ h9 => h9) rfl dR_putCells_1 ?_
  refine lv_if_ne (tgt := 37) hx hb dR_putCells_4 (by decide) (fun hc => ?_) (fun hc => ?_)
  · rw [if_neg hc] at hf
    refine lv_aload_n hx hb dR_putCells_37 rfl (lv_at hl 0 rfl) ?_
    refine lv_iconst (v := 1) hx hb dR_putCells_38 (by decide) ?_
    refine va_put (D := D) (ci := 2) (v := .int 1) (ty := .boolean) (C := "ValueBench$Row") (T := TR) (N := 3) hx hb htx inR tyR tyR_ok nmR hown hK hP hD hS 0 rfl rfl 2 (by decide) (htx _ kw_1_86) (fun _ h9 => h9) rfl (by decide +kernel) rfl rfl (Nat.le_of_ble_eq_true rfl) dR_putCells_39 (fun H locs hP hD hS => ?_)
    obtain ⟨hP, hD⟩ : xPD D xcl A [(a0, .inr (2, [.ref a1, .int v1, .int 1])), (a1, .inl (cT 2, 4096, .inr (.inl f0))), (a2, .inr (2, [.ref a3, .int v4, .int v5])), (a3, .inl (cT 2, 4096, .inr (.inl f3)))] H := ⟨hP, hD⟩
    obtain rfl := Option.some.inj hf
    obtain ⟨hP9, hD9⟩ := xsub (wc := [(a0, .inr (2, [.ref a1, .int v1, .int 1])), (a1, .inl (cT 2, 4096, .inr (.inl f0))), (a2, .inr (2, [.ref a3, .int v4, .int v5])), (a3, .inl (cT 2, 4096, .inr (.inl f3)))]) hP hD [0, 1, 2, 3] rfl rfl (by decide)
    exact W.vret hx hb hr (fun t ht hW => ⟨⟨(), rfl, trivial, by rw [ht]; exact hP9, va_K.moved hW.alike hK, hD9⟩, hS.F ht⟩) hS.2.2 dR_putCells_42
  · rw [if_pos hc] at hf
    refine lv_iload_n hx hb dR_putCells_7 rfl (lv_at hl 2 rfl) ?_
    refine lv_if_lt (tgt := 37) hx hb dR_putCells_8 (by decide) (fun hc => ?_) (fun hc => ?_)
    · rw [if_pos hc] at hf
      refine lv_aload_n hx hb dR_putCells_37 rfl (lv_at hl 0 rfl) ?_
      refine lv_iconst (v := 1) hx hb dR_putCells_38 (by decide) ?_
      refine va_put (D := D) (ci := 2) (v := .int 1) (ty := .boolean) (C := "ValueBench$Row") (T := TR) (N := 3) hx hb htx inR tyR tyR_ok nmR hown hK hP hD hS 0 rfl rfl 2 (by decide) (htx _ kw_1_86) (fun _ h9 => h9) rfl (by decide +kernel) rfl rfl (Nat.le_of_ble_eq_true rfl) dR_putCells_39 (fun H locs hP hD hS => ?_)
      obtain ⟨hP, hD⟩ : xPD D xcl A [(a0, .inr (2, [.ref a1, .int v1, .int 1])), (a1, .inl (cT 2, 4096, .inr (.inl f0))), (a2, .inr (2, [.ref a3, .int v4, .int v5])), (a3, .inl (cT 2, 4096, .inr (.inl f3)))] H := ⟨hP, hD⟩
      obtain rfl := Option.some.inj hf
      obtain ⟨hP9, hD9⟩ := xsub (wc := [(a0, .inr (2, [.ref a1, .int v1, .int 1])), (a1, .inl (cT 2, 4096, .inr (.inl f0))), (a2, .inr (2, [.ref a3, .int v4, .int v5])), (a3, .inl (cT 2, 4096, .inr (.inl f3)))]) hP hD [0, 1, 2, 3] rfl rfl (by decide)
      exact W.vret hx hb hr (fun t ht hW => ⟨⟨(), rfl, trivial, by rw [ht]; exact hP9, va_K.moved hW.alike hK, hD9⟩, hS.F ht⟩) hS.2.2 dR_putCells_42
    · rw [if_neg hc] at hf
      refine lv_iload_n hx hb dR_putCells_11 rfl (lv_at hl 3 rfl) ?_
      refine lv_if_lt (tgt := 37) hx hb dR_putCells_12 (by decide) (fun hc => ?_) (fun hc => ?_)
      · rw [if_pos hc] at hf
        refine lv_aload_n hx hb dR_putCells_37 rfl (lv_at hl 0 rfl) ?_
        refine lv_iconst (v := 1) hx hb dR_putCells_38 (by decide) ?_
        refine va_put (D := D) (ci := 2) (v := .int 1) (ty := .boolean) (C := "ValueBench$Row") (T := TR) (N := 3) hx hb htx inR tyR tyR_ok nmR hown hK hP hD hS 0 rfl rfl 2 (by decide) (htx _ kw_1_86) (fun _ h9 => h9) rfl (by decide +kernel) rfl rfl (Nat.le_of_ble_eq_true rfl) dR_putCells_39 (fun H locs hP hD hS => ?_)
        obtain ⟨hP, hD⟩ : xPD D xcl A [(a0, .inr (2, [.ref a1, .int v1, .int 1])), (a1, .inl (cT 2, 4096, .inr (.inl f0))), (a2, .inr (2, [.ref a3, .int v4, .int v5])), (a3, .inl (cT 2, 4096, .inr (.inl f3)))] H := ⟨hP, hD⟩
        obtain rfl := Option.some.inj hf
        obtain ⟨hP9, hD9⟩ := xsub (wc := [(a0, .inr (2, [.ref a1, .int v1, .int 1])), (a1, .inl (cT 2, 4096, .inr (.inl f0))), (a2, .inr (2, [.ref a3, .int v4, .int v5])), (a3, .inl (cT 2, 4096, .inr (.inl f3)))]) hP hD [0, 1, 2, 3] rfl rfl (by decide)
        exact W.vret hx hb hr (fun t ht hW => ⟨⟨(), rfl, trivial, by rw [ht]; exact hP9, va_K.moved hW.alike hK, hD9⟩, hS.F ht⟩) hS.2.2 dR_putCells_42
      · rw [if_neg hc] at hf
        refine lv_iload_n hx hb dR_putCells_15 rfl (lv_at hl 2 rfl) ?_
        refine lv_iload_n hx hb dR_putCells_16 rfl (lv_at hl 3 rfl) ?_
        refine lv_iadd hx hb dR_putCells_17 ?_
        refine lv_aload_n hx hb dR_putCells_18 rfl (lv_at hl 1 rfl) ?_
        refine va_get (D := D) (ci := 2) (v := .int v4) (C := "ValueBench$Row") (T := TR) (N := 3) hx hb htx inR hown hK hP 2 rfl rfl 1 (by decide) (htx _ kw_1_85) (fun _ h9 => h9) rfl dR_putCells_19 ?_
        refine lv_icmp_gt (tgt := 37) hx hb dR_putCells_22 (by decide) (fun hc => ?_) (fun hc => ?_)
        · rw [if_pos hc] at hf
          refine lv_aload_n hx hb dR_putCells_37 rfl (lv_at hl 0 rfl) ?_
          refine lv_iconst (v := 1) hx hb dR_putCells_38 (by decide) ?_
          refine va_put (D := D) (ci := 2) (v := .int 1) (ty := .boolean) (C := "ValueBench$Row") (T := TR) (N := 3) hx hb htx inR tyR tyR_ok nmR hown hK hP hD hS 0 rfl rfl 2 (by decide) (htx _ kw_1_86) (fun _ h9 => h9) rfl (by decide +kernel) rfl rfl (Nat.le_of_ble_eq_true rfl) dR_putCells_39 (fun H locs hP hD hS => ?_)
          obtain ⟨hP, hD⟩ : xPD D xcl A [(a0, .inr (2, [.ref a1, .int v1, .int 1])), (a1, .inl (cT 2, 4096, .inr (.inl f0))), (a2, .inr (2, [.ref a3, .int v4, .int v5])), (a3, .inl (cT 2, 4096, .inr (.inl f3)))] H := ⟨hP, hD⟩
          obtain rfl := Option.some.inj hf
          obtain ⟨hP9, hD9⟩ := xsub (wc := [(a0, .inr (2, [.ref a1, .int v1, .int 1])), (a1, .inl (cT 2, 4096, .inr (.inl f0))), (a2, .inr (2, [.ref a3, .int v4, .int v5])), (a3, .inl (cT 2, 4096, .inr (.inl f3)))]) hP hD [0, 1, 2, 3] rfl rfl (by decide)
          exact W.vret hx hb hr (fun t ht hW => ⟨⟨(), rfl, trivial, by rw [ht]; exact hP9, va_K.moved hW.alike hK, hD9⟩, hS.F ht⟩) hS.2.2 dR_putCells_42
        · rw [if_neg hc] at hf
          refine lv_aload_n hx hb dR_putCells_25 rfl (lv_at hl 0 rfl) ?_
          refine va_get (D := D) (ci := 2) (v := .int v1) (C := "ValueBench$Row") (T := TR) (N := 3) hx hb htx inR hown hK hP 0 rfl rfl 1 (by decide) (htx _ kw_1_85) (fun _ h9 => h9) rfl dR_putCells_26 ?_
          refine lv_iload_n hx hb dR_putCells_29 rfl (lv_at hl 3 rfl) ?_
          refine lv_iadd hx hb dR_putCells_30 ?_
          refine lv_sipush (v := 4096) hx hb dR_putCells_31 (by decide) ?_
          refine lv_icmp_le (tgt := 43) hx hb dR_putCells_34 (by decide) (fun hc => ?_) (fun hc => ?_)
          · rw [if_pos hc] at hf
            refine lv_aload_n hx hb dR_putCells_43 rfl (lv_at hl 1 rfl) ?_
            refine va_get (D := D) (ci := 2) (v := .ref a3) (C := "ValueBench$Row") (T := TR) (N := 3) hx hb htx inR hown hK hP 2 rfl rfl 0 (by decide) (htx _ kw_1_84) (fun _ h9 => h9) rfl dR_putCells_44 ?_
            refine lv_iload_n hx hb dR_putCells_47 rfl (lv_at hl 2 rfl) ?_
            refine lv_aload_n hx hb dR_putCells_48 rfl (lv_at hl 0 rfl) ?_
            refine va_get (D := D) (ci := 2) (v := .ref a1) (C := "ValueBench$Row") (T := TR) (N := 3) hx hb htx inR hown hK hP 0 rfl rfl 0 (by decide) (htx _ kw_1_84) (fun _ h9 => h9) rfl dR_putCells_49 ?_
            refine lv_aload_n hx hb dR_putCells_52 rfl (lv_at hl 0 rfl) ?_
            refine va_get (D := D) (ci := 2) (v := .int v1) (C := "ValueBench$Row") (T := TR) (N := 3) hx hb htx inR hown hK hP 0 rfl rfl 1 (by decide) (htx _ kw_1_85) (fun _ h9 => h9) rfl dR_putCells_53 ?_
            refine lv_iload_n hx hb dR_putCells_56 rfl (lv_at hl 3 rfl) ?_
            obtain ⟨hg1, hf⟩ := xifn hf
            refine va_copyl (ty := .long) hx hb (hml.trans hl.1.symm) hown (htx _ kw_3_131) (htx _ kw_3_133) (htx _ kw_3_132) (htx _ kw_1_22) hK hP hD hS 3 1 2 2 rfl rfl rfl rfl rfl (fun h => hg1 (Or.inl h)) (fun h => hg1 (Or.inr (Or.inl h))) (fun h => hg1 (Or.inr (Or.inr (Or.inl h)))) (Nat.le_of_not_lt (fun h => hg1 (Or.inr (Or.inr (Or.inr (Or.inl h)))))) (Nat.le_of_not_lt (fun h => hg1 (Or.inr (Or.inr (Or.inr (Or.inr (h))))))) (fun _ _ => rfl) (Nat.le_of_ble_eq_true rfl) (Nat.le_of_ble_eq_true rfl) dR_putCells_57 (fun H locs hP hD hS => ?_)
            obtain ⟨hP, hD⟩ : xPD D xcl A [(a0, .inr (2, [.ref a1, .int v1, .int v2])), (a1, .inl (cT 2, 4096, .inr (.inl (va_cpy f3 f0 x2.toNatClampNeg v1.toNatClampNeg x3.toNatClampNeg)))), (a2, .inr (2, [.ref a3, .int v4, .int v5])), (a3, .inl (cT 2, 4096, .inr (.inl f3)))] H := ⟨hP, hD⟩
            refine lv_aload_n hx hb dR_putCells_60 rfl (lv_at hl 0 rfl) ?_
            refine lv_dup hx hb dR_putCells_61 rfl ?_
            refine va_get (D := D) (ci := 2) (v := .int v1) (C := "ValueBench$Row") (T := TR) (N := 3) hx hb htx inR hown hK hP 0 rfl rfl 1 (by decide) (htx _ kw_1_85) (fun _ h9 => h9) rfl dR_putCells_62 ?_
            refine lv_iload_n hx hb dR_putCells_65 rfl (lv_at hl 3 rfl) ?_
            refine lv_iadd hx hb dR_putCells_66 ?_
            refine va_put (D := D) (ci := 2) (v := .int (v1 + x3)) (ty := .int) (C := "ValueBench$Row") (T := TR) (N := 3) hx hb htx inR tyR tyR_ok nmR hown hK hP hD hS 0 rfl rfl 1 (by decide) (htx _ kw_1_85) (fun _ h9 => h9) rfl (by decide +kernel) rfl rfl (Nat.le_of_ble_eq_true rfl) dR_putCells_67 (fun H locs hP hD hS => ?_)
            obtain ⟨hP, hD⟩ : xPD D xcl A [(a0, .inr (2, [.ref a1, .int (v1 + x3), .int v2])), (a1, .inl (cT 2, 4096, .inr (.inl (va_cpy f3 f0 x2.toNatClampNeg v1.toNatClampNeg x3.toNatClampNeg)))), (a2, .inr (2, [.ref a3, .int v4, .int v5])), (a3, .inl (cT 2, 4096, .inr (.inl f3)))] H := ⟨hP, hD⟩
            obtain rfl := Option.some.inj hf
            obtain ⟨hP9, hD9⟩ := xsub (wc := [(a0, .inr (2, [.ref a1, .int (v1 + x3), .int v2])), (a1, .inl (cT 2, 4096, .inr (.inl (va_cpy f3 f0 x2.toNatClampNeg v1.toNatClampNeg x3.toNatClampNeg)))), (a2, .inr (2, [.ref a3, .int v4, .int v5])), (a3, .inl (cT 2, 4096, .inr (.inl f3)))]) hP hD [0, 1, 2, 3] rfl rfl (by decide)
            exact W.vret hx hb hr (fun t ht hW => ⟨⟨(), rfl, trivial, by rw [ht]; exact hP9, va_K.moved hW.alike hK, hD9⟩, hS.F ht⟩) hS.2.2 dR_putCells_70
          · rw [if_neg hc] at hf
            refine lv_aload_n hx hb dR_putCells_37 rfl (lv_at hl 0 rfl) ?_
            refine lv_iconst (v := 1) hx hb dR_putCells_38 (by decide) ?_
            refine va_put (D := D) (ci := 2) (v := .int 1) (ty := .boolean) (C := "ValueBench$Row") (T := TR) (N := 3) hx hb htx inR tyR tyR_ok nmR hown hK hP hD hS 0 rfl rfl 2 (by decide) (htx _ kw_1_86) (fun _ h9 => h9) rfl (by decide +kernel) rfl rfl (Nat.le_of_ble_eq_true rfl) dR_putCells_39 (fun H locs hP hD hS => ?_)
            obtain ⟨hP, hD⟩ : xPD D xcl A [(a0, .inr (2, [.ref a1, .int v1, .int 1])), (a1, .inl (cT 2, 4096, .inr (.inl f0))), (a2, .inr (2, [.ref a3, .int v4, .int v5])), (a3, .inl (cT 2, 4096, .inr (.inl f3)))] H := ⟨hP, hD⟩
            obtain rfl := Option.some.inj hf
            obtain ⟨hP9, hD9⟩ := xsub (wc := [(a0, .inr (2, [.ref a1, .int v1, .int 1])), (a1, .inl (cT 2, 4096, .inr (.inl f0))), (a2, .inr (2, [.ref a3, .int v4, .int v5])), (a3, .inl (cT 2, 4096, .inr (.inl f3)))]) hP hD [0, 1, 2, 3] rfl rfl (by decide)
            exact W.vret hx hb hr (fun t ht hW => ⟨⟨(), rfl, trivial, by rw [ht]; exact hP9, va_K.moved hW.alike hK, hD9⟩, hS.F ht⟩) hS.2.2 dR_putCells_42
set_option maxHeartbeats 400000000 in
set_option maxRecDepth 100000 in
theorem gR_putCopy (l : Launch) (hl9 : l.stackTraces = false) (D : va_G) (cT : Nat → ClassId) (aK aV : Nat → Nat) (sz n : Nat) (a0 : Nat) (a1 : Nat) (a2 : Nat) (a3 : Nat) (x2 : Int32) (f0 : Nat → Int64) (v1 : Int32) (v2 : Int32) (f3 : Nat → Int64) (v4 : Int32) (v5 : Int32) (out : (Nat → Int64) × Int32 × Int32) (hf : fR_putCopy n x2 f0 v1 v2 f3 v4 v5 = some out) : xMet l yR_putCopy wyR_putCopy 2 0 0 83 D cT aK aV sz [.ref a0, .ref a2, .int x2] [(a0, .inr (2, [.ref a1, .int v1, .int v2])), (a1, .inl (cT 2, 4096, .inr (.inl f0))), (a2, .inr (2, [.ref a3, .int v4, .int v5])), (a3, .inl (cT 2, 4096, .inr (.inl f3)))] (fun A => va_Qv (fun _ : Unit => True) (fun _ t => xB D xcl cT A [(a0, .inr (2, [.ref a1, .int out.2.1, .int out.2.2])), (a1, .inl (cT 2, 4096, .inr (.inl out.1))), (a2, .inr (2, [.ref a3, .int v4, .int v5])), (a3, .inl (cT 2, 4096, .inr (.inl f3)))] t) A) := by
  refine Met.ofW (cc := prog_8_method_22_code) (maxL := 3) (ret := none) (by decide) rfl ?_
  intro p e s m args below meth c s₁ B hml hv
  obtain ⟨rfl, hsz, hZ, hP, hK, hD0⟩ := hv
  have hx := B.exec
  have hb := B.bytes
  have hr := B.returns
  have hts := atoms_spec (ws := wyR_putCopy) B.pre
  have htx := fun w h => hts w (List.mem_cons_of_mem _ h)
  have hown : s.vm.findClass "ValueBench$Row" = some m.cls := findClass_of_methodNamed B.named
  have hlocks := B.notSynchronized
  subst hsz
  have hD := hD0.self (sz := s.heap.size)
  generalize hAe : va_A [(a0, .inr (2, [.ref a1, .int v1, .int v2])), (a1, .inl (cT 2, 4096, .inr (.inl f0))), (a2, .inr (2, [.ref a3, .int v4, .int v5])), (a3, .inl (cT 2, 4096, .inr (.inl f3)))] s.heap.size = A at hD hZ ⊢
  have hA : ∀ q : Nat, s.heap.size ≤ q → A q := fun q h => by rw [← hAe]; exact Or.inr h
  have hS : va_S A s.heap s.heap [] := va_S.rf
  have hP : va_P D xcl [(a0, .inr (2, [.ref a1, .int v1, .int v2])), (a1, .inl (cT 2, 4096, .inr (.inl f0))), (a2, .inr (2, [.ref a3, .int v4, .int v5])), (a3, .inl (cT 2, 4096, .inr (.inl f3)))] s.heap := hP
  have hl := lv_entry ([.ref a0, .ref a2, .int x2]) (n := 3) (Nat.le_of_ble_eq_true rfl)
  rw [lg_entry_eq]
  generalize (lg_sl ([.ref a0, .ref a2, .int x2]) ++ List.replicate (3 - (lg_sl ([.ref a0, .ref a2, .int x2])).length) Slot.unset).toArray = ls at hl ⊢
  have hl : lv_has ls 3 [(0, .ref a0), (1, .ref a2), (2, .int x2)] := hl
  unfold fR_putCopy at hf
  refine lv_aload_n hx hb dR_putCopy_0 rfl (lv_at hl 0 rfl) ?_
  refine lv_aload_n hx hb dR_putCopy_1 rfl (lv_at hl 1 rfl) ?_
  refine lv_iload_n hx hb dR_putCopy_2 rfl (lv_at hl 2 rfl) ?_
  refine lv_aload_n hx hb dR_putCopy_3 rfl (lv_at hl 1 rfl) ?_
  refine lv_iload_n hx hb dR_putCopy_4 rfl (lv_at hl 2 rfl) ?_
  obtain ⟨o1, hq2, hf⟩ := xbind hf
  obtain ⟨hPc, hDc, hFc⟩ := xcut (wc := [(a2, .inr (2, [.ref a3, .int v4, .int v5])), (a3, .inl (cT 2, 4096, .inr (.inl f3)))]) hP hD hS hA [2, 3] rfl rfl (by decide)
  refine va_calli (va_runV (C := "ValueBench$Row") (As := [.int x2]) (rest := [.int x2, .ref a2, .ref a0]) ⟨hx, hb, hml, hown, htx⟩ (gR_after l hl9 D cT aK aV s.heap.size n a2 a3 x2 f3 v4 v5 o1 hq2) ⟨callB_of 1 htx (xw_goodC kw_2_196) rfl rfl rfl (htx _ kw_1_4) (htx _ kw_2_193) ⟨by decide, by decide, by decide +kernel⟩ ⟨Nat.le_of_ble_eq_true rfl, Nat.le_of_ble_eq_true rfl⟩, (htx _ kw_2_194), (htx _ kw_2_195)⟩ ⟨xPre_blind, va_recv hK hP (ci := 2) rfl (q0 := 2) rfl, (fun U hU hW => ⟨rfl, xPre_of hZ hS hFc hPc hDc hK U hU hW⟩)⟩ rfl rfl hl.1 rfl (lv_room (Nat.le_of_ble_eq_true rfl)) dR_putCopy_5 ⟨Nat.le_of_ble_eq_true rfl, Nat.le_of_ble_eq_true rfl⟩) hS (fun q _ h => hFc q h) hFc (fun r3 u9 t H1 locs ht hvm hr9 hB hz1 hk1 hS => ?_)
  obtain ⟨hP1, hK1, hD1⟩ := hB
  rw [ht] at hP1
  obtain ⟨hP, hD⟩ := xjoin (W := [(a0, .inr (2, [.ref a1, .int v1, .int v2])), (a1, .inl (cT 2, 4096, .inr (.inl f0))), (a2, .inr (2, [.ref a3, .int v4, .int v5])), (a3, .inl (cT 2, 4096, .inr (.inl f3)))]) hP hD [2, 3] [0, 1] 2 rfl rfl (by decide) (by decide) hk1 hFc hP1 hD1
  generalize H1 = H at hP hS ⊢
  rw [hr9]
  refine W.eq (g2 := F0 m 8 ls [.int o1, .int x2, .ref a2, .ref a0]) rfl ?_
  refine lv_iload_n hx hb dR_putCopy_8 rfl (lv_at hl 2 rfl) ?_
  refine lv_isub hx hb dR_putCopy_9 ?_
  obtain ⟨o4, hq5, hf⟩ := xbind hf
  obtain ⟨hPc, hDc, hFc⟩ := xcut (wc := [(a0, .inr (2, [.ref a1, .int v1, .int v2])), (a1, .inl (cT 2, 4096, .inr (.inl f0))), (a2, .inr (2, [.ref a3, .int v4, .int v5])), (a3, .inl (cT 2, 4096, .inr (.inl f3)))]) hP hD hS hA [0, 1, 2, 3] rfl rfl (by decide)
  refine va_callv (va_runV (C := "ValueBench$Row") (As := [.ref a2, .int x2, .int (o1 - x2)]) (rest := []) ⟨hx, hb, hml, hown, htx⟩ (gR_putCells l hl9 D cT aK aV H.size n a0 a1 a2 a3 x2 (o1 - x2) f0 v1 v2 f3 v4 v5 o4 hq5) ⟨callB_of 3 htx (xw_goodC kw_3_130) rfl rfl rfl (htx _ kw_1_4) (htx _ kw_3_127) ⟨by decide, by decide, by decide +kernel⟩ ⟨Nat.le_of_ble_eq_true rfl, Nat.le_of_ble_eq_true rfl⟩, (htx _ kw_3_129), (htx _ kp_R_putCells)⟩ ⟨xPre_blind, va_recv hK hP (ci := 2) rfl (q0 := 0) rfl, (fun U hU hW => ⟨rfl, xPre_of hZ hS hFc hPc hDc hK U hU hW⟩)⟩ rfl rfl hl.1 rfl (lv_room (Nat.le_of_ble_eq_true rfl)) dR_putCopy_10 ⟨Nat.le_of_ble_eq_true rfl, Nat.le_of_ble_eq_true rfl⟩) hS (fun q _ h => hFc q h) hFc (fun u9 t H1 locs ht hvm hr9 hB hz1 hk1 hS => ?_)
  obtain ⟨hP1, hK1, hD1⟩ := hB
  rw [ht] at hP1
  obtain ⟨hP, hD⟩ := xjoin (W := [(a0, .inr (2, [.ref a1, .int o4.2.1, .int o4.2.2])), (a1, .inl (cT 2, 4096, .inr (.inl o4.1))), (a2, .inr (2, [.ref a3, .int v4, .int v5])), (a3, .inl (cT 2, 4096, .inr (.inl f3)))]) hP hD [0, 1, 2, 3] [] 0 rfl rfl (by decide) (by decide) hk1 hFc hP1 hD1
  generalize H1 = H at hP hS ⊢
  obtain rfl := Option.some.inj hf
  obtain ⟨hP9, hD9⟩ := xsub (wc := [(a0, .inr (2, [.ref a1, .int o4.2.1, .int o4.2.2])), (a1, .inl (cT 2, 4096, .inr (.inl o4.1))), (a2, .inr (2, [.ref a3, .int v4, .int v5])), (a3, .inl (cT 2, 4096, .inr (.inl f3)))]) hP hD [0, 1, 2, 3] rfl rfl (by decide)
  exact W.vret hx hb hr (fun t ht hW => ⟨⟨(), rfl, trivial, by rw [ht]; exact hP9, va_K.moved hW.alike hK, hD9⟩, hS.F ht⟩) hS.2.2 dR_putCopy_13
set_option maxHeartbeats 400000000 in
set_option maxRecDepth 100000 in
theorem gR_putInside (l : Launch) (hl9 : l.stackTraces = false) (D : va_G) (cT : Nat → ClassId) (aK aV : Nat → Nat) (sz n : Nat) (a0 : Nat) (a1 : Nat) (a2 : Nat) (a3 : Nat) (x2 : Int32) (f0 : Nat → Int64) (v1 : Int32) (v2 : Int32) (f3 : Nat → Int64) (v4 : Int32) (v5 : Int32) (out : (Nat → Int64) × Int32 × Int32) (hf : fR_putInside n x2 f0 v1 v2 f3 v4 v5 = some out) : xMet l yR_putInside wyR_putInside 2 0 0 83 D cT aK aV sz [.ref a0, .ref a2, .int x2] [(a0, .inr (2, [.ref a1, .int v1, .int v2])), (a1, .inl (cT 2, 4096, .inr (.inl f0))), (a2, .inr (2, [.ref a3, .int v4, .int v5])), (a3, .inl (cT 2, 4096, .inr (.inl f3)))] (fun A => va_Qv (fun _ : Unit => True) (fun _ t => xB D xcl cT A [(a0, .inr (2, [.ref a1, .int out.2.1, .int out.2.2])), (a1, .inl (cT 2, 4096, .inr (.inl out.1))), (a2, .inr (2, [.ref a3, .int v4, .int v5])), (a3, .inl (cT 2, 4096, .inr (.inl f3)))] t) A) := by
  refine Met.ofW (cc := prog_8_method_23_code) (maxL := 3) (ret := none) (by decide) rfl ?_
  intro p e s m args below meth c s₁ B hml hv
  obtain ⟨rfl, hsz, hZ, hP, hK, hD0⟩ := hv
  have hx := B.exec
  have hb := B.bytes
  have hr := B.returns
  have hts := atoms_spec (ws := wyR_putInside) B.pre
  have htx := fun w h => hts w (List.mem_cons_of_mem _ h)
  have hown : s.vm.findClass "ValueBench$Row" = some m.cls := findClass_of_methodNamed B.named
  have hlocks := B.notSynchronized
  subst hsz
  have hD := hD0.self (sz := s.heap.size)
  generalize hAe : va_A [(a0, .inr (2, [.ref a1, .int v1, .int v2])), (a1, .inl (cT 2, 4096, .inr (.inl f0))), (a2, .inr (2, [.ref a3, .int v4, .int v5])), (a3, .inl (cT 2, 4096, .inr (.inl f3)))] s.heap.size = A at hD hZ ⊢
  have hA : ∀ q : Nat, s.heap.size ≤ q → A q := fun q h => by rw [← hAe]; exact Or.inr h
  have hS : va_S A s.heap s.heap [] := va_S.rf
  have hP : va_P D xcl [(a0, .inr (2, [.ref a1, .int v1, .int v2])), (a1, .inl (cT 2, 4096, .inr (.inl f0))), (a2, .inr (2, [.ref a3, .int v4, .int v5])), (a3, .inl (cT 2, 4096, .inr (.inl f3)))] s.heap := hP
  have hl := lv_entry ([.ref a0, .ref a2, .int x2]) (n := 3) (Nat.le_of_ble_eq_true rfl)
  rw [lg_entry_eq]
  generalize (lg_sl ([.ref a0, .ref a2, .int x2]) ++ List.replicate (3 - (lg_sl ([.ref a0, .ref a2, .int x2])).length) Slot.unset).toArray = ls at hl ⊢
  have hl : lv_has ls 3 [(0, .ref a0), (1, .ref a2), (2, .int x2)] := hl
  unfold fR_putInside at hf
  refine lv_aload_n hx hb dR_putInside_0 rfl (lv_at hl 0 rfl) ?_
  refine lv_aload_n hx hb dR_putInside_1 rfl (lv_at hl 1 rfl) ?_
  refine lv_iload_n hx hb dR_putInside_2 rfl (lv_at hl 2 rfl) ?_
  refine lv_iconst (v := 1) hx hb dR_putInside_3 (by decide) ?_
  refine lv_iadd hx hb dR_putInside_4 ?_
  refine lv_aload_n hx hb dR_putInside_5 rfl (lv_at hl 1 rfl) ?_
  refine lv_iload_n hx hb dR_putInside_6 rfl (lv_at hl 2 rfl) ?_
  obtain ⟨o1, hq2, hf⟩ := xbind hf
  obtain ⟨hPc, hDc, hFc⟩ := xcut (wc := [(a2, .inr (2, [.ref a3, .int v4, .int v5])), (a3, .inl (cT 2, 4096, .inr (.inl f3)))]) hP hD hS hA [2, 3] rfl rfl (by decide)
  refine va_calli (va_runV (C := "ValueBench$Row") (As := [.int x2]) (rest := [.int (x2 + (1 : Int32)), .ref a2, .ref a0]) ⟨hx, hb, hml, hown, htx⟩ (gR_after l hl9 D cT aK aV s.heap.size n a2 a3 x2 f3 v4 v5 o1 hq2) ⟨callB_of 1 htx (xw_goodC kw_2_196) rfl rfl rfl (htx _ kw_1_4) (htx _ kw_2_193) ⟨by decide, by decide, by decide +kernel⟩ ⟨Nat.le_of_ble_eq_true rfl, Nat.le_of_ble_eq_true rfl⟩, (htx _ kw_2_194), (htx _ kw_2_195)⟩ ⟨xPre_blind, va_recv hK hP (ci := 2) rfl (q0 := 2) rfl, (fun U hU hW => ⟨rfl, xPre_of hZ hS hFc hPc hDc hK U hU hW⟩)⟩ rfl rfl hl.1 rfl (lv_room (Nat.le_of_ble_eq_true rfl)) dR_putInside_7 ⟨Nat.le_of_ble_eq_true rfl, Nat.le_of_ble_eq_true rfl⟩) hS (fun q _ h => hFc q h) hFc (fun r3 u9 t H1 locs ht hvm hr9 hB hz1 hk1 hS => ?_)
  obtain ⟨hP1, hK1, hD1⟩ := hB
  rw [ht] at hP1
  obtain ⟨hP, hD⟩ := xjoin (W := [(a0, .inr (2, [.ref a1, .int v1, .int v2])), (a1, .inl (cT 2, 4096, .inr (.inl f0))), (a2, .inr (2, [.ref a3, .int v4, .int v5])), (a3, .inl (cT 2, 4096, .inr (.inl f3)))]) hP hD [2, 3] [0, 1] 2 rfl rfl (by decide) (by decide) hk1 hFc hP1 hD1
  generalize H1 = H at hP hS ⊢
  rw [hr9]
  refine W.eq (g2 := F0 m 10 ls [.int o1, .int (x2 + (1 : Int32)), .ref a2, .ref a0]) rfl ?_
  refine lv_iload_n hx hb dR_putInside_10 rfl (lv_at hl 2 rfl) ?_
  refine lv_isub hx hb dR_putInside_11 ?_
  refine lv_iconst (v := 1) hx hb dR_putInside_12 (by decide) ?_
  refine lv_isub hx hb dR_putInside_13 ?_
  obtain ⟨o4, hq5, hf⟩ := xbind hf
  obtain ⟨hPc, hDc, hFc⟩ := xcut (wc := [(a0, .inr (2, [.ref a1, .int v1, .int v2])), (a1, .inl (cT 2, 4096, .inr (.inl f0))), (a2, .inr (2, [.ref a3, .int v4, .int v5])), (a3, .inl (cT 2, 4096, .inr (.inl f3)))]) hP hD hS hA [0, 1, 2, 3] rfl rfl (by decide)
  refine va_callv (va_runV (C := "ValueBench$Row") (As := [.ref a2, .int (x2 + (1 : Int32)), .int ((o1 - x2) - (1 : Int32))]) (rest := []) ⟨hx, hb, hml, hown, htx⟩ (gR_putCells l hl9 D cT aK aV H.size n a0 a1 a2 a3 (x2 + (1 : Int32)) ((o1 - x2) - (1 : Int32)) f0 v1 v2 f3 v4 v5 o4 hq5) ⟨callB_of 3 htx (xw_goodC kw_3_130) rfl rfl rfl (htx _ kw_1_4) (htx _ kw_3_127) ⟨by decide, by decide, by decide +kernel⟩ ⟨Nat.le_of_ble_eq_true rfl, Nat.le_of_ble_eq_true rfl⟩, (htx _ kw_3_129), (htx _ kp_R_putCells)⟩ ⟨xPre_blind, va_recv hK hP (ci := 2) rfl (q0 := 0) rfl, (fun U hU hW => ⟨rfl, xPre_of hZ hS hFc hPc hDc hK U hU hW⟩)⟩ rfl rfl hl.1 rfl (lv_room (Nat.le_of_ble_eq_true rfl)) dR_putInside_14 ⟨Nat.le_of_ble_eq_true rfl, Nat.le_of_ble_eq_true rfl⟩) hS (fun q _ h => hFc q h) hFc (fun u9 t H1 locs ht hvm hr9 hB hz1 hk1 hS => ?_)
  obtain ⟨hP1, hK1, hD1⟩ := hB
  rw [ht] at hP1
  obtain ⟨hP, hD⟩ := xjoin (W := [(a0, .inr (2, [.ref a1, .int o4.2.1, .int o4.2.2])), (a1, .inl (cT 2, 4096, .inr (.inl o4.1))), (a2, .inr (2, [.ref a3, .int v4, .int v5])), (a3, .inl (cT 2, 4096, .inr (.inl f3)))]) hP hD [0, 1, 2, 3] [] 0 rfl rfl (by decide) (by decide) hk1 hFc hP1 hD1
  generalize H1 = H at hP hS ⊢
  obtain rfl := Option.some.inj hf
  obtain ⟨hP9, hD9⟩ := xsub (wc := [(a0, .inr (2, [.ref a1, .int o4.2.1, .int o4.2.2])), (a1, .inl (cT 2, 4096, .inr (.inl o4.1))), (a2, .inr (2, [.ref a3, .int v4, .int v5])), (a3, .inl (cT 2, 4096, .inr (.inl f3)))]) hP hD [0, 1, 2, 3] rfl rfl (by decide)
  exact W.vret hx hb hr (fun t ht hW => ⟨⟨(), rfl, trivial, by rw [ht]; exact hP9, va_K.moved hW.alike hK, hD9⟩, hS.F ht⟩) hS.2.2 dR_putInside_17
set_option maxHeartbeats 400000000 in
set_option maxRecDepth 100000 in
theorem gR_putNull (l : Launch) (hl9 : l.stackTraces = false) (D : va_G) (cT : Nat → ClassId) (aK aV : Nat → Nat) (sz n : Nat) (a0 : Nat) (a1 : Nat) (f0 : Nat → Int64) (v1 : Int32) (v2 : Int32) (out : (Nat → Int64) × Int32 × Int32) (hf : fR_putNull n f0 v1 v2 = some out) : xMet l yR_putNull wyR_putNull 1 0 0 22 D cT aK aV sz [.ref a0] [(a0, .inr (2, [.ref a1, .int v1, .int v2])), (a1, .inl (cT 2, 4096, .inr (.inl f0)))] (fun A => va_Qv (fun _ : Unit => True) (fun _ t => xB D xcl cT A [(a0, .inr (2, [.ref a1, .int out.2.1, .int out.2.2])), (a1, .inl (cT 2, 4096, .inr (.inl out.1)))] t) A) := by
  refine Met.ofW (cc := prog_8_method_19_code) (maxL := 1) (ret := none) (by decide) rfl ?_
  intro p e s m args below meth c s₁ B hml hv
  obtain ⟨rfl, hsz, hZ, hP, hK, hD0⟩ := hv
  have hx := B.exec
  have hb := B.bytes
  have hr := B.returns
  have hts := atoms_spec (ws := wyR_putNull) B.pre
  have htx := fun w h => hts w (List.mem_cons_of_mem _ h)
  have hown : s.vm.findClass "ValueBench$Row" = some m.cls := findClass_of_methodNamed B.named
  have hlocks := B.notSynchronized
  subst hsz
  have hD := hD0.self (sz := s.heap.size)
  generalize hAe : va_A [(a0, .inr (2, [.ref a1, .int v1, .int v2])), (a1, .inl (cT 2, 4096, .inr (.inl f0)))] s.heap.size = A at hD hZ ⊢
  have hA : ∀ q : Nat, s.heap.size ≤ q → A q := fun q h => by rw [← hAe]; exact Or.inr h
  have hS : va_S A s.heap s.heap [] := va_S.rf
  have hP : va_P D xcl [(a0, .inr (2, [.ref a1, .int v1, .int v2])), (a1, .inl (cT 2, 4096, .inr (.inl f0)))] s.heap := hP
  have hl := lv_entry ([.ref a0]) (n := 1) (Nat.le_of_ble_eq_true rfl)
  rw [lg_entry_eq]
  generalize (lg_sl ([.ref a0]) ++ List.replicate (1 - (lg_sl ([.ref a0])).length) Slot.unset).toArray = ls at hl ⊢
  have hl : lv_has ls 1 [(0, .ref a0)] := hl
  unfold fR_putNull at hf
  refine lv_aload_n hx hb dR_putNull_0 rfl (lv_at hl 0 rfl) ?_
  refine lv_lconst (v := 0) hx hb dR_putNull_1 (by decide) ?_
  obtain ⟨o1, hq2, hf⟩ := xbind hf
  obtain ⟨hPc, hDc, hFc⟩ := xcut (wc := [(a0, .inr (2, [.ref a1, .int v1, .int v2])), (a1, .inl (cT 2, 4096, .inr (.inl f0)))]) hP hD hS hA [0, 1] rfl rfl (by decide)
  refine va_callv (va_runV (C := "ValueBench$Row") (As := [.long 0]) (rest := []) ⟨hx, hb, hml, hown, htx⟩ (gR_put l hl9 D cT aK aV s.heap.size n a0 a1 (0 : Int64) f0 v1 v2 o1 hq2) ⟨callB_of 1 htx (xw_goodC kw_2_126) rfl rfl rfl (htx _ kw_1_4) (htx _ kw_2_137) ⟨by decide, by decide, by decide +kernel⟩ ⟨Nat.le_of_ble_eq_true rfl, Nat.le_of_ble_eq_true rfl⟩, (htx _ kw_2_124), (htx _ kw_2_125)⟩ ⟨xPre_blind, va_recv hK hP (ci := 2) rfl (q0 := 0) rfl, (fun U hU hW => ⟨rfl, xPre_of hZ hS hFc hPc hDc hK U hU hW⟩)⟩ rfl rfl hl.1 rfl (lv_room (Nat.le_of_ble_eq_true rfl)) dR_putNull_2 ⟨Nat.le_of_ble_eq_true rfl, Nat.le_of_ble_eq_true rfl⟩) hS (fun q _ h => hFc q h) hFc (fun u9 t H1 locs ht hvm hr9 hB hz1 hk1 hS => ?_)
  obtain ⟨hP1, hK1, hD1⟩ := hB
  rw [ht] at hP1
  obtain ⟨hP, hD⟩ := xjoin (W := [(a0, .inr (2, [.ref a1, .int o1.2.1, .int o1.2.2])), (a1, .inl (cT 2, 4096, .inr (.inl o1.1)))]) hP hD [0, 1] [] 0 rfl rfl (by decide) (by decide) hk1 hFc hP1 hD1
  generalize H1 = H at hP hS ⊢
  obtain rfl := Option.some.inj hf
  obtain ⟨hP9, hD9⟩ := xsub (wc := [(a0, .inr (2, [.ref a1, .int o1.2.1, .int o1.2.2])), (a1, .inl (cT 2, 4096, .inr (.inl o1.1)))]) hP hD [0, 1] rfl rfl (by decide)
  exact W.vret hx hb hr (fun t ht hW => ⟨⟨(), rfl, trivial, by rw [ht]; exact hP9, va_K.moved hW.alike hK, hD9⟩, hS.F ht⟩) hS.2.2 dR_putNull_5
set_option maxHeartbeats 400000000 in
set_option maxRecDepth 100000 in
theorem gR_putNumber (l : Launch) (hl9 : l.stackTraces = false) (D : va_G) (cT : Nat → ClassId) (aK aV : Nat → Nat) (sz n : Nat) (a0 : Nat) (a1 : Nat) (x1 : Int64) (f0 : Nat → Int64) (v1 : Int32) (v2 : Int32) (out : (Nat → Int64) × Int32 × Int32) (hf : fR_putNumber n x1 f0 v1 v2 = some out) : xMet l yR_putNumber wyR_putNumber 1 0 0 22 D cT aK aV sz [.ref a0, .long x1] [(a0, .inr (2, [.ref a1, .int v1, .int v2])), (a1, .inl (cT 2, 4096, .inr (.inl f0)))] (fun A => va_Qv (fun _ : Unit => True) (fun _ t => xB D xcl cT A [(a0, .inr (2, [.ref a1, .int out.2.1, .int out.2.2])), (a1, .inl (cT 2, 4096, .inr (.inl out.1)))] t) A) := by
  refine Met.ofW (cc := prog_8_method_17_code) (maxL := 3) (ret := none) (by decide) rfl ?_
  intro p e s m args below meth c s₁ B hml hv
  obtain ⟨rfl, hsz, hZ, hP, hK, hD0⟩ := hv
  have hx := B.exec
  have hb := B.bytes
  have hr := B.returns
  have hts := atoms_spec (ws := wyR_putNumber) B.pre
  have htx := fun w h => hts w (List.mem_cons_of_mem _ h)
  have hown : s.vm.findClass "ValueBench$Row" = some m.cls := findClass_of_methodNamed B.named
  have hlocks := B.notSynchronized
  subst hsz
  have hD := hD0.self (sz := s.heap.size)
  generalize hAe : va_A [(a0, .inr (2, [.ref a1, .int v1, .int v2])), (a1, .inl (cT 2, 4096, .inr (.inl f0)))] s.heap.size = A at hD hZ ⊢
  have hA : ∀ q : Nat, s.heap.size ≤ q → A q := fun q h => by rw [← hAe]; exact Or.inr h
  have hS : va_S A s.heap s.heap [] := va_S.rf
  have hP : va_P D xcl [(a0, .inr (2, [.ref a1, .int v1, .int v2])), (a1, .inl (cT 2, 4096, .inr (.inl f0)))] s.heap := hP
  have hl := lv_entry ([.ref a0, .long x1]) (n := 3) (Nat.le_of_ble_eq_true rfl)
  rw [lg_entry_eq]
  generalize (lg_sl ([.ref a0, .long x1]) ++ List.replicate (3 - (lg_sl ([.ref a0, .long x1])).length) Slot.unset).toArray = ls at hl ⊢
  have hl : lv_has ls 3 [(0, .ref a0), (1, .long x1)] := hl
  unfold fR_putNumber at hf
  refine lv_aload_n hx hb dR_putNumber_0 rfl (lv_at hl 0 rfl) ?_
  refine lv_lload_n hx hb dR_putNumber_1 rfl (lv_at hl 1 rfl) ?_
  refine lv_iconst (v := 3) hx hb dR_putNumber_2 (by decide) ?_
  refine lv_lshl hx hb dR_putNumber_3 rfl ?_
  refine lv_ldc2 hx hb hown (htx _ kw_2_229) dR_putNumber_4 ?_
  refine lv_lor hx hb dR_putNumber_7 ?_
  obtain ⟨o1, hq2, hf⟩ := xbind hf
  obtain ⟨hPc, hDc, hFc⟩ := xcut (wc := [(a0, .inr (2, [.ref a1, .int v1, .int v2])), (a1, .inl (cT 2, 4096, .inr (.inl f0)))]) hP hD hS hA [0, 1] rfl rfl (by decide)
  refine va_callv (va_runV (C := "ValueBench$Row") (As := [.long ((x1 <<< ((3 : Int32).toInt64 &&& 63)) ||| (3 : Int64))]) (rest := []) ⟨hx, hb, hml, hown, htx⟩ (gR_put l hl9 D cT aK aV s.heap.size n a0 a1 ((x1 <<< ((3 : Int32).toInt64 &&& 63)) ||| (3 : Int64)) f0 v1 v2 o1 hq2) ⟨callB_of 1 htx (xw_goodC kw_2_126) rfl rfl rfl (htx _ kw_1_4) (htx _ kw_2_137) ⟨by decide, by decide, by decide +kernel⟩ ⟨Nat.le_of_ble_eq_true rfl, Nat.le_of_ble_eq_true rfl⟩, (htx _ kw_2_124), (htx _ kw_2_125)⟩ ⟨xPre_blind, va_recv hK hP (ci := 2) rfl (q0 := 0) rfl, (fun U hU hW => ⟨rfl, xPre_of hZ hS hFc hPc hDc hK U hU hW⟩)⟩ rfl rfl hl.1 rfl (lv_room (Nat.le_of_ble_eq_true rfl)) dR_putNumber_8 ⟨Nat.le_of_ble_eq_true rfl, Nat.le_of_ble_eq_true rfl⟩) hS (fun q _ h => hFc q h) hFc (fun u9 t H1 locs ht hvm hr9 hB hz1 hk1 hS => ?_)
  obtain ⟨hP1, hK1, hD1⟩ := hB
  rw [ht] at hP1
  obtain ⟨hP, hD⟩ := xjoin (W := [(a0, .inr (2, [.ref a1, .int o1.2.1, .int o1.2.2])), (a1, .inl (cT 2, 4096, .inr (.inl o1.1)))]) hP hD [0, 1] [] 0 rfl rfl (by decide) (by decide) hk1 hFc hP1 hD1
  generalize H1 = H at hP hS ⊢
  obtain rfl := Option.some.inj hf
  obtain ⟨hP9, hD9⟩ := xsub (wc := [(a0, .inr (2, [.ref a1, .int o1.2.1, .int o1.2.2])), (a1, .inl (cT 2, 4096, .inr (.inl o1.1)))]) hP hD [0, 1] rfl rfl (by decide)
  exact W.vret hx hb hr (fun t ht hW => ⟨⟨(), rfl, trivial, by rw [ht]; exact hP9, va_K.moved hW.alike hK, hD9⟩, hS.F ht⟩) hS.2.2 dR_putNumber_11
set_option maxHeartbeats 400000000 in
set_option maxRecDepth 100000 in
theorem gR_putPart (l : Launch) (hl9 : l.stackTraces = false) (D : va_G) (cT : Nat → ClassId) (aK aV : Nat → Nat) (sz n : Nat) (a0 : Nat) (a1 : Nat) (a2 : Nat) (a3 : Nat) (x2 : Int32) (x3 : Int32) (x4 : Int32) (f0 : Nat → Int64) (v1 : Int32) (v2 : Int32) (f3 : Nat → Int64) (v4 : Int32) (v5 : Int32) (out : (Nat → Int64) × Int32 × Int32) (hf : fR_putPart n x2 x3 x4 f0 v1 v2 f3 v4 v5 = some out) : xMet l yR_putPart wyR_putPart 2 0 0 83 D cT aK aV sz [.ref a0, .ref a2, .int x2, .int x3, .int x4] [(a0, .inr (2, [.ref a1, .int v1, .int v2])), (a1, .inl (cT 2, 4096, .inr (.inl f0))), (a2, .inr (2, [.ref a3, .int v4, .int v5])), (a3, .inl (cT 2, 4096, .inr (.inl f3)))] (fun A => va_Qv (fun _ : Unit => True) (fun _ t => xB D xcl cT A [(a0, .inr (2, [.ref a1, .int out.2.1, .int out.2.2])), (a1, .inl (cT 2, 4096, .inr (.inl out.1))), (a2, .inr (2, [.ref a3, .int v4, .int v5])), (a3, .inl (cT 2, 4096, .inr (.inl f3)))] t) A) := by
  refine Met.ofW (cc := prog_8_method_21_code) (maxL := 6) (ret := none) (by decide) rfl ?_
  intro p e s m args below meth c s₁ B hml hv
  obtain ⟨rfl, hsz, hZ, hP, hK, hD0⟩ := hv
  have hx := B.exec
  have hb := B.bytes
  have hr := B.returns
  have hts := atoms_spec (ws := wyR_putPart) B.pre
  have htx := fun w h => hts w (List.mem_cons_of_mem _ h)
  have hown : s.vm.findClass "ValueBench$Row" = some m.cls := findClass_of_methodNamed B.named
  have hlocks := B.notSynchronized
  subst hsz
  have hD := hD0.self (sz := s.heap.size)
  generalize hAe : va_A [(a0, .inr (2, [.ref a1, .int v1, .int v2])), (a1, .inl (cT 2, 4096, .inr (.inl f0))), (a2, .inr (2, [.ref a3, .int v4, .int v5])), (a3, .inl (cT 2, 4096, .inr (.inl f3)))] s.heap.size = A at hD hZ ⊢
  have hA : ∀ q : Nat, s.heap.size ≤ q → A q := fun q h => by rw [← hAe]; exact Or.inr h
  have hS : va_S A s.heap s.heap [] := va_S.rf
  have hP : va_P D xcl [(a0, .inr (2, [.ref a1, .int v1, .int v2])), (a1, .inl (cT 2, 4096, .inr (.inl f0))), (a2, .inr (2, [.ref a3, .int v4, .int v5])), (a3, .inl (cT 2, 4096, .inr (.inl f3)))] s.heap := hP
  have hl := lv_entry ([.ref a0, .ref a2, .int x2, .int x3, .int x4]) (n := 6) (Nat.le_of_ble_eq_true rfl)
  rw [lg_entry_eq]
  generalize (lg_sl ([.ref a0, .ref a2, .int x2, .int x3, .int x4]) ++ List.replicate (6 - (lg_sl ([.ref a0, .ref a2, .int x2, .int x3, .int x4])).length) Slot.unset).toArray = ls at hl ⊢
  have hl : lv_has ls 6 [(0, .ref a0), (1, .ref a2), (2, .int x2), (3, .int x3), (4, .int x4)] := hl
  unfold fR_putPart at hf
  refine lv_aload_n hx hb dR_putPart_0 rfl (lv_at hl 0 rfl) ?_
  obtain ⟨o1, hq2, hf⟩ := xbind hf
  obtain ⟨hPc, hDc, hFc⟩ := xcut (wc := [(a0, .inr (2, [.ref a1, .int v1, .int v2])), (a1, .inl (cT 2, 4096, .inr (.inl f0)))]) hP hD hS hA [0, 1] rfl rfl (by decide)
  refine va_calli (va_runV (C := "ValueBench$Row") (As := []) (rest := []) ⟨hx, hb, hml, hown, htx⟩ (gR_open l hl9 D cT aK aV s.heap.size n a0 a1 f0 v1 v2 o1 hq2) ⟨callB_of 0 htx (xw_goodC kw_2_136) rfl rfl rfl (htx _ kw_1_4) (htx _ kw_3_209) ⟨by decide, by decide, by decide +kernel⟩ ⟨Nat.le_of_ble_eq_true rfl, Nat.le_of_ble_eq_true rfl⟩, (htx _ kw_2_134), (htx _ kw_2_135)⟩ ⟨xPre_blind, va_recv hK hP (ci := 2) rfl (q0 := 0) rfl, (fun U hU hW => ⟨rfl, xPre_of hZ hS hFc hPc hDc hK U hU hW⟩)⟩ rfl rfl hl.1 rfl (lv_room (Nat.le_of_ble_eq_true rfl)) dR_putPart_1 ⟨Nat.le_of_ble_eq_true rfl, Nat.le_of_ble_eq_true rfl⟩) hS (fun q _ h => hFc q h) hFc (fun r3 u9 t H1 locs ht hvm hr9 hB hz1 hk1 hS => ?_)
  obtain ⟨hP1, hK1, hD1⟩ := hB
  rw [ht] at hP1
  obtain ⟨hP, hD⟩ := xjoin (W := [(a2, .inr (2, [.ref a3, .int v4, .int v5])), (a3, .inl (cT 2, 4096, .inr (.inl f3))), (a0, .inr (2, [.ref a1, .int o1.2.2.1, .int o1.2.2.2])), (a1, .inl (cT 2, 4096, .inr (.inl o1.2.1)))]) hP hD [0, 1] [2, 3] 2 rfl rfl (by decide) (by decide) hk1 hFc hP1 hD1
  generalize H1 = H at hP hS ⊢
  rw [hr9]
  refine W.eq (g2 := F0 m 4 ls [.int o1.1]) rfl ?_
  refine lv_istore (lv' := [(5, .int o1.1), (0, .ref a0), (1, .ref a2), (2, .int x2), (3, .int x3), (4, .int x4)]) hx hb dR_putPart_4 hl (by decide) rfl (fun ls hl => ?_)
  refine lv_aload_n hx hb dR_putPart_6 rfl (lv_at hl 1 rfl) ?_
  refine lv_aload_n hx hb dR_putPart_7 rfl (lv_at hl 2 rfl) ?_
  refine lv_iload_n hx hb dR_putPart_8 rfl (lv_at hl 3 rfl) ?_
  refine lv_iconst (v := 1) hx hb dR_putPart_9 (by decide) ?_
  refine lv_iadd hx hb dR_putPart_10 ?_
  refine lv_iload_n hx hb dR_putPart_11 rfl (lv_at hl 4 rfl) ?_
  refine lv_iadd hx hb dR_putPart_12 ?_
  refine lv_iload hx hb dR_putPart_13 (lv_at hl 5 rfl) ?_
  refine lv_iload_n hx hb dR_putPart_15 rfl (lv_at hl 4 rfl) ?_
  refine lv_isub hx hb dR_putPart_16 ?_
  obtain ⟨o4, hq5, hf⟩ := xbind hf
  obtain ⟨hPc, hDc, hFc⟩ := xcut (wc := [(a0, .inr (2, [.ref a1, .int o1.2.2.1, .int o1.2.2.2])), (a1, .inl (cT 2, 4096, .inr (.inl o1.2.1))), (a2, .inr (2, [.ref a3, .int v4, .int v5])), (a3, .inl (cT 2, 4096, .inr (.inl f3)))]) hP hD hS hA [2, 3, 0, 1] rfl rfl (by decide)
  refine va_callv (va_runV (C := "ValueBench$Row") (As := [.ref a2, .int ((x2 + (1 : Int32)) + x3), .int (x4 - x3)]) (rest := []) ⟨hx, hb, hml, hown, htx⟩ (gR_putCells l hl9 D cT aK aV H.size n a0 a1 a2 a3 ((x2 + (1 : Int32)) + x3) (x4 - x3) o1.2.1 o1.2.2.1 o1.2.2.2 f3 v4 v5 o4 hq5) ⟨callB_of 3 htx (xw_goodC kw_3_130) rfl rfl rfl (htx _ kw_1_4) (htx _ kw_3_127) ⟨by decide, by decide, by decide +kernel⟩ ⟨Nat.le_of_ble_eq_true rfl, Nat.le_of_ble_eq_true rfl⟩, (htx _ kw_3_129), (htx _ kp_R_putCells)⟩ ⟨xPre_blind, va_recv hK hP (ci := 2) rfl (q0 := 2) rfl, (fun U hU hW => ⟨rfl, xPre_of hZ hS hFc hPc hDc hK U hU hW⟩)⟩ rfl rfl hl.1 rfl (lv_room (Nat.le_of_ble_eq_true rfl)) dR_putPart_17 ⟨Nat.le_of_ble_eq_true rfl, Nat.le_of_ble_eq_true rfl⟩) hS (fun q _ h => hFc q h) hFc (fun u9 t H1 locs ht hvm hr9 hB hz1 hk1 hS => ?_)
  obtain ⟨hP1, hK1, hD1⟩ := hB
  rw [ht] at hP1
  obtain ⟨hP, hD⟩ := xjoin (W := [(a0, .inr (2, [.ref a1, .int o4.2.1, .int o4.2.2])), (a1, .inl (cT 2, 4096, .inr (.inl o4.1))), (a2, .inr (2, [.ref a3, .int v4, .int v5])), (a3, .inl (cT 2, 4096, .inr (.inl f3)))]) hP hD [2, 3, 0, 1] [] 0 rfl rfl (by decide) (by decide) hk1 hFc hP1 hD1
  generalize H1 = H at hP hS ⊢
  refine lv_aload_n hx hb dR_putPart_20 rfl (lv_at hl 1 rfl) ?_
  refine lv_iload hx hb dR_putPart_21 (lv_at hl 0 rfl) ?_
  refine lv_iconst (v := 4) hx hb dR_putPart_23 (by decide) ?_
  refine lv_iload hx hb dR_putPart_24 (lv_at hl 5 rfl) ?_
  refine lv_iload_n hx hb dR_putPart_26 rfl (lv_at hl 4 rfl) ?_
  refine lv_isub hx hb dR_putPart_27 ?_
  obtain ⟨o6, hq7, hf⟩ := xbind hf
  obtain ⟨hPc, hDc, hFc⟩ := xcut (wc := [(a0, .inr (2, [.ref a1, .int o4.2.1, .int o4.2.2])), (a1, .inl (cT 2, 4096, .inr (.inl o4.1)))]) hP hD hS hA [0, 1] rfl rfl (by decide)
  refine va_callv (va_runV (C := "ValueBench$Row") (As := [.int o1.1, .int 4, .int (x4 - x3)]) (rest := []) ⟨hx, hb, hml, hown, htx⟩ (gR_close l hl9 D cT aK aV H.size n a0 a1 o1.1 (4 : Int32) (x4 - x3) o4.1 o4.2.1 o4.2.2 o6 hq7) ⟨callB_of 3 htx (xw_goodC kw_2_167) rfl rfl rfl (htx _ kw_1_4) (htx _ kw_3_210) ⟨by decide, by decide, by decide +kernel⟩ ⟨Nat.le_of_ble_eq_true rfl, Nat.le_of_ble_eq_true rfl⟩, (htx _ kw_2_165), (htx _ kw_2_166)⟩ ⟨xPre_blind, va_recv hK hP (ci := 2) rfl (q0 := 0) rfl, (fun U hU hW => ⟨rfl, xPre_of hZ hS hFc hPc hDc hK U hU hW⟩)⟩ rfl rfl hl.1 rfl (lv_room (Nat.le_of_ble_eq_true rfl)) dR_putPart_28 ⟨Nat.le_of_ble_eq_true rfl, Nat.le_of_ble_eq_true rfl⟩) hS (fun q _ h => hFc q h) hFc (fun u9 t H1 locs ht hvm hr9 hB hz1 hk1 hS => ?_)
  obtain ⟨hP1, hK1, hD1⟩ := hB
  rw [ht] at hP1
  obtain ⟨hP, hD⟩ := xjoin (W := [(a2, .inr (2, [.ref a3, .int v4, .int v5])), (a3, .inl (cT 2, 4096, .inr (.inl f3))), (a0, .inr (2, [.ref a1, .int o4.2.1, .int o4.2.2])), (a1, .inl (cT 2, 4096, .inr (.inl o6)))]) hP hD [0, 1] [2, 3] 2 rfl rfl (by decide) (by decide) hk1 hFc hP1 hD1
  generalize H1 = H at hP hS ⊢
  obtain rfl := Option.some.inj hf
  obtain ⟨hP9, hD9⟩ := xsub (wc := [(a0, .inr (2, [.ref a1, .int o4.2.1, .int o4.2.2])), (a1, .inl (cT 2, 4096, .inr (.inl o6))), (a2, .inr (2, [.ref a3, .int v4, .int v5])), (a3, .inl (cT 2, 4096, .inr (.inl f3)))]) hP hD [2, 3, 0, 1] rfl rfl (by decide)
  exact W.vret hx hb hr (fun t ht hW => ⟨⟨(), rfl, trivial, by rw [ht]; exact hP9, va_K.moved hW.alike hK, hD9⟩, hS.F ht⟩) hS.2.2 dR_putPart_31
set_option maxHeartbeats 400000000 in
set_option maxRecDepth 100000 in
theorem gT_size (l : Launch) (hl9 : l.stackTraces = false) (D : va_G) (cT : Nat → ClassId) (aK aV : Nat → Nat) (sz n : Nat) (a0 : Nat) (a1 : Nat) (f0 : Nat → Int32) (v1 : Int32) (v2 : Int32) (out : Int32) (hf : fT_size n f0 v1 v2 = some out) : xMet l yT_size wyT_size 0 0 0 0 D cT aK aV sz [.ref a0] [(a0, .inr (1, [.ref a1, .int v1, .int v2])), (a1, .inl (cT 0, 4096, .inl f0))] (fun A => va_Qi (fun (r : Int32) (_ : Unit) => r = out) (fun _ t => xB D xcl cT A [(a0, .inr (1, [.ref a1, .int v1, .int v2])), (a1, .inl (cT 0, 4096, .inl f0))] t) A) := by
  refine Met.ofW (cc := prog_11_method_4_code) (maxL := 1) (ret := (some .int)) (by decide) rfl ?_
  intro p e s m args below meth c s₁ B hml hv
  obtain ⟨rfl, hsz, hZ, hP, hK, hD0⟩ := hv
  have hx := B.exec
  have hb := B.bytes
  have hr := B.returns
  have hts := atoms_spec (ws := wyT_size) B.pre
  have htx := fun w h => hts w (List.mem_cons_of_mem _ h)
  have hown : s.vm.findClass "ValueBench$Text" = some m.cls := findClass_of_methodNamed B.named
  have hlocks := B.notSynchronized
  subst hsz
  have hD := hD0.self (sz := s.heap.size)
  generalize hAe : va_A [(a0, .inr (1, [.ref a1, .int v1, .int v2])), (a1, .inl (cT 0, 4096, .inl f0))] s.heap.size = A at hD hZ ⊢
  have hA : ∀ q : Nat, s.heap.size ≤ q → A q := fun q h => by rw [← hAe]; exact Or.inr h
  have hS : va_S A s.heap s.heap [] := va_S.rf
  have hP : va_P D xcl [(a0, .inr (1, [.ref a1, .int v1, .int v2])), (a1, .inl (cT 0, 4096, .inl f0))] s.heap := hP
  have hl := lv_entry ([.ref a0]) (n := 1) (Nat.le_of_ble_eq_true rfl)
  rw [lg_entry_eq]
  generalize (lg_sl ([.ref a0]) ++ List.replicate (1 - (lg_sl ([.ref a0])).length) Slot.unset).toArray = ls at hl ⊢
  have hl : lv_has ls 1 [(0, .ref a0)] := hl
  unfold fT_size at hf
  refine lv_aload_n hx hb dT_size_0 rfl (lv_at hl 0 rfl) ?_
  refine va_get (D := D) (ci := 1) (v := .int v1) (C := "ValueBench$Text") (T := TT) (N := 3) hx hb htx inT hown hK hP 0 rfl rfl 1 (by decide) (htx _ kw_1_44) (fun _ h9 => h9) rfl dT_size_1 ?_
  obtain rfl := Option.some.inj hf
  obtain ⟨hP9, hD9⟩ := xsub (wc := [(a0, .inr (1, [.ref a1, .int v1, .int v2])), (a1, .inl (cT 0, 4096, .inl f0))]) hP hD [0, 1] rfl rfl (by decide)
  exact W.iret (v := v1) hx hb hr (fun t ht hW => ⟨⟨v1, (), rfl, rfl, by rw [ht]; exact hP9, va_K.moved hW.alike hK, hD9⟩, hS.F ht⟩) hS.2.2 dT_size_4
set_option maxHeartbeats 400000000 in
set_option maxRecDepth 100000 in
theorem gT_isOver (l : Launch) (hl9 : l.stackTraces = false) (D : va_G) (cT : Nat → ClassId) (aK aV : Nat → Nat) (sz n : Nat) (a0 : Nat) (a1 : Nat) (f0 : Nat → Int32) (v1 : Int32) (v2 : Int32) (out : Int32) (hf : fT_isOver n f0 v1 v2 = some out) : xMet l yT_isOver wyT_isOver 0 0 0 0 D cT aK aV sz [.ref a0] [(a0, .inr (1, [.ref a1, .int v1, .int v2])), (a1, .inl (cT 0, 4096, .inl f0))] (fun A => va_Qi (fun (r : Int32) (_ : Unit) => r = out) (fun _ t => xB D xcl cT A [(a0, .inr (1, [.ref a1, .int v1, .int v2])), (a1, .inl (cT 0, 4096, .inl f0))] t) A) := by
  refine Met.ofW (cc := prog_11_method_5_code) (maxL := 1) (ret := (some .boolean)) (by decide) rfl ?_
  intro p e s m args below meth c s₁ B hml hv
  obtain ⟨rfl, hsz, hZ, hP, hK, hD0⟩ := hv
  have hx := B.exec
  have hb := B.bytes
  have hr := B.returns
  have hts := atoms_spec (ws := wyT_isOver) B.pre
  have htx := fun w h => hts w (List.mem_cons_of_mem _ h)
  have hown : s.vm.findClass "ValueBench$Text" = some m.cls := findClass_of_methodNamed B.named
  have hlocks := B.notSynchronized
  subst hsz
  have hD := hD0.self (sz := s.heap.size)
  generalize hAe : va_A [(a0, .inr (1, [.ref a1, .int v1, .int v2])), (a1, .inl (cT 0, 4096, .inl f0))] s.heap.size = A at hD hZ ⊢
  have hA : ∀ q : Nat, s.heap.size ≤ q → A q := fun q h => by rw [← hAe]; exact Or.inr h
  have hS : va_S A s.heap s.heap [] := va_S.rf
  have hP : va_P D xcl [(a0, .inr (1, [.ref a1, .int v1, .int v2])), (a1, .inl (cT 0, 4096, .inl f0))] s.heap := hP
  have hl := lv_entry ([.ref a0]) (n := 1) (Nat.le_of_ble_eq_true rfl)
  rw [lg_entry_eq]
  generalize (lg_sl ([.ref a0]) ++ List.replicate (1 - (lg_sl ([.ref a0])).length) Slot.unset).toArray = ls at hl ⊢
  have hl : lv_has ls 1 [(0, .ref a0)] := hl
  unfold fT_isOver at hf
  refine lv_aload_n hx hb dT_isOver_0 rfl (lv_at hl 0 rfl) ?_
  refine va_get (D := D) (ci := 1) (v := .int v2) (C := "ValueBench$Text") (T := TT) (N := 3) hx hb htx inT hown hK hP 0 rfl rfl 2 (by decide) (htx _ kw_1_45) (fun _ h9 => h9) rfl dT_isOver_1 ?_
  obtain ⟨hg1, hf⟩ := xifn hf
  obtain rfl := Option.some.inj hf
  obtain ⟨hP9, hD9⟩ := xsub (wc := [(a0, .inr (1, [.ref a1, .int v1, .int v2])), (a1, .inl (cT 0, 4096, .inl f0))]) hP hD [0, 1] rfl rfl (by decide)
  exact W.zret (v := v2) hx hb hr (xzb hg1) (fun t ht hW => ⟨⟨v2, (), rfl, rfl, by rw [ht]; exact hP9, va_K.moved hW.alike hK, hD9⟩, hS.F ht⟩) hS.2.2 dT_isOver_4
set_option maxHeartbeats 400000000 in
set_option maxRecDepth 100000 in
theorem gT_at (l : Launch) (hl9 : l.stackTraces = false) (D : va_G) (cT : Nat → ClassId) (aK aV : Nat → Nat) (sz n : Nat) (a0 : Nat) (a1 : Nat) (x1 : Int32) (f0 : Nat → Int32) (v1 : Int32) (v2 : Int32) (out : Int32) (hf : fT_at n x1 f0 v1 v2 = some out) : xMet l yT_at wyT_at 0 0 0 0 D cT aK aV sz [.ref a0, .int x1] [(a0, .inr (1, [.ref a1, .int v1, .int v2])), (a1, .inl (cT 0, 4096, .inl f0))] (fun A => va_Qi (fun (r : Int32) (_ : Unit) => r = out) (fun _ t => xB D xcl cT A [(a0, .inr (1, [.ref a1, .int v1, .int v2])), (a1, .inl (cT 0, 4096, .inl f0))] t) A) := by
  refine Met.ofW (cc := prog_11_method_7_code) (maxL := 2) (ret := (some .int)) (by decide) rfl ?_
  intro p e s m args below meth c s₁ B hml hv
  obtain ⟨rfl, hsz, hZ, hP, hK, hD0⟩ := hv
  have hx := B.exec
  have hb := B.bytes
  have hr := B.returns
  have hts := atoms_spec (ws := wyT_at) B.pre
  have htx := fun w h => hts w (List.mem_cons_of_mem _ h)
  have hown : s.vm.findClass "ValueBench$Text" = some m.cls := findClass_of_methodNamed B.named
  have hlocks := B.notSynchronized
  subst hsz
  have hD := hD0.self (sz := s.heap.size)
  generalize hAe : va_A [(a0, .inr (1, [.ref a1, .int v1, .int v2])), (a1, .inl (cT 0, 4096, .inl f0))] s.heap.size = A at hD hZ ⊢
  have hA : ∀ q : Nat, s.heap.size ≤ q → A q := fun q h => by rw [← hAe]; exact Or.inr h
  have hS : va_S A s.heap s.heap [] := va_S.rf
  have hP : va_P D xcl [(a0, .inr (1, [.ref a1, .int v1, .int v2])), (a1, .inl (cT 0, 4096, .inl f0))] s.heap := hP
  have hl := lv_entry ([.ref a0, .int x1]) (n := 2) (Nat.le_of_ble_eq_true rfl)
  rw [lg_entry_eq]
  generalize (lg_sl ([.ref a0, .int x1]) ++ List.replicate (2 - (lg_sl ([.ref a0, .int x1])).length) Slot.unset).toArray = ls at hl ⊢
  have hl : lv_has ls 2 [(0, .ref a0), (1, .int x1)] := hl
  unfold fT_at at hf
  refine lv_iload_n hx hb dT_at_0 rfl (lv_at hl 1 rfl) ?_
  refine lv_if_lt (tgt := 25) hx hb dT_at_1 (by decide) (fun hc => ?_) (fun hc => ?_)
  · rw [if_pos hc] at hf
    refine lv_iconst (v := (-1)) hx hb dT_at_25 (by decide) ?_
    obtain rfl := Option.some.inj hf
    obtain ⟨hP9, hD9⟩ := xsub (wc := [(a0, .inr (1, [.ref a1, .int v1, .int v2])), (a1, .inl (cT 0, 4096, .inl f0))]) hP hD [0, 1] rfl rfl (by decide)
    exact W.iret (v := ((-1) : Int32)) hx hb hr (fun t ht hW => ⟨⟨((-1) : Int32), (), rfl, rfl, by rw [ht]; exact hP9, va_K.moved hW.alike hK, hD9⟩, hS.F ht⟩) hS.2.2 dT_at_26
  · rw [if_neg hc] at hf
    refine lv_iload_n hx hb dT_at_4 rfl (lv_at hl 1 rfl) ?_
    refine lv_aload_n hx hb dT_at_5 rfl (lv_at hl 0 rfl) ?_
    refine va_get (D := D) (ci := 1) (v := .int v1) (C := "ValueBench$Text") (T := TT) (N := 3) hx hb htx inT hown hK hP 0 rfl rfl 1 (by decide) (htx _ kw_1_44) (fun _ h9 => h9) rfl dT_at_6 ?_
    refine lv_icmp_ge (tgt := 25) hx hb dT_at_9 (by decide) (fun hc => ?_) (fun hc => ?_)
    · rw [if_pos hc] at hf
      refine lv_iconst (v := (-1)) hx hb dT_at_25 (by decide) ?_
      obtain rfl := Option.some.inj hf
      obtain ⟨hP9, hD9⟩ := xsub (wc := [(a0, .inr (1, [.ref a1, .int v1, .int v2])), (a1, .inl (cT 0, 4096, .inl f0))]) hP hD [0, 1] rfl rfl (by decide)
      exact W.iret (v := ((-1) : Int32)) hx hb hr (fun t ht hW => ⟨⟨((-1) : Int32), (), rfl, rfl, by rw [ht]; exact hP9, va_K.moved hW.alike hK, hD9⟩, hS.F ht⟩) hS.2.2 dT_at_26
    · rw [if_neg hc] at hf
      refine lv_aload_n hx hb dT_at_12 rfl (lv_at hl 0 rfl) ?_
      refine va_get (D := D) (ci := 1) (v := .ref a1) (C := "ValueBench$Text") (T := TT) (N := 3) hx hb htx inT hown hK hP 0 rfl rfl 0 (by decide) (htx _ kw_1_43) (fun _ h9 => h9) rfl dT_at_13 ?_
      refine lv_iload_n hx hb dT_at_16 rfl (lv_at hl 1 rfl) ?_
      obtain ⟨hg1, hf⟩ := xifn hf
      refine va_bald hx hb hK hP 1 0 rfl rfl hg1 dT_at_17 ?_
      refine W.eq (g2 := F0 m 18 ls [.int (f0 x1.toNatClampNeg)]) rfl ?_
      refine lv_sipush (v := 255) hx hb dT_at_18 (by decide) ?_
      refine lv_iand hx hb dT_at_21 ?_
      refine lv_goto (tgt := 26) hx hb dT_at_22 (by decide) ?_
      obtain rfl := Option.some.inj hf
      obtain ⟨hP9, hD9⟩ := xsub (wc := [(a0, .inr (1, [.ref a1, .int v1, .int v2])), (a1, .inl (cT 0, 4096, .inl f0))]) hP hD [0, 1] rfl rfl (by decide)
      exact W.iret (v := ((f0 x1.toNatClampNeg) &&& (255 : Int32))) hx hb hr (fun t ht hW => ⟨⟨((f0 x1.toNatClampNeg) &&& (255 : Int32)), (), rfl, rfl, by rw [ht]; exact hP9, va_K.moved hW.alike hK, hD9⟩, hS.F ht⟩) hS.2.2 dT_at_26
set_option maxHeartbeats 400000000 in
set_option maxRecDepth 100000 in
theorem gR_putText (l : Launch) (hl9 : l.stackTraces = false) (D : va_G) (cT : Nat → ClassId) (aK aV : Nat → Nat) (sz n : Nat) (a0 : Nat) (a1 : Nat) (a2 : Nat) (a3 : Nat) (f0 : Nat → Int64) (v1 : Int32) (v2 : Int32) (f3 : Nat → Int32) (v4 : Int32) (v5 : Int32) (out : (Nat → Int64) × Int32 × Int32) (hf : fR_putText n f0 v1 v2 f3 v4 v5 = some out) : xMet l yR_putText wyR_putText 2 0 0 42 D cT aK aV sz [.ref a0, .ref a2] [(a0, .inr (2, [.ref a1, .int v1, .int v2])), (a1, .inl (cT 2, 4096, .inr (.inl f0))), (a2, .inr (1, [.ref a3, .int v4, .int v5])), (a3, .inl (cT 0, 4096, .inl f3))] (fun A => va_Qv (fun _ : Unit => True) (fun _ t => xB D xcl cT A [(a0, .inr (2, [.ref a1, .int out.2.1, .int out.2.2])), (a1, .inl (cT 2, 4096, .inr (.inl out.1))), (a2, .inr (1, [.ref a3, .int v4, .int v5])), (a3, .inl (cT 0, 4096, .inl f3))] t) A) := by
  refine Met.ofW (cc := prog_8_method_20_code) (maxL := 4) (ret := none) (by decide) rfl ?_
  intro p e s m args below meth c s₁ B hml hv
  obtain ⟨rfl, hsz, hZ, hP, hK, hD0⟩ := hv
  have hx := B.exec
  have hb := B.bytes
  have hr := B.returns
  have hts := atoms_spec (ws := wyR_putText) B.pre
  have htx := fun w h => hts w (List.mem_cons_of_mem _ h)
  have hown : s.vm.findClass "ValueBench$Row" = some m.cls := findClass_of_methodNamed B.named
  have hlocks := B.notSynchronized
  subst hsz
  have hD := hD0.self (sz := s.heap.size)
  generalize hAe : va_A [(a0, .inr (2, [.ref a1, .int v1, .int v2])), (a1, .inl (cT 2, 4096, .inr (.inl f0))), (a2, .inr (1, [.ref a3, .int v4, .int v5])), (a3, .inl (cT 0, 4096, .inl f3))] s.heap.size = A at hD hZ ⊢
  have hA : ∀ q : Nat, s.heap.size ≤ q → A q := fun q h => by rw [← hAe]; exact Or.inr h
  have hS : va_S A s.heap s.heap [] := va_S.rf
  have hP : va_P D xcl [(a0, .inr (2, [.ref a1, .int v1, .int v2])), (a1, .inl (cT 2, 4096, .inr (.inl f0))), (a2, .inr (1, [.ref a3, .int v4, .int v5])), (a3, .inl (cT 0, 4096, .inl f3))] s.heap := hP
  have hl := lv_entry ([.ref a0, .ref a2]) (n := 4) (Nat.le_of_ble_eq_true rfl)
  rw [lg_entry_eq]
  generalize (lg_sl ([.ref a0, .ref a2]) ++ List.replicate (4 - (lg_sl ([.ref a0, .ref a2])).length) Slot.unset).toArray = ls at hl ⊢
  have hl : lv_has ls 4 [(0, .ref a0), (1, .ref a2)] := hl
  unfold fR_putText at hf
  refine xloopK (σ := Nat × Int32 × Int32 × (Nat → Int64) × Int32 × Int32) (fun n x H locs ls => (x.1 = 1 ∧ fR_putText_b f3 v4 v5 n x.1 x.2.1 x.2.2.1 x.2.2.2.1 x.2.2.2.2.1 x.2.2.2.2.2 = some out ∧ va_P D xcl [(a0, .inr (2, [.ref a1, .int x.2.2.2.2.1, .int x.2.2.2.2.2])), (a1, .inl (cT 2, 4096, .inr (.inl x.2.2.2.1))), (a2, .inr (1, [.ref a3, .int v4, .int v5])), (a3, .inl (cT 0, 4096, .inl f3))] H ∧ va_D A [(a0, .inr (2, [.ref a1, .int x.2.2.2.2.1, .int x.2.2.2.2.2])), (a1, .inl (cT 2, 4096, .inr (.inl x.2.2.2.1))), (a2, .inr (1, [.ref a3, .int v4, .int v5])), (a3, .inl (cT 0, 4096, .inl f3))] ∧ va_S A s.heap H locs ∧ lv_has ls 4 [(3, .int x.2.1), (2, .int x.2.2.1), (0, .ref a0), (1, .ref a2)])) (fun x => 7) (fun x H locs ls h => by exact absurd h.2.1 (by rw [fR_putText_b]; exact fun h => nomatch h)) (fun n ih x H locs ls hv => ?_) (fun key => ?_)
  · obtain ⟨lb, y3, y2, w0, w1, w2⟩ := x
    rcases hv with ⟨hj, hf, hP, hD, hS, hl⟩
    subst hj
    have hf : fR_putText_b f3 v4 v5 (n + 1) 1 y3 y2 w0 w1 w2 = some out := hf
    rw [fR_putText_b] at hf
    obtain ⟨hP, hD⟩ : xPD D xcl A [(a0, .inr (2, [.ref a1, .int w1, .int w2])), (a1, .inl (cT 2, 4096, .inr (.inl w0))), (a2, .inr (1, [.ref a3, .int v4, .int v5])), (a3, .inl (cT 0, 4096, .inl f3))] H := ⟨hP, hD⟩
    have hl : lv_has ls 4 [(3, .int y3), (2, .int y2), (0, .ref a0), (1, .ref a2)] := hl
    refine W.eq (g2 := F0 m 7 ls []) rfl ?_
    refine lv_iload_n hx hb dR_putText_7 rfl (lv_at hl 0 rfl) ?_
    refine lv_aload_n hx hb dR_putText_8 rfl (lv_at hl 3 rfl) ?_
    obtain ⟨o1, hq2, hf⟩ := xbind hf
    obtain ⟨hPc, hDc, hFc⟩ := xcut (wc := [(a2, .inr (1, [.ref a3, .int v4, .int v5])), (a3, .inl (cT 0, 4096, .inl f3))]) hP hD hS hA [2, 3] rfl rfl (by decide)
    refine va_calli (va_runV (C := "ValueBench$Text") (As := []) (rest := [.int y3]) ⟨hx, hb, hml, hown, htx⟩ (gT_size l hl9 D cT aK aV H.size n a2 a3 f3 v4 v5 o1 hq2) ⟨callB_of 0 htx (xw_goodC kw_1_131) rfl rfl rfl (htx _ kw_1_2) (htx _ kw_4_87) ⟨by decide, by decide, by decide +kernel⟩ ⟨Nat.le_of_ble_eq_true rfl, Nat.le_of_ble_eq_true rfl⟩, (htx _ kw_1_129), (htx _ kw_1_130)⟩ ⟨xPre_blind, va_recv hK hP (ci := 1) rfl (q0 := 2) rfl, (fun U hU hW => ⟨rfl, xPre_of hZ hS hFc hPc hDc hK U hU hW⟩)⟩ rfl rfl hl.1 rfl (lv_room (Nat.le_of_ble_eq_true rfl)) dR_putText_9 ⟨Nat.le_of_ble_eq_true rfl, Nat.le_of_ble_eq_true rfl⟩) hS (fun q _ h => hFc q h) hFc (fun r3 u9 t H1 locs ht hvm hr9 hB hz1 hk1 hS => ?_)
    obtain ⟨hP1, hK1, hD1⟩ := hB
    rw [ht] at hP1
    obtain ⟨hP, hD⟩ := xjoin (W := [(a0, .inr (2, [.ref a1, .int w1, .int w2])), (a1, .inl (cT 2, 4096, .inr (.inl w0))), (a2, .inr (1, [.ref a3, .int v4, .int v5])), (a3, .inl (cT 0, 4096, .inl f3))]) hP hD [2, 3] [0, 1] 2 rfl rfl (by decide) (by decide) hk1 hFc hP1 hD1
    generalize H1 = H at hP hS ⊢
    rw [hr9]
    refine W.eq (g2 := F0 m 12 ls [.int o1, .int y3]) rfl ?_
    refine lv_icmp_ge (tgt := 31) hx hb dR_putText_12 (by decide) (fun hc => ?_) (fun hc => ?_)
    · rw [if_pos hc] at hf
      refine lv_aload_n hx hb dR_putText_31 rfl (lv_at hl 2 rfl) ?_
      refine lv_iload_n hx hb dR_putText_32 rfl (lv_at hl 1 rfl) ?_
      refine lv_iconst (v := 4) hx hb dR_putText_33 (by decide) ?_
      refine lv_aload_n hx hb dR_putText_34 rfl (lv_at hl 3 rfl) ?_
      obtain ⟨o4, hq5, hf⟩ := xbind hf
      obtain ⟨hPc, hDc, hFc⟩ := xcut (wc := [(a2, .inr (1, [.ref a3, .int v4, .int v5])), (a3, .inl (cT 0, 4096, .inl f3))]) hP hD hS hA [2, 3] rfl rfl (by decide)
      refine va_calli (va_runV (C := "ValueBench$Text") (As := []) (rest := [.int 4, .int y2, .ref a0]) ⟨hx, hb, hml, hown, htx⟩ (gT_size l hl9 D cT aK aV H.size n a2 a3 f3 v4 v5 o4 hq5) ⟨callB_of 0 htx (xw_goodC kw_1_131) rfl rfl rfl (htx _ kw_1_2) (htx _ kw_4_87) ⟨by decide, by decide, by decide +kernel⟩ ⟨Nat.le_of_ble_eq_true rfl, Nat.le_of_ble_eq_true rfl⟩, (htx _ kw_1_129), (htx _ kw_1_130)⟩ ⟨xPre_blind, va_recv hK hP (ci := 1) rfl (q0 := 2) rfl, (fun U hU hW => ⟨rfl, xPre_of hZ hS hFc hPc hDc hK U hU hW⟩)⟩ rfl rfl hl.1 rfl (lv_room (Nat.le_of_ble_eq_true rfl)) dR_putText_35 ⟨Nat.le_of_ble_eq_true rfl, Nat.le_of_ble_eq_true rfl⟩) hS (fun q _ h => hFc q h) hFc (fun r6 u9 t H1 locs ht hvm hr9 hB hz1 hk1 hS => ?_)
      obtain ⟨hP1, hK1, hD1⟩ := hB
      rw [ht] at hP1
      obtain ⟨hP, hD⟩ := xjoin (W := [(a0, .inr (2, [.ref a1, .int w1, .int w2])), (a1, .inl (cT 2, 4096, .inr (.inl w0))), (a2, .inr (1, [.ref a3, .int v4, .int v5])), (a3, .inl (cT 0, 4096, .inl f3))]) hP hD [2, 3] [0, 1] 2 rfl rfl (by decide) (by decide) hk1 hFc hP1 hD1
      generalize H1 = H at hP hS ⊢
      rw [hr9]
      refine W.eq (g2 := F0 m 38 ls [.int o4, .int 4, .int y2, .ref a0]) rfl ?_
      obtain ⟨o7, hq8, hf⟩ := xbind hf
      obtain ⟨hPc, hDc, hFc⟩ := xcut (wc := [(a0, .inr (2, [.ref a1, .int w1, .int w2])), (a1, .inl (cT 2, 4096, .inr (.inl w0)))]) hP hD hS hA [0, 1] rfl rfl (by decide)
      refine va_callv (va_runV (C := "ValueBench$Row") (As := [.int y2, .int 4, .int o4]) (rest := []) ⟨hx, hb, hml, hown, htx⟩ (gR_close l hl9 D cT aK aV H.size n a0 a1 y2 (4 : Int32) o4 w0 w1 w2 o7 hq8) ⟨callB_of 3 htx (xw_goodC kw_2_167) rfl rfl rfl (htx _ kw_1_4) (htx _ kw_3_210) ⟨by decide, by decide, by decide +kernel⟩ ⟨Nat.le_of_ble_eq_true rfl, Nat.le_of_ble_eq_true rfl⟩, (htx _ kw_2_165), (htx _ kw_2_166)⟩ ⟨xPre_blind, va_recv hK hP (ci := 2) rfl (q0 := 0) rfl, (fun U hU hW => ⟨rfl, xPre_of hZ hS hFc hPc hDc hK U hU hW⟩)⟩ rfl rfl hl.1 rfl (lv_room (Nat.le_of_ble_eq_true rfl)) dR_putText_38 ⟨Nat.le_of_ble_eq_true rfl, Nat.le_of_ble_eq_true rfl⟩) hS (fun q _ h => hFc q h) hFc (fun u9 t H1 locs ht hvm hr9 hB hz1 hk1 hS => ?_)
      obtain ⟨hP1, hK1, hD1⟩ := hB
      rw [ht] at hP1
      obtain ⟨hP, hD⟩ := xjoin (W := [(a2, .inr (1, [.ref a3, .int v4, .int v5])), (a3, .inl (cT 0, 4096, .inl f3)), (a0, .inr (2, [.ref a1, .int w1, .int w2])), (a1, .inl (cT 2, 4096, .inr (.inl o7)))]) hP hD [0, 1] [2, 3] 2 rfl rfl (by decide) (by decide) hk1 hFc hP1 hD1
      generalize H1 = H at hP hS ⊢
      refine lv_aload_n hx hb dR_putText_41 rfl (lv_at hl 2 rfl) ?_
      refine lv_aload_n hx hb dR_putText_42 rfl (lv_at hl 2 rfl) ?_
      refine va_get (D := D) (ci := 2) (v := .int w2) (C := "ValueBench$Row") (T := TR) (N := 3) hx hb htx inR hown hK hP 2 rfl rfl 2 (by decide) (htx _ kw_1_86) (fun _ h9 => h9) rfl dR_putText_43 ?_
      refine lv_if_ne (tgt := 56) hx hb dR_putText_46 (by decide) (fun hc => ?_) (fun hc => ?_)
      · rw [if_neg hc] at hf
        refine lv_iconst (v := 1) hx hb dR_putText_56 (by decide) ?_
        refine lv_goto (tgt := 61) hx hb dR_putText_57 (by decide) ?_
        refine va_put (D := D) (ci := 2) (v := .int 1) (ty := .boolean) (C := "ValueBench$Row") (T := TR) (N := 3) hx hb htx inR tyR tyR_ok nmR hown hK hP hD hS 2 rfl rfl 2 (by decide) (htx _ kw_1_86) (fun _ h9 => h9) rfl (by decide +kernel) rfl rfl (Nat.le_of_ble_eq_true rfl) dR_putText_61 (fun H locs hP hD hS => ?_)
        obtain ⟨hP, hD⟩ : xPD D xcl A [(a2, .inr (1, [.ref a3, .int v4, .int v5])), (a3, .inl (cT 0, 4096, .inl f3)), (a0, .inr (2, [.ref a1, .int w1, .int 1])), (a1, .inl (cT 2, 4096, .inr (.inl o7)))] H := ⟨hP, hD⟩
        obtain rfl := Option.some.inj hf
        obtain ⟨hP9, hD9⟩ := xsub (wc := [(a0, .inr (2, [.ref a1, .int w1, .int 1])), (a1, .inl (cT 2, 4096, .inr (.inl o7))), (a2, .inr (1, [.ref a3, .int v4, .int v5])), (a3, .inl (cT 0, 4096, .inl f3))]) hP hD [2, 3, 0, 1] rfl rfl (by decide)
        exact W.vret hx hb hr (fun t ht hW => ⟨⟨(), rfl, trivial, by rw [ht]; exact hP9, va_K.moved hW.alike hK, hD9⟩, hS.F ht⟩) hS.2.2 dR_putText_64
      · rw [if_pos hc] at hf
        refine lv_aload_n hx hb dR_putText_49 rfl (lv_at hl 3 rfl) ?_
        obtain ⟨o9, hq10, hf⟩ := xbind hf
        obtain ⟨hPc, hDc, hFc⟩ := xcut (wc := [(a2, .inr (1, [.ref a3, .int v4, .int v5])), (a3, .inl (cT 0, 4096, .inl f3))]) hP hD hS hA [0, 1] rfl rfl (by decide)
        refine va_calli (va_runV (C := "ValueBench$Text") (As := []) (rest := [.ref a0]) ⟨hx, hb, hml, hown, htx⟩ (gT_isOver l hl9 D cT aK aV H.size n a2 a3 f3 v4 v5 o9 hq10) ⟨callB_of 0 htx (xw_goodC kw_3_86) rfl rfl rfl (htx _ kw_1_2) (htx _ kw_4_89) ⟨by decide, by decide, by decide +kernel⟩ ⟨Nat.le_of_ble_eq_true rfl, Nat.le_of_ble_eq_true rfl⟩, (htx _ kw_3_84), (htx _ kw_3_85)⟩ ⟨xPre_blind, va_recv hK hP (ci := 1) rfl (q0 := 0) rfl, (fun U hU hW => ⟨rfl, xPre_of hZ hS hFc hPc hDc hK U hU hW⟩)⟩ rfl rfl hl.1 rfl (lv_room (Nat.le_of_ble_eq_true rfl)) dR_putText_50 ⟨Nat.le_of_ble_eq_true rfl, Nat.le_of_ble_eq_true rfl⟩) hS (fun q _ h => hFc q h) hFc (fun r11 u9 t H1 locs ht hvm hr9 hB hz1 hk1 hS => ?_)
        obtain ⟨hP1, hK1, hD1⟩ := hB
        rw [ht] at hP1
        obtain ⟨hP, hD⟩ := xjoin (W := [(a0, .inr (2, [.ref a1, .int w1, .int w2])), (a1, .inl (cT 2, 4096, .inr (.inl o7))), (a2, .inr (1, [.ref a3, .int v4, .int v5])), (a3, .inl (cT 0, 4096, .inl f3))]) hP hD [0, 1] [2, 3] 2 rfl rfl (by decide) (by decide) hk1 hFc hP1 hD1
        generalize H1 = H at hP hS ⊢
        rw [hr9]
        refine W.eq (g2 := F0 m 53 ls [.int o9, .ref a0]) rfl ?_
        refine lv_if_eq (tgt := 60) hx hb dR_putText_53 (by decide) (fun hc => ?_) (fun hc => ?_)
        · rw [if_pos hc] at hf
          refine lv_iconst (v := 0) hx hb dR_putText_60 (by decide) ?_
          refine va_put (D := D) (ci := 2) (v := .int 0) (ty := .boolean) (C := "ValueBench$Row") (T := TR) (N := 3) hx hb htx inR tyR tyR_ok nmR hown hK hP hD hS 0 rfl rfl 2 (by decide) (htx _ kw_1_86) (fun _ h9 => h9) rfl (by decide +kernel) rfl rfl (Nat.le_of_ble_eq_true rfl) dR_putText_61 (fun H locs hP hD hS => ?_)
          obtain ⟨hP, hD⟩ : xPD D xcl A [(a0, .inr (2, [.ref a1, .int w1, .int 0])), (a1, .inl (cT 2, 4096, .inr (.inl o7))), (a2, .inr (1, [.ref a3, .int v4, .int v5])), (a3, .inl (cT 0, 4096, .inl f3))] H := ⟨hP, hD⟩
          obtain rfl := Option.some.inj hf
          obtain ⟨hP9, hD9⟩ := xsub (wc := [(a0, .inr (2, [.ref a1, .int w1, .int 0])), (a1, .inl (cT 2, 4096, .inr (.inl o7))), (a2, .inr (1, [.ref a3, .int v4, .int v5])), (a3, .inl (cT 0, 4096, .inl f3))]) hP hD [0, 1, 2, 3] rfl rfl (by decide)
          exact W.vret hx hb hr (fun t ht hW => ⟨⟨(), rfl, trivial, by rw [ht]; exact hP9, va_K.moved hW.alike hK, hD9⟩, hS.F ht⟩) hS.2.2 dR_putText_64
        · rw [if_neg hc] at hf
          refine lv_iconst (v := 1) hx hb dR_putText_56 (by decide) ?_
          refine lv_goto (tgt := 61) hx hb dR_putText_57 (by decide) ?_
          refine va_put (D := D) (ci := 2) (v := .int 1) (ty := .boolean) (C := "ValueBench$Row") (T := TR) (N := 3) hx hb htx inR tyR tyR_ok nmR hown hK hP hD hS 0 rfl rfl 2 (by decide) (htx _ kw_1_86) (fun _ h9 => h9) rfl (by decide +kernel) rfl rfl (Nat.le_of_ble_eq_true rfl) dR_putText_61 (fun H locs hP hD hS => ?_)
          obtain ⟨hP, hD⟩ : xPD D xcl A [(a0, .inr (2, [.ref a1, .int w1, .int 1])), (a1, .inl (cT 2, 4096, .inr (.inl o7))), (a2, .inr (1, [.ref a3, .int v4, .int v5])), (a3, .inl (cT 0, 4096, .inl f3))] H := ⟨hP, hD⟩
          obtain rfl := Option.some.inj hf
          obtain ⟨hP9, hD9⟩ := xsub (wc := [(a0, .inr (2, [.ref a1, .int w1, .int 1])), (a1, .inl (cT 2, 4096, .inr (.inl o7))), (a2, .inr (1, [.ref a3, .int v4, .int v5])), (a3, .inl (cT 0, 4096, .inl f3))]) hP hD [0, 1, 2, 3] rfl rfl (by decide)
          exact W.vret hx hb hr (fun t ht hW => ⟨⟨(), rfl, trivial, by rw [ht]; exact hP9, va_K.moved hW.alike hK, hD9⟩, hS.F ht⟩) hS.2.2 dR_putText_64
    · rw [if_neg hc] at hf
      refine lv_aload_n hx hb dR_putText_15 rfl (lv_at hl 2 rfl) ?_
      refine lv_aload_n hx hb dR_putText_16 rfl (lv_at hl 3 rfl) ?_
      refine lv_iload_n hx hb dR_putText_17 rfl (lv_at hl 0 rfl) ?_
      obtain ⟨o4, hq5, hf⟩ := xbind hf
      obtain ⟨hPc, hDc, hFc⟩ := xcut (wc := [(a2, .inr (1, [.ref a3, .int v4, .int v5])), (a3, .inl (cT 0, 4096, .inl f3))]) hP hD hS hA [2, 3] rfl rfl (by decide)
      refine va_calli (va_runV (C := "ValueBench$Text") (As := [.int y3]) (rest := [.ref a0]) ⟨hx, hb, hml, hown, htx⟩ (gT_at l hl9 D cT aK aV H.size n a2 a3 y3 f3 v4 v5 o4 hq5) ⟨callB_of 1 htx (xw_goodC kw_2_58) rfl rfl rfl (htx _ kw_1_2) (htx _ kw_4_88) ⟨by decide, by decide, by decide +kernel⟩ ⟨Nat.le_of_ble_eq_true rfl, Nat.le_of_ble_eq_true rfl⟩, (htx _ kw_2_56), (htx _ kw_2_57)⟩ ⟨xPre_blind, va_recv hK hP (ci := 1) rfl (q0 := 2) rfl, (fun U hU hW => ⟨rfl, xPre_of hZ hS hFc hPc hDc hK U hU hW⟩)⟩ rfl rfl hl.1 rfl (lv_room (Nat.le_of_ble_eq_true rfl)) dR_putText_18 ⟨Nat.le_of_ble_eq_true rfl, Nat.le_of_ble_eq_true rfl⟩) hS (fun q _ h => hFc q h) hFc (fun r6 u9 t H1 locs ht hvm hr9 hB hz1 hk1 hS => ?_)
      obtain ⟨hP1, hK1, hD1⟩ := hB
      rw [ht] at hP1
      obtain ⟨hP, hD⟩ := xjoin (W := [(a0, .inr (2, [.ref a1, .int w1, .int w2])), (a1, .inl (cT 2, 4096, .inr (.inl w0))), (a2, .inr (1, [.ref a3, .int v4, .int v5])), (a3, .inl (cT 0, 4096, .inl f3))]) hP hD [2, 3] [0, 1] 2 rfl rfl (by decide) (by decide) hk1 hFc hP1 hD1
      generalize H1 = H at hP hS ⊢
      rw [hr9]
      refine W.eq (g2 := F0 m 21 ls [.int o4, .ref a0]) rfl ?_
      refine lv_i2l hx hb dR_putText_21 rfl ?_
      obtain ⟨o7, hq8, hf⟩ := xbind hf
      obtain ⟨hPc, hDc, hFc⟩ := xcut (wc := [(a0, .inr (2, [.ref a1, .int w1, .int w2])), (a1, .inl (cT 2, 4096, .inr (.inl w0)))]) hP hD hS hA [0, 1] rfl rfl (by decide)
      refine va_callv (va_runV (C := "ValueBench$Row") (As := [.long o4.toInt64]) (rest := []) ⟨hx, hb, hml, hown, htx⟩ (gR_put l hl9 D cT aK aV H.size n a0 a1 o4.toInt64 w0 w1 w2 o7 hq8) ⟨callB_of 1 htx (xw_goodC kw_2_126) rfl rfl rfl (htx _ kw_1_4) (htx _ kw_2_137) ⟨by decide, by decide, by decide +kernel⟩ ⟨Nat.le_of_ble_eq_true rfl, Nat.le_of_ble_eq_true rfl⟩, (htx _ kw_2_124), (htx _ kw_2_125)⟩ ⟨xPre_blind, va_recv hK hP (ci := 2) rfl (q0 := 0) rfl, (fun U hU hW => ⟨rfl, xPre_of hZ hS hFc hPc hDc hK U hU hW⟩)⟩ rfl rfl hl.1 rfl (lv_room (Nat.le_of_ble_eq_true rfl)) dR_putText_22 ⟨Nat.le_of_ble_eq_true rfl, Nat.le_of_ble_eq_true rfl⟩) hS (fun q _ h => hFc q h) hFc (fun u9 t H1 locs ht hvm hr9 hB hz1 hk1 hS => ?_)
      obtain ⟨hP1, hK1, hD1⟩ := hB
      rw [ht] at hP1
      obtain ⟨hP, hD⟩ := xjoin (W := [(a2, .inr (1, [.ref a3, .int v4, .int v5])), (a3, .inl (cT 0, 4096, .inl f3)), (a0, .inr (2, [.ref a1, .int o7.2.1, .int o7.2.2])), (a1, .inl (cT 2, 4096, .inr (.inl o7.1)))]) hP hD [0, 1] [2, 3] 2 rfl rfl (by decide) (by decide) hk1 hFc hP1 hD1
      generalize H1 = H at hP hS ⊢
      refine lv_iinc (v := (y3 + 1)) (lv' := [(3, .int (y3 + 1)), (2, .int y2), (0, .ref a0), (1, .ref a2)]) hx hb dR_putText_25 hl (k := 0) rfl rfl (by decide) rfl (fun ls hl => ?_)
      refine lv_goto (tgt := 7) hx hb dR_putText_28 (by decide) ?_
      obtain ⟨hP9, hD9⟩ := xsub (wc := [(a0, .inr (2, [.ref a1, .int o7.2.1, .int o7.2.2])), (a1, .inl (cT 2, 4096, .inr (.inl o7.1))), (a2, .inr (1, [.ref a3, .int v4, .int v5])), (a3, .inl (cT 0, 4096, .inl f3))]) hP hD [2, 3, 0, 1] rfl rfl (by decide)
      exact ih (1, (y3 + 1), y2, o7.1, o7.2.1, o7.2.2) _ _ ls (⟨rfl, hf, hP9, hD9, hS, lv_sub hl [0, 1, 2, 3] rfl⟩)
  refine lv_aload_n hx hb dR_putText_0 rfl (lv_at hl 0 rfl) ?_
  obtain ⟨o1, hq2, hf⟩ := xbind hf
  obtain ⟨hPc, hDc, hFc⟩ := xcut (wc := [(a0, .inr (2, [.ref a1, .int v1, .int v2])), (a1, .inl (cT 2, 4096, .inr (.inl f0)))]) hP hD hS hA [0, 1] rfl rfl (by decide)
  refine va_calli (va_runV (C := "ValueBench$Row") (As := []) (rest := []) ⟨hx, hb, hml, hown, htx⟩ (gR_open l hl9 D cT aK aV s.heap.size n a0 a1 f0 v1 v2 o1 hq2) ⟨callB_of 0 htx (xw_goodC kw_2_136) rfl rfl rfl (htx _ kw_1_4) (htx _ kw_3_209) ⟨by decide, by decide, by decide +kernel⟩ ⟨Nat.le_of_ble_eq_true rfl, Nat.le_of_ble_eq_true rfl⟩, (htx _ kw_2_134), (htx _ kw_2_135)⟩ ⟨xPre_blind, va_recv hK hP (ci := 2) rfl (q0 := 0) rfl, (fun U hU hW => ⟨rfl, xPre_of hZ hS hFc hPc hDc hK U hU hW⟩)⟩ rfl rfl hl.1 rfl (lv_room (Nat.le_of_ble_eq_true rfl)) dR_putText_1 ⟨Nat.le_of_ble_eq_true rfl, Nat.le_of_ble_eq_true rfl⟩) hS (fun q _ h => hFc q h) hFc (fun r3 u9 t H1 locs ht hvm hr9 hB hz1 hk1 hS => ?_)
  obtain ⟨hP1, hK1, hD1⟩ := hB
  rw [ht] at hP1
  obtain ⟨hP, hD⟩ := xjoin (W := [(a2, .inr (1, [.ref a3, .int v4, .int v5])), (a3, .inl (cT 0, 4096, .inl f3)), (a0, .inr (2, [.ref a1, .int o1.2.2.1, .int o1.2.2.2])), (a1, .inl (cT 2, 4096, .inr (.inl o1.2.1)))]) hP hD [0, 1] [2, 3] 2 rfl rfl (by decide) (by decide) hk1 hFc hP1 hD1
  generalize H1 = H at hP hS ⊢
  rw [hr9]
  refine W.eq (g2 := F0 m 4 ls [.int o1.1]) rfl ?_
  refine lv_istore_n (lv' := [(2, .int o1.1), (0, .ref a0), (1, .ref a2)]) hx hb dR_putText_4 rfl hl (by decide) rfl (fun ls hl => ?_)
  refine lv_iconst (v := 0) hx hb dR_putText_5 (by decide) ?_
  refine lv_istore_n (lv' := [(3, .int 0), (2, .int o1.1), (0, .ref a0), (1, .ref a2)]) hx hb dR_putText_6 rfl hl (by decide) rfl (fun ls hl => ?_)
  obtain ⟨hP9, hD9⟩ := xsub (wc := [(a0, .inr (2, [.ref a1, .int o1.2.2.1, .int o1.2.2.2])), (a1, .inl (cT 2, 4096, .inr (.inl o1.2.1))), (a2, .inr (1, [.ref a3, .int v4, .int v5])), (a3, .inl (cT 0, 4096, .inl f3))]) hP hD [2, 3, 0, 1] rfl rfl (by decide)
  exact key n (1, 0, o1.1, o1.2.1, o1.2.2.1, o1.2.2.2) _ _ ls (⟨rfl, hf, hP9, hD9, hS, lv_sub hl [0, 1, 2, 3] rfl⟩)
set_option maxHeartbeats 400000000 in
set_option maxRecDepth 100000 in
theorem gR_putTruth (l : Launch) (hl9 : l.stackTraces = false) (D : va_G) (cT : Nat → ClassId) (aK aV : Nat → Nat) (sz n : Nat) (a0 : Nat) (a1 : Nat) (x1 : Int32) (f0 : Nat → Int64) (v1 : Int32) (v2 : Int32) (out : (Nat → Int64) × Int32 × Int32) (hf : fR_putTruth n x1 f0 v1 v2 = some out) : xMet l yR_putTruth wyR_putTruth 1 0 0 22 D cT aK aV sz [.ref a0, .int x1] [(a0, .inr (2, [.ref a1, .int v1, .int v2])), (a1, .inl (cT 2, 4096, .inr (.inl f0)))] (fun A => va_Qv (fun _ : Unit => True) (fun _ t => xB D xcl cT A [(a0, .inr (2, [.ref a1, .int out.2.1, .int out.2.2])), (a1, .inl (cT 2, 4096, .inr (.inl out.1)))] t) A) := by
  refine Met.ofW (cc := prog_8_method_18_code) (maxL := 2) (ret := none) (by decide) rfl ?_
  intro p e s m args below meth c s₁ B hml hv
  obtain ⟨rfl, hsz, hZ, hP, hK, hD0⟩ := hv
  have hx := B.exec
  have hb := B.bytes
  have hr := B.returns
  have hts := atoms_spec (ws := wyR_putTruth) B.pre
  have htx := fun w h => hts w (List.mem_cons_of_mem _ h)
  have hown : s.vm.findClass "ValueBench$Row" = some m.cls := findClass_of_methodNamed B.named
  have hlocks := B.notSynchronized
  subst hsz
  have hD := hD0.self (sz := s.heap.size)
  generalize hAe : va_A [(a0, .inr (2, [.ref a1, .int v1, .int v2])), (a1, .inl (cT 2, 4096, .inr (.inl f0)))] s.heap.size = A at hD hZ ⊢
  have hA : ∀ q : Nat, s.heap.size ≤ q → A q := fun q h => by rw [← hAe]; exact Or.inr h
  have hS : va_S A s.heap s.heap [] := va_S.rf
  have hP : va_P D xcl [(a0, .inr (2, [.ref a1, .int v1, .int v2])), (a1, .inl (cT 2, 4096, .inr (.inl f0)))] s.heap := hP
  have hl := lv_entry ([.ref a0, .int x1]) (n := 2) (Nat.le_of_ble_eq_true rfl)
  rw [lg_entry_eq]
  generalize (lg_sl ([.ref a0, .int x1]) ++ List.replicate (2 - (lg_sl ([.ref a0, .int x1])).length) Slot.unset).toArray = ls at hl ⊢
  have hl : lv_has ls 2 [(0, .ref a0), (1, .int x1)] := hl
  unfold fR_putTruth at hf
  refine lv_aload_n hx hb dR_putTruth_0 rfl (lv_at hl 0 rfl) ?_
  refine lv_iload_n hx hb dR_putTruth_1 rfl (lv_at hl 1 rfl) ?_
  refine lv_if_eq (tgt := 11) hx hb dR_putTruth_2 (by decide) (fun hc => ?_) (fun hc => ?_)
  · rw [if_pos hc] at hf
    refine lv_lconst (v := 1) hx hb dR_putTruth_11 (by decide) ?_
    obtain ⟨o1, hq2, hf⟩ := xbind hf
    obtain ⟨hPc, hDc, hFc⟩ := xcut (wc := [(a0, .inr (2, [.ref a1, .int v1, .int v2])), (a1, .inl (cT 2, 4096, .inr (.inl f0)))]) hP hD hS hA [0, 1] rfl rfl (by decide)
    refine va_callv (va_runV (C := "ValueBench$Row") (As := [.long 1]) (rest := []) ⟨hx, hb, hml, hown, htx⟩ (gR_put l hl9 D cT aK aV s.heap.size n a0 a1 (1 : Int64) f0 v1 v2 o1 hq2) ⟨callB_of 1 htx (xw_goodC kw_2_126) rfl rfl rfl (htx _ kw_1_4) (htx _ kw_2_137) ⟨by decide, by decide, by decide +kernel⟩ ⟨Nat.le_of_ble_eq_true rfl, Nat.le_of_ble_eq_true rfl⟩, (htx _ kw_2_124), (htx _ kw_2_125)⟩ ⟨xPre_blind, va_recv hK hP (ci := 2) rfl (q0 := 0) rfl, (fun U hU hW => ⟨rfl, xPre_of hZ hS hFc hPc hDc hK U hU hW⟩)⟩ rfl rfl hl.1 rfl (lv_room (Nat.le_of_ble_eq_true rfl)) dR_putTruth_12 ⟨Nat.le_of_ble_eq_true rfl, Nat.le_of_ble_eq_true rfl⟩) hS (fun q _ h => hFc q h) hFc (fun u9 t H1 locs ht hvm hr9 hB hz1 hk1 hS => ?_)
    obtain ⟨hP1, hK1, hD1⟩ := hB
    rw [ht] at hP1
    obtain ⟨hP, hD⟩ := xjoin (W := [(a0, .inr (2, [.ref a1, .int o1.2.1, .int o1.2.2])), (a1, .inl (cT 2, 4096, .inr (.inl o1.1)))]) hP hD [0, 1] [] 0 rfl rfl (by decide) (by decide) hk1 hFc hP1 hD1
    generalize H1 = H at hP hS ⊢
    obtain rfl := Option.some.inj hf
    obtain ⟨hP9, hD9⟩ := xsub (wc := [(a0, .inr (2, [.ref a1, .int o1.2.1, .int o1.2.2])), (a1, .inl (cT 2, 4096, .inr (.inl o1.1)))]) hP hD [0, 1] rfl rfl (by decide)
    exact W.vret hx hb hr (fun t ht hW => ⟨⟨(), rfl, trivial, by rw [ht]; exact hP9, va_K.moved hW.alike hK, hD9⟩, hS.F ht⟩) hS.2.2 dR_putTruth_15
  · rw [if_neg hc] at hf
    refine lv_ldc2 hx hb hown (htx _ kw_4_34) dR_putTruth_5 ?_
    refine lv_goto (tgt := 12) hx hb dR_putTruth_8 (by decide) ?_
    obtain ⟨o1, hq2, hf⟩ := xbind hf
    obtain ⟨hPc, hDc, hFc⟩ := xcut (wc := [(a0, .inr (2, [.ref a1, .int v1, .int v2])), (a1, .inl (cT 2, 4096, .inr (.inl f0)))]) hP hD hS hA [0, 1] rfl rfl (by decide)
    refine va_callv (va_runV (C := "ValueBench$Row") (As := [.long 2]) (rest := []) ⟨hx, hb, hml, hown, htx⟩ (gR_put l hl9 D cT aK aV s.heap.size n a0 a1 (2 : Int64) f0 v1 v2 o1 hq2) ⟨callB_of 1 htx (xw_goodC kw_2_126) rfl rfl rfl (htx _ kw_1_4) (htx _ kw_2_137) ⟨by decide, by decide, by decide +kernel⟩ ⟨Nat.le_of_ble_eq_true rfl, Nat.le_of_ble_eq_true rfl⟩, (htx _ kw_2_124), (htx _ kw_2_125)⟩ ⟨xPre_blind, va_recv hK hP (ci := 2) rfl (q0 := 0) rfl, (fun U hU hW => ⟨rfl, xPre_of hZ hS hFc hPc hDc hK U hU hW⟩)⟩ rfl rfl hl.1 rfl (lv_room (Nat.le_of_ble_eq_true rfl)) dR_putTruth_12 ⟨Nat.le_of_ble_eq_true rfl, Nat.le_of_ble_eq_true rfl⟩) hS (fun q _ h => hFc q h) hFc (fun u9 t H1 locs ht hvm hr9 hB hz1 hk1 hS => ?_)
    obtain ⟨hP1, hK1, hD1⟩ := hB
    rw [ht] at hP1
    obtain ⟨hP, hD⟩ := xjoin (W := [(a0, .inr (2, [.ref a1, .int o1.2.1, .int o1.2.2])), (a1, .inl (cT 2, 4096, .inr (.inl o1.1)))]) hP hD [0, 1] [] 0 rfl rfl (by decide) (by decide) hk1 hFc hP1 hD1
    generalize H1 = H at hP hS ⊢
    obtain rfl := Option.some.inj hf
    obtain ⟨hP9, hD9⟩ := xsub (wc := [(a0, .inr (2, [.ref a1, .int o1.2.1, .int o1.2.2])), (a1, .inl (cT 2, 4096, .inr (.inl o1.1)))]) hP hD [0, 1] rfl rfl (by decide)
    exact W.vret hx hb hr (fun t ht hW => ⟨⟨(), rfl, trivial, by rw [ht]; exact hP9, va_K.moved hW.alike hK, hD9⟩, hS.F ht⟩) hS.2.2 dR_putTruth_15
set_option maxHeartbeats 400000000 in
set_option maxRecDepth 100000 in
theorem gR_size (l : Launch) (hl9 : l.stackTraces = false) (D : va_G) (cT : Nat → ClassId) (aK aV : Nat → Nat) (sz n : Nat) (a0 : Nat) (a1 : Nat) (f0 : Nat → Int64) (v1 : Int32) (v2 : Int32) (out : Int32) (hf : fR_size n f0 v1 v2 = some out) : xMet l yR_size wyR_size 0 0 0 0 D cT aK aV sz [.ref a0] [(a0, .inr (2, [.ref a1, .int v1, .int v2])), (a1, .inl (cT 2, 4096, .inr (.inl f0)))] (fun A => va_Qi (fun (r : Int32) (_ : Unit) => r = out) (fun _ t => xB D xcl cT A [(a0, .inr (2, [.ref a1, .int v1, .int v2])), (a1, .inl (cT 2, 4096, .inr (.inl f0)))] t) A) := by
  refine Met.ofW (cc := prog_8_method_3_code) (maxL := 1) (ret := (some .int)) (by decide) rfl ?_
  intro p e s m args below meth c s₁ B hml hv
  obtain ⟨rfl, hsz, hZ, hP, hK, hD0⟩ := hv
  have hx := B.exec
  have hb := B.bytes
  have hr := B.returns
  have hts := atoms_spec (ws := wyR_size) B.pre
  have htx := fun w h => hts w (List.mem_cons_of_mem _ h)
  have hown : s.vm.findClass "ValueBench$Row" = some m.cls := findClass_of_methodNamed B.named
  have hlocks := B.notSynchronized
  subst hsz
  have hD := hD0.self (sz := s.heap.size)
  generalize hAe : va_A [(a0, .inr (2, [.ref a1, .int v1, .int v2])), (a1, .inl (cT 2, 4096, .inr (.inl f0)))] s.heap.size = A at hD hZ ⊢
  have hA : ∀ q : Nat, s.heap.size ≤ q → A q := fun q h => by rw [← hAe]; exact Or.inr h
  have hS : va_S A s.heap s.heap [] := va_S.rf
  have hP : va_P D xcl [(a0, .inr (2, [.ref a1, .int v1, .int v2])), (a1, .inl (cT 2, 4096, .inr (.inl f0)))] s.heap := hP
  have hl := lv_entry ([.ref a0]) (n := 1) (Nat.le_of_ble_eq_true rfl)
  rw [lg_entry_eq]
  generalize (lg_sl ([.ref a0]) ++ List.replicate (1 - (lg_sl ([.ref a0])).length) Slot.unset).toArray = ls at hl ⊢
  have hl : lv_has ls 1 [(0, .ref a0)] := hl
  unfold fR_size at hf
  refine lv_aload_n hx hb dR_size_0 rfl (lv_at hl 0 rfl) ?_
  refine va_get (D := D) (ci := 2) (v := .int v1) (C := "ValueBench$Row") (T := TR) (N := 3) hx hb htx inR hown hK hP 0 rfl rfl 1 (by decide) (htx _ kw_1_85) (fun _ h9 => h9) rfl dR_size_1 ?_
  obtain rfl := Option.some.inj hf
  obtain ⟨hP9, hD9⟩ := xsub (wc := [(a0, .inr (2, [.ref a1, .int v1, .int v2])), (a1, .inl (cT 2, 4096, .inr (.inl f0)))]) hP hD [0, 1] rfl rfl (by decide)
  exact W.iret (v := v1) hx hb hr (fun t ht hW => ⟨⟨v1, (), rfl, rfl, by rw [ht]; exact hP9, va_K.moved hW.alike hK, hD9⟩, hS.F ht⟩) hS.2.2 dR_size_4
set_option maxHeartbeats 400000000 in
set_option maxRecDepth 100000 in
theorem gR_valueOf (l : Launch) (hl9 : l.stackTraces = false) (D : va_G) (cT : Nat → ClassId) (aK aV : Nat → Nat) (sz n : Nat) (a0 : Nat) (a1 : Nat) (x1 : Int32) (x3 : Int32) (f0 : Nat → Int64) (v1 : Int32) (v2 : Int32) (out : Int32) (hf : fR_valueOf n x1 x3 f0 v1 v2 = some out) : xMet l yR_valueOf wyR_valueOf 1 0 0 29 D cT aK aV sz [.ref a0, .int x1, .ref a0, .int x3] [(a0, .inr (2, [.ref a1, .int v1, .int v2])), (a1, .inl (cT 2, 4096, .inr (.inl f0)))] (fun A => va_Qi (fun (r : Int32) (_ : Unit) => r = out) (fun _ t => xB D xcl cT A [(a0, .inr (2, [.ref a1, .int v1, .int v2])), (a1, .inl (cT 2, 4096, .inr (.inl f0)))] t) A) := by
  refine Met.ofW (cc := prog_8_method_13_code) (maxL := 7) (ret := (some .int)) (by decide) rfl ?_
  intro p e s m args below meth c s₁ B hml hv
  obtain ⟨rfl, hsz, hZ, hP, hK, hD0⟩ := hv
  have hx := B.exec
  have hb := B.bytes
  have hr := B.returns
  have hts := atoms_spec (ws := wyR_valueOf) B.pre
  have htx := fun w h => hts w (List.mem_cons_of_mem _ h)
  have hown : s.vm.findClass "ValueBench$Row" = some m.cls := findClass_of_methodNamed B.named
  have hlocks := B.notSynchronized
  subst hsz
  have hD := hD0.self (sz := s.heap.size)
  generalize hAe : va_A [(a0, .inr (2, [.ref a1, .int v1, .int v2])), (a1, .inl (cT 2, 4096, .inr (.inl f0)))] s.heap.size = A at hD hZ ⊢
  have hA : ∀ q : Nat, s.heap.size ≤ q → A q := fun q h => by rw [← hAe]; exact Or.inr h
  have hS : va_S A s.heap s.heap [] := va_S.rf
  have hP : va_P D xcl [(a0, .inr (2, [.ref a1, .int v1, .int v2])), (a1, .inl (cT 2, 4096, .inr (.inl f0)))] s.heap := hP
  have hl := lv_entry ([.ref a0, .int x1, .ref a0, .int x3]) (n := 7) (Nat.le_of_ble_eq_true rfl)
  rw [lg_entry_eq]
  generalize (lg_sl ([.ref a0, .int x1, .ref a0, .int x3]) ++ List.replicate (7 - (lg_sl ([.ref a0, .int x1, .ref a0, .int x3])).length) Slot.unset).toArray = ls at hl ⊢
  have hl : lv_has ls 7 [(0, .ref a0), (1, .int x1), (2, .ref a0), (3, .int x3)] := hl
  unfold fR_valueOf at hf
  refine xloopK (σ := Nat × Int32 × Int32 × Int32 × Int32) (fun n x H locs ls => (x.1 = 1 ∧ fR_valueOf_b f0 v1 v2 n x.1 x.2.1 x.2.2.1 x.2.2.2.1 x.2.2.2.2 = some out ∧ va_P D xcl [(a0, .inr (2, [.ref a1, .int v1, .int v2])), (a1, .inl (cT 2, 4096, .inr (.inl f0)))] H ∧ va_D A [(a0, .inr (2, [.ref a1, .int v1, .int v2])), (a1, .inl (cT 2, 4096, .inr (.inl f0)))] ∧ va_S A s.heap H locs ∧ lv_has ls 7 [(5, .int x.2.1), (4, .int x.2.2.1), (0, .ref a0), (1, .int x.2.2.2.1), (2, .ref a0), (3, .int x.2.2.2.2)])) (fun x => 8) (fun x H locs ls h => by exact absurd h.2.1 (by rw [fR_valueOf_b]; exact fun h => nomatch h)) (fun n ih x H locs ls hv => ?_) (fun key => ?_)
  · obtain ⟨lb, y5, y4, y1, y3⟩ := x
    rcases hv with ⟨hj, hf, hP, hD, hS, hl⟩
    subst hj
    have hf : fR_valueOf_b f0 v1 v2 (n + 1) 1 y5 y4 y1 y3 = some out := hf
    rw [fR_valueOf_b] at hf
    obtain ⟨hP, hD⟩ : xPD D xcl A [(a0, .inr (2, [.ref a1, .int v1, .int v2])), (a1, .inl (cT 2, 4096, .inr (.inl f0)))] H := ⟨hP, hD⟩
    have hl : lv_has ls 7 [(5, .int y5), (4, .int y4), (0, .ref a0), (1, .int y1), (2, .ref a0), (3, .int y3)] := hl
    refine W.eq (g2 := F0 m 8 ls []) rfl ?_
    refine lv_iload hx hb dR_valueOf_8 (lv_at hl 0 rfl) ?_
    refine lv_aload_n hx hb dR_valueOf_10 rfl (lv_at hl 2 rfl) ?_
    refine lv_iload_n hx hb dR_valueOf_11 rfl (lv_at hl 3 rfl) ?_
    obtain ⟨o1, hq2, hf⟩ := xbind hf
    obtain ⟨hPc, hDc, hFc⟩ := xcut (wc := [(a0, .inr (2, [.ref a1, .int v1, .int v2])), (a1, .inl (cT 2, 4096, .inr (.inl f0)))]) hP hD hS hA [0, 1] rfl rfl (by decide)
    refine va_calli (va_runV (C := "ValueBench$Row") (As := [.int y1]) (rest := [.int y5]) ⟨hx, hb, hml, hown, htx⟩ (gR_length l hl9 D cT aK aV H.size n a0 a1 y1 f0 v1 v2 o1 hq2) ⟨callB_of 1 htx (xw_goodC kw_2_191) rfl rfl rfl (htx _ kw_1_4) (htx _ kw_2_188) ⟨by decide, by decide, by decide +kernel⟩ ⟨Nat.le_of_ble_eq_true rfl, Nat.le_of_ble_eq_true rfl⟩, (htx _ kw_2_189), (htx _ kw_2_190)⟩ ⟨xPre_blind, va_recv hK hP (ci := 2) rfl (q0 := 0) rfl, (fun U hU hW => ⟨rfl, xPre_of hZ hS hFc hPc hDc hK U hU hW⟩)⟩ rfl rfl hl.1 rfl (lv_room (Nat.le_of_ble_eq_true rfl)) dR_valueOf_12 ⟨Nat.le_of_ble_eq_true rfl, Nat.le_of_ble_eq_true rfl⟩) hS (fun q _ h => hFc q h) hFc (fun r3 u9 t H1 locs ht hvm hr9 hB hz1 hk1 hS => ?_)
    obtain ⟨hP1, hK1, hD1⟩ := hB
    rw [ht] at hP1
    obtain ⟨hP, hD⟩ := xjoin (W := [(a0, .inr (2, [.ref a1, .int v1, .int v2])), (a1, .inl (cT 2, 4096, .inr (.inl f0)))]) hP hD [0, 1] [] 0 rfl rfl (by decide) (by decide) hk1 hFc hP1 hD1
    generalize H1 = H at hP hS ⊢
    rw [hr9]
    refine W.eq (g2 := F0 m 15 ls [.int o1, .int y5]) rfl ?_
    refine lv_icmp_ge (tgt := 69) hx hb dR_valueOf_15 (by decide) (fun hc => ?_) (fun hc => ?_)
    · rw [if_pos hc] at hf
      refine lv_iconst (v := (-1)) hx hb dR_valueOf_69 (by decide) ?_
      obtain rfl := Option.some.inj hf
      obtain ⟨hP9, hD9⟩ := xsub (wc := [(a0, .inr (2, [.ref a1, .int v1, .int v2])), (a1, .inl (cT 2, 4096, .inr (.inl f0)))]) hP hD [0, 1] rfl rfl (by decide)
      exact W.iret (v := ((-1) : Int32)) hx hb hr (fun t ht hW => ⟨⟨((-1) : Int32), (), rfl, rfl, by rw [ht]; exact hP9, va_K.moved hW.alike hK, hD9⟩, hS.F ht⟩) hS.2.2 dR_valueOf_70
    · rw [if_neg hc] at hf
      refine lv_aload_n hx hb dR_valueOf_18 rfl (lv_at hl 2 rfl) ?_
      refine lv_iload hx hb dR_valueOf_19 (lv_at hl 1 rfl) ?_
      obtain ⟨o4, hq5, hf⟩ := xbind hf
      obtain ⟨hPc, hDc, hFc⟩ := xcut (wc := [(a0, .inr (2, [.ref a1, .int v1, .int v2])), (a1, .inl (cT 2, 4096, .inr (.inl f0)))]) hP hD hS hA [0, 1] rfl rfl (by decide)
      refine va_calli (va_runV (C := "ValueBench$Row") (As := [.int y4]) (rest := []) ⟨hx, hb, hml, hown, htx⟩ (gR_after l hl9 D cT aK aV H.size n a0 a1 y4 f0 v1 v2 o4 hq5) ⟨callB_of 1 htx (xw_goodC kw_2_196) rfl rfl rfl (htx _ kw_1_4) (htx _ kw_2_193) ⟨by decide, by decide, by decide +kernel⟩ ⟨Nat.le_of_ble_eq_true rfl, Nat.le_of_ble_eq_true rfl⟩, (htx _ kw_2_194), (htx _ kw_2_195)⟩ ⟨xPre_blind, va_recv hK hP (ci := 2) rfl (q0 := 0) rfl, (fun U hU hW => ⟨rfl, xPre_of hZ hS hFc hPc hDc hK U hU hW⟩)⟩ rfl rfl hl.1 rfl (lv_room (Nat.le_of_ble_eq_true rfl)) dR_valueOf_21 ⟨Nat.le_of_ble_eq_true rfl, Nat.le_of_ble_eq_true rfl⟩) hS (fun q _ h => hFc q h) hFc (fun r6 u9 t H1 locs ht hvm hr9 hB hz1 hk1 hS => ?_)
      obtain ⟨hP1, hK1, hD1⟩ := hB
      rw [ht] at hP1
      obtain ⟨hP, hD⟩ := xjoin (W := [(a0, .inr (2, [.ref a1, .int v1, .int v2])), (a1, .inl (cT 2, 4096, .inr (.inl f0)))]) hP hD [0, 1] [] 0 rfl rfl (by decide) (by decide) hk1 hFc hP1 hD1
      generalize H1 = H at hP hS ⊢
      rw [hr9]
      refine W.eq (g2 := F0 m 24 ls [.int o4]) rfl ?_
      refine lv_istore (lv' := [(6, .int o4), (5, .int y5), (4, .int y4), (0, .ref a0), (1, .int y1), (2, .ref a0), (3, .int y3)]) hx hb dR_valueOf_24 hl (by decide) rfl (fun ls hl => ?_)
      refine lv_aload_n hx hb dR_valueOf_26 rfl (lv_at hl 3 rfl) ?_
      refine lv_iload hx hb dR_valueOf_27 (lv_at hl 2 rfl) ?_
      obtain ⟨o7, hq8, hf⟩ := xbind hf
      obtain ⟨hPc, hDc, hFc⟩ := xcut (wc := [(a0, .inr (2, [.ref a1, .int v1, .int v2])), (a1, .inl (cT 2, 4096, .inr (.inl f0)))]) hP hD hS hA [0, 1] rfl rfl (by decide)
      refine va_calll (va_runV (C := "ValueBench$Row") (As := [.int y4]) (rest := []) ⟨hx, hb, hml, hown, htx⟩ (gR_cell l hl9 D cT aK aV H.size n a0 a1 y4 f0 v1 v2 o7 hq8) ⟨callB_of 1 htx (xw_goodC kw_2_202) rfl rfl rfl (htx _ kw_1_4) (htx _ kw_2_199) ⟨by decide, by decide, by decide +kernel⟩ ⟨Nat.le_of_ble_eq_true rfl, Nat.le_of_ble_eq_true rfl⟩, (htx _ kw_2_200), (htx _ kw_2_201)⟩ ⟨xPre_blind, va_recv hK hP (ci := 2) rfl (q0 := 0) rfl, (fun U hU hW => ⟨rfl, xPre_of hZ hS hFc hPc hDc hK U hU hW⟩)⟩ rfl rfl hl.1 rfl (lv_room (Nat.le_of_ble_eq_true rfl)) dR_valueOf_29 ⟨Nat.le_of_ble_eq_true rfl, Nat.le_of_ble_eq_true rfl⟩) hS (fun q _ h => hFc q h) hFc (fun r9 u9 t H1 locs ht hvm hr9 hB hz1 hk1 hS => ?_)
      obtain ⟨hP1, hK1, hD1⟩ := hB
      rw [ht] at hP1
      obtain ⟨hP, hD⟩ := xjoin (W := [(a0, .inr (2, [.ref a1, .int v1, .int v2])), (a1, .inl (cT 2, 4096, .inr (.inl f0)))]) hP hD [0, 1] [] 0 rfl rfl (by decide) (by decide) hk1 hFc hP1 hD1
      generalize H1 = H at hP hS ⊢
      rw [hr9]
      refine W.eq (g2 := F0 m 32 ls [.long o7]) rfl ?_
      refine lv_aload_n hx hb dR_valueOf_32 rfl (lv_at hl 5 rfl) ?_
      refine lv_iload_n hx hb dR_valueOf_33 rfl (lv_at hl 6 rfl) ?_
      obtain ⟨o10, hq11, hf⟩ := xbind hf
      obtain ⟨hPc, hDc, hFc⟩ := xcut (wc := [(a0, .inr (2, [.ref a1, .int v1, .int v2])), (a1, .inl (cT 2, 4096, .inr (.inl f0)))]) hP hD hS hA [0, 1] rfl rfl (by decide)
      refine va_calll (va_runV (C := "ValueBench$Row") (As := [.int y3]) (rest := [.long o7]) ⟨hx, hb, hml, hown, htx⟩ (gR_cell l hl9 D cT aK aV H.size n a0 a1 y3 f0 v1 v2 o10 hq11) ⟨callB_of 1 htx (xw_goodC kw_2_202) rfl rfl rfl (htx _ kw_1_4) (htx _ kw_2_199) ⟨by decide, by decide, by decide +kernel⟩ ⟨Nat.le_of_ble_eq_true rfl, Nat.le_of_ble_eq_true rfl⟩, (htx _ kw_2_200), (htx _ kw_2_201)⟩ ⟨xPre_blind, va_recv hK hP (ci := 2) rfl (q0 := 0) rfl, (fun U hU hW => ⟨rfl, xPre_of hZ hS hFc hPc hDc hK U hU hW⟩)⟩ rfl rfl hl.1 rfl (lv_room (Nat.le_of_ble_eq_true rfl)) dR_valueOf_34 ⟨Nat.le_of_ble_eq_true rfl, Nat.le_of_ble_eq_true rfl⟩) hS (fun q _ h => hFc q h) hFc (fun r12 u9 t H1 locs ht hvm hr9 hB hz1 hk1 hS => ?_)
      obtain ⟨hP1, hK1, hD1⟩ := hB
      rw [ht] at hP1
      obtain ⟨hP, hD⟩ := xjoin (W := [(a0, .inr (2, [.ref a1, .int v1, .int v2])), (a1, .inl (cT 2, 4096, .inr (.inl f0)))]) hP hD [0, 1] [] 0 rfl rfl (by decide) (by decide) hk1 hFc hP1 hD1
      generalize H1 = H at hP hS ⊢
      rw [hr9]
      refine W.eq (g2 := F0 m 37 ls [.long o10, .long o7]) rfl ?_
      refine W.lcmp hx hb dR_valueOf_37 ?_
      refine lv_if_ne (tgt := 55) hx hb dR_valueOf_38 (by decide) (fun hc => ?_) (fun hc => ?_)
      · rw [if_neg hc] at hf
        refine lv_aload_n hx hb dR_valueOf_55 rfl (lv_at hl 3 rfl) ?_
        refine lv_iload hx hb dR_valueOf_56 (lv_at hl 0 rfl) ?_
        obtain ⟨o13, hq14, hf⟩ := xbind hf
        obtain ⟨hPc, hDc, hFc⟩ := xcut (wc := [(a0, .inr (2, [.ref a1, .int v1, .int v2])), (a1, .inl (cT 2, 4096, .inr (.inl f0)))]) hP hD hS hA [0, 1] rfl rfl (by decide)
        refine va_calli (va_runV (C := "ValueBench$Row") (As := [.int o4]) (rest := []) ⟨hx, hb, hml, hown, htx⟩ (gR_after l hl9 D cT aK aV H.size n a0 a1 o4 f0 v1 v2 o13 hq14) ⟨callB_of 1 htx (xw_goodC kw_2_196) rfl rfl rfl (htx _ kw_1_4) (htx _ kw_2_193) ⟨by decide, by decide, by decide +kernel⟩ ⟨Nat.le_of_ble_eq_true rfl, Nat.le_of_ble_eq_true rfl⟩, (htx _ kw_2_194), (htx _ kw_2_195)⟩ ⟨xPre_blind, va_recv hK hP (ci := 2) rfl (q0 := 0) rfl, (fun U hU hW => ⟨rfl, xPre_of hZ hS hFc hPc hDc hK U hU hW⟩)⟩ rfl rfl hl.1 rfl (lv_room (Nat.le_of_ble_eq_true rfl)) dR_valueOf_58 ⟨Nat.le_of_ble_eq_true rfl, Nat.le_of_ble_eq_true rfl⟩) hS (fun q _ h => hFc q h) hFc (fun r15 u9 t H1 locs ht hvm hr9 hB hz1 hk1 hS => ?_)
        obtain ⟨hP1, hK1, hD1⟩ := hB
        rw [ht] at hP1
        obtain ⟨hP, hD⟩ := xjoin (W := [(a0, .inr (2, [.ref a1, .int v1, .int v2])), (a1, .inl (cT 2, 4096, .inr (.inl f0)))]) hP hD [0, 1] [] 0 rfl rfl (by decide) (by decide) hk1 hFc hP1 hD1
        generalize H1 = H at hP hS ⊢
        rw [hr9]
        refine W.eq (g2 := F0 m 61 ls [.int o13]) rfl ?_
        refine lv_istore (lv' := [(4, .int o13), (6, .int o4), (5, .int y5), (0, .ref a0), (1, .int y1), (2, .ref a0), (3, .int y3)]) hx hb dR_valueOf_61 hl (by decide) rfl (fun ls hl => ?_)
        refine lv_iinc (v := (y5 + 1)) (lv' := [(5, .int (y5 + 1)), (4, .int o13), (6, .int o4), (0, .ref a0), (1, .int y1), (2, .ref a0), (3, .int y3)]) hx hb dR_valueOf_63 hl (k := 2) rfl rfl (by decide) rfl (fun ls hl => ?_)
        refine lv_goto (tgt := 8) hx hb dR_valueOf_66 (by decide) ?_
        obtain ⟨hP9, hD9⟩ := xsub (wc := [(a0, .inr (2, [.ref a1, .int v1, .int v2])), (a1, .inl (cT 2, 4096, .inr (.inl f0)))]) hP hD [0, 1] rfl rfl (by decide)
        exact ih (1, (y5 + 1), o13, y1, y3) _ _ ls (⟨rfl, hf, hP9, hD9, hS, lv_sub hl [0, 1, 3, 4, 5, 6] rfl⟩)
      · rw [if_pos hc] at hf
        refine lv_aload_n hx hb dR_valueOf_41 rfl (lv_at hl 3 rfl) ?_
        refine lv_iload hx hb dR_valueOf_42 (lv_at hl 2 rfl) ?_
        refine lv_aload_n hx hb dR_valueOf_44 rfl (lv_at hl 5 rfl) ?_
        refine lv_iload_n hx hb dR_valueOf_45 rfl (lv_at hl 6 rfl) ?_
        obtain ⟨o13, hq14, hf⟩ := xbind hf
        obtain ⟨hPc, hDc, hFc⟩ := xcut (wc := [(a0, .inr (2, [.ref a1, .int v1, .int v2])), (a1, .inl (cT 2, 4096, .inr (.inl f0)))]) hP hD hS hA [0, 1] rfl rfl (by decide)
        refine va_calli (va_runV (C := "ValueBench$Row") (As := [.int y4, .ref a0, .int y3]) (rest := []) ⟨hx, hb, hml, hown, htx⟩ (gR_orderOfStrings l hl9 D cT aK aV H.size n a0 a1 y4 y3 f0 v1 v2 o13 hq14) ⟨callB_of 3 htx (xw_goodC kw_2_206) rfl rfl rfl (htx _ kw_1_4) (htx _ kw_2_203) ⟨by decide, by decide, by decide +kernel⟩ ⟨Nat.le_of_ble_eq_true rfl, Nat.le_of_ble_eq_true rfl⟩, (htx _ kw_2_204), (htx _ kw_2_205)⟩ ⟨xPre_blind, va_recv hK hP (ci := 2) rfl (q0 := 0) rfl, (fun U hU hW => ⟨rfl, xPre_of hZ hS hFc hPc hDc hK U hU hW⟩)⟩ rfl rfl hl.1 rfl (lv_room (Nat.le_of_ble_eq_true rfl)) dR_valueOf_46 ⟨Nat.le_of_ble_eq_true rfl, Nat.le_of_ble_eq_true rfl⟩) hS (fun q _ h => hFc q h) hFc (fun r15 u9 t H1 locs ht hvm hr9 hB hz1 hk1 hS => ?_)
        obtain ⟨hP1, hK1, hD1⟩ := hB
        rw [ht] at hP1
        obtain ⟨hP, hD⟩ := xjoin (W := [(a0, .inr (2, [.ref a1, .int v1, .int v2])), (a1, .inl (cT 2, 4096, .inr (.inl f0)))]) hP hD [0, 1] [] 0 rfl rfl (by decide) (by decide) hk1 hFc hP1 hD1
        generalize H1 = H at hP hS ⊢
        rw [hr9]
        refine W.eq (g2 := F0 m 49 ls [.int o13]) rfl ?_
        refine lv_if_ne (tgt := 55) hx hb dR_valueOf_49 (by decide) (fun hc => ?_) (fun hc => ?_)
        · rw [if_neg hc] at hf
          refine lv_aload_n hx hb dR_valueOf_55 rfl (lv_at hl 3 rfl) ?_
          refine lv_iload hx hb dR_valueOf_56 (lv_at hl 0 rfl) ?_
          obtain ⟨o16, hq17, hf⟩ := xbind hf
          obtain ⟨hPc, hDc, hFc⟩ := xcut (wc := [(a0, .inr (2, [.ref a1, .int v1, .int v2])), (a1, .inl (cT 2, 4096, .inr (.inl f0)))]) hP hD hS hA [0, 1] rfl rfl (by decide)
          refine va_calli (va_runV (C := "ValueBench$Row") (As := [.int o4]) (rest := []) ⟨hx, hb, hml, hown, htx⟩ (gR_after l hl9 D cT aK aV H.size n a0 a1 o4 f0 v1 v2 o16 hq17) ⟨callB_of 1 htx (xw_goodC kw_2_196) rfl rfl rfl (htx _ kw_1_4) (htx _ kw_2_193) ⟨by decide, by decide, by decide +kernel⟩ ⟨Nat.le_of_ble_eq_true rfl, Nat.le_of_ble_eq_true rfl⟩, (htx _ kw_2_194), (htx _ kw_2_195)⟩ ⟨xPre_blind, va_recv hK hP (ci := 2) rfl (q0 := 0) rfl, (fun U hU hW => ⟨rfl, xPre_of hZ hS hFc hPc hDc hK U hU hW⟩)⟩ rfl rfl hl.1 rfl (lv_room (Nat.le_of_ble_eq_true rfl)) dR_valueOf_58 ⟨Nat.le_of_ble_eq_true rfl, Nat.le_of_ble_eq_true rfl⟩) hS (fun q _ h => hFc q h) hFc (fun r18 u9 t H1 locs ht hvm hr9 hB hz1 hk1 hS => ?_)
          obtain ⟨hP1, hK1, hD1⟩ := hB
          rw [ht] at hP1
          obtain ⟨hP, hD⟩ := xjoin (W := [(a0, .inr (2, [.ref a1, .int v1, .int v2])), (a1, .inl (cT 2, 4096, .inr (.inl f0)))]) hP hD [0, 1] [] 0 rfl rfl (by decide) (by decide) hk1 hFc hP1 hD1
          generalize H1 = H at hP hS ⊢
          rw [hr9]
          refine W.eq (g2 := F0 m 61 ls [.int o16]) rfl ?_
          refine lv_istore (lv' := [(4, .int o16), (6, .int o4), (5, .int y5), (0, .ref a0), (1, .int y1), (2, .ref a0), (3, .int y3)]) hx hb dR_valueOf_61 hl (by decide) rfl (fun ls hl => ?_)
          refine lv_iinc (v := (y5 + 1)) (lv' := [(5, .int (y5 + 1)), (4, .int o16), (6, .int o4), (0, .ref a0), (1, .int y1), (2, .ref a0), (3, .int y3)]) hx hb dR_valueOf_63 hl (k := 2) rfl rfl (by decide) rfl (fun ls hl => ?_)
          refine lv_goto (tgt := 8) hx hb dR_valueOf_66 (by decide) ?_
          obtain ⟨hP9, hD9⟩ := xsub (wc := [(a0, .inr (2, [.ref a1, .int v1, .int v2])), (a1, .inl (cT 2, 4096, .inr (.inl f0)))]) hP hD [0, 1] rfl rfl (by decide)
          exact ih (1, (y5 + 1), o16, y1, y3) _ _ ls (⟨rfl, hf, hP9, hD9, hS, lv_sub hl [0, 1, 3, 4, 5, 6] rfl⟩)
        · rw [if_pos hc] at hf
          refine lv_iload hx hb dR_valueOf_52 (lv_at hl 0 rfl) ?_
          obtain rfl := Option.some.inj hf
          obtain ⟨hP9, hD9⟩ := xsub (wc := [(a0, .inr (2, [.ref a1, .int v1, .int v2])), (a1, .inl (cT 2, 4096, .inr (.inl f0)))]) hP hD [0, 1] rfl rfl (by decide)
          exact W.iret (v := o4) hx hb hr (fun t ht hW => ⟨⟨o4, (), rfl, rfl, by rw [ht]; exact hP9, va_K.moved hW.alike hK, hD9⟩, hS.F ht⟩) hS.2.2 dR_valueOf_54
  refine lv_iload_n hx hb dR_valueOf_0 rfl (lv_at hl 1 rfl) ?_
  refine lv_iconst (v := 1) hx hb dR_valueOf_1 (by decide) ?_
  refine lv_iadd hx hb dR_valueOf_2 ?_
  refine lv_istore (lv' := [(4, .int (x1 + (1 : Int32))), (0, .ref a0), (1, .int x1), (2, .ref a0), (3, .int x3)]) hx hb dR_valueOf_3 hl (by decide) rfl (fun ls hl => ?_)
  refine lv_iconst (v := 0) hx hb dR_valueOf_5 (by decide) ?_
  refine lv_istore (lv' := [(5, .int 0), (4, .int (x1 + (1 : Int32))), (0, .ref a0), (1, .int x1), (2, .ref a0), (3, .int x3)]) hx hb dR_valueOf_6 hl (by decide) rfl (fun ls hl => ?_)
  obtain ⟨hP9, hD9⟩ := xsub (wc := [(a0, .inr (2, [.ref a1, .int v1, .int v2])), (a1, .inl (cT 2, 4096, .inr (.inl f0)))]) hP hD [0, 1] rfl rfl (by decide)
  exact key n (1, 0, (x1 + (1 : Int32)), x1, x3) _ _ ls (⟨rfl, hf, hP9, hD9, hS, lv_sub hl [0, 1, 2, 3, 4, 5] rfl⟩)
set_option maxHeartbeats 400000000 in
set_option maxRecDepth 100000 in
theorem gR_valueOfa (l : Launch) (hl9 : l.stackTraces = false) (D : va_G) (cT : Nat → ClassId) (aK aV : Nat → Nat) (sz n : Nat) (a0 : Nat) (a1 : Nat) (a2 : Nat) (a3 : Nat) (x1 : Int32) (x3 : Int32) (f0 : Nat → Int64) (v1 : Int32) (v2 : Int32) (f3 : Nat → Int64) (v4 : Int32) (v5 : Int32) (out : Int32) (hf : fR_valueOfa n x1 x3 f0 v1 v2 f3 v4 v5 = some out) : xMet l yR_valueOf wyR_valueOf 1 0 0 29 D cT aK aV sz [.ref a0, .int x1, .ref a2, .int x3] [(a0, .inr (2, [.ref a1, .int v1, .int v2])), (a1, .inl (cT 2, 4096, .inr (.inl f0))), (a2, .inr (2, [.ref a3, .int v4, .int v5])), (a3, .inl (cT 2, 4096, .inr (.inl f3)))] (fun A => va_Qi (fun (r : Int32) (_ : Unit) => r = out) (fun _ t => xB D xcl cT A [(a0, .inr (2, [.ref a1, .int v1, .int v2])), (a1, .inl (cT 2, 4096, .inr (.inl f0))), (a2, .inr (2, [.ref a3, .int v4, .int v5])), (a3, .inl (cT 2, 4096, .inr (.inl f3)))] t) A) := by
  refine Met.ofW (cc := prog_8_method_13_code) (maxL := 7) (ret := (some .int)) (by decide) rfl ?_
  intro p e s m args below meth c s₁ B hml hv
  obtain ⟨rfl, hsz, hZ, hP, hK, hD0⟩ := hv
  have hx := B.exec
  have hb := B.bytes
  have hr := B.returns
  have hts := atoms_spec (ws := wyR_valueOf) B.pre
  have htx := fun w h => hts w (List.mem_cons_of_mem _ h)
  have hown : s.vm.findClass "ValueBench$Row" = some m.cls := findClass_of_methodNamed B.named
  have hlocks := B.notSynchronized
  subst hsz
  have hD := hD0.self (sz := s.heap.size)
  generalize hAe : va_A [(a0, .inr (2, [.ref a1, .int v1, .int v2])), (a1, .inl (cT 2, 4096, .inr (.inl f0))), (a2, .inr (2, [.ref a3, .int v4, .int v5])), (a3, .inl (cT 2, 4096, .inr (.inl f3)))] s.heap.size = A at hD hZ ⊢
  have hA : ∀ q : Nat, s.heap.size ≤ q → A q := fun q h => by rw [← hAe]; exact Or.inr h
  have hS : va_S A s.heap s.heap [] := va_S.rf
  have hP : va_P D xcl [(a0, .inr (2, [.ref a1, .int v1, .int v2])), (a1, .inl (cT 2, 4096, .inr (.inl f0))), (a2, .inr (2, [.ref a3, .int v4, .int v5])), (a3, .inl (cT 2, 4096, .inr (.inl f3)))] s.heap := hP
  have hl := lv_entry ([.ref a0, .int x1, .ref a2, .int x3]) (n := 7) (Nat.le_of_ble_eq_true rfl)
  rw [lg_entry_eq]
  generalize (lg_sl ([.ref a0, .int x1, .ref a2, .int x3]) ++ List.replicate (7 - (lg_sl ([.ref a0, .int x1, .ref a2, .int x3])).length) Slot.unset).toArray = ls at hl ⊢
  have hl : lv_has ls 7 [(0, .ref a0), (1, .int x1), (2, .ref a2), (3, .int x3)] := hl
  unfold fR_valueOfa at hf
  refine xloopK (σ := Nat × Int32 × Int32 × Int32 × Int32) (fun n x H locs ls => (x.1 = 1 ∧ fR_valueOfa_b f0 v1 v2 f3 v4 v5 n x.1 x.2.1 x.2.2.1 x.2.2.2.1 x.2.2.2.2 = some out ∧ va_P D xcl [(a0, .inr (2, [.ref a1, .int v1, .int v2])), (a1, .inl (cT 2, 4096, .inr (.inl f0))), (a2, .inr (2, [.ref a3, .int v4, .int v5])), (a3, .inl (cT 2, 4096, .inr (.inl f3)))] H ∧ va_D A [(a0, .inr (2, [.ref a1, .int v1, .int v2])), (a1, .inl (cT 2, 4096, .inr (.inl f0))), (a2, .inr (2, [.ref a3, .int v4, .int v5])), (a3, .inl (cT 2, 4096, .inr (.inl f3)))] ∧ va_S A s.heap H locs ∧ lv_has ls 7 [(5, .int x.2.1), (4, .int x.2.2.1), (0, .ref a0), (1, .int x.2.2.2.1), (2, .ref a2), (3, .int x.2.2.2.2)])) (fun x => 8) (fun x H locs ls h => by exact absurd h.2.1 (by rw [fR_valueOfa_b]; exact fun h => nomatch h)) (fun n ih x H locs ls hv => ?_) (fun key => ?_)
  · obtain ⟨lb, y5, y4, y1, y3⟩ := x
    rcases hv with ⟨hj, hf, hP, hD, hS, hl⟩
    subst hj
    have hf : fR_valueOfa_b f0 v1 v2 f3 v4 v5 (n + 1) 1 y5 y4 y1 y3 = some out := hf
    rw [fR_valueOfa_b] at hf
    obtain ⟨hP, hD⟩ : xPD D xcl A [(a0, .inr (2, [.ref a1, .int v1, .int v2])), (a1, .inl (cT 2, 4096, .inr (.inl f0))), (a2, .inr (2, [.ref a3, .int v4, .int v5])), (a3, .inl (cT 2, 4096, .inr (.inl f3)))] H := ⟨hP, hD⟩
    have hl : lv_has ls 7 [(5, .int y5), (4, .int y4), (0, .ref a0), (1, .int y1), (2, .ref a2), (3, .int y3)] := hl
    refine W.eq (g2 := F0 m 8 ls []) rfl ?_
    refine lv_iload hx hb dR_valueOf_8 (lv_at hl 0 rfl) ?_
    refine lv_aload_n hx hb dR_valueOf_10 rfl (lv_at hl 2 rfl) ?_
    refine lv_iload_n hx hb dR_valueOf_11 rfl (lv_at hl 3 rfl) ?_
    obtain ⟨o1, hq2, hf⟩ := xbind hf
    obtain ⟨hPc, hDc, hFc⟩ := xcut (wc := [(a0, .inr (2, [.ref a1, .int v1, .int v2])), (a1, .inl (cT 2, 4096, .inr (.inl f0)))]) hP hD hS hA [0, 1] rfl rfl (by decide)
    refine va_calli (va_runV (C := "ValueBench$Row") (As := [.int y1]) (rest := [.int y5]) ⟨hx, hb, hml, hown, htx⟩ (gR_length l hl9 D cT aK aV H.size n a0 a1 y1 f0 v1 v2 o1 hq2) ⟨callB_of 1 htx (xw_goodC kw_2_191) rfl rfl rfl (htx _ kw_1_4) (htx _ kw_2_188) ⟨by decide, by decide, by decide +kernel⟩ ⟨Nat.le_of_ble_eq_true rfl, Nat.le_of_ble_eq_true rfl⟩, (htx _ kw_2_189), (htx _ kw_2_190)⟩ ⟨xPre_blind, va_recv hK hP (ci := 2) rfl (q0 := 0) rfl, (fun U hU hW => ⟨rfl, xPre_of hZ hS hFc hPc hDc hK U hU hW⟩)⟩ rfl rfl hl.1 rfl (lv_room (Nat.le_of_ble_eq_true rfl)) dR_valueOf_12 ⟨Nat.le_of_ble_eq_true rfl, Nat.le_of_ble_eq_true rfl⟩) hS (fun q _ h => hFc q h) hFc (fun r3 u9 t H1 locs ht hvm hr9 hB hz1 hk1 hS => ?_)
    obtain ⟨hP1, hK1, hD1⟩ := hB
    rw [ht] at hP1
    obtain ⟨hP, hD⟩ := xjoin (W := [(a2, .inr (2, [.ref a3, .int v4, .int v5])), (a3, .inl (cT 2, 4096, .inr (.inl f3))), (a0, .inr (2, [.ref a1, .int v1, .int v2])), (a1, .inl (cT 2, 4096, .inr (.inl f0)))]) hP hD [0, 1] [2, 3] 2 rfl rfl (by decide) (by decide) hk1 hFc hP1 hD1
    generalize H1 = H at hP hS ⊢
    rw [hr9]
    refine W.eq (g2 := F0 m 15 ls [.int o1, .int y5]) rfl ?_
    refine lv_icmp_ge (tgt := 69) hx hb dR_valueOf_15 (by decide) (fun hc => ?_) (fun hc => ?_)
    · rw [if_pos hc] at hf
      refine lv_iconst (v := (-1)) hx hb dR_valueOf_69 (by decide) ?_
      obtain rfl := Option.some.inj hf
      obtain ⟨hP9, hD9⟩ := xsub (wc := [(a0, .inr (2, [.ref a1, .int v1, .int v2])), (a1, .inl (cT 2, 4096, .inr (.inl f0))), (a2, .inr (2, [.ref a3, .int v4, .int v5])), (a3, .inl (cT 2, 4096, .inr (.inl f3)))]) hP hD [2, 3, 0, 1] rfl rfl (by decide)
      exact W.iret (v := ((-1) : Int32)) hx hb hr (fun t ht hW => ⟨⟨((-1) : Int32), (), rfl, rfl, by rw [ht]; exact hP9, va_K.moved hW.alike hK, hD9⟩, hS.F ht⟩) hS.2.2 dR_valueOf_70
    · rw [if_neg hc] at hf
      refine lv_aload_n hx hb dR_valueOf_18 rfl (lv_at hl 2 rfl) ?_
      refine lv_iload hx hb dR_valueOf_19 (lv_at hl 1 rfl) ?_
      obtain ⟨o4, hq5, hf⟩ := xbind hf
      obtain ⟨hPc, hDc, hFc⟩ := xcut (wc := [(a0, .inr (2, [.ref a1, .int v1, .int v2])), (a1, .inl (cT 2, 4096, .inr (.inl f0)))]) hP hD hS hA [2, 3] rfl rfl (by decide)
      refine va_calli (va_runV (C := "ValueBench$Row") (As := [.int y4]) (rest := []) ⟨hx, hb, hml, hown, htx⟩ (gR_after l hl9 D cT aK aV H.size n a0 a1 y4 f0 v1 v2 o4 hq5) ⟨callB_of 1 htx (xw_goodC kw_2_196) rfl rfl rfl (htx _ kw_1_4) (htx _ kw_2_193) ⟨by decide, by decide, by decide +kernel⟩ ⟨Nat.le_of_ble_eq_true rfl, Nat.le_of_ble_eq_true rfl⟩, (htx _ kw_2_194), (htx _ kw_2_195)⟩ ⟨xPre_blind, va_recv hK hP (ci := 2) rfl (q0 := 2) rfl, (fun U hU hW => ⟨rfl, xPre_of hZ hS hFc hPc hDc hK U hU hW⟩)⟩ rfl rfl hl.1 rfl (lv_room (Nat.le_of_ble_eq_true rfl)) dR_valueOf_21 ⟨Nat.le_of_ble_eq_true rfl, Nat.le_of_ble_eq_true rfl⟩) hS (fun q _ h => hFc q h) hFc (fun r6 u9 t H1 locs ht hvm hr9 hB hz1 hk1 hS => ?_)
      obtain ⟨hP1, hK1, hD1⟩ := hB
      rw [ht] at hP1
      obtain ⟨hP, hD⟩ := xjoin (W := [(a2, .inr (2, [.ref a3, .int v4, .int v5])), (a3, .inl (cT 2, 4096, .inr (.inl f3))), (a0, .inr (2, [.ref a1, .int v1, .int v2])), (a1, .inl (cT 2, 4096, .inr (.inl f0)))]) hP hD [2, 3] [0, 1] 2 rfl rfl (by decide) (by decide) hk1 hFc hP1 hD1
      generalize H1 = H at hP hS ⊢
      rw [hr9]
      refine W.eq (g2 := F0 m 24 ls [.int o4]) rfl ?_
      refine lv_istore (lv' := [(6, .int o4), (5, .int y5), (4, .int y4), (0, .ref a0), (1, .int y1), (2, .ref a2), (3, .int y3)]) hx hb dR_valueOf_24 hl (by decide) rfl (fun ls hl => ?_)
      refine lv_aload_n hx hb dR_valueOf_26 rfl (lv_at hl 3 rfl) ?_
      refine lv_iload hx hb dR_valueOf_27 (lv_at hl 2 rfl) ?_
      obtain ⟨o7, hq8, hf⟩ := xbind hf
      obtain ⟨hPc, hDc, hFc⟩ := xcut (wc := [(a0, .inr (2, [.ref a1, .int v1, .int v2])), (a1, .inl (cT 2, 4096, .inr (.inl f0)))]) hP hD hS hA [2, 3] rfl rfl (by decide)
      refine va_calll (va_runV (C := "ValueBench$Row") (As := [.int y4]) (rest := []) ⟨hx, hb, hml, hown, htx⟩ (gR_cell l hl9 D cT aK aV H.size n a0 a1 y4 f0 v1 v2 o7 hq8) ⟨callB_of 1 htx (xw_goodC kw_2_202) rfl rfl rfl (htx _ kw_1_4) (htx _ kw_2_199) ⟨by decide, by decide, by decide +kernel⟩ ⟨Nat.le_of_ble_eq_true rfl, Nat.le_of_ble_eq_true rfl⟩, (htx _ kw_2_200), (htx _ kw_2_201)⟩ ⟨xPre_blind, va_recv hK hP (ci := 2) rfl (q0 := 2) rfl, (fun U hU hW => ⟨rfl, xPre_of hZ hS hFc hPc hDc hK U hU hW⟩)⟩ rfl rfl hl.1 rfl (lv_room (Nat.le_of_ble_eq_true rfl)) dR_valueOf_29 ⟨Nat.le_of_ble_eq_true rfl, Nat.le_of_ble_eq_true rfl⟩) hS (fun q _ h => hFc q h) hFc (fun r9 u9 t H1 locs ht hvm hr9 hB hz1 hk1 hS => ?_)
      obtain ⟨hP1, hK1, hD1⟩ := hB
      rw [ht] at hP1
      obtain ⟨hP, hD⟩ := xjoin (W := [(a2, .inr (2, [.ref a3, .int v4, .int v5])), (a3, .inl (cT 2, 4096, .inr (.inl f3))), (a0, .inr (2, [.ref a1, .int v1, .int v2])), (a1, .inl (cT 2, 4096, .inr (.inl f0)))]) hP hD [2, 3] [0, 1] 2 rfl rfl (by decide) (by decide) hk1 hFc hP1 hD1
      generalize H1 = H at hP hS ⊢
      rw [hr9]
      refine W.eq (g2 := F0 m 32 ls [.long o7]) rfl ?_
      refine lv_aload_n hx hb dR_valueOf_32 rfl (lv_at hl 5 rfl) ?_
      refine lv_iload_n hx hb dR_valueOf_33 rfl (lv_at hl 6 rfl) ?_
      obtain ⟨o10, hq11, hf⟩ := xbind hf
      obtain ⟨hPc, hDc, hFc⟩ := xcut (wc := [(a2, .inr (2, [.ref a3, .int v4, .int v5])), (a3, .inl (cT 2, 4096, .inr (.inl f3)))]) hP hD hS hA [0, 1] rfl rfl (by decide)
      refine va_calll (va_runV (C := "ValueBench$Row") (As := [.int y3]) (rest := [.long o7]) ⟨hx, hb, hml, hown, htx⟩ (gR_cell l hl9 D cT aK aV H.size n a2 a3 y3 f3 v4 v5 o10 hq11) ⟨callB_of 1 htx (xw_goodC kw_2_202) rfl rfl rfl (htx _ kw_1_4) (htx _ kw_2_199) ⟨by decide, by decide, by decide +kernel⟩ ⟨Nat.le_of_ble_eq_true rfl, Nat.le_of_ble_eq_true rfl⟩, (htx _ kw_2_200), (htx _ kw_2_201)⟩ ⟨xPre_blind, va_recv hK hP (ci := 2) rfl (q0 := 0) rfl, (fun U hU hW => ⟨rfl, xPre_of hZ hS hFc hPc hDc hK U hU hW⟩)⟩ rfl rfl hl.1 rfl (lv_room (Nat.le_of_ble_eq_true rfl)) dR_valueOf_34 ⟨Nat.le_of_ble_eq_true rfl, Nat.le_of_ble_eq_true rfl⟩) hS (fun q _ h => hFc q h) hFc (fun r12 u9 t H1 locs ht hvm hr9 hB hz1 hk1 hS => ?_)
      obtain ⟨hP1, hK1, hD1⟩ := hB
      rw [ht] at hP1
      obtain ⟨hP, hD⟩ := xjoin (W := [(a0, .inr (2, [.ref a1, .int v1, .int v2])), (a1, .inl (cT 2, 4096, .inr (.inl f0))), (a2, .inr (2, [.ref a3, .int v4, .int v5])), (a3, .inl (cT 2, 4096, .inr (.inl f3)))]) hP hD [0, 1] [2, 3] 2 rfl rfl (by decide) (by decide) hk1 hFc hP1 hD1
      generalize H1 = H at hP hS ⊢
      rw [hr9]
      refine W.eq (g2 := F0 m 37 ls [.long o10, .long o7]) rfl ?_
      refine W.lcmp hx hb dR_valueOf_37 ?_
      refine lv_if_ne (tgt := 55) hx hb dR_valueOf_38 (by decide) (fun hc => ?_) (fun hc => ?_)
      · rw [if_neg hc] at hf
        refine lv_aload_n hx hb dR_valueOf_55 rfl (lv_at hl 3 rfl) ?_
        refine lv_iload hx hb dR_valueOf_56 (lv_at hl 0 rfl) ?_
        obtain ⟨o13, hq14, hf⟩ := xbind hf
        obtain ⟨hPc, hDc, hFc⟩ := xcut (wc := [(a0, .inr (2, [.ref a1, .int v1, .int v2])), (a1, .inl (cT 2, 4096, .inr (.inl f0)))]) hP hD hS hA [0, 1] rfl rfl (by decide)
        refine va_calli (va_runV (C := "ValueBench$Row") (As := [.int o4]) (rest := []) ⟨hx, hb, hml, hown, htx⟩ (gR_after l hl9 D cT aK aV H.size n a0 a1 o4 f0 v1 v2 o13 hq14) ⟨callB_of 1 htx (xw_goodC kw_2_196) rfl rfl rfl (htx _ kw_1_4) (htx _ kw_2_193) ⟨by decide, by decide, by decide +kernel⟩ ⟨Nat.le_of_ble_eq_true rfl, Nat.le_of_ble_eq_true rfl⟩, (htx _ kw_2_194), (htx _ kw_2_195)⟩ ⟨xPre_blind, va_recv hK hP (ci := 2) rfl (q0 := 0) rfl, (fun U hU hW => ⟨rfl, xPre_of hZ hS hFc hPc hDc hK U hU hW⟩)⟩ rfl rfl hl.1 rfl (lv_room (Nat.le_of_ble_eq_true rfl)) dR_valueOf_58 ⟨Nat.le_of_ble_eq_true rfl, Nat.le_of_ble_eq_true rfl⟩) hS (fun q _ h => hFc q h) hFc (fun r15 u9 t H1 locs ht hvm hr9 hB hz1 hk1 hS => ?_)
        obtain ⟨hP1, hK1, hD1⟩ := hB
        rw [ht] at hP1
        obtain ⟨hP, hD⟩ := xjoin (W := [(a2, .inr (2, [.ref a3, .int v4, .int v5])), (a3, .inl (cT 2, 4096, .inr (.inl f3))), (a0, .inr (2, [.ref a1, .int v1, .int v2])), (a1, .inl (cT 2, 4096, .inr (.inl f0)))]) hP hD [0, 1] [2, 3] 2 rfl rfl (by decide) (by decide) hk1 hFc hP1 hD1
        generalize H1 = H at hP hS ⊢
        rw [hr9]
        refine W.eq (g2 := F0 m 61 ls [.int o13]) rfl ?_
        refine lv_istore (lv' := [(4, .int o13), (6, .int o4), (5, .int y5), (0, .ref a0), (1, .int y1), (2, .ref a2), (3, .int y3)]) hx hb dR_valueOf_61 hl (by decide) rfl (fun ls hl => ?_)
        refine lv_iinc (v := (y5 + 1)) (lv' := [(5, .int (y5 + 1)), (4, .int o13), (6, .int o4), (0, .ref a0), (1, .int y1), (2, .ref a2), (3, .int y3)]) hx hb dR_valueOf_63 hl (k := 2) rfl rfl (by decide) rfl (fun ls hl => ?_)
        refine lv_goto (tgt := 8) hx hb dR_valueOf_66 (by decide) ?_
        obtain ⟨hP9, hD9⟩ := xsub (wc := [(a0, .inr (2, [.ref a1, .int v1, .int v2])), (a1, .inl (cT 2, 4096, .inr (.inl f0))), (a2, .inr (2, [.ref a3, .int v4, .int v5])), (a3, .inl (cT 2, 4096, .inr (.inl f3)))]) hP hD [2, 3, 0, 1] rfl rfl (by decide)
        exact ih (1, (y5 + 1), o13, y1, y3) _ _ ls (⟨rfl, hf, hP9, hD9, hS, lv_sub hl [0, 1, 3, 4, 5, 6] rfl⟩)
      · rw [if_pos hc] at hf
        refine lv_aload_n hx hb dR_valueOf_41 rfl (lv_at hl 3 rfl) ?_
        refine lv_iload hx hb dR_valueOf_42 (lv_at hl 2 rfl) ?_
        refine lv_aload_n hx hb dR_valueOf_44 rfl (lv_at hl 5 rfl) ?_
        refine lv_iload_n hx hb dR_valueOf_45 rfl (lv_at hl 6 rfl) ?_
        obtain ⟨o13, hq14, hf⟩ := xbind hf
        obtain ⟨hPc, hDc, hFc⟩ := xcut (wc := [(a0, .inr (2, [.ref a1, .int v1, .int v2])), (a1, .inl (cT 2, 4096, .inr (.inl f0))), (a2, .inr (2, [.ref a3, .int v4, .int v5])), (a3, .inl (cT 2, 4096, .inr (.inl f3)))]) hP hD hS hA [0, 1, 2, 3] rfl rfl (by decide)
        refine va_calli (va_runV (C := "ValueBench$Row") (As := [.int y4, .ref a2, .int y3]) (rest := []) ⟨hx, hb, hml, hown, htx⟩ (gR_orderOfStringsa l hl9 D cT aK aV H.size n a0 a1 a2 a3 y4 y3 f0 v1 v2 f3 v4 v5 o13 hq14) ⟨callB_of 3 htx (xw_goodC kw_2_206) rfl rfl rfl (htx _ kw_1_4) (htx _ kw_2_203) ⟨by decide, by decide, by decide +kernel⟩ ⟨Nat.le_of_ble_eq_true rfl, Nat.le_of_ble_eq_true rfl⟩, (htx _ kw_2_204), (htx _ kw_2_205)⟩ ⟨xPre_blind, va_recv hK hP (ci := 2) rfl (q0 := 0) rfl, (fun U hU hW => ⟨rfl, xPre_of hZ hS hFc hPc hDc hK U hU hW⟩)⟩ rfl rfl hl.1 rfl (lv_room (Nat.le_of_ble_eq_true rfl)) dR_valueOf_46 ⟨Nat.le_of_ble_eq_true rfl, Nat.le_of_ble_eq_true rfl⟩) hS (fun q _ h => hFc q h) hFc (fun r15 u9 t H1 locs ht hvm hr9 hB hz1 hk1 hS => ?_)
        obtain ⟨hP1, hK1, hD1⟩ := hB
        rw [ht] at hP1
        obtain ⟨hP, hD⟩ := xjoin (W := [(a0, .inr (2, [.ref a1, .int v1, .int v2])), (a1, .inl (cT 2, 4096, .inr (.inl f0))), (a2, .inr (2, [.ref a3, .int v4, .int v5])), (a3, .inl (cT 2, 4096, .inr (.inl f3)))]) hP hD [0, 1, 2, 3] [] 0 rfl rfl (by decide) (by decide) hk1 hFc hP1 hD1
        generalize H1 = H at hP hS ⊢
        rw [hr9]
        refine W.eq (g2 := F0 m 49 ls [.int o13]) rfl ?_
        refine lv_if_ne (tgt := 55) hx hb dR_valueOf_49 (by decide) (fun hc => ?_) (fun hc => ?_)
        · rw [if_neg hc] at hf
          refine lv_aload_n hx hb dR_valueOf_55 rfl (lv_at hl 3 rfl) ?_
          refine lv_iload hx hb dR_valueOf_56 (lv_at hl 0 rfl) ?_
          obtain ⟨o16, hq17, hf⟩ := xbind hf
          obtain ⟨hPc, hDc, hFc⟩ := xcut (wc := [(a0, .inr (2, [.ref a1, .int v1, .int v2])), (a1, .inl (cT 2, 4096, .inr (.inl f0)))]) hP hD hS hA [0, 1] rfl rfl (by decide)
          refine va_calli (va_runV (C := "ValueBench$Row") (As := [.int o4]) (rest := []) ⟨hx, hb, hml, hown, htx⟩ (gR_after l hl9 D cT aK aV H.size n a0 a1 o4 f0 v1 v2 o16 hq17) ⟨callB_of 1 htx (xw_goodC kw_2_196) rfl rfl rfl (htx _ kw_1_4) (htx _ kw_2_193) ⟨by decide, by decide, by decide +kernel⟩ ⟨Nat.le_of_ble_eq_true rfl, Nat.le_of_ble_eq_true rfl⟩, (htx _ kw_2_194), (htx _ kw_2_195)⟩ ⟨xPre_blind, va_recv hK hP (ci := 2) rfl (q0 := 0) rfl, (fun U hU hW => ⟨rfl, xPre_of hZ hS hFc hPc hDc hK U hU hW⟩)⟩ rfl rfl hl.1 rfl (lv_room (Nat.le_of_ble_eq_true rfl)) dR_valueOf_58 ⟨Nat.le_of_ble_eq_true rfl, Nat.le_of_ble_eq_true rfl⟩) hS (fun q _ h => hFc q h) hFc (fun r18 u9 t H1 locs ht hvm hr9 hB hz1 hk1 hS => ?_)
          obtain ⟨hP1, hK1, hD1⟩ := hB
          rw [ht] at hP1
          obtain ⟨hP, hD⟩ := xjoin (W := [(a2, .inr (2, [.ref a3, .int v4, .int v5])), (a3, .inl (cT 2, 4096, .inr (.inl f3))), (a0, .inr (2, [.ref a1, .int v1, .int v2])), (a1, .inl (cT 2, 4096, .inr (.inl f0)))]) hP hD [0, 1] [2, 3] 2 rfl rfl (by decide) (by decide) hk1 hFc hP1 hD1
          generalize H1 = H at hP hS ⊢
          rw [hr9]
          refine W.eq (g2 := F0 m 61 ls [.int o16]) rfl ?_
          refine lv_istore (lv' := [(4, .int o16), (6, .int o4), (5, .int y5), (0, .ref a0), (1, .int y1), (2, .ref a2), (3, .int y3)]) hx hb dR_valueOf_61 hl (by decide) rfl (fun ls hl => ?_)
          refine lv_iinc (v := (y5 + 1)) (lv' := [(5, .int (y5 + 1)), (4, .int o16), (6, .int o4), (0, .ref a0), (1, .int y1), (2, .ref a2), (3, .int y3)]) hx hb dR_valueOf_63 hl (k := 2) rfl rfl (by decide) rfl (fun ls hl => ?_)
          refine lv_goto (tgt := 8) hx hb dR_valueOf_66 (by decide) ?_
          obtain ⟨hP9, hD9⟩ := xsub (wc := [(a0, .inr (2, [.ref a1, .int v1, .int v2])), (a1, .inl (cT 2, 4096, .inr (.inl f0))), (a2, .inr (2, [.ref a3, .int v4, .int v5])), (a3, .inl (cT 2, 4096, .inr (.inl f3)))]) hP hD [2, 3, 0, 1] rfl rfl (by decide)
          exact ih (1, (y5 + 1), o16, y1, y3) _ _ ls (⟨rfl, hf, hP9, hD9, hS, lv_sub hl [0, 1, 3, 4, 5, 6] rfl⟩)
        · rw [if_pos hc] at hf
          refine lv_iload hx hb dR_valueOf_52 (lv_at hl 0 rfl) ?_
          obtain rfl := Option.some.inj hf
          obtain ⟨hP9, hD9⟩ := xsub (wc := [(a0, .inr (2, [.ref a1, .int v1, .int v2])), (a1, .inl (cT 2, 4096, .inr (.inl f0))), (a2, .inr (2, [.ref a3, .int v4, .int v5])), (a3, .inl (cT 2, 4096, .inr (.inl f3)))]) hP hD [0, 1, 2, 3] rfl rfl (by decide)
          exact W.iret (v := o4) hx hb hr (fun t ht hW => ⟨⟨o4, (), rfl, rfl, by rw [ht]; exact hP9, va_K.moved hW.alike hK, hD9⟩, hS.F ht⟩) hS.2.2 dR_valueOf_54
  refine lv_iload_n hx hb dR_valueOf_0 rfl (lv_at hl 1 rfl) ?_
  refine lv_iconst (v := 1) hx hb dR_valueOf_1 (by decide) ?_
  refine lv_iadd hx hb dR_valueOf_2 ?_
  refine lv_istore (lv' := [(4, .int (x1 + (1 : Int32))), (0, .ref a0), (1, .int x1), (2, .ref a2), (3, .int x3)]) hx hb dR_valueOf_3 hl (by decide) rfl (fun ls hl => ?_)
  refine lv_iconst (v := 0) hx hb dR_valueOf_5 (by decide) ?_
  refine lv_istore (lv' := [(5, .int 0), (4, .int (x1 + (1 : Int32))), (0, .ref a0), (1, .int x1), (2, .ref a2), (3, .int x3)]) hx hb dR_valueOf_6 hl (by decide) rfl (fun ls hl => ?_)
  obtain ⟨hP9, hD9⟩ := xsub (wc := [(a0, .inr (2, [.ref a1, .int v1, .int v2])), (a1, .inl (cT 2, 4096, .inr (.inl f0))), (a2, .inr (2, [.ref a3, .int v4, .int v5])), (a3, .inl (cT 2, 4096, .inr (.inl f3)))]) hP hD [0, 1, 2, 3] rfl rfl (by decide)
  exact key n (1, 0, (x1 + (1 : Int32)), x1, x3) _ _ ls (⟨rfl, hf, hP9, hD9, hS, lv_sub hl [0, 1, 2, 3, 4, 5] rfl⟩)
set_option maxHeartbeats 400000000 in
set_option maxRecDepth 100000 in
theorem gT_add (l : Launch) (hl9 : l.stackTraces = false) (D : va_G) (cT : Nat → ClassId) (aK aV : Nat → Nat) (sz n : Nat) (a0 : Nat) (a1 : Nat) (x1 : Int32) (f0 : Nat → Int32) (v1 : Int32) (v2 : Int32) (out : (Nat → Int32) × Int32 × Int32) (hf : fT_add n x1 f0 v1 v2 = some out) : xMet l yT_add wyT_add 0 0 0 0 D cT aK aV sz [.ref a0, .int x1] [(a0, .inr (1, [.ref a1, .int v1, .int v2])), (a1, .inl (cT 0, 4096, .inl f0))] (fun A => va_Qv (fun _ : Unit => True) (fun _ t => xB D xcl cT A [(a0, .inr (1, [.ref a1, .int out.2.1, .int out.2.2])), (a1, .inl (cT 0, 4096, .inl out.1))] t) A) := by
  refine Met.ofW (cc := prog_11_method_8_code) (maxL := 2) (ret := none) (by decide) rfl ?_
  intro p e s m args below meth c s₁ B hml hv
  obtain ⟨rfl, hsz, hZ, hP, hK, hD0⟩ := hv
  have hx := B.exec
  have hb := B.bytes
  have hr := B.returns
  have hts := atoms_spec (ws := wyT_add) B.pre
  have htx := fun w h => hts w (List.mem_cons_of_mem _ h)
  have hown : s.vm.findClass "ValueBench$Text" = some m.cls := findClass_of_methodNamed B.named
  have hlocks := B.notSynchronized
  subst hsz
  have hD := hD0.self (sz := s.heap.size)
  generalize hAe : va_A [(a0, .inr (1, [.ref a1, .int v1, .int v2])), (a1, .inl (cT 0, 4096, .inl f0))] s.heap.size = A at hD hZ ⊢
  have hA : ∀ q : Nat, s.heap.size ≤ q → A q := fun q h => by rw [← hAe]; exact Or.inr h
  have hS : va_S A s.heap s.heap [] := va_S.rf
  have hP : va_P D xcl [(a0, .inr (1, [.ref a1, .int v1, .int v2])), (a1, .inl (cT 0, 4096, .inl f0))] s.heap := hP
  have hl := lv_entry ([.ref a0, .int x1]) (n := 2) (Nat.le_of_ble_eq_true rfl)
  rw [lg_entry_eq]
  generalize (lg_sl ([.ref a0, .int x1]) ++ List.replicate (2 - (lg_sl ([.ref a0, .int x1])).length) Slot.unset).toArray = ls at hl ⊢
  have hl : lv_has ls 2 [(0, .ref a0), (1, .int x1)] := hl
  unfold fT_add at hf
  refine lv_aload_n hx hb dT_add_0 rfl (lv_at hl 0 rfl) ?_
  refine va_get (D := D) (ci := 1) (v := .int v1) (C := "ValueBench$Text") (T := TT) (N := 3) hx hb htx inT hown hK hP 0 rfl rfl 1 (by decide) (htx _ kw_1_44) (fun _ h9 => h9) rfl dT_add_1 ?_
  refine lv_sipush (v := 4096) hx hb dT_add_4 (by decide) ?_
  refine lv_icmp_lt (tgt := 16) hx hb dT_add_7 (by decide) (fun hc => ?_) (fun hc => ?_)
  · rw [if_pos hc] at hf
    refine lv_aload_n hx hb dT_add_16 rfl (lv_at hl 0 rfl) ?_
    refine va_get (D := D) (ci := 1) (v := .ref a1) (C := "ValueBench$Text") (T := TT) (N := 3) hx hb htx inT hown hK hP 0 rfl rfl 0 (by decide) (htx _ kw_1_43) (fun _ h9 => h9) rfl dT_add_17 ?_
    refine lv_aload_n hx hb dT_add_20 rfl (lv_at hl 0 rfl) ?_
    refine va_get (D := D) (ci := 1) (v := .int v1) (C := "ValueBench$Text") (T := TT) (N := 3) hx hb htx inT hown hK hP 0 rfl rfl 1 (by decide) (htx _ kw_1_44) (fun _ h9 => h9) rfl dT_add_21 ?_
    refine lv_iload_n hx hb dT_add_24 rfl (lv_at hl 1 rfl) ?_
    refine lv_i2b hx hb dT_add_25 rfl ?_
    obtain ⟨hg1, hf⟩ := xifn hf
    refine va_bast hx hb hK hP hD hS 1 0 rfl rfl hg1 dT_add_26 (fun H locs hP hD hS => ?_)
    obtain ⟨hP, hD⟩ : xPD D xcl A [(a0, .inr (1, [.ref a1, .int v1, .int v2])), (a1, .inl (cT 0, 4096, .inl (upd f0 v1.toNatClampNeg (vp_nar .byte x1.toInt8.toInt32))))] H := ⟨hP, hD⟩
    refine lv_aload_n hx hb dT_add_27 rfl (lv_at hl 0 rfl) ?_
    refine lv_dup hx hb dT_add_28 rfl ?_
    refine va_get (D := D) (ci := 1) (v := .int v1) (C := "ValueBench$Text") (T := TT) (N := 3) hx hb htx inT hown hK hP 0 rfl rfl 1 (by decide) (htx _ kw_1_44) (fun _ h9 => h9) rfl dT_add_29 ?_
    refine lv_iconst (v := 1) hx hb dT_add_32 (by decide) ?_
    refine lv_iadd hx hb dT_add_33 ?_
    refine va_put (D := D) (ci := 1) (v := .int (v1 + (1 : Int32))) (ty := .int) (C := "ValueBench$Text") (T := TT) (N := 3) hx hb htx inT tyT tyT_ok nmT hown hK hP hD hS 0 rfl rfl 1 (by decide) (htx _ kw_1_44) (fun _ h9 => h9) rfl (by decide +kernel) rfl rfl (Nat.le_of_ble_eq_true rfl) dT_add_34 (fun H locs hP hD hS => ?_)
    obtain ⟨hP, hD⟩ : xPD D xcl A [(a0, .inr (1, [.ref a1, .int (v1 + (1 : Int32)), .int v2])), (a1, .inl (cT 0, 4096, .inl (upd f0 v1.toNatClampNeg (vp_nar .byte x1.toInt8.toInt32))))] H := ⟨hP, hD⟩
    obtain rfl := Option.some.inj hf
    obtain ⟨hP9, hD9⟩ := xsub (wc := [(a0, .inr (1, [.ref a1, .int (v1 + (1 : Int32)), .int v2])), (a1, .inl (cT 0, 4096, .inl (upd f0 v1.toNatClampNeg (vp_nar .byte x1.toInt8.toInt32))))]) hP hD [0, 1] rfl rfl (by decide)
    exact W.vret hx hb hr (fun t ht hW => ⟨⟨(), rfl, trivial, by rw [ht]; exact hP9, va_K.moved hW.alike hK, hD9⟩, hS.F ht⟩) hS.2.2 dT_add_37
  · rw [if_neg hc] at hf
    refine lv_aload_n hx hb dT_add_10 rfl (lv_at hl 0 rfl) ?_
    refine lv_iconst (v := 1) hx hb dT_add_11 (by decide) ?_
    refine va_put (D := D) (ci := 1) (v := .int 1) (ty := .boolean) (C := "ValueBench$Text") (T := TT) (N := 3) hx hb htx inT tyT tyT_ok nmT hown hK hP hD hS 0 rfl rfl 2 (by decide) (htx _ kw_1_45) (fun _ h9 => h9) rfl (by decide +kernel) rfl rfl (Nat.le_of_ble_eq_true rfl) dT_add_12 (fun H locs hP hD hS => ?_)
    obtain ⟨hP, hD⟩ : xPD D xcl A [(a0, .inr (1, [.ref a1, .int v1, .int 1])), (a1, .inl (cT 0, 4096, .inl f0))] H := ⟨hP, hD⟩
    obtain rfl := Option.some.inj hf
    obtain ⟨hP9, hD9⟩ := xsub (wc := [(a0, .inr (1, [.ref a1, .int v1, .int 1])), (a1, .inl (cT 0, 4096, .inl f0))]) hP hD [0, 1] rfl rfl (by decide)
    exact W.vret hx hb hr (fun t ht hW => ⟨⟨(), rfl, trivial, by rw [ht]; exact hP9, va_K.moved hW.alike hK, hD9⟩, hS.F ht⟩) hS.2.2 dT_add_15
set_option maxHeartbeats 400000000 in
set_option maxRecDepth 100000 in
theorem gT_addInt (l : Launch) (hl9 : l.stackTraces = false) (D : va_G) (cT : Nat → ClassId) (aK aV : Nat → Nat) (sz n : Nat) (a0 : Nat) (a1 : Nat) (x1 : Int32) (f0 : Nat → Int32) (v1 : Int32) (v2 : Int32) (out : (Nat → Int32) × Int32 × Int32) (hf : fT_addInt n x1 f0 v1 v2 = some out) : xMet l yT_addInt wyT_addInt 1 0 0 21 D cT aK aV sz [.ref a0, .int x1] [(a0, .inr (1, [.ref a1, .int v1, .int v2])), (a1, .inl (cT 0, 4096, .inl f0))] (fun A => va_Qv (fun _ : Unit => True) (fun _ t => xB D xcl cT A [(a0, .inr (1, [.ref a1, .int out.2.1, .int out.2.2])), (a1, .inl (cT 0, 4096, .inl out.1))] t) A) := by
  refine Met.ofW (cc := prog_11_method_9_code) (maxL := 3) (ret := none) (by decide) rfl ?_
  intro p e s m args below meth c s₁ B hml hv
  obtain ⟨rfl, hsz, hZ, hP, hK, hD0⟩ := hv
  have hx := B.exec
  have hb := B.bytes
  have hr := B.returns
  have hts := atoms_spec (ws := wyT_addInt) B.pre
  have htx := fun w h => hts w (List.mem_cons_of_mem _ h)
  have hown : s.vm.findClass "ValueBench$Text" = some m.cls := findClass_of_methodNamed B.named
  have hlocks := B.notSynchronized
  subst hsz
  have hD := hD0.self (sz := s.heap.size)
  generalize hAe : va_A [(a0, .inr (1, [.ref a1, .int v1, .int v2])), (a1, .inl (cT 0, 4096, .inl f0))] s.heap.size = A at hD hZ ⊢
  have hA : ∀ q : Nat, s.heap.size ≤ q → A q := fun q h => by rw [← hAe]; exact Or.inr h
  have hS : va_S A s.heap s.heap [] := va_S.rf
  have hP : va_P D xcl [(a0, .inr (1, [.ref a1, .int v1, .int v2])), (a1, .inl (cT 0, 4096, .inl f0))] s.heap := hP
  have hl := lv_entry ([.ref a0, .int x1]) (n := 3) (Nat.le_of_ble_eq_true rfl)
  rw [lg_entry_eq]
  generalize (lg_sl ([.ref a0, .int x1]) ++ List.replicate (3 - (lg_sl ([.ref a0, .int x1])).length) Slot.unset).toArray = ls at hl ⊢
  have hl : lv_has ls 3 [(0, .ref a0), (1, .int x1)] := hl
  unfold fT_addInt at hf
  refine xloopK (σ := Nat × Int32 × Int32 × (Nat → Int32) × Int32 × Int32) (fun n x H locs ls => (x.1 = 1 ∧ fT_addInt_b n x.1 x.2.1 x.2.2.1 x.2.2.2.1 x.2.2.2.2.1 x.2.2.2.2.2 = some out ∧ va_P D xcl [(a0, .inr (1, [.ref a1, .int x.2.2.2.2.1, .int x.2.2.2.2.2])), (a1, .inl (cT 0, 4096, .inl x.2.2.2.1))] H ∧ va_D A [(a0, .inr (1, [.ref a1, .int x.2.2.2.2.1, .int x.2.2.2.2.2])), (a1, .inl (cT 0, 4096, .inl x.2.2.2.1))] ∧ va_S A s.heap H locs ∧ lv_has ls 3 [(2, .int x.2.1), (0, .ref a0), (1, .int x.2.2.1)])) (fun x => 3) (fun x H locs ls h => by exact absurd h.2.1 (by rw [fT_addInt_b]; exact fun h => nomatch h)) (fun n ih x H locs ls hv => ?_) (fun key => ?_)
  · obtain ⟨lb, y2, y1, w0, w1, w2⟩ := x
    rcases hv with ⟨hj, hf, hP, hD, hS, hl⟩
    subst hj
    have hf : fT_addInt_b (n + 1) 1 y2 y1 w0 w1 w2 = some out := hf
    rw [fT_addInt_b] at hf
    obtain ⟨hP, hD⟩ : xPD D xcl A [(a0, .inr (1, [.ref a1, .int w1, .int w2])), (a1, .inl (cT 0, 4096, .inl w0))] H := ⟨hP, hD⟩
    have hl : lv_has ls 3 [(2, .int y2), (0, .ref a0), (1, .int y1)] := hl
    refine W.eq (g2 := F0 m 3 ls []) rfl ?_
    refine lv_iload_n hx hb dT_addInt_3 rfl (lv_at hl 0 rfl) ?_
    refine lv_if_lt (tgt := 20) hx hb dT_addInt_4 (by decide) (fun hc => ?_) (fun hc => ?_)
    · rw [if_pos hc] at hf
      obtain rfl := Option.some.inj hf
      obtain ⟨hP9, hD9⟩ := xsub (wc := [(a0, .inr (1, [.ref a1, .int w1, .int w2])), (a1, .inl (cT 0, 4096, .inl w0))]) hP hD [0, 1] rfl rfl (by decide)
      exact W.vret hx hb hr (fun t ht hW => ⟨⟨(), rfl, trivial, by rw [ht]; exact hP9, va_K.moved hW.alike hK, hD9⟩, hS.F ht⟩) hS.2.2 dT_addInt_20
    · rw [if_neg hc] at hf
      refine lv_aload_n hx hb dT_addInt_7 rfl (lv_at hl 1 rfl) ?_
      refine lv_iload_n hx hb dT_addInt_8 rfl (lv_at hl 2 rfl) ?_
      refine lv_iload_n hx hb dT_addInt_9 rfl (lv_at hl 0 rfl) ?_
      refine lv_ishr hx hb dT_addInt_10 ?_
      obtain ⟨o1, hq2, hf⟩ := xbind hf
      obtain ⟨hPc, hDc, hFc⟩ := xcut (wc := [(a0, .inr (1, [.ref a1, .int w1, .int w2])), (a1, .inl (cT 0, 4096, .inl w0))]) hP hD hS hA [0, 1] rfl rfl (by decide)
      refine va_callv (va_runV (C := "ValueBench$Text") (As := [.int (y1 >>> (y2 &&& 31))]) (rest := []) ⟨hx, hb, hml, hown, htx⟩ (gT_add l hl9 D cT aK aV H.size n a0 a1 (y1 >>> (y2 &&& 31)) w0 w1 w2 o1 hq2) ⟨callB_of 1 htx (xw_goodC kw_1_207) rfl rfl rfl (htx _ kw_1_2) (htx _ kw_1_204) ⟨by decide, by decide, by decide +kernel⟩ ⟨Nat.le_of_ble_eq_true rfl, Nat.le_of_ble_eq_true rfl⟩, (htx _ kw_1_205), (htx _ kw_1_206)⟩ ⟨xPre_blind, va_recv hK hP (ci := 1) rfl (q0 := 0) rfl, (fun U hU hW => ⟨rfl, xPre_of hZ hS hFc hPc hDc hK U hU hW⟩)⟩ rfl rfl hl.1 rfl (lv_room (Nat.le_of_ble_eq_true rfl)) dT_addInt_11 ⟨Nat.le_of_ble_eq_true rfl, Nat.le_of_ble_eq_true rfl⟩) hS (fun q _ h => hFc q h) hFc (fun u9 t H1 locs ht hvm hr9 hB hz1 hk1 hS => ?_)
      obtain ⟨hP1, hK1, hD1⟩ := hB
      rw [ht] at hP1
      obtain ⟨hP, hD⟩ := xjoin (W := [(a0, .inr (1, [.ref a1, .int o1.2.1, .int o1.2.2])), (a1, .inl (cT 0, 4096, .inl o1.1))]) hP hD [0, 1] [] 0 rfl rfl (by decide) (by decide) hk1 hFc hP1 hD1
      generalize H1 = H at hP hS ⊢
      refine lv_iinc (v := (y2 + (-8))) (lv' := [(2, .int (y2 + (-8))), (0, .ref a0), (1, .int y1)]) hx hb dT_addInt_14 hl (k := 0) rfl rfl (by decide) rfl (fun ls hl => ?_)
      refine lv_goto (tgt := 3) hx hb dT_addInt_17 (by decide) ?_
      obtain ⟨hP9, hD9⟩ := xsub (wc := [(a0, .inr (1, [.ref a1, .int o1.2.1, .int o1.2.2])), (a1, .inl (cT 0, 4096, .inl o1.1))]) hP hD [0, 1] rfl rfl (by decide)
      exact ih (1, (y2 + (-8)), y1, o1.1, o1.2.1, o1.2.2) _ _ ls (⟨rfl, hf, hP9, hD9, hS, lv_sub hl [0, 1, 2] rfl⟩)
  refine lv_bipush (v := 24) hx hb dT_addInt_0 (by decide) ?_
  refine lv_istore_n (lv' := [(2, .int 24), (0, .ref a0), (1, .int x1)]) hx hb dT_addInt_2 rfl hl (by decide) rfl (fun ls hl => ?_)
  obtain ⟨hP9, hD9⟩ := xsub (wc := [(a0, .inr (1, [.ref a1, .int v1, .int v2])), (a1, .inl (cT 0, 4096, .inl f0))]) hP hD [0, 1] rfl rfl (by decide)
  exact key n (1, 24, x1, f0, v1, v2) _ _ ls (⟨rfl, hf, hP9, hD9, hS, lv_sub hl [0, 1, 2] rfl⟩)
set_option maxHeartbeats 400000000 in
set_option maxRecDepth 100000 in
theorem gT_addNumber (l : Launch) (hl9 : l.stackTraces = false) (D : va_G) (cT : Nat → ClassId) (aK aV : Nat → Nat) (sz n : Nat) (a0 : Nat) (a1 : Nat) (x1 : Int64) (f0 : Nat → Int32) (v1 : Int32) (v2 : Int32) (out : (Nat → Int32) × Int32 × Int32) (hf : fT_addNumber n x1 f0 v1 v2 = some out) : xMet l yT_addNumber wyT_addNumber 1 0 0 40 D cT aK aV sz [.ref a0, .long x1] [(a0, .inr (1, [.ref a1, .int v1, .int v2])), (a1, .inl (cT 0, 4096, .inl f0))] (fun A => va_Qv (fun _ : Unit => True) (fun _ t => xB D xcl cT A [(a0, .inr (1, [.ref a1, .int out.2.1, .int out.2.2])), (a1, .inl (cT 0, 4096, .inl out.1))] t) A) := by
  refine Met.ofW (cc := prog_11_method_12_code) (maxL := 7) (ret := none) (by decide) rfl ?_
  intro p e s m args below meth c s₁ B hml hv
  obtain ⟨rfl, hsz, hZ, hP, hK, hD0⟩ := hv
  have hx := B.exec
  have hb := B.bytes
  have hr := B.returns
  have hts := atoms_spec (ws := wyT_addNumber) B.pre
  have htx := fun w h => hts w (List.mem_cons_of_mem _ h)
  have hown : s.vm.findClass "ValueBench$Text" = some m.cls := findClass_of_methodNamed B.named
  have hlocks := B.notSynchronized
  subst hsz
  have hD := hD0.self (sz := s.heap.size)
  generalize hAe : va_A [(a0, .inr (1, [.ref a1, .int v1, .int v2])), (a1, .inl (cT 0, 4096, .inl f0))] s.heap.size = A at hD hZ ⊢
  have hA : ∀ q : Nat, s.heap.size ≤ q → A q := fun q h => by rw [← hAe]; exact Or.inr h
  have hS : va_S A s.heap s.heap [] := va_S.rf
  have hP : va_P D xcl [(a0, .inr (1, [.ref a1, .int v1, .int v2])), (a1, .inl (cT 0, 4096, .inl f0))] s.heap := hP
  have hl := lv_entry ([.ref a0, .long x1]) (n := 7) (Nat.le_of_ble_eq_true rfl)
  rw [lg_entry_eq]
  generalize (lg_sl ([.ref a0, .long x1]) ++ List.replicate (7 - (lg_sl ([.ref a0, .long x1])).length) Slot.unset).toArray = ls at hl ⊢
  have hl : lv_has ls 7 [(0, .ref a0), (1, .long x1)] := hl
  unfold fT_addNumber at hf
  refine xloopK (σ := Nat × Int64 × Int64 × Int64 × (Nat → Int32) × Int32 × Int32) (fun n x H locs ls => (x.1 = 1 ∧ fT_addNumber_b n x.1 x.2.1 x.2.2.1 x.2.2.2.1 x.2.2.2.2.1 x.2.2.2.2.2.1 x.2.2.2.2.2.2 = some out ∧ va_P D xcl [(a0, .inr (1, [.ref a1, .int x.2.2.2.2.2.1, .int x.2.2.2.2.2.2])), (a1, .inl (cT 0, 4096, .inl x.2.2.2.2.1))] H ∧ va_D A [(a0, .inr (1, [.ref a1, .int x.2.2.2.2.2.1, .int x.2.2.2.2.2.2])), (a1, .inl (cT 0, 4096, .inl x.2.2.2.2.1))] ∧ va_S A s.heap H locs ∧ lv_has ls 7 [(5, .long x.2.1), (3, .long x.2.2.1), (0, .ref a0), (1, .long x.2.2.2.1)]) ∨ (x.1 = 2 ∧ fT_addNumber_b n x.1 x.2.1 x.2.2.1 x.2.2.2.1 x.2.2.2.2.1 x.2.2.2.2.2.1 x.2.2.2.2.2.2 = some out ∧ va_P D xcl [(a0, .inr (1, [.ref a1, .int x.2.2.2.2.2.1, .int x.2.2.2.2.2.2])), (a1, .inl (cT 0, 4096, .inl x.2.2.2.2.1))] H ∧ va_D A [(a0, .inr (1, [.ref a1, .int x.2.2.2.2.2.1, .int x.2.2.2.2.2.2])), (a1, .inl (cT 0, 4096, .inl x.2.2.2.2.1))] ∧ va_S A s.heap H locs ∧ lv_has ls 7 [(5, .long x.2.1), (3, .long x.2.2.1), (0, .ref a0), (1, .long x.2.2.2.1)])) (fun x => if x.1 = 1 then 20 else 51) (fun x H locs ls h => by rcases h with h | h <;> exact absurd h.2.1 (by rw [fT_addNumber_b]; exact fun h => nomatch h)) (fun n ih x H locs ls hv => ?_) (fun key => ?_)
  · obtain ⟨lb, y5, y3, y1, w0, w1, w2⟩ := x
    rcases hv with ⟨hj, hf, hP, hD, hS, hl⟩ | ⟨hj, hf, hP, hD, hS, hl⟩
    · subst hj
      have hf : fT_addNumber_b (n + 1) 1 y5 y3 y1 w0 w1 w2 = some out := hf
      rw [fT_addNumber_b, if_pos rfl] at hf
      obtain ⟨hP, hD⟩ : xPD D xcl A [(a0, .inr (1, [.ref a1, .int w1, .int w2])), (a1, .inl (cT 0, 4096, .inl w0))] H := ⟨hP, hD⟩
      have hl : lv_has ls 7 [(5, .long y5), (3, .long y3), (0, .ref a0), (1, .long y1)] := hl
      refine W.eq (g2 := F0 m 20 ls []) rfl ?_
      refine lv_lload hx hb dT_addNumber_20 (lv_at hl 0 rfl) ?_
      refine lv_ldc2 hx hb hown (htx _ kw_3_45) dT_addNumber_22 ?_
      refine W.lcmp hx hb dT_addNumber_25 ?_
      refine lv_if_gt (tgt := 51) hx hb dT_addNumber_26 (by decide) (fun hc => ?_) (fun hc => ?_)
      · rw [if_pos hc] at hf
        obtain ⟨hP9, hD9⟩ := xsub (wc := [(a0, .inr (1, [.ref a1, .int w1, .int w2])), (a1, .inl (cT 0, 4096, .inl w0))]) hP hD [0, 1] rfl rfl (by decide)
        exact ih (2, y5, y3, y1, w0, w1, w2) _ _ ls (Or.inr (⟨rfl, hf, hP9, hD9, hS, lv_sub hl [0, 1, 2, 3] rfl⟩))
      · rw [if_neg hc] at hf
        refine lv_lload_n hx hb dT_addNumber_29 rfl (lv_at hl 1 rfl) ?_
        refine lv_lload hx hb dT_addNumber_30 (lv_at hl 0 rfl) ?_
        obtain ⟨hg1, hf⟩ := xifn hf
        refine lv_ldiv hx hb dT_addNumber_32 hg1 ?_
        refine lv_ldc2 hx hb hown (htx _ kw_3_46) dT_addNumber_33 ?_
        refine W.lcmp hx hb dT_addNumber_36 ?_
        refine lv_if_lt (tgt := 51) hx hb dT_addNumber_37 (by decide) (fun hc => ?_) (fun hc => ?_)
        · rw [if_pos hc] at hf
          obtain ⟨hP9, hD9⟩ := xsub (wc := [(a0, .inr (1, [.ref a1, .int w1, .int w2])), (a1, .inl (cT 0, 4096, .inl w0))]) hP hD [0, 1] rfl rfl (by decide)
          exact ih (2, y5, y3, y1, w0, w1, w2) _ _ ls (Or.inr (⟨rfl, hf, hP9, hD9, hS, lv_sub hl [0, 1, 2, 3] rfl⟩))
        · rw [if_neg hc] at hf
          refine lv_lload hx hb dT_addNumber_40 (lv_at hl 0 rfl) ?_
          refine lv_ldc2 hx hb hown (htx _ kw_3_46) dT_addNumber_42 ?_
          refine lv_lmul hx hb dT_addNumber_45 ?_
          refine lv_lstore (lv' := [(5, .long (y5 * (10 : Int64))), (3, .long y3), (0, .ref a0), (1, .long y1)]) hx hb dT_addNumber_46 hl (by decide) rfl (fun ls hl => ?_)
          refine lv_goto (tgt := 20) hx hb dT_addNumber_48 (by decide) ?_
          obtain ⟨hP9, hD9⟩ := xsub (wc := [(a0, .inr (1, [.ref a1, .int w1, .int w2])), (a1, .inl (cT 0, 4096, .inl w0))]) hP hD [0, 1] rfl rfl (by decide)
          exact ih (1, (y5 * (10 : Int64)), y3, y1, w0, w1, w2) _ _ ls (Or.inl ⟨rfl, hf, hP9, hD9, hS, lv_sub hl [0, 1, 2, 3] rfl⟩)
    · subst hj
      have hf : fT_addNumber_b (n + 1) 2 y5 y3 y1 w0 w1 w2 = some out := hf
      rw [fT_addNumber_b, if_neg (by decide)] at hf
      obtain ⟨hP, hD⟩ : xPD D xcl A [(a0, .inr (1, [.ref a1, .int w1, .int w2])), (a1, .inl (cT 0, 4096, .inl w0))] H := ⟨hP, hD⟩
      have hl : lv_has ls 7 [(5, .long y5), (3, .long y3), (0, .ref a0), (1, .long y1)] := hl
      refine W.eq (g2 := F0 m 51 ls []) rfl ?_
      refine lv_lload hx hb dT_addNumber_51 (lv_at hl 0 rfl) ?_
      refine lv_lconst (v := 0) hx hb dT_addNumber_53 (by decide) ?_
      refine W.lcmp hx hb dT_addNumber_54 ?_
      refine lv_if_le (tgt := 86) hx hb dT_addNumber_55 (by decide) (fun hc => ?_) (fun hc => ?_)
      · rw [if_pos hc] at hf
        obtain rfl := Option.some.inj hf
        obtain ⟨hP9, hD9⟩ := xsub (wc := [(a0, .inr (1, [.ref a1, .int w1, .int w2])), (a1, .inl (cT 0, 4096, .inl w0))]) hP hD [0, 1] rfl rfl (by decide)
        exact W.vret hx hb hr (fun t ht hW => ⟨⟨(), rfl, trivial, by rw [ht]; exact hP9, va_K.moved hW.alike hK, hD9⟩, hS.F ht⟩) hS.2.2 dT_addNumber_86
      · rw [if_neg hc] at hf
        refine lv_aload_n hx hb dT_addNumber_58 rfl (lv_at hl 2 rfl) ?_
        refine lv_ldc2 hx hb hown (htx _ kw_3_47) dT_addNumber_59 ?_
        refine lv_lload_n hx hb dT_addNumber_62 rfl (lv_at hl 1 rfl) ?_
        refine lv_lload hx hb dT_addNumber_63 (lv_at hl 0 rfl) ?_
        obtain ⟨hg1, hf⟩ := xifn hf
        refine lv_ldiv hx hb dT_addNumber_65 hg1 ?_
        refine lv_ldc2 hx hb hown (htx _ kw_3_46) dT_addNumber_66 ?_
        refine lv_lrem hx hb dT_addNumber_69 (by decide) ?_
        refine lv_ladd hx hb dT_addNumber_70 ?_
        refine lv_l2i hx hb dT_addNumber_71 rfl ?_
        obtain ⟨o2, hq3, hf⟩ := xbind hf
        obtain ⟨hPc, hDc, hFc⟩ := xcut (wc := [(a0, .inr (1, [.ref a1, .int w1, .int w2])), (a1, .inl (cT 0, 4096, .inl w0))]) hP hD hS hA [0, 1] rfl rfl (by decide)
        refine va_callv (va_runV (C := "ValueBench$Text") (As := [.int ((48 : Int64) + ((y3 / y5) - (y3 / y5) / (10 : Int64) * (10 : Int64))).toInt32]) (rest := []) ⟨hx, hb, hml, hown, htx⟩ (gT_add l hl9 D cT aK aV H.size n a0 a1 (((48 : Int64) + ((y3 / y5) - (y3 / y5) / (10 : Int64) * (10 : Int64))).toInt32) w0 w1 w2 o2 hq3) ⟨callB_of 1 htx (xw_goodC kw_1_207) rfl rfl rfl (htx _ kw_1_2) (htx _ kw_1_204) ⟨by decide, by decide, by decide +kernel⟩ ⟨Nat.le_of_ble_eq_true rfl, Nat.le_of_ble_eq_true rfl⟩, (htx _ kw_1_205), (htx _ kw_1_206)⟩ ⟨xPre_blind, va_recv hK hP (ci := 1) rfl (q0 := 0) rfl, (fun U hU hW => ⟨rfl, xPre_of hZ hS hFc hPc hDc hK U hU hW⟩)⟩ rfl rfl hl.1 rfl (lv_room (Nat.le_of_ble_eq_true rfl)) dT_addNumber_72 ⟨Nat.le_of_ble_eq_true rfl, Nat.le_of_ble_eq_true rfl⟩) hS (fun q _ h => hFc q h) hFc (fun u9 t H1 locs ht hvm hr9 hB hz1 hk1 hS => ?_)
        obtain ⟨hP1, hK1, hD1⟩ := hB
        rw [ht] at hP1
        obtain ⟨hP, hD⟩ := xjoin (W := [(a0, .inr (1, [.ref a1, .int o2.2.1, .int o2.2.2])), (a1, .inl (cT 0, 4096, .inl o2.1))]) hP hD [0, 1] [] 0 rfl rfl (by decide) (by decide) hk1 hFc hP1 hD1
        generalize H1 = H at hP hS ⊢
        refine lv_lload hx hb dT_addNumber_75 (lv_at hl 0 rfl) ?_
        refine lv_ldc2 hx hb hown (htx _ kw_3_46) dT_addNumber_77 ?_
        refine lv_ldiv hx hb dT_addNumber_80 (by decide) ?_
        refine lv_lstore (lv' := [(5, .long (y5 / (10 : Int64))), (3, .long y3), (0, .ref a0), (1, .long y1)]) hx hb dT_addNumber_81 hl (by decide) rfl (fun ls hl => ?_)
        refine lv_goto (tgt := 51) hx hb dT_addNumber_83 (by decide) ?_
        obtain ⟨hP9, hD9⟩ := xsub (wc := [(a0, .inr (1, [.ref a1, .int o2.2.1, .int o2.2.2])), (a1, .inl (cT 0, 4096, .inl o2.1))]) hP hD [0, 1] rfl rfl (by decide)
        exact ih (2, (y5 / (10 : Int64)), y3, y1, o2.1, o2.2.1, o2.2.2) _ _ ls (Or.inr (⟨rfl, hf, hP9, hD9, hS, lv_sub hl [0, 1, 2, 3] rfl⟩))
  refine lv_lload_n hx hb dT_addNumber_0 rfl (lv_at hl 1 rfl) ?_
  refine lv_lconst (v := 0) hx hb dT_addNumber_1 (by decide) ?_
  refine W.lcmp hx hb dT_addNumber_2 ?_
  refine lv_if_ge (tgt := 12) hx hb dT_addNumber_3 (by decide) (fun hc => ?_) (fun hc => ?_)
  · rw [if_pos hc] at hf
    refine lv_lload_n hx hb dT_addNumber_12 rfl (lv_at hl 1 rfl) ?_
    refine va_mabs_long hx hb (hml.trans hl.1.symm) hown (htx _ kw_3_42) (htx _ kw_3_43) (htx _ kw_1_15) (htx _ kw_3_44) (Nat.le_of_ble_eq_true rfl) (Nat.le_of_ble_eq_true rfl) (Nat.le_of_ble_eq_true rfl) (Nat.le_of_ble_eq_true rfl) dT_addNumber_13 ?_
    refine W.eq (g2 := F0 m 16 ls [.long (if 0 < x1 then x1 else -x1)]) rfl ?_
    refine lv_lstore_n (lv' := [(3, .long (if 0 < x1 then x1 else -x1)), (0, .ref a0), (1, .long x1)]) hx hb dT_addNumber_16 rfl hl (by decide) rfl (fun ls hl => ?_)
    refine lv_lconst (v := 1) hx hb dT_addNumber_17 (by decide) ?_
    refine lv_lstore (lv' := [(5, .long 1), (3, .long (if 0 < x1 then x1 else -x1)), (0, .ref a0), (1, .long x1)]) hx hb dT_addNumber_18 hl (by decide) rfl (fun ls hl => ?_)
    obtain ⟨hP9, hD9⟩ := xsub (wc := [(a0, .inr (1, [.ref a1, .int v1, .int v2])), (a1, .inl (cT 0, 4096, .inl f0))]) hP hD [0, 1] rfl rfl (by decide)
    exact key n (1, 1, (if 0 < x1 then x1 else -x1), x1, f0, v1, v2) _ _ ls (Or.inl ⟨rfl, hf, hP9, hD9, hS, lv_sub hl [0, 1, 2, 3] rfl⟩)
  · rw [if_neg hc] at hf
    refine lv_aload_n hx hb dT_addNumber_6 rfl (lv_at hl 0 rfl) ?_
    refine lv_bipush (v := 45) hx hb dT_addNumber_7 (by decide) ?_
    obtain ⟨o1, hq2, hf⟩ := xbind hf
    obtain ⟨hPc, hDc, hFc⟩ := xcut (wc := [(a0, .inr (1, [.ref a1, .int v1, .int v2])), (a1, .inl (cT 0, 4096, .inl f0))]) hP hD hS hA [0, 1] rfl rfl (by decide)
    refine va_callv (va_runV (C := "ValueBench$Text") (As := [.int 45]) (rest := []) ⟨hx, hb, hml, hown, htx⟩ (gT_add l hl9 D cT aK aV s.heap.size n a0 a1 (45 : Int32) f0 v1 v2 o1 hq2) ⟨callB_of 1 htx (xw_goodC kw_1_207) rfl rfl rfl (htx _ kw_1_2) (htx _ kw_1_204) ⟨by decide, by decide, by decide +kernel⟩ ⟨Nat.le_of_ble_eq_true rfl, Nat.le_of_ble_eq_true rfl⟩, (htx _ kw_1_205), (htx _ kw_1_206)⟩ ⟨xPre_blind, va_recv hK hP (ci := 1) rfl (q0 := 0) rfl, (fun U hU hW => ⟨rfl, xPre_of hZ hS hFc hPc hDc hK U hU hW⟩)⟩ rfl rfl hl.1 rfl (lv_room (Nat.le_of_ble_eq_true rfl)) dT_addNumber_9 ⟨Nat.le_of_ble_eq_true rfl, Nat.le_of_ble_eq_true rfl⟩) hS (fun q _ h => hFc q h) hFc (fun u9 t H1 locs ht hvm hr9 hB hz1 hk1 hS => ?_)
    obtain ⟨hP1, hK1, hD1⟩ := hB
    rw [ht] at hP1
    obtain ⟨hP, hD⟩ := xjoin (W := [(a0, .inr (1, [.ref a1, .int o1.2.1, .int o1.2.2])), (a1, .inl (cT 0, 4096, .inl o1.1))]) hP hD [0, 1] [] 0 rfl rfl (by decide) (by decide) hk1 hFc hP1 hD1
    generalize H1 = H at hP hS ⊢
    refine lv_lload_n hx hb dT_addNumber_12 rfl (lv_at hl 1 rfl) ?_
    refine va_mabs_long hx hb (hml.trans hl.1.symm) hown (htx _ kw_3_42) (htx _ kw_3_43) (htx _ kw_1_15) (htx _ kw_3_44) (Nat.le_of_ble_eq_true rfl) (Nat.le_of_ble_eq_true rfl) (Nat.le_of_ble_eq_true rfl) (Nat.le_of_ble_eq_true rfl) dT_addNumber_13 ?_
    refine W.eq (g2 := F0 m 16 ls [.long (if 0 < x1 then x1 else -x1)]) rfl ?_
    refine lv_lstore_n (lv' := [(3, .long (if 0 < x1 then x1 else -x1)), (0, .ref a0), (1, .long x1)]) hx hb dT_addNumber_16 rfl hl (by decide) rfl (fun ls hl => ?_)
    refine lv_lconst (v := 1) hx hb dT_addNumber_17 (by decide) ?_
    refine lv_lstore (lv' := [(5, .long 1), (3, .long (if 0 < x1 then x1 else -x1)), (0, .ref a0), (1, .long x1)]) hx hb dT_addNumber_18 hl (by decide) rfl (fun ls hl => ?_)
    obtain ⟨hP9, hD9⟩ := xsub (wc := [(a0, .inr (1, [.ref a1, .int o1.2.1, .int o1.2.2])), (a1, .inl (cT 0, 4096, .inl o1.1))]) hP hD [0, 1] rfl rfl (by decide)
    exact key n (1, 1, (if 0 < x1 then x1 else -x1), x1, o1.1, o1.2.1, o1.2.2) _ _ ls (Or.inl ⟨rfl, hf, hP9, hD9, hS, lv_sub hl [0, 1, 2, 3] rfl⟩)
set_option maxHeartbeats 400000000 in
set_option maxRecDepth 100000 in
theorem gT_addString (l : Launch) (hl9 : l.stackTraces = false) (D : va_G) (cT : Nat → ClassId) (aK aV : Nat → Nat) (sz n : Nat) (a0 : Nat) (a1 : Nat) (a2 : Nat) (a3 : Nat) (x2 : Int32) (f0 : Nat → Int32) (v1 : Int32) (v2 : Int32) (f3 : Nat → Int64) (v4 : Int32) (v5 : Int32) (out : (Nat → Int32) × Int32 × Int32) (hf : fT_addString n x2 f0 v1 v2 f3 v4 v5 = some out) : xMet l yT_addString wyT_addString 1 0 0 23 D cT aK aV sz [.ref a0, .ref a2, .int x2] [(a0, .inr (1, [.ref a1, .int v1, .int v2])), (a1, .inl (cT 0, 4096, .inl f0)), (a2, .inr (2, [.ref a3, .int v4, .int v5])), (a3, .inl (cT 2, 4096, .inr (.inl f3)))] (fun A => va_Qv (fun _ : Unit => True) (fun _ t => xB D xcl cT A [(a0, .inr (1, [.ref a1, .int out.2.1, .int out.2.2])), (a1, .inl (cT 0, 4096, .inl out.1)), (a2, .inr (2, [.ref a3, .int v4, .int v5])), (a3, .inl (cT 2, 4096, .inr (.inl f3)))] t) A) := by
  refine Met.ofW (cc := prog_11_method_11_code) (maxL := 4) (ret := none) (by decide) rfl ?_
  intro p e s m args below meth c s₁ B hml hv
  obtain ⟨rfl, hsz, hZ, hP, hK, hD0⟩ := hv
  have hx := B.exec
  have hb := B.bytes
  have hr := B.returns
  have hts := atoms_spec (ws := wyT_addString) B.pre
  have htx := fun w h => hts w (List.mem_cons_of_mem _ h)
  have hown : s.vm.findClass "ValueBench$Text" = some m.cls := findClass_of_methodNamed B.named
  have hlocks := B.notSynchronized
  subst hsz
  have hD := hD0.self (sz := s.heap.size)
  generalize hAe : va_A [(a0, .inr (1, [.ref a1, .int v1, .int v2])), (a1, .inl (cT 0, 4096, .inl f0)), (a2, .inr (2, [.ref a3, .int v4, .int v5])), (a3, .inl (cT 2, 4096, .inr (.inl f3)))] s.heap.size = A at hD hZ ⊢
  have hA : ∀ q : Nat, s.heap.size ≤ q → A q := fun q h => by rw [← hAe]; exact Or.inr h
  have hS : va_S A s.heap s.heap [] := va_S.rf
  have hP : va_P D xcl [(a0, .inr (1, [.ref a1, .int v1, .int v2])), (a1, .inl (cT 0, 4096, .inl f0)), (a2, .inr (2, [.ref a3, .int v4, .int v5])), (a3, .inl (cT 2, 4096, .inr (.inl f3)))] s.heap := hP
  have hl := lv_entry ([.ref a0, .ref a2, .int x2]) (n := 4) (Nat.le_of_ble_eq_true rfl)
  rw [lg_entry_eq]
  generalize (lg_sl ([.ref a0, .ref a2, .int x2]) ++ List.replicate (4 - (lg_sl ([.ref a0, .ref a2, .int x2])).length) Slot.unset).toArray = ls at hl ⊢
  have hl : lv_has ls 4 [(0, .ref a0), (1, .ref a2), (2, .int x2)] := hl
  unfold fT_addString at hf
  refine xloopK (σ := Nat × Int32 × Int32 × (Nat → Int32) × Int32 × Int32) (fun n x H locs ls => (x.1 = 1 ∧ fT_addString_b f3 v4 v5 n x.1 x.2.1 x.2.2.1 x.2.2.2.1 x.2.2.2.2.1 x.2.2.2.2.2 = some out ∧ va_P D xcl [(a0, .inr (1, [.ref a1, .int x.2.2.2.2.1, .int x.2.2.2.2.2])), (a1, .inl (cT 0, 4096, .inl x.2.2.2.1)), (a2, .inr (2, [.ref a3, .int v4, .int v5])), (a3, .inl (cT 2, 4096, .inr (.inl f3)))] H ∧ va_D A [(a0, .inr (1, [.ref a1, .int x.2.2.2.2.1, .int x.2.2.2.2.2])), (a1, .inl (cT 0, 4096, .inl x.2.2.2.1)), (a2, .inr (2, [.ref a3, .int v4, .int v5])), (a3, .inl (cT 2, 4096, .inr (.inl f3)))] ∧ va_S A s.heap H locs ∧ lv_has ls 4 [(3, .int x.2.1), (0, .ref a0), (1, .ref a2), (2, .int x.2.2.1)])) (fun x => 2) (fun x H locs ls h => by exact absurd h.2.1 (by rw [fT_addString_b]; exact fun h => nomatch h)) (fun n ih x H locs ls hv => ?_) (fun key => ?_)
  · obtain ⟨lb, y3, y2, w0, w1, w2⟩ := x
    rcases hv with ⟨hj, hf, hP, hD, hS, hl⟩
    subst hj
    have hf : fT_addString_b f3 v4 v5 (n + 1) 1 y3 y2 w0 w1 w2 = some out := hf
    rw [fT_addString_b] at hf
    obtain ⟨hP, hD⟩ : xPD D xcl A [(a0, .inr (1, [.ref a1, .int w1, .int w2])), (a1, .inl (cT 0, 4096, .inl w0)), (a2, .inr (2, [.ref a3, .int v4, .int v5])), (a3, .inl (cT 2, 4096, .inr (.inl f3)))] H := ⟨hP, hD⟩
    have hl : lv_has ls 4 [(3, .int y3), (0, .ref a0), (1, .ref a2), (2, .int y2)] := hl
    refine W.eq (g2 := F0 m 2 ls []) rfl ?_
    refine lv_iload_n hx hb dT_addString_2 rfl (lv_at hl 0 rfl) ?_
    refine lv_aload_n hx hb dT_addString_3 rfl (lv_at hl 2 rfl) ?_
    refine lv_iload_n hx hb dT_addString_4 rfl (lv_at hl 3 rfl) ?_
    obtain ⟨o1, hq2, hf⟩ := xbind hf
    obtain ⟨hPc, hDc, hFc⟩ := xcut (wc := [(a2, .inr (2, [.ref a3, .int v4, .int v5])), (a3, .inl (cT 2, 4096, .inr (.inl f3)))]) hP hD hS hA [2, 3] rfl rfl (by decide)
    refine va_calli (va_runV (C := "ValueBench$Row") (As := [.int y2]) (rest := [.int y3]) ⟨hx, hb, hml, hown, htx⟩ (gR_length l hl9 D cT aK aV H.size n a2 a3 y2 f3 v4 v5 o1 hq2) ⟨callB_of 1 htx (xw_goodC kw_2_191) rfl rfl rfl (htx _ kw_1_4) (htx _ kw_4_100) ⟨by decide, by decide, by decide +kernel⟩ ⟨Nat.le_of_ble_eq_true rfl, Nat.le_of_ble_eq_true rfl⟩, (htx _ kw_2_189), (htx _ kw_2_190)⟩ ⟨xPre_blind, va_recv hK hP (ci := 2) rfl (q0 := 2) rfl, (fun U hU hW => ⟨rfl, xPre_of hZ hS hFc hPc hDc hK U hU hW⟩)⟩ rfl rfl hl.1 rfl (lv_room (Nat.le_of_ble_eq_true rfl)) dT_addString_5 ⟨Nat.le_of_ble_eq_true rfl, Nat.le_of_ble_eq_true rfl⟩) hS (fun q _ h => hFc q h) hFc (fun r3 u9 t H1 locs ht hvm hr9 hB hz1 hk1 hS => ?_)
    obtain ⟨hP1, hK1, hD1⟩ := hB
    rw [ht] at hP1
    obtain ⟨hP, hD⟩ := xjoin (W := [(a0, .inr (1, [.ref a1, .int w1, .int w2])), (a1, .inl (cT 0, 4096, .inl w0)), (a2, .inr (2, [.ref a3, .int v4, .int v5])), (a3, .inl (cT 2, 4096, .inr (.inl f3)))]) hP hD [2, 3] [0, 1] 2 rfl rfl (by decide) (by decide) hk1 hFc hP1 hD1
    generalize H1 = H at hP hS ⊢
    rw [hr9]
    refine W.eq (g2 := F0 m 8 ls [.int o1, .int y3]) rfl ?_
    refine lv_icmp_ge (tgt := 27) hx hb dT_addString_8 (by decide) (fun hc => ?_) (fun hc => ?_)
    · rw [if_pos hc] at hf
      obtain rfl := Option.some.inj hf
      obtain ⟨hP9, hD9⟩ := xsub (wc := [(a0, .inr (1, [.ref a1, .int w1, .int w2])), (a1, .inl (cT 0, 4096, .inl w0)), (a2, .inr (2, [.ref a3, .int v4, .int v5])), (a3, .inl (cT 2, 4096, .inr (.inl f3)))]) hP hD [0, 1, 2, 3] rfl rfl (by decide)
      exact W.vret hx hb hr (fun t ht hW => ⟨⟨(), rfl, trivial, by rw [ht]; exact hP9, va_K.moved hW.alike hK, hD9⟩, hS.F ht⟩) hS.2.2 dT_addString_27
    · rw [if_neg hc] at hf
      refine lv_aload_n hx hb dT_addString_11 rfl (lv_at hl 1 rfl) ?_
      refine lv_aload_n hx hb dT_addString_12 rfl (lv_at hl 2 rfl) ?_
      refine lv_iload_n hx hb dT_addString_13 rfl (lv_at hl 3 rfl) ?_
      refine lv_iload_n hx hb dT_addString_14 rfl (lv_at hl 0 rfl) ?_
      obtain ⟨o4, hq5, hf⟩ := xbind hf
      obtain ⟨hPc, hDc, hFc⟩ := xcut (wc := [(a2, .inr (2, [.ref a3, .int v4, .int v5])), (a3, .inl (cT 2, 4096, .inr (.inl f3)))]) hP hD hS hA [2, 3] rfl rfl (by decide)
      refine va_calli (va_runV (C := "ValueBench$Row") (As := [.int y2, .int y3]) (rest := [.ref a0]) ⟨hx, hb, hml, hown, htx⟩ (gR_code l hl9 D cT aK aV H.size n a2 a3 y2 y3 f3 v4 v5 o4 hq5) ⟨callB_of 2 htx (xw_goodC kw_3_56) rfl rfl rfl (htx _ kw_1_4) (htx _ kw_4_101) ⟨by decide, by decide, by decide +kernel⟩ ⟨Nat.le_of_ble_eq_true rfl, Nat.le_of_ble_eq_true rfl⟩, (htx _ kw_3_54), (htx _ kw_3_55)⟩ ⟨xPre_blind, va_recv hK hP (ci := 2) rfl (q0 := 2) rfl, (fun U hU hW => ⟨rfl, xPre_of hZ hS hFc hPc hDc hK U hU hW⟩)⟩ rfl rfl hl.1 rfl (lv_room (Nat.le_of_ble_eq_true rfl)) dT_addString_15 ⟨Nat.le_of_ble_eq_true rfl, Nat.le_of_ble_eq_true rfl⟩) hS (fun q _ h => hFc q h) hFc (fun r6 u9 t H1 locs ht hvm hr9 hB hz1 hk1 hS => ?_)
      obtain ⟨hP1, hK1, hD1⟩ := hB
      rw [ht] at hP1
      obtain ⟨hP, hD⟩ := xjoin (W := [(a0, .inr (1, [.ref a1, .int w1, .int w2])), (a1, .inl (cT 0, 4096, .inl w0)), (a2, .inr (2, [.ref a3, .int v4, .int v5])), (a3, .inl (cT 2, 4096, .inr (.inl f3)))]) hP hD [2, 3] [0, 1] 2 rfl rfl (by decide) (by decide) hk1 hFc hP1 hD1
      generalize H1 = H at hP hS ⊢
      rw [hr9]
      refine W.eq (g2 := F0 m 18 ls [.int o4, .ref a0]) rfl ?_
      obtain ⟨o7, hq8, hf⟩ := xbind hf
      obtain ⟨hPc, hDc, hFc⟩ := xcut (wc := [(a0, .inr (1, [.ref a1, .int w1, .int w2])), (a1, .inl (cT 0, 4096, .inl w0))]) hP hD hS hA [0, 1] rfl rfl (by decide)
      refine va_callv (va_runV (C := "ValueBench$Text") (As := [.int o4]) (rest := []) ⟨hx, hb, hml, hown, htx⟩ (gT_add l hl9 D cT aK aV H.size n a0 a1 o4 w0 w1 w2 o7 hq8) ⟨callB_of 1 htx (xw_goodC kw_1_207) rfl rfl rfl (htx _ kw_1_2) (htx _ kw_1_204) ⟨by decide, by decide, by decide +kernel⟩ ⟨Nat.le_of_ble_eq_true rfl, Nat.le_of_ble_eq_true rfl⟩, (htx _ kw_1_205), (htx _ kw_1_206)⟩ ⟨xPre_blind, va_recv hK hP (ci := 1) rfl (q0 := 0) rfl, (fun U hU hW => ⟨rfl, xPre_of hZ hS hFc hPc hDc hK U hU hW⟩)⟩ rfl rfl hl.1 rfl (lv_room (Nat.le_of_ble_eq_true rfl)) dT_addString_18 ⟨Nat.le_of_ble_eq_true rfl, Nat.le_of_ble_eq_true rfl⟩) hS (fun q _ h => hFc q h) hFc (fun u9 t H1 locs ht hvm hr9 hB hz1 hk1 hS => ?_)
      obtain ⟨hP1, hK1, hD1⟩ := hB
      rw [ht] at hP1
      obtain ⟨hP, hD⟩ := xjoin (W := [(a2, .inr (2, [.ref a3, .int v4, .int v5])), (a3, .inl (cT 2, 4096, .inr (.inl f3))), (a0, .inr (1, [.ref a1, .int o7.2.1, .int o7.2.2])), (a1, .inl (cT 0, 4096, .inl o7.1))]) hP hD [0, 1] [2, 3] 2 rfl rfl (by decide) (by decide) hk1 hFc hP1 hD1
      generalize H1 = H at hP hS ⊢
      refine lv_iinc (v := (y3 + 1)) (lv' := [(3, .int (y3 + 1)), (0, .ref a0), (1, .ref a2), (2, .int y2)]) hx hb dT_addString_21 hl (k := 0) rfl rfl (by decide) rfl (fun ls hl => ?_)
      refine lv_goto (tgt := 2) hx hb dT_addString_24 (by decide) ?_
      obtain ⟨hP9, hD9⟩ := xsub (wc := [(a0, .inr (1, [.ref a1, .int o7.2.1, .int o7.2.2])), (a1, .inl (cT 0, 4096, .inl o7.1)), (a2, .inr (2, [.ref a3, .int v4, .int v5])), (a3, .inl (cT 2, 4096, .inr (.inl f3)))]) hP hD [2, 3, 0, 1] rfl rfl (by decide)
      exact ih (1, (y3 + 1), y2, o7.1, o7.2.1, o7.2.2) _ _ ls (⟨rfl, hf, hP9, hD9, hS, lv_sub hl [0, 1, 2, 3] rfl⟩)
  refine lv_iconst (v := 0) hx hb dT_addString_0 (by decide) ?_
  refine lv_istore_n (lv' := [(3, .int 0), (0, .ref a0), (1, .ref a2), (2, .int x2)]) hx hb dT_addString_1 rfl hl (by decide) rfl (fun ls hl => ?_)
  obtain ⟨hP9, hD9⟩ := xsub (wc := [(a0, .inr (1, [.ref a1, .int v1, .int v2])), (a1, .inl (cT 0, 4096, .inl f0)), (a2, .inr (2, [.ref a3, .int v4, .int v5])), (a3, .inl (cT 2, 4096, .inr (.inl f3)))]) hP hD [0, 1, 2, 3] rfl rfl (by decide)
  exact key n (1, 0, x2, f0, v1, v2) _ _ ls (⟨rfl, hf, hP9, hD9, hS, lv_sub hl [0, 1, 2, 3] rfl⟩)
set_option maxHeartbeats 400000000 in
set_option maxRecDepth 100000 in
theorem gT_clear (l : Launch) (hl9 : l.stackTraces = false) (D : va_G) (cT : Nat → ClassId) (aK aV : Nat → Nat) (sz n : Nat) (a0 : Nat) (a1 : Nat) (f0 : Nat → Int32) (v1 : Int32) (v2 : Int32) (out : Int32 × Int32) (hf : fT_clear n f0 v1 v2 = some out) : xMet l yT_clear wyT_clear 0 0 0 0 D cT aK aV sz [.ref a0] [(a0, .inr (1, [.ref a1, .int v1, .int v2])), (a1, .inl (cT 0, 4096, .inl f0))] (fun A => va_Qv (fun _ : Unit => True) (fun _ t => xB D xcl cT A [(a0, .inr (1, [.ref a1, .int out.1, .int out.2])), (a1, .inl (cT 0, 4096, .inl f0))] t) A) := by
  refine Met.ofW (cc := prog_11_method_2_code) (maxL := 1) (ret := none) (by decide) rfl ?_
  intro p e s m args below meth c s₁ B hml hv
  obtain ⟨rfl, hsz, hZ, hP, hK, hD0⟩ := hv
  have hx := B.exec
  have hb := B.bytes
  have hr := B.returns
  have hts := atoms_spec (ws := wyT_clear) B.pre
  have htx := fun w h => hts w (List.mem_cons_of_mem _ h)
  have hown : s.vm.findClass "ValueBench$Text" = some m.cls := findClass_of_methodNamed B.named
  have hlocks := B.notSynchronized
  subst hsz
  have hD := hD0.self (sz := s.heap.size)
  generalize hAe : va_A [(a0, .inr (1, [.ref a1, .int v1, .int v2])), (a1, .inl (cT 0, 4096, .inl f0))] s.heap.size = A at hD hZ ⊢
  have hA : ∀ q : Nat, s.heap.size ≤ q → A q := fun q h => by rw [← hAe]; exact Or.inr h
  have hS : va_S A s.heap s.heap [] := va_S.rf
  have hP : va_P D xcl [(a0, .inr (1, [.ref a1, .int v1, .int v2])), (a1, .inl (cT 0, 4096, .inl f0))] s.heap := hP
  have hl := lv_entry ([.ref a0]) (n := 1) (Nat.le_of_ble_eq_true rfl)
  rw [lg_entry_eq]
  generalize (lg_sl ([.ref a0]) ++ List.replicate (1 - (lg_sl ([.ref a0])).length) Slot.unset).toArray = ls at hl ⊢
  have hl : lv_has ls 1 [(0, .ref a0)] := hl
  unfold fT_clear at hf
  refine lv_aload_n hx hb dT_clear_0 rfl (lv_at hl 0 rfl) ?_
  refine lv_iconst (v := 0) hx hb dT_clear_1 (by decide) ?_
  refine va_put (D := D) (ci := 1) (v := .int 0) (ty := .int) (C := "ValueBench$Text") (T := TT) (N := 3) hx hb htx inT tyT tyT_ok nmT hown hK hP hD hS 0 rfl rfl 1 (by decide) (htx _ kw_1_44) (fun _ h9 => h9) rfl (by decide +kernel) rfl rfl (Nat.le_of_ble_eq_true rfl) dT_clear_2 (fun H locs hP hD hS => ?_)
  obtain ⟨hP, hD⟩ : xPD D xcl A [(a0, .inr (1, [.ref a1, .int 0, .int v2])), (a1, .inl (cT 0, 4096, .inl f0))] H := ⟨hP, hD⟩
  refine lv_aload_n hx hb dT_clear_5 rfl (lv_at hl 0 rfl) ?_
  refine lv_iconst (v := 0) hx hb dT_clear_6 (by decide) ?_
  refine va_put (D := D) (ci := 1) (v := .int 0) (ty := .boolean) (C := "ValueBench$Text") (T := TT) (N := 3) hx hb htx inT tyT tyT_ok nmT hown hK hP hD hS 0 rfl rfl 2 (by decide) (htx _ kw_1_45) (fun _ h9 => h9) rfl (by decide +kernel) rfl rfl (Nat.le_of_ble_eq_true rfl) dT_clear_7 (fun H locs hP hD hS => ?_)
  obtain ⟨hP, hD⟩ : xPD D xcl A [(a0, .inr (1, [.ref a1, .int 0, .int 0])), (a1, .inl (cT 0, 4096, .inl f0))] H := ⟨hP, hD⟩
  obtain rfl := Option.some.inj hf
  obtain ⟨hP9, hD9⟩ := xsub (wc := [(a0, .inr (1, [.ref a1, .int 0, .int 0])), (a1, .inl (cT 0, 4096, .inl f0))]) hP hD [0, 1] rfl rfl (by decide)
  exact W.vret hx hb hr (fun t ht hW => ⟨⟨(), rfl, trivial, by rw [ht]; exact hP9, va_K.moved hW.alike hK, hD9⟩, hS.F ht⟩) hS.2.2 dT_clear_10
set_option maxHeartbeats 400000000 in
set_option maxRecDepth 100000 in
theorem gT_keep (l : Launch) (hl9 : l.stackTraces = false) (D : va_G) (cT : Nat → ClassId) (aK aV : Nat → Nat) (sz n : Nat) (a0 : Nat) (a1 : Nat) (x1 : Int32) (f0 : Nat → Int32) (v1 : Int32) (v2 : Int32) (out : Int32) (hf : fT_keep n x1 f0 v1 v2 = some out) : xMet l yT_keep wyT_keep 1 0 0 40 D cT aK aV sz [.ref a0, .int x1] [(a0, .inr (1, [.ref a1, .int v1, .int v2])), (a1, .inl (cT 0, 4096, .inl f0))] (fun A => va_Qv (fun _ : Unit => True) (fun _ t => xB D xcl cT A [(a0, .inr (1, [.ref a1, .int out, .int v2])), (a1, .inl (cT 0, 4096, .inl f0))] t) A) := by
  refine Met.ofW (cc := prog_11_method_3_code) (maxL := 2) (ret := none) (by decide) rfl ?_
  intro p e s m args below meth c s₁ B hml hv
  obtain ⟨rfl, hsz, hZ, hP, hK, hD0⟩ := hv
  have hx := B.exec
  have hb := B.bytes
  have hr := B.returns
  have hts := atoms_spec (ws := wyT_keep) B.pre
  have htx := fun w h => hts w (List.mem_cons_of_mem _ h)
  have hown : s.vm.findClass "ValueBench$Text" = some m.cls := findClass_of_methodNamed B.named
  have hlocks := B.notSynchronized
  subst hsz
  have hD := hD0.self (sz := s.heap.size)
  generalize hAe : va_A [(a0, .inr (1, [.ref a1, .int v1, .int v2])), (a1, .inl (cT 0, 4096, .inl f0))] s.heap.size = A at hD hZ ⊢
  have hA : ∀ q : Nat, s.heap.size ≤ q → A q := fun q h => by rw [← hAe]; exact Or.inr h
  have hS : va_S A s.heap s.heap [] := va_S.rf
  have hP : va_P D xcl [(a0, .inr (1, [.ref a1, .int v1, .int v2])), (a1, .inl (cT 0, 4096, .inl f0))] s.heap := hP
  have hl := lv_entry ([.ref a0, .int x1]) (n := 2) (Nat.le_of_ble_eq_true rfl)
  rw [lg_entry_eq]
  generalize (lg_sl ([.ref a0, .int x1]) ++ List.replicate (2 - (lg_sl ([.ref a0, .int x1])).length) Slot.unset).toArray = ls at hl ⊢
  have hl : lv_has ls 2 [(0, .ref a0), (1, .int x1)] := hl
  unfold fT_keep at hf
  refine lv_aload_n hx hb dT_keep_0 rfl (lv_at hl 0 rfl) ?_
  refine lv_iconst (v := 0) hx hb dT_keep_1 (by decide) ?_
  refine lv_iload_n hx hb dT_keep_2 rfl (lv_at hl 1 rfl) ?_
  refine lv_aload_n hx hb dT_keep_3 rfl (lv_at hl 0 rfl) ?_
  refine va_get (D := D) (ci := 1) (v := .int v1) (C := "ValueBench$Text") (T := TT) (N := 3) hx hb htx inT hown hK hP 0 rfl rfl 1 (by decide) (htx _ kw_1_44) (fun _ h9 => h9) rfl dT_keep_4 ?_
  refine va_mmin hx hb (hml.trans hl.1.symm) hown (htx _ kw_2_2) (htx _ kw_2_3) (htx _ kw_1_15) (htx _ kw_2_4) (Nat.le_of_ble_eq_true rfl) (Nat.le_of_ble_eq_true rfl) (Nat.le_of_ble_eq_true rfl) (Nat.le_of_ble_eq_true rfl) dT_keep_7 ?_
  refine W.eq (g2 := F0 m 10 ls [.int (if v1 < x1 then v1 else x1), .int 0, .ref a0]) rfl ?_
  refine va_mmax hx hb (hml.trans hl.1.symm) hown (htx _ kw_2_5) (htx _ kw_2_6) (htx _ kw_1_15) (htx _ kw_2_7) (Nat.le_of_ble_eq_true rfl) (Nat.le_of_ble_eq_true rfl) (Nat.le_of_ble_eq_true rfl) (Nat.le_of_ble_eq_true rfl) dT_keep_10 ?_
  refine W.eq (g2 := F0 m 13 ls [.int (if (0 : Int32) < (if v1 < x1 then v1 else x1) then (if v1 < x1 then v1 else x1) else (0 : Int32)), .ref a0]) rfl ?_
  refine va_put (D := D) (ci := 1) (v := .int (if (0 : Int32) < (if v1 < x1 then v1 else x1) then (if v1 < x1 then v1 else x1) else (0 : Int32))) (ty := .int) (C := "ValueBench$Text") (T := TT) (N := 3) hx hb htx inT tyT tyT_ok nmT hown hK hP hD hS 0 rfl rfl 1 (by decide) (htx _ kw_1_44) (fun _ h9 => h9) rfl (by decide +kernel) rfl rfl (Nat.le_of_ble_eq_true rfl) dT_keep_13 (fun H locs hP hD hS => ?_)
  obtain ⟨hP, hD⟩ : xPD D xcl A [(a0, .inr (1, [.ref a1, .int (if (0 : Int32) < (if v1 < x1 then v1 else x1) then (if v1 < x1 then v1 else x1) else (0 : Int32)), .int v2])), (a1, .inl (cT 0, 4096, .inl f0))] H := ⟨hP, hD⟩
  obtain rfl := Option.some.inj hf
  obtain ⟨hP9, hD9⟩ := xsub (wc := [(a0, .inr (1, [.ref a1, .int (if (0 : Int32) < (if v1 < x1 then v1 else x1) then (if v1 < x1 then v1 else x1) else (0 : Int32)), .int v2])), (a1, .inl (cT 0, 4096, .inl f0))]) hP hD [0, 1] rfl rfl (by decide)
  exact W.vret hx hb hr (fun t ht hW => ⟨⟨(), rfl, trivial, by rw [ht]; exact hP9, va_K.moved hW.alike hK, hD9⟩, hS.F ht⟩) hS.2.2 dT_keep_16
set_option maxHeartbeats 400000000 in
set_option maxRecDepth 100000 in
theorem gT_setOver (l : Launch) (hl9 : l.stackTraces = false) (D : va_G) (cT : Nat → ClassId) (aK aV : Nat → Nat) (sz n : Nat) (a0 : Nat) (a1 : Nat) (f0 : Nat → Int32) (v1 : Int32) (v2 : Int32) (out : Int32) (hf : fT_setOver n f0 v1 v2 = some out) : xMet l yT_setOver wyT_setOver 0 0 0 0 D cT aK aV sz [.ref a0] [(a0, .inr (1, [.ref a1, .int v1, .int v2])), (a1, .inl (cT 0, 4096, .inl f0))] (fun A => va_Qv (fun _ : Unit => True) (fun _ t => xB D xcl cT A [(a0, .inr (1, [.ref a1, .int v1, .int out])), (a1, .inl (cT 0, 4096, .inl f0))] t) A) := by
  refine Met.ofW (cc := prog_11_method_6_code) (maxL := 1) (ret := none) (by decide) rfl ?_
  intro p e s m args below meth c s₁ B hml hv
  obtain ⟨rfl, hsz, hZ, hP, hK, hD0⟩ := hv
  have hx := B.exec
  have hb := B.bytes
  have hr := B.returns
  have hts := atoms_spec (ws := wyT_setOver) B.pre
  have htx := fun w h => hts w (List.mem_cons_of_mem _ h)
  have hown : s.vm.findClass "ValueBench$Text" = some m.cls := findClass_of_methodNamed B.named
  have hlocks := B.notSynchronized
  subst hsz
  have hD := hD0.self (sz := s.heap.size)
  generalize hAe : va_A [(a0, .inr (1, [.ref a1, .int v1, .int v2])), (a1, .inl (cT 0, 4096, .inl f0))] s.heap.size = A at hD hZ ⊢
  have hA : ∀ q : Nat, s.heap.size ≤ q → A q := fun q h => by rw [← hAe]; exact Or.inr h
  have hS : va_S A s.heap s.heap [] := va_S.rf
  have hP : va_P D xcl [(a0, .inr (1, [.ref a1, .int v1, .int v2])), (a1, .inl (cT 0, 4096, .inl f0))] s.heap := hP
  have hl := lv_entry ([.ref a0]) (n := 1) (Nat.le_of_ble_eq_true rfl)
  rw [lg_entry_eq]
  generalize (lg_sl ([.ref a0]) ++ List.replicate (1 - (lg_sl ([.ref a0])).length) Slot.unset).toArray = ls at hl ⊢
  have hl : lv_has ls 1 [(0, .ref a0)] := hl
  unfold fT_setOver at hf
  refine lv_aload_n hx hb dT_setOver_0 rfl (lv_at hl 0 rfl) ?_
  refine lv_iconst (v := 1) hx hb dT_setOver_1 (by decide) ?_
  refine va_put (D := D) (ci := 1) (v := .int 1) (ty := .boolean) (C := "ValueBench$Text") (T := TT) (N := 3) hx hb htx inT tyT tyT_ok nmT hown hK hP hD hS 0 rfl rfl 2 (by decide) (htx _ kw_1_45) (fun _ h9 => h9) rfl (by decide +kernel) rfl rfl (Nat.le_of_ble_eq_true rfl) dT_setOver_2 (fun H locs hP hD hS => ?_)
  obtain ⟨hP, hD⟩ : xPD D xcl A [(a0, .inr (1, [.ref a1, .int v1, .int 1])), (a1, .inl (cT 0, 4096, .inl f0))] H := ⟨hP, hD⟩
  obtain rfl := Option.some.inj hf
  obtain ⟨hP9, hD9⟩ := xsub (wc := [(a0, .inr (1, [.ref a1, .int v1, .int 1])), (a1, .inl (cT 0, 4096, .inl f0))]) hP hD [0, 1] rfl rfl (by decide)
  exact W.vret hx hb hr (fun t ht hW => ⟨⟨(), rfl, trivial, by rw [ht]; exact hP9, va_K.moved hW.alike hK, hD9⟩, hS.F ht⟩) hS.2.2 dT_setOver_5
set_option maxHeartbeats 400000000 in
set_option maxRecDepth 100000 in
theorem gT_addWord (l : Launch) (hl9 : l.stackTraces = false) (D : va_G) (cT : Nat → ClassId) (aK aV : Nat → Nat) (sz n : Nat) (a0 : Nat) (a1 : Nat) (f0 : Nat → Int32) (v1 : Int32) (v2 : Int32) (out : (Nat → Int32) × Int32 × Int32) (hf : fT_addWord n f0 v1 v2 = some out) : xMet l yT_addWord wyT_addWord 4 0 0 85 D cT aK aV sz [.ref a0, .ref (aK 10)] [(a0, .inr (1, [.ref a1, .int v1, .int v2])), (a1, .inl (cT 0, 4096, .inl f0))] (fun A => va_Qv (fun _ : Unit => True) (fun _ t => xB D xcl cT A [(a0, .inr (1, [.ref a1, .int out.2.1, .int out.2.2])), (a1, .inl (cT 0, 4096, .inl out.1))] t) A) := by
  refine Met.ofW (cc := prog_11_method_10_code) (maxL := 3) (ret := none) (by decide) rfl ?_
  intro p e s m args below meth c s₁ B hml hv
  obtain ⟨rfl, hsz, hZ, hP, hK, hD0⟩ := hv
  have hx := B.exec
  have hb := B.bytes
  have hr := B.returns
  have hts := atoms_spec (ws := wyT_addWord) B.pre
  have htx := fun w h => hts w (List.mem_cons_of_mem _ h)
  have hown : s.vm.findClass "ValueBench$Text" = some m.cls := findClass_of_methodNamed B.named
  have hlocks := B.notSynchronized
  subst hsz
  have hD := hD0.self (sz := s.heap.size)
  generalize hAe : va_A [(a0, .inr (1, [.ref a1, .int v1, .int v2])), (a1, .inl (cT 0, 4096, .inl f0))] s.heap.size = A at hD hZ ⊢
  have hA : ∀ q : Nat, s.heap.size ≤ q → A q := fun q h => by rw [← hAe]; exact Or.inr h
  have hS : va_S A s.heap s.heap [] := va_S.rf
  have hP : va_P D xcl [(a0, .inr (1, [.ref a1, .int v1, .int v2])), (a1, .inl (cT 0, 4096, .inl f0))] s.heap := hP
  have hl := lv_entry ([.ref a0, .ref (aK 10)]) (n := 3) (Nat.le_of_ble_eq_true rfl)
  rw [lg_entry_eq]
  generalize (lg_sl ([.ref a0, .ref (aK 10)]) ++ List.replicate (3 - (lg_sl ([.ref a0, .ref (aK 10)])).length) Slot.unset).toArray = ls at hl ⊢
  have hl : lv_has ls 3 [(0, .ref a0), (1, .ref (aK 10))] := hl
  unfold fT_addWord at hf
  refine lv_iconst (v := 0) hx hb dT_addWord_0 (by decide) ?_
  refine lv_istore_n (lv' := [(2, .int 0), (0, .ref a0), (1, .ref (aK 10))]) hx hb dT_addWord_1 rfl hl (by decide) rfl (fun ls hl => ?_)
  refine lv_iload_n hx hb dT_addWord_2 rfl (lv_at hl 0 rfl) ?_
  refine lv_aload_n hx hb dT_addWord_3 rfl (lv_at hl 2 rfl) ?_
  obtain ⟨hPc, hDc, hFc⟩ := xcut (wc := []) hP hD hS hA [] rfl rfl (by decide)
  refine va_calli (va_runV (C := "java/lang/String") (As := []) (rest := [.int 0]) ⟨hx, hb, hml, hown, htx⟩ (cJS_length_0 l hl9 D cT aK aV s.heap.size) ⟨callB_of 0 htx (xw_goodC kw_2_70) rfl rfl rfl (htx _ kw_1_6) (htx _ kw_3_30) ⟨by decide, by decide, by decide +kernel⟩ ⟨Nat.le_of_ble_eq_true rfl, Nat.le_of_ble_eq_true rfl⟩, (htx _ kw_2_68), (htx _ kw_2_69)⟩ ⟨xPre_blind, vk_recv hZ.2.2.2.2.2.2.2.2.2.1 (i := 10) (by decide) hS, (fun U hU hW => ⟨rfl, xPre_of hZ hS hFc hPc hDc hK U hU hW⟩)⟩ rfl rfl hl.1 rfl (lv_room (Nat.le_of_ble_eq_true rfl)) dT_addWord_4 ⟨Nat.le_of_ble_eq_true rfl, Nat.le_of_ble_eq_true rfl⟩) hS (fun q _ h => hFc q h) hFc (fun r1 u9 t H1 locs ht hvm hr9 hB hz1 hk1 hS => ?_)
  obtain ⟨hP1, hK1, hD1⟩ := hB
  rw [ht] at hP1
  obtain ⟨hP, hD⟩ := xjoin (W := [(a0, .inr (1, [.ref a1, .int v1, .int v2])), (a1, .inl (cT 0, 4096, .inl f0))]) hP hD [] [0, 1] 2 rfl rfl (by decide) (by decide) hk1 hFc hP1 hD1
  generalize H1 = H at hP hS ⊢
  rw [hr9]
  refine W.eq (g2 := F0 m 7 ls [.int 4, .int 0]) rfl ?_
  refine lv_icmp_ge (tgt := 25) hx hb dT_addWord_7 (by decide) (fun h => ((by revert h; decide : False)).elim) (fun _ => ?_)
  refine lv_aload_n hx hb dT_addWord_10 rfl (lv_at hl 1 rfl) ?_
  refine lv_aload_n hx hb dT_addWord_11 rfl (lv_at hl 2 rfl) ?_
  refine lv_iload_n hx hb dT_addWord_12 rfl (lv_at hl 0 rfl) ?_
  obtain ⟨hPc, hDc, hFc⟩ := xcut (wc := []) hP hD hS hA [] rfl rfl (by decide)
  refine va_calli (va_runV (C := "java/lang/String") (As := [.int 0]) (rest := [.ref a0]) ⟨hx, hb, hml, hown, htx⟩ (cJS_charAt_0 l hl9 D cT aK aV H.size) ⟨callB_of 1 htx (xw_goodC kw_2_80) rfl rfl rfl (htx _ kw_1_6) (htx _ kw_3_31) ⟨by decide, by decide, by decide +kernel⟩ ⟨Nat.le_of_ble_eq_true rfl, Nat.le_of_ble_eq_true rfl⟩, (htx _ kw_2_78), (htx _ kw_2_79)⟩ ⟨xPre_blind, vk_recv hZ.2.2.2.2.2.2.2.2.2.1 (i := 10) (by decide) hS, (fun U hU hW => ⟨rfl, xPre_of hZ hS hFc hPc hDc hK U hU hW⟩)⟩ rfl rfl hl.1 rfl (lv_room (Nat.le_of_ble_eq_true rfl)) dT_addWord_13 ⟨Nat.le_of_ble_eq_true rfl, Nat.le_of_ble_eq_true rfl⟩) hS (fun q _ h => hFc q h) hFc (fun r2 u9 t H1 locs ht hvm hr9 hB hz1 hk1 hS => ?_)
  obtain ⟨hP1, hK1, hD1⟩ := hB
  rw [ht] at hP1
  obtain ⟨hP, hD⟩ := xjoin (W := [(a0, .inr (1, [.ref a1, .int v1, .int v2])), (a1, .inl (cT 0, 4096, .inl f0))]) hP hD [] [0, 1] 2 rfl rfl (by decide) (by decide) hk1 hFc hP1 hD1
  generalize H1 = H at hP hS ⊢
  rw [hr9]
  refine W.eq (g2 := F0 m 16 ls [.int 110, .ref a0]) rfl ?_
  obtain ⟨o3, hq4, hf⟩ := xbind hf
  obtain ⟨hPc, hDc, hFc⟩ := xcut (wc := [(a0, .inr (1, [.ref a1, .int v1, .int v2])), (a1, .inl (cT 0, 4096, .inl f0))]) hP hD hS hA [0, 1] rfl rfl (by decide)
  refine va_callv (va_runV (C := "ValueBench$Text") (As := [.int 110]) (rest := []) ⟨hx, hb, hml, hown, htx⟩ (gT_add l hl9 D cT aK aV H.size n a0 a1 (110 : Int32) f0 v1 v2 o3 hq4) ⟨callB_of 1 htx (xw_goodC kw_1_207) rfl rfl rfl (htx _ kw_1_2) (htx _ kw_1_204) ⟨by decide, by decide, by decide +kernel⟩ ⟨Nat.le_of_ble_eq_true rfl, Nat.le_of_ble_eq_true rfl⟩, (htx _ kw_1_205), (htx _ kw_1_206)⟩ ⟨xPre_blind, va_recv hK hP (ci := 1) rfl (q0 := 0) rfl, (fun U hU hW => ⟨rfl, xPre_of hZ hS hFc hPc hDc hK U hU hW⟩)⟩ rfl rfl hl.1 rfl (lv_room (Nat.le_of_ble_eq_true rfl)) dT_addWord_16 ⟨Nat.le_of_ble_eq_true rfl, Nat.le_of_ble_eq_true rfl⟩) hS (fun q _ h => hFc q h) hFc (fun u9 t H1 locs ht hvm hr9 hB hz1 hk1 hS => ?_)
  obtain ⟨hP1, hK1, hD1⟩ := hB
  rw [ht] at hP1
  obtain ⟨hP, hD⟩ := xjoin (W := [(a0, .inr (1, [.ref a1, .int o3.2.1, .int o3.2.2])), (a1, .inl (cT 0, 4096, .inl o3.1))]) hP hD [0, 1] [] 0 rfl rfl (by decide) (by decide) hk1 hFc hP1 hD1
  generalize H1 = H at hP hS ⊢
  refine lv_iinc (v := 1) (lv' := [(2, .int 1), (0, .ref a0), (1, .ref (aK 10))]) hx hb dT_addWord_19 hl (k := 0) rfl rfl (by decide) rfl (fun ls hl => ?_)
  refine lv_goto (tgt := 2) hx hb dT_addWord_22 (by decide) ?_
  refine lv_iload_n hx hb dT_addWord_2 rfl (lv_at hl 0 rfl) ?_
  refine lv_aload_n hx hb dT_addWord_3 rfl (lv_at hl 2 rfl) ?_
  obtain ⟨hPc, hDc, hFc⟩ := xcut (wc := []) hP hD hS hA [] rfl rfl (by decide)
  refine va_calli (va_runV (C := "java/lang/String") (As := []) (rest := [.int 1]) ⟨hx, hb, hml, hown, htx⟩ (cJS_length_0 l hl9 D cT aK aV H.size) ⟨callB_of 0 htx (xw_goodC kw_2_70) rfl rfl rfl (htx _ kw_1_6) (htx _ kw_3_30) ⟨by decide, by decide, by decide +kernel⟩ ⟨Nat.le_of_ble_eq_true rfl, Nat.le_of_ble_eq_true rfl⟩, (htx _ kw_2_68), (htx _ kw_2_69)⟩ ⟨xPre_blind, vk_recv hZ.2.2.2.2.2.2.2.2.2.1 (i := 10) (by decide) hS, (fun U hU hW => ⟨rfl, xPre_of hZ hS hFc hPc hDc hK U hU hW⟩)⟩ rfl rfl hl.1 rfl (lv_room (Nat.le_of_ble_eq_true rfl)) dT_addWord_4 ⟨Nat.le_of_ble_eq_true rfl, Nat.le_of_ble_eq_true rfl⟩) hS (fun q _ h => hFc q h) hFc (fun r5 u9 t H1 locs ht hvm hr9 hB hz1 hk1 hS => ?_)
  obtain ⟨hP1, hK1, hD1⟩ := hB
  rw [ht] at hP1
  obtain ⟨hP, hD⟩ := xjoin (W := [(a0, .inr (1, [.ref a1, .int o3.2.1, .int o3.2.2])), (a1, .inl (cT 0, 4096, .inl o3.1))]) hP hD [] [0, 1] 2 rfl rfl (by decide) (by decide) hk1 hFc hP1 hD1
  generalize H1 = H at hP hS ⊢
  rw [hr9]
  refine W.eq (g2 := F0 m 7 ls [.int 4, .int 1]) rfl ?_
  refine lv_icmp_ge (tgt := 25) hx hb dT_addWord_7 (by decide) (fun h => ((by revert h; decide : False)).elim) (fun _ => ?_)
  refine lv_aload_n hx hb dT_addWord_10 rfl (lv_at hl 1 rfl) ?_
  refine lv_aload_n hx hb dT_addWord_11 rfl (lv_at hl 2 rfl) ?_
  refine lv_iload_n hx hb dT_addWord_12 rfl (lv_at hl 0 rfl) ?_
  obtain ⟨hPc, hDc, hFc⟩ := xcut (wc := []) hP hD hS hA [] rfl rfl (by decide)
  refine va_calli (va_runV (C := "java/lang/String") (As := [.int 1]) (rest := [.ref a0]) ⟨hx, hb, hml, hown, htx⟩ (cJS_charAt_1 l hl9 D cT aK aV H.size) ⟨callB_of 1 htx (xw_goodC kw_2_80) rfl rfl rfl (htx _ kw_1_6) (htx _ kw_3_31) ⟨by decide, by decide, by decide +kernel⟩ ⟨Nat.le_of_ble_eq_true rfl, Nat.le_of_ble_eq_true rfl⟩, (htx _ kw_2_78), (htx _ kw_2_79)⟩ ⟨xPre_blind, vk_recv hZ.2.2.2.2.2.2.2.2.2.1 (i := 10) (by decide) hS, (fun U hU hW => ⟨rfl, xPre_of hZ hS hFc hPc hDc hK U hU hW⟩)⟩ rfl rfl hl.1 rfl (lv_room (Nat.le_of_ble_eq_true rfl)) dT_addWord_13 ⟨Nat.le_of_ble_eq_true rfl, Nat.le_of_ble_eq_true rfl⟩) hS (fun q _ h => hFc q h) hFc (fun r6 u9 t H1 locs ht hvm hr9 hB hz1 hk1 hS => ?_)
  obtain ⟨hP1, hK1, hD1⟩ := hB
  rw [ht] at hP1
  obtain ⟨hP, hD⟩ := xjoin (W := [(a0, .inr (1, [.ref a1, .int o3.2.1, .int o3.2.2])), (a1, .inl (cT 0, 4096, .inl o3.1))]) hP hD [] [0, 1] 2 rfl rfl (by decide) (by decide) hk1 hFc hP1 hD1
  generalize H1 = H at hP hS ⊢
  rw [hr9]
  refine W.eq (g2 := F0 m 16 ls [.int 117, .ref a0]) rfl ?_
  obtain ⟨o7, hq8, hf⟩ := xbind hf
  obtain ⟨hPc, hDc, hFc⟩ := xcut (wc := [(a0, .inr (1, [.ref a1, .int o3.2.1, .int o3.2.2])), (a1, .inl (cT 0, 4096, .inl o3.1))]) hP hD hS hA [0, 1] rfl rfl (by decide)
  refine va_callv (va_runV (C := "ValueBench$Text") (As := [.int 117]) (rest := []) ⟨hx, hb, hml, hown, htx⟩ (gT_add l hl9 D cT aK aV H.size n a0 a1 (117 : Int32) o3.1 o3.2.1 o3.2.2 o7 hq8) ⟨callB_of 1 htx (xw_goodC kw_1_207) rfl rfl rfl (htx _ kw_1_2) (htx _ kw_1_204) ⟨by decide, by decide, by decide +kernel⟩ ⟨Nat.le_of_ble_eq_true rfl, Nat.le_of_ble_eq_true rfl⟩, (htx _ kw_1_205), (htx _ kw_1_206)⟩ ⟨xPre_blind, va_recv hK hP (ci := 1) rfl (q0 := 0) rfl, (fun U hU hW => ⟨rfl, xPre_of hZ hS hFc hPc hDc hK U hU hW⟩)⟩ rfl rfl hl.1 rfl (lv_room (Nat.le_of_ble_eq_true rfl)) dT_addWord_16 ⟨Nat.le_of_ble_eq_true rfl, Nat.le_of_ble_eq_true rfl⟩) hS (fun q _ h => hFc q h) hFc (fun u9 t H1 locs ht hvm hr9 hB hz1 hk1 hS => ?_)
  obtain ⟨hP1, hK1, hD1⟩ := hB
  rw [ht] at hP1
  obtain ⟨hP, hD⟩ := xjoin (W := [(a0, .inr (1, [.ref a1, .int o7.2.1, .int o7.2.2])), (a1, .inl (cT 0, 4096, .inl o7.1))]) hP hD [0, 1] [] 0 rfl rfl (by decide) (by decide) hk1 hFc hP1 hD1
  generalize H1 = H at hP hS ⊢
  refine lv_iinc (v := 2) (lv' := [(2, .int 2), (0, .ref a0), (1, .ref (aK 10))]) hx hb dT_addWord_19 hl (k := 0) rfl rfl (by decide) rfl (fun ls hl => ?_)
  refine lv_goto (tgt := 2) hx hb dT_addWord_22 (by decide) ?_
  refine lv_iload_n hx hb dT_addWord_2 rfl (lv_at hl 0 rfl) ?_
  refine lv_aload_n hx hb dT_addWord_3 rfl (lv_at hl 2 rfl) ?_
  obtain ⟨hPc, hDc, hFc⟩ := xcut (wc := []) hP hD hS hA [] rfl rfl (by decide)
  refine va_calli (va_runV (C := "java/lang/String") (As := []) (rest := [.int 2]) ⟨hx, hb, hml, hown, htx⟩ (cJS_length_0 l hl9 D cT aK aV H.size) ⟨callB_of 0 htx (xw_goodC kw_2_70) rfl rfl rfl (htx _ kw_1_6) (htx _ kw_3_30) ⟨by decide, by decide, by decide +kernel⟩ ⟨Nat.le_of_ble_eq_true rfl, Nat.le_of_ble_eq_true rfl⟩, (htx _ kw_2_68), (htx _ kw_2_69)⟩ ⟨xPre_blind, vk_recv hZ.2.2.2.2.2.2.2.2.2.1 (i := 10) (by decide) hS, (fun U hU hW => ⟨rfl, xPre_of hZ hS hFc hPc hDc hK U hU hW⟩)⟩ rfl rfl hl.1 rfl (lv_room (Nat.le_of_ble_eq_true rfl)) dT_addWord_4 ⟨Nat.le_of_ble_eq_true rfl, Nat.le_of_ble_eq_true rfl⟩) hS (fun q _ h => hFc q h) hFc (fun r9 u9 t H1 locs ht hvm hr9 hB hz1 hk1 hS => ?_)
  obtain ⟨hP1, hK1, hD1⟩ := hB
  rw [ht] at hP1
  obtain ⟨hP, hD⟩ := xjoin (W := [(a0, .inr (1, [.ref a1, .int o7.2.1, .int o7.2.2])), (a1, .inl (cT 0, 4096, .inl o7.1))]) hP hD [] [0, 1] 2 rfl rfl (by decide) (by decide) hk1 hFc hP1 hD1
  generalize H1 = H at hP hS ⊢
  rw [hr9]
  refine W.eq (g2 := F0 m 7 ls [.int 4, .int 2]) rfl ?_
  refine lv_icmp_ge (tgt := 25) hx hb dT_addWord_7 (by decide) (fun h => ((by revert h; decide : False)).elim) (fun _ => ?_)
  refine lv_aload_n hx hb dT_addWord_10 rfl (lv_at hl 1 rfl) ?_
  refine lv_aload_n hx hb dT_addWord_11 rfl (lv_at hl 2 rfl) ?_
  refine lv_iload_n hx hb dT_addWord_12 rfl (lv_at hl 0 rfl) ?_
  obtain ⟨hPc, hDc, hFc⟩ := xcut (wc := []) hP hD hS hA [] rfl rfl (by decide)
  refine va_calli (va_runV (C := "java/lang/String") (As := [.int 2]) (rest := [.ref a0]) ⟨hx, hb, hml, hown, htx⟩ (cJS_charAt_2 l hl9 D cT aK aV H.size) ⟨callB_of 1 htx (xw_goodC kw_2_80) rfl rfl rfl (htx _ kw_1_6) (htx _ kw_3_31) ⟨by decide, by decide, by decide +kernel⟩ ⟨Nat.le_of_ble_eq_true rfl, Nat.le_of_ble_eq_true rfl⟩, (htx _ kw_2_78), (htx _ kw_2_79)⟩ ⟨xPre_blind, vk_recv hZ.2.2.2.2.2.2.2.2.2.1 (i := 10) (by decide) hS, (fun U hU hW => ⟨rfl, xPre_of hZ hS hFc hPc hDc hK U hU hW⟩)⟩ rfl rfl hl.1 rfl (lv_room (Nat.le_of_ble_eq_true rfl)) dT_addWord_13 ⟨Nat.le_of_ble_eq_true rfl, Nat.le_of_ble_eq_true rfl⟩) hS (fun q _ h => hFc q h) hFc (fun r10 u9 t H1 locs ht hvm hr9 hB hz1 hk1 hS => ?_)
  obtain ⟨hP1, hK1, hD1⟩ := hB
  rw [ht] at hP1
  obtain ⟨hP, hD⟩ := xjoin (W := [(a0, .inr (1, [.ref a1, .int o7.2.1, .int o7.2.2])), (a1, .inl (cT 0, 4096, .inl o7.1))]) hP hD [] [0, 1] 2 rfl rfl (by decide) (by decide) hk1 hFc hP1 hD1
  generalize H1 = H at hP hS ⊢
  rw [hr9]
  refine W.eq (g2 := F0 m 16 ls [.int 108, .ref a0]) rfl ?_
  obtain ⟨o11, hq12, hf⟩ := xbind hf
  obtain ⟨hPc, hDc, hFc⟩ := xcut (wc := [(a0, .inr (1, [.ref a1, .int o7.2.1, .int o7.2.2])), (a1, .inl (cT 0, 4096, .inl o7.1))]) hP hD hS hA [0, 1] rfl rfl (by decide)
  refine va_callv (va_runV (C := "ValueBench$Text") (As := [.int 108]) (rest := []) ⟨hx, hb, hml, hown, htx⟩ (gT_add l hl9 D cT aK aV H.size n a0 a1 (108 : Int32) o7.1 o7.2.1 o7.2.2 o11 hq12) ⟨callB_of 1 htx (xw_goodC kw_1_207) rfl rfl rfl (htx _ kw_1_2) (htx _ kw_1_204) ⟨by decide, by decide, by decide +kernel⟩ ⟨Nat.le_of_ble_eq_true rfl, Nat.le_of_ble_eq_true rfl⟩, (htx _ kw_1_205), (htx _ kw_1_206)⟩ ⟨xPre_blind, va_recv hK hP (ci := 1) rfl (q0 := 0) rfl, (fun U hU hW => ⟨rfl, xPre_of hZ hS hFc hPc hDc hK U hU hW⟩)⟩ rfl rfl hl.1 rfl (lv_room (Nat.le_of_ble_eq_true rfl)) dT_addWord_16 ⟨Nat.le_of_ble_eq_true rfl, Nat.le_of_ble_eq_true rfl⟩) hS (fun q _ h => hFc q h) hFc (fun u9 t H1 locs ht hvm hr9 hB hz1 hk1 hS => ?_)
  obtain ⟨hP1, hK1, hD1⟩ := hB
  rw [ht] at hP1
  obtain ⟨hP, hD⟩ := xjoin (W := [(a0, .inr (1, [.ref a1, .int o11.2.1, .int o11.2.2])), (a1, .inl (cT 0, 4096, .inl o11.1))]) hP hD [0, 1] [] 0 rfl rfl (by decide) (by decide) hk1 hFc hP1 hD1
  generalize H1 = H at hP hS ⊢
  refine lv_iinc (v := 3) (lv' := [(2, .int 3), (0, .ref a0), (1, .ref (aK 10))]) hx hb dT_addWord_19 hl (k := 0) rfl rfl (by decide) rfl (fun ls hl => ?_)
  refine lv_goto (tgt := 2) hx hb dT_addWord_22 (by decide) ?_
  refine lv_iload_n hx hb dT_addWord_2 rfl (lv_at hl 0 rfl) ?_
  refine lv_aload_n hx hb dT_addWord_3 rfl (lv_at hl 2 rfl) ?_
  obtain ⟨hPc, hDc, hFc⟩ := xcut (wc := []) hP hD hS hA [] rfl rfl (by decide)
  refine va_calli (va_runV (C := "java/lang/String") (As := []) (rest := [.int 3]) ⟨hx, hb, hml, hown, htx⟩ (cJS_length_0 l hl9 D cT aK aV H.size) ⟨callB_of 0 htx (xw_goodC kw_2_70) rfl rfl rfl (htx _ kw_1_6) (htx _ kw_3_30) ⟨by decide, by decide, by decide +kernel⟩ ⟨Nat.le_of_ble_eq_true rfl, Nat.le_of_ble_eq_true rfl⟩, (htx _ kw_2_68), (htx _ kw_2_69)⟩ ⟨xPre_blind, vk_recv hZ.2.2.2.2.2.2.2.2.2.1 (i := 10) (by decide) hS, (fun U hU hW => ⟨rfl, xPre_of hZ hS hFc hPc hDc hK U hU hW⟩)⟩ rfl rfl hl.1 rfl (lv_room (Nat.le_of_ble_eq_true rfl)) dT_addWord_4 ⟨Nat.le_of_ble_eq_true rfl, Nat.le_of_ble_eq_true rfl⟩) hS (fun q _ h => hFc q h) hFc (fun r13 u9 t H1 locs ht hvm hr9 hB hz1 hk1 hS => ?_)
  obtain ⟨hP1, hK1, hD1⟩ := hB
  rw [ht] at hP1
  obtain ⟨hP, hD⟩ := xjoin (W := [(a0, .inr (1, [.ref a1, .int o11.2.1, .int o11.2.2])), (a1, .inl (cT 0, 4096, .inl o11.1))]) hP hD [] [0, 1] 2 rfl rfl (by decide) (by decide) hk1 hFc hP1 hD1
  generalize H1 = H at hP hS ⊢
  rw [hr9]
  refine W.eq (g2 := F0 m 7 ls [.int 4, .int 3]) rfl ?_
  refine lv_icmp_ge (tgt := 25) hx hb dT_addWord_7 (by decide) (fun h => ((by revert h; decide : False)).elim) (fun _ => ?_)
  refine lv_aload_n hx hb dT_addWord_10 rfl (lv_at hl 1 rfl) ?_
  refine lv_aload_n hx hb dT_addWord_11 rfl (lv_at hl 2 rfl) ?_
  refine lv_iload_n hx hb dT_addWord_12 rfl (lv_at hl 0 rfl) ?_
  obtain ⟨hPc, hDc, hFc⟩ := xcut (wc := []) hP hD hS hA [] rfl rfl (by decide)
  refine va_calli (va_runV (C := "java/lang/String") (As := [.int 3]) (rest := [.ref a0]) ⟨hx, hb, hml, hown, htx⟩ (cJS_charAt_3 l hl9 D cT aK aV H.size) ⟨callB_of 1 htx (xw_goodC kw_2_80) rfl rfl rfl (htx _ kw_1_6) (htx _ kw_3_31) ⟨by decide, by decide, by decide +kernel⟩ ⟨Nat.le_of_ble_eq_true rfl, Nat.le_of_ble_eq_true rfl⟩, (htx _ kw_2_78), (htx _ kw_2_79)⟩ ⟨xPre_blind, vk_recv hZ.2.2.2.2.2.2.2.2.2.1 (i := 10) (by decide) hS, (fun U hU hW => ⟨rfl, xPre_of hZ hS hFc hPc hDc hK U hU hW⟩)⟩ rfl rfl hl.1 rfl (lv_room (Nat.le_of_ble_eq_true rfl)) dT_addWord_13 ⟨Nat.le_of_ble_eq_true rfl, Nat.le_of_ble_eq_true rfl⟩) hS (fun q _ h => hFc q h) hFc (fun r14 u9 t H1 locs ht hvm hr9 hB hz1 hk1 hS => ?_)
  obtain ⟨hP1, hK1, hD1⟩ := hB
  rw [ht] at hP1
  obtain ⟨hP, hD⟩ := xjoin (W := [(a0, .inr (1, [.ref a1, .int o11.2.1, .int o11.2.2])), (a1, .inl (cT 0, 4096, .inl o11.1))]) hP hD [] [0, 1] 2 rfl rfl (by decide) (by decide) hk1 hFc hP1 hD1
  generalize H1 = H at hP hS ⊢
  rw [hr9]
  refine W.eq (g2 := F0 m 16 ls [.int 108, .ref a0]) rfl ?_
  obtain ⟨o15, hq16, hf⟩ := xbind hf
  obtain ⟨hPc, hDc, hFc⟩ := xcut (wc := [(a0, .inr (1, [.ref a1, .int o11.2.1, .int o11.2.2])), (a1, .inl (cT 0, 4096, .inl o11.1))]) hP hD hS hA [0, 1] rfl rfl (by decide)
  refine va_callv (va_runV (C := "ValueBench$Text") (As := [.int 108]) (rest := []) ⟨hx, hb, hml, hown, htx⟩ (gT_add l hl9 D cT aK aV H.size n a0 a1 (108 : Int32) o11.1 o11.2.1 o11.2.2 o15 hq16) ⟨callB_of 1 htx (xw_goodC kw_1_207) rfl rfl rfl (htx _ kw_1_2) (htx _ kw_1_204) ⟨by decide, by decide, by decide +kernel⟩ ⟨Nat.le_of_ble_eq_true rfl, Nat.le_of_ble_eq_true rfl⟩, (htx _ kw_1_205), (htx _ kw_1_206)⟩ ⟨xPre_blind, va_recv hK hP (ci := 1) rfl (q0 := 0) rfl, (fun U hU hW => ⟨rfl, xPre_of hZ hS hFc hPc hDc hK U hU hW⟩)⟩ rfl rfl hl.1 rfl (lv_room (Nat.le_of_ble_eq_true rfl)) dT_addWord_16 ⟨Nat.le_of_ble_eq_true rfl, Nat.le_of_ble_eq_true rfl⟩) hS (fun q _ h => hFc q h) hFc (fun u9 t H1 locs ht hvm hr9 hB hz1 hk1 hS => ?_)
  obtain ⟨hP1, hK1, hD1⟩ := hB
  rw [ht] at hP1
  obtain ⟨hP, hD⟩ := xjoin (W := [(a0, .inr (1, [.ref a1, .int o15.2.1, .int o15.2.2])), (a1, .inl (cT 0, 4096, .inl o15.1))]) hP hD [0, 1] [] 0 rfl rfl (by decide) (by decide) hk1 hFc hP1 hD1
  generalize H1 = H at hP hS ⊢
  refine lv_iinc (v := 4) (lv' := [(2, .int 4), (0, .ref a0), (1, .ref (aK 10))]) hx hb dT_addWord_19 hl (k := 0) rfl rfl (by decide) rfl (fun ls hl => ?_)
  refine lv_goto (tgt := 2) hx hb dT_addWord_22 (by decide) ?_
  refine lv_iload_n hx hb dT_addWord_2 rfl (lv_at hl 0 rfl) ?_
  refine lv_aload_n hx hb dT_addWord_3 rfl (lv_at hl 2 rfl) ?_
  obtain ⟨hPc, hDc, hFc⟩ := xcut (wc := []) hP hD hS hA [] rfl rfl (by decide)
  refine va_calli (va_runV (C := "java/lang/String") (As := []) (rest := [.int 4]) ⟨hx, hb, hml, hown, htx⟩ (cJS_length_0 l hl9 D cT aK aV H.size) ⟨callB_of 0 htx (xw_goodC kw_2_70) rfl rfl rfl (htx _ kw_1_6) (htx _ kw_3_30) ⟨by decide, by decide, by decide +kernel⟩ ⟨Nat.le_of_ble_eq_true rfl, Nat.le_of_ble_eq_true rfl⟩, (htx _ kw_2_68), (htx _ kw_2_69)⟩ ⟨xPre_blind, vk_recv hZ.2.2.2.2.2.2.2.2.2.1 (i := 10) (by decide) hS, (fun U hU hW => ⟨rfl, xPre_of hZ hS hFc hPc hDc hK U hU hW⟩)⟩ rfl rfl hl.1 rfl (lv_room (Nat.le_of_ble_eq_true rfl)) dT_addWord_4 ⟨Nat.le_of_ble_eq_true rfl, Nat.le_of_ble_eq_true rfl⟩) hS (fun q _ h => hFc q h) hFc (fun r17 u9 t H1 locs ht hvm hr9 hB hz1 hk1 hS => ?_)
  obtain ⟨hP1, hK1, hD1⟩ := hB
  rw [ht] at hP1
  obtain ⟨hP, hD⟩ := xjoin (W := [(a0, .inr (1, [.ref a1, .int o15.2.1, .int o15.2.2])), (a1, .inl (cT 0, 4096, .inl o15.1))]) hP hD [] [0, 1] 2 rfl rfl (by decide) (by decide) hk1 hFc hP1 hD1
  generalize H1 = H at hP hS ⊢
  rw [hr9]
  refine W.eq (g2 := F0 m 7 ls [.int 4, .int 4]) rfl ?_
  refine lv_icmp_ge (tgt := 25) hx hb dT_addWord_7 (by decide) (fun _ => ?_) (fun h => ((by revert h; decide : False)).elim)
  obtain rfl := Option.some.inj hf
  obtain ⟨hP9, hD9⟩ := xsub (wc := [(a0, .inr (1, [.ref a1, .int o15.2.1, .int o15.2.2])), (a1, .inl (cT 0, 4096, .inl o15.1))]) hP hD [0, 1] rfl rfl (by decide)
  exact W.vret hx hb hr (fun t ht hW => ⟨⟨(), rfl, trivial, by rw [ht]; exact hP9, va_K.moved hW.alike hK, hD9⟩, hS.F ht⟩) hS.2.2 dT_addWord_25
set_option maxHeartbeats 400000000 in
set_option maxRecDepth 100000 in
theorem gT_addWorda (l : Launch) (hl9 : l.stackTraces = false) (D : va_G) (cT : Nat → ClassId) (aK aV : Nat → Nat) (sz n : Nat) (a0 : Nat) (a1 : Nat) (f0 : Nat → Int32) (v1 : Int32) (v2 : Int32) (out : (Nat → Int32) × Int32 × Int32) (hf : fT_addWorda n f0 v1 v2 = some out) : xMet l yT_addWord wyT_addWord 4 0 0 85 D cT aK aV sz [.ref a0, .ref (aK 11)] [(a0, .inr (1, [.ref a1, .int v1, .int v2])), (a1, .inl (cT 0, 4096, .inl f0))] (fun A => va_Qv (fun _ : Unit => True) (fun _ t => xB D xcl cT A [(a0, .inr (1, [.ref a1, .int out.2.1, .int out.2.2])), (a1, .inl (cT 0, 4096, .inl out.1))] t) A) := by
  refine Met.ofW (cc := prog_11_method_10_code) (maxL := 3) (ret := none) (by decide) rfl ?_
  intro p e s m args below meth c s₁ B hml hv
  obtain ⟨rfl, hsz, hZ, hP, hK, hD0⟩ := hv
  have hx := B.exec
  have hb := B.bytes
  have hr := B.returns
  have hts := atoms_spec (ws := wyT_addWord) B.pre
  have htx := fun w h => hts w (List.mem_cons_of_mem _ h)
  have hown : s.vm.findClass "ValueBench$Text" = some m.cls := findClass_of_methodNamed B.named
  have hlocks := B.notSynchronized
  subst hsz
  have hD := hD0.self (sz := s.heap.size)
  generalize hAe : va_A [(a0, .inr (1, [.ref a1, .int v1, .int v2])), (a1, .inl (cT 0, 4096, .inl f0))] s.heap.size = A at hD hZ ⊢
  have hA : ∀ q : Nat, s.heap.size ≤ q → A q := fun q h => by rw [← hAe]; exact Or.inr h
  have hS : va_S A s.heap s.heap [] := va_S.rf
  have hP : va_P D xcl [(a0, .inr (1, [.ref a1, .int v1, .int v2])), (a1, .inl (cT 0, 4096, .inl f0))] s.heap := hP
  have hl := lv_entry ([.ref a0, .ref (aK 11)]) (n := 3) (Nat.le_of_ble_eq_true rfl)
  rw [lg_entry_eq]
  generalize (lg_sl ([.ref a0, .ref (aK 11)]) ++ List.replicate (3 - (lg_sl ([.ref a0, .ref (aK 11)])).length) Slot.unset).toArray = ls at hl ⊢
  have hl : lv_has ls 3 [(0, .ref a0), (1, .ref (aK 11))] := hl
  unfold fT_addWorda at hf
  refine lv_iconst (v := 0) hx hb dT_addWord_0 (by decide) ?_
  refine lv_istore_n (lv' := [(2, .int 0), (0, .ref a0), (1, .ref (aK 11))]) hx hb dT_addWord_1 rfl hl (by decide) rfl (fun ls hl => ?_)
  refine lv_iload_n hx hb dT_addWord_2 rfl (lv_at hl 0 rfl) ?_
  refine lv_aload_n hx hb dT_addWord_3 rfl (lv_at hl 2 rfl) ?_
  obtain ⟨hPc, hDc, hFc⟩ := xcut (wc := []) hP hD hS hA [] rfl rfl (by decide)
  refine va_calli (va_runV (C := "java/lang/String") (As := []) (rest := [.int 0]) ⟨hx, hb, hml, hown, htx⟩ (cJS_length_1 l hl9 D cT aK aV s.heap.size) ⟨callB_of 0 htx (xw_goodC kw_2_70) rfl rfl rfl (htx _ kw_1_6) (htx _ kw_3_30) ⟨by decide, by decide, by decide +kernel⟩ ⟨Nat.le_of_ble_eq_true rfl, Nat.le_of_ble_eq_true rfl⟩, (htx _ kw_2_68), (htx _ kw_2_69)⟩ ⟨xPre_blind, vk_recv hZ.2.2.2.2.2.2.2.2.2.1 (i := 11) (by decide) hS, (fun U hU hW => ⟨rfl, xPre_of hZ hS hFc hPc hDc hK U hU hW⟩)⟩ rfl rfl hl.1 rfl (lv_room (Nat.le_of_ble_eq_true rfl)) dT_addWord_4 ⟨Nat.le_of_ble_eq_true rfl, Nat.le_of_ble_eq_true rfl⟩) hS (fun q _ h => hFc q h) hFc (fun r1 u9 t H1 locs ht hvm hr9 hB hz1 hk1 hS => ?_)
  obtain ⟨hP1, hK1, hD1⟩ := hB
  rw [ht] at hP1
  obtain ⟨hP, hD⟩ := xjoin (W := [(a0, .inr (1, [.ref a1, .int v1, .int v2])), (a1, .inl (cT 0, 4096, .inl f0))]) hP hD [] [0, 1] 2 rfl rfl (by decide) (by decide) hk1 hFc hP1 hD1
  generalize H1 = H at hP hS ⊢
  rw [hr9]
  refine W.eq (g2 := F0 m 7 ls [.int 5, .int 0]) rfl ?_
  refine lv_icmp_ge (tgt := 25) hx hb dT_addWord_7 (by decide) (fun h => ((by revert h; decide : False)).elim) (fun _ => ?_)
  refine lv_aload_n hx hb dT_addWord_10 rfl (lv_at hl 1 rfl) ?_
  refine lv_aload_n hx hb dT_addWord_11 rfl (lv_at hl 2 rfl) ?_
  refine lv_iload_n hx hb dT_addWord_12 rfl (lv_at hl 0 rfl) ?_
  obtain ⟨hPc, hDc, hFc⟩ := xcut (wc := []) hP hD hS hA [] rfl rfl (by decide)
  refine va_calli (va_runV (C := "java/lang/String") (As := [.int 0]) (rest := [.ref a0]) ⟨hx, hb, hml, hown, htx⟩ (cJS_charAt_4 l hl9 D cT aK aV H.size) ⟨callB_of 1 htx (xw_goodC kw_2_80) rfl rfl rfl (htx _ kw_1_6) (htx _ kw_3_31) ⟨by decide, by decide, by decide +kernel⟩ ⟨Nat.le_of_ble_eq_true rfl, Nat.le_of_ble_eq_true rfl⟩, (htx _ kw_2_78), (htx _ kw_2_79)⟩ ⟨xPre_blind, vk_recv hZ.2.2.2.2.2.2.2.2.2.1 (i := 11) (by decide) hS, (fun U hU hW => ⟨rfl, xPre_of hZ hS hFc hPc hDc hK U hU hW⟩)⟩ rfl rfl hl.1 rfl (lv_room (Nat.le_of_ble_eq_true rfl)) dT_addWord_13 ⟨Nat.le_of_ble_eq_true rfl, Nat.le_of_ble_eq_true rfl⟩) hS (fun q _ h => hFc q h) hFc (fun r2 u9 t H1 locs ht hvm hr9 hB hz1 hk1 hS => ?_)
  obtain ⟨hP1, hK1, hD1⟩ := hB
  rw [ht] at hP1
  obtain ⟨hP, hD⟩ := xjoin (W := [(a0, .inr (1, [.ref a1, .int v1, .int v2])), (a1, .inl (cT 0, 4096, .inl f0))]) hP hD [] [0, 1] 2 rfl rfl (by decide) (by decide) hk1 hFc hP1 hD1
  generalize H1 = H at hP hS ⊢
  rw [hr9]
  refine W.eq (g2 := F0 m 16 ls [.int 102, .ref a0]) rfl ?_
  obtain ⟨o3, hq4, hf⟩ := xbind hf
  obtain ⟨hPc, hDc, hFc⟩ := xcut (wc := [(a0, .inr (1, [.ref a1, .int v1, .int v2])), (a1, .inl (cT 0, 4096, .inl f0))]) hP hD hS hA [0, 1] rfl rfl (by decide)
  refine va_callv (va_runV (C := "ValueBench$Text") (As := [.int 102]) (rest := []) ⟨hx, hb, hml, hown, htx⟩ (gT_add l hl9 D cT aK aV H.size n a0 a1 (102 : Int32) f0 v1 v2 o3 hq4) ⟨callB_of 1 htx (xw_goodC kw_1_207) rfl rfl rfl (htx _ kw_1_2) (htx _ kw_1_204) ⟨by decide, by decide, by decide +kernel⟩ ⟨Nat.le_of_ble_eq_true rfl, Nat.le_of_ble_eq_true rfl⟩, (htx _ kw_1_205), (htx _ kw_1_206)⟩ ⟨xPre_blind, va_recv hK hP (ci := 1) rfl (q0 := 0) rfl, (fun U hU hW => ⟨rfl, xPre_of hZ hS hFc hPc hDc hK U hU hW⟩)⟩ rfl rfl hl.1 rfl (lv_room (Nat.le_of_ble_eq_true rfl)) dT_addWord_16 ⟨Nat.le_of_ble_eq_true rfl, Nat.le_of_ble_eq_true rfl⟩) hS (fun q _ h => hFc q h) hFc (fun u9 t H1 locs ht hvm hr9 hB hz1 hk1 hS => ?_)
  obtain ⟨hP1, hK1, hD1⟩ := hB
  rw [ht] at hP1
  obtain ⟨hP, hD⟩ := xjoin (W := [(a0, .inr (1, [.ref a1, .int o3.2.1, .int o3.2.2])), (a1, .inl (cT 0, 4096, .inl o3.1))]) hP hD [0, 1] [] 0 rfl rfl (by decide) (by decide) hk1 hFc hP1 hD1
  generalize H1 = H at hP hS ⊢
  refine lv_iinc (v := 1) (lv' := [(2, .int 1), (0, .ref a0), (1, .ref (aK 11))]) hx hb dT_addWord_19 hl (k := 0) rfl rfl (by decide) rfl (fun ls hl => ?_)
  refine lv_goto (tgt := 2) hx hb dT_addWord_22 (by decide) ?_
  refine lv_iload_n hx hb dT_addWord_2 rfl (lv_at hl 0 rfl) ?_
  refine lv_aload_n hx hb dT_addWord_3 rfl (lv_at hl 2 rfl) ?_
  obtain ⟨hPc, hDc, hFc⟩ := xcut (wc := []) hP hD hS hA [] rfl rfl (by decide)
  refine va_calli (va_runV (C := "java/lang/String") (As := []) (rest := [.int 1]) ⟨hx, hb, hml, hown, htx⟩ (cJS_length_1 l hl9 D cT aK aV H.size) ⟨callB_of 0 htx (xw_goodC kw_2_70) rfl rfl rfl (htx _ kw_1_6) (htx _ kw_3_30) ⟨by decide, by decide, by decide +kernel⟩ ⟨Nat.le_of_ble_eq_true rfl, Nat.le_of_ble_eq_true rfl⟩, (htx _ kw_2_68), (htx _ kw_2_69)⟩ ⟨xPre_blind, vk_recv hZ.2.2.2.2.2.2.2.2.2.1 (i := 11) (by decide) hS, (fun U hU hW => ⟨rfl, xPre_of hZ hS hFc hPc hDc hK U hU hW⟩)⟩ rfl rfl hl.1 rfl (lv_room (Nat.le_of_ble_eq_true rfl)) dT_addWord_4 ⟨Nat.le_of_ble_eq_true rfl, Nat.le_of_ble_eq_true rfl⟩) hS (fun q _ h => hFc q h) hFc (fun r5 u9 t H1 locs ht hvm hr9 hB hz1 hk1 hS => ?_)
  obtain ⟨hP1, hK1, hD1⟩ := hB
  rw [ht] at hP1
  obtain ⟨hP, hD⟩ := xjoin (W := [(a0, .inr (1, [.ref a1, .int o3.2.1, .int o3.2.2])), (a1, .inl (cT 0, 4096, .inl o3.1))]) hP hD [] [0, 1] 2 rfl rfl (by decide) (by decide) hk1 hFc hP1 hD1
  generalize H1 = H at hP hS ⊢
  rw [hr9]
  refine W.eq (g2 := F0 m 7 ls [.int 5, .int 1]) rfl ?_
  refine lv_icmp_ge (tgt := 25) hx hb dT_addWord_7 (by decide) (fun h => ((by revert h; decide : False)).elim) (fun _ => ?_)
  refine lv_aload_n hx hb dT_addWord_10 rfl (lv_at hl 1 rfl) ?_
  refine lv_aload_n hx hb dT_addWord_11 rfl (lv_at hl 2 rfl) ?_
  refine lv_iload_n hx hb dT_addWord_12 rfl (lv_at hl 0 rfl) ?_
  obtain ⟨hPc, hDc, hFc⟩ := xcut (wc := []) hP hD hS hA [] rfl rfl (by decide)
  refine va_calli (va_runV (C := "java/lang/String") (As := [.int 1]) (rest := [.ref a0]) ⟨hx, hb, hml, hown, htx⟩ (cJS_charAt_5 l hl9 D cT aK aV H.size) ⟨callB_of 1 htx (xw_goodC kw_2_80) rfl rfl rfl (htx _ kw_1_6) (htx _ kw_3_31) ⟨by decide, by decide, by decide +kernel⟩ ⟨Nat.le_of_ble_eq_true rfl, Nat.le_of_ble_eq_true rfl⟩, (htx _ kw_2_78), (htx _ kw_2_79)⟩ ⟨xPre_blind, vk_recv hZ.2.2.2.2.2.2.2.2.2.1 (i := 11) (by decide) hS, (fun U hU hW => ⟨rfl, xPre_of hZ hS hFc hPc hDc hK U hU hW⟩)⟩ rfl rfl hl.1 rfl (lv_room (Nat.le_of_ble_eq_true rfl)) dT_addWord_13 ⟨Nat.le_of_ble_eq_true rfl, Nat.le_of_ble_eq_true rfl⟩) hS (fun q _ h => hFc q h) hFc (fun r6 u9 t H1 locs ht hvm hr9 hB hz1 hk1 hS => ?_)
  obtain ⟨hP1, hK1, hD1⟩ := hB
  rw [ht] at hP1
  obtain ⟨hP, hD⟩ := xjoin (W := [(a0, .inr (1, [.ref a1, .int o3.2.1, .int o3.2.2])), (a1, .inl (cT 0, 4096, .inl o3.1))]) hP hD [] [0, 1] 2 rfl rfl (by decide) (by decide) hk1 hFc hP1 hD1
  generalize H1 = H at hP hS ⊢
  rw [hr9]
  refine W.eq (g2 := F0 m 16 ls [.int 97, .ref a0]) rfl ?_
  obtain ⟨o7, hq8, hf⟩ := xbind hf
  obtain ⟨hPc, hDc, hFc⟩ := xcut (wc := [(a0, .inr (1, [.ref a1, .int o3.2.1, .int o3.2.2])), (a1, .inl (cT 0, 4096, .inl o3.1))]) hP hD hS hA [0, 1] rfl rfl (by decide)
  refine va_callv (va_runV (C := "ValueBench$Text") (As := [.int 97]) (rest := []) ⟨hx, hb, hml, hown, htx⟩ (gT_add l hl9 D cT aK aV H.size n a0 a1 (97 : Int32) o3.1 o3.2.1 o3.2.2 o7 hq8) ⟨callB_of 1 htx (xw_goodC kw_1_207) rfl rfl rfl (htx _ kw_1_2) (htx _ kw_1_204) ⟨by decide, by decide, by decide +kernel⟩ ⟨Nat.le_of_ble_eq_true rfl, Nat.le_of_ble_eq_true rfl⟩, (htx _ kw_1_205), (htx _ kw_1_206)⟩ ⟨xPre_blind, va_recv hK hP (ci := 1) rfl (q0 := 0) rfl, (fun U hU hW => ⟨rfl, xPre_of hZ hS hFc hPc hDc hK U hU hW⟩)⟩ rfl rfl hl.1 rfl (lv_room (Nat.le_of_ble_eq_true rfl)) dT_addWord_16 ⟨Nat.le_of_ble_eq_true rfl, Nat.le_of_ble_eq_true rfl⟩) hS (fun q _ h => hFc q h) hFc (fun u9 t H1 locs ht hvm hr9 hB hz1 hk1 hS => ?_)
  obtain ⟨hP1, hK1, hD1⟩ := hB
  rw [ht] at hP1
  obtain ⟨hP, hD⟩ := xjoin (W := [(a0, .inr (1, [.ref a1, .int o7.2.1, .int o7.2.2])), (a1, .inl (cT 0, 4096, .inl o7.1))]) hP hD [0, 1] [] 0 rfl rfl (by decide) (by decide) hk1 hFc hP1 hD1
  generalize H1 = H at hP hS ⊢
  refine lv_iinc (v := 2) (lv' := [(2, .int 2), (0, .ref a0), (1, .ref (aK 11))]) hx hb dT_addWord_19 hl (k := 0) rfl rfl (by decide) rfl (fun ls hl => ?_)
  refine lv_goto (tgt := 2) hx hb dT_addWord_22 (by decide) ?_
  refine lv_iload_n hx hb dT_addWord_2 rfl (lv_at hl 0 rfl) ?_
  refine lv_aload_n hx hb dT_addWord_3 rfl (lv_at hl 2 rfl) ?_
  obtain ⟨hPc, hDc, hFc⟩ := xcut (wc := []) hP hD hS hA [] rfl rfl (by decide)
  refine va_calli (va_runV (C := "java/lang/String") (As := []) (rest := [.int 2]) ⟨hx, hb, hml, hown, htx⟩ (cJS_length_1 l hl9 D cT aK aV H.size) ⟨callB_of 0 htx (xw_goodC kw_2_70) rfl rfl rfl (htx _ kw_1_6) (htx _ kw_3_30) ⟨by decide, by decide, by decide +kernel⟩ ⟨Nat.le_of_ble_eq_true rfl, Nat.le_of_ble_eq_true rfl⟩, (htx _ kw_2_68), (htx _ kw_2_69)⟩ ⟨xPre_blind, vk_recv hZ.2.2.2.2.2.2.2.2.2.1 (i := 11) (by decide) hS, (fun U hU hW => ⟨rfl, xPre_of hZ hS hFc hPc hDc hK U hU hW⟩)⟩ rfl rfl hl.1 rfl (lv_room (Nat.le_of_ble_eq_true rfl)) dT_addWord_4 ⟨Nat.le_of_ble_eq_true rfl, Nat.le_of_ble_eq_true rfl⟩) hS (fun q _ h => hFc q h) hFc (fun r9 u9 t H1 locs ht hvm hr9 hB hz1 hk1 hS => ?_)
  obtain ⟨hP1, hK1, hD1⟩ := hB
  rw [ht] at hP1
  obtain ⟨hP, hD⟩ := xjoin (W := [(a0, .inr (1, [.ref a1, .int o7.2.1, .int o7.2.2])), (a1, .inl (cT 0, 4096, .inl o7.1))]) hP hD [] [0, 1] 2 rfl rfl (by decide) (by decide) hk1 hFc hP1 hD1
  generalize H1 = H at hP hS ⊢
  rw [hr9]
  refine W.eq (g2 := F0 m 7 ls [.int 5, .int 2]) rfl ?_
  refine lv_icmp_ge (tgt := 25) hx hb dT_addWord_7 (by decide) (fun h => ((by revert h; decide : False)).elim) (fun _ => ?_)
  refine lv_aload_n hx hb dT_addWord_10 rfl (lv_at hl 1 rfl) ?_
  refine lv_aload_n hx hb dT_addWord_11 rfl (lv_at hl 2 rfl) ?_
  refine lv_iload_n hx hb dT_addWord_12 rfl (lv_at hl 0 rfl) ?_
  obtain ⟨hPc, hDc, hFc⟩ := xcut (wc := []) hP hD hS hA [] rfl rfl (by decide)
  refine va_calli (va_runV (C := "java/lang/String") (As := [.int 2]) (rest := [.ref a0]) ⟨hx, hb, hml, hown, htx⟩ (cJS_charAt_6 l hl9 D cT aK aV H.size) ⟨callB_of 1 htx (xw_goodC kw_2_80) rfl rfl rfl (htx _ kw_1_6) (htx _ kw_3_31) ⟨by decide, by decide, by decide +kernel⟩ ⟨Nat.le_of_ble_eq_true rfl, Nat.le_of_ble_eq_true rfl⟩, (htx _ kw_2_78), (htx _ kw_2_79)⟩ ⟨xPre_blind, vk_recv hZ.2.2.2.2.2.2.2.2.2.1 (i := 11) (by decide) hS, (fun U hU hW => ⟨rfl, xPre_of hZ hS hFc hPc hDc hK U hU hW⟩)⟩ rfl rfl hl.1 rfl (lv_room (Nat.le_of_ble_eq_true rfl)) dT_addWord_13 ⟨Nat.le_of_ble_eq_true rfl, Nat.le_of_ble_eq_true rfl⟩) hS (fun q _ h => hFc q h) hFc (fun r10 u9 t H1 locs ht hvm hr9 hB hz1 hk1 hS => ?_)
  obtain ⟨hP1, hK1, hD1⟩ := hB
  rw [ht] at hP1
  obtain ⟨hP, hD⟩ := xjoin (W := [(a0, .inr (1, [.ref a1, .int o7.2.1, .int o7.2.2])), (a1, .inl (cT 0, 4096, .inl o7.1))]) hP hD [] [0, 1] 2 rfl rfl (by decide) (by decide) hk1 hFc hP1 hD1
  generalize H1 = H at hP hS ⊢
  rw [hr9]
  refine W.eq (g2 := F0 m 16 ls [.int 108, .ref a0]) rfl ?_
  obtain ⟨o11, hq12, hf⟩ := xbind hf
  obtain ⟨hPc, hDc, hFc⟩ := xcut (wc := [(a0, .inr (1, [.ref a1, .int o7.2.1, .int o7.2.2])), (a1, .inl (cT 0, 4096, .inl o7.1))]) hP hD hS hA [0, 1] rfl rfl (by decide)
  refine va_callv (va_runV (C := "ValueBench$Text") (As := [.int 108]) (rest := []) ⟨hx, hb, hml, hown, htx⟩ (gT_add l hl9 D cT aK aV H.size n a0 a1 (108 : Int32) o7.1 o7.2.1 o7.2.2 o11 hq12) ⟨callB_of 1 htx (xw_goodC kw_1_207) rfl rfl rfl (htx _ kw_1_2) (htx _ kw_1_204) ⟨by decide, by decide, by decide +kernel⟩ ⟨Nat.le_of_ble_eq_true rfl, Nat.le_of_ble_eq_true rfl⟩, (htx _ kw_1_205), (htx _ kw_1_206)⟩ ⟨xPre_blind, va_recv hK hP (ci := 1) rfl (q0 := 0) rfl, (fun U hU hW => ⟨rfl, xPre_of hZ hS hFc hPc hDc hK U hU hW⟩)⟩ rfl rfl hl.1 rfl (lv_room (Nat.le_of_ble_eq_true rfl)) dT_addWord_16 ⟨Nat.le_of_ble_eq_true rfl, Nat.le_of_ble_eq_true rfl⟩) hS (fun q _ h => hFc q h) hFc (fun u9 t H1 locs ht hvm hr9 hB hz1 hk1 hS => ?_)
  obtain ⟨hP1, hK1, hD1⟩ := hB
  rw [ht] at hP1
  obtain ⟨hP, hD⟩ := xjoin (W := [(a0, .inr (1, [.ref a1, .int o11.2.1, .int o11.2.2])), (a1, .inl (cT 0, 4096, .inl o11.1))]) hP hD [0, 1] [] 0 rfl rfl (by decide) (by decide) hk1 hFc hP1 hD1
  generalize H1 = H at hP hS ⊢
  refine lv_iinc (v := 3) (lv' := [(2, .int 3), (0, .ref a0), (1, .ref (aK 11))]) hx hb dT_addWord_19 hl (k := 0) rfl rfl (by decide) rfl (fun ls hl => ?_)
  refine lv_goto (tgt := 2) hx hb dT_addWord_22 (by decide) ?_
  refine lv_iload_n hx hb dT_addWord_2 rfl (lv_at hl 0 rfl) ?_
  refine lv_aload_n hx hb dT_addWord_3 rfl (lv_at hl 2 rfl) ?_
  obtain ⟨hPc, hDc, hFc⟩ := xcut (wc := []) hP hD hS hA [] rfl rfl (by decide)
  refine va_calli (va_runV (C := "java/lang/String") (As := []) (rest := [.int 3]) ⟨hx, hb, hml, hown, htx⟩ (cJS_length_1 l hl9 D cT aK aV H.size) ⟨callB_of 0 htx (xw_goodC kw_2_70) rfl rfl rfl (htx _ kw_1_6) (htx _ kw_3_30) ⟨by decide, by decide, by decide +kernel⟩ ⟨Nat.le_of_ble_eq_true rfl, Nat.le_of_ble_eq_true rfl⟩, (htx _ kw_2_68), (htx _ kw_2_69)⟩ ⟨xPre_blind, vk_recv hZ.2.2.2.2.2.2.2.2.2.1 (i := 11) (by decide) hS, (fun U hU hW => ⟨rfl, xPre_of hZ hS hFc hPc hDc hK U hU hW⟩)⟩ rfl rfl hl.1 rfl (lv_room (Nat.le_of_ble_eq_true rfl)) dT_addWord_4 ⟨Nat.le_of_ble_eq_true rfl, Nat.le_of_ble_eq_true rfl⟩) hS (fun q _ h => hFc q h) hFc (fun r13 u9 t H1 locs ht hvm hr9 hB hz1 hk1 hS => ?_)
  obtain ⟨hP1, hK1, hD1⟩ := hB
  rw [ht] at hP1
  obtain ⟨hP, hD⟩ := xjoin (W := [(a0, .inr (1, [.ref a1, .int o11.2.1, .int o11.2.2])), (a1, .inl (cT 0, 4096, .inl o11.1))]) hP hD [] [0, 1] 2 rfl rfl (by decide) (by decide) hk1 hFc hP1 hD1
  generalize H1 = H at hP hS ⊢
  rw [hr9]
  refine W.eq (g2 := F0 m 7 ls [.int 5, .int 3]) rfl ?_
  refine lv_icmp_ge (tgt := 25) hx hb dT_addWord_7 (by decide) (fun h => ((by revert h; decide : False)).elim) (fun _ => ?_)
  refine lv_aload_n hx hb dT_addWord_10 rfl (lv_at hl 1 rfl) ?_
  refine lv_aload_n hx hb dT_addWord_11 rfl (lv_at hl 2 rfl) ?_
  refine lv_iload_n hx hb dT_addWord_12 rfl (lv_at hl 0 rfl) ?_
  obtain ⟨hPc, hDc, hFc⟩ := xcut (wc := []) hP hD hS hA [] rfl rfl (by decide)
  refine va_calli (va_runV (C := "java/lang/String") (As := [.int 3]) (rest := [.ref a0]) ⟨hx, hb, hml, hown, htx⟩ (cJS_charAt_7 l hl9 D cT aK aV H.size) ⟨callB_of 1 htx (xw_goodC kw_2_80) rfl rfl rfl (htx _ kw_1_6) (htx _ kw_3_31) ⟨by decide, by decide, by decide +kernel⟩ ⟨Nat.le_of_ble_eq_true rfl, Nat.le_of_ble_eq_true rfl⟩, (htx _ kw_2_78), (htx _ kw_2_79)⟩ ⟨xPre_blind, vk_recv hZ.2.2.2.2.2.2.2.2.2.1 (i := 11) (by decide) hS, (fun U hU hW => ⟨rfl, xPre_of hZ hS hFc hPc hDc hK U hU hW⟩)⟩ rfl rfl hl.1 rfl (lv_room (Nat.le_of_ble_eq_true rfl)) dT_addWord_13 ⟨Nat.le_of_ble_eq_true rfl, Nat.le_of_ble_eq_true rfl⟩) hS (fun q _ h => hFc q h) hFc (fun r14 u9 t H1 locs ht hvm hr9 hB hz1 hk1 hS => ?_)
  obtain ⟨hP1, hK1, hD1⟩ := hB
  rw [ht] at hP1
  obtain ⟨hP, hD⟩ := xjoin (W := [(a0, .inr (1, [.ref a1, .int o11.2.1, .int o11.2.2])), (a1, .inl (cT 0, 4096, .inl o11.1))]) hP hD [] [0, 1] 2 rfl rfl (by decide) (by decide) hk1 hFc hP1 hD1
  generalize H1 = H at hP hS ⊢
  rw [hr9]
  refine W.eq (g2 := F0 m 16 ls [.int 115, .ref a0]) rfl ?_
  obtain ⟨o15, hq16, hf⟩ := xbind hf
  obtain ⟨hPc, hDc, hFc⟩ := xcut (wc := [(a0, .inr (1, [.ref a1, .int o11.2.1, .int o11.2.2])), (a1, .inl (cT 0, 4096, .inl o11.1))]) hP hD hS hA [0, 1] rfl rfl (by decide)
  refine va_callv (va_runV (C := "ValueBench$Text") (As := [.int 115]) (rest := []) ⟨hx, hb, hml, hown, htx⟩ (gT_add l hl9 D cT aK aV H.size n a0 a1 (115 : Int32) o11.1 o11.2.1 o11.2.2 o15 hq16) ⟨callB_of 1 htx (xw_goodC kw_1_207) rfl rfl rfl (htx _ kw_1_2) (htx _ kw_1_204) ⟨by decide, by decide, by decide +kernel⟩ ⟨Nat.le_of_ble_eq_true rfl, Nat.le_of_ble_eq_true rfl⟩, (htx _ kw_1_205), (htx _ kw_1_206)⟩ ⟨xPre_blind, va_recv hK hP (ci := 1) rfl (q0 := 0) rfl, (fun U hU hW => ⟨rfl, xPre_of hZ hS hFc hPc hDc hK U hU hW⟩)⟩ rfl rfl hl.1 rfl (lv_room (Nat.le_of_ble_eq_true rfl)) dT_addWord_16 ⟨Nat.le_of_ble_eq_true rfl, Nat.le_of_ble_eq_true rfl⟩) hS (fun q _ h => hFc q h) hFc (fun u9 t H1 locs ht hvm hr9 hB hz1 hk1 hS => ?_)
  obtain ⟨hP1, hK1, hD1⟩ := hB
  rw [ht] at hP1
  obtain ⟨hP, hD⟩ := xjoin (W := [(a0, .inr (1, [.ref a1, .int o15.2.1, .int o15.2.2])), (a1, .inl (cT 0, 4096, .inl o15.1))]) hP hD [0, 1] [] 0 rfl rfl (by decide) (by decide) hk1 hFc hP1 hD1
  generalize H1 = H at hP hS ⊢
  refine lv_iinc (v := 4) (lv' := [(2, .int 4), (0, .ref a0), (1, .ref (aK 11))]) hx hb dT_addWord_19 hl (k := 0) rfl rfl (by decide) rfl (fun ls hl => ?_)
  refine lv_goto (tgt := 2) hx hb dT_addWord_22 (by decide) ?_
  refine lv_iload_n hx hb dT_addWord_2 rfl (lv_at hl 0 rfl) ?_
  refine lv_aload_n hx hb dT_addWord_3 rfl (lv_at hl 2 rfl) ?_
  obtain ⟨hPc, hDc, hFc⟩ := xcut (wc := []) hP hD hS hA [] rfl rfl (by decide)
  refine va_calli (va_runV (C := "java/lang/String") (As := []) (rest := [.int 4]) ⟨hx, hb, hml, hown, htx⟩ (cJS_length_1 l hl9 D cT aK aV H.size) ⟨callB_of 0 htx (xw_goodC kw_2_70) rfl rfl rfl (htx _ kw_1_6) (htx _ kw_3_30) ⟨by decide, by decide, by decide +kernel⟩ ⟨Nat.le_of_ble_eq_true rfl, Nat.le_of_ble_eq_true rfl⟩, (htx _ kw_2_68), (htx _ kw_2_69)⟩ ⟨xPre_blind, vk_recv hZ.2.2.2.2.2.2.2.2.2.1 (i := 11) (by decide) hS, (fun U hU hW => ⟨rfl, xPre_of hZ hS hFc hPc hDc hK U hU hW⟩)⟩ rfl rfl hl.1 rfl (lv_room (Nat.le_of_ble_eq_true rfl)) dT_addWord_4 ⟨Nat.le_of_ble_eq_true rfl, Nat.le_of_ble_eq_true rfl⟩) hS (fun q _ h => hFc q h) hFc (fun r17 u9 t H1 locs ht hvm hr9 hB hz1 hk1 hS => ?_)
  obtain ⟨hP1, hK1, hD1⟩ := hB
  rw [ht] at hP1
  obtain ⟨hP, hD⟩ := xjoin (W := [(a0, .inr (1, [.ref a1, .int o15.2.1, .int o15.2.2])), (a1, .inl (cT 0, 4096, .inl o15.1))]) hP hD [] [0, 1] 2 rfl rfl (by decide) (by decide) hk1 hFc hP1 hD1
  generalize H1 = H at hP hS ⊢
  rw [hr9]
  refine W.eq (g2 := F0 m 7 ls [.int 5, .int 4]) rfl ?_
  refine lv_icmp_ge (tgt := 25) hx hb dT_addWord_7 (by decide) (fun h => ((by revert h; decide : False)).elim) (fun _ => ?_)
  refine lv_aload_n hx hb dT_addWord_10 rfl (lv_at hl 1 rfl) ?_
  refine lv_aload_n hx hb dT_addWord_11 rfl (lv_at hl 2 rfl) ?_
  refine lv_iload_n hx hb dT_addWord_12 rfl (lv_at hl 0 rfl) ?_
  obtain ⟨hPc, hDc, hFc⟩ := xcut (wc := []) hP hD hS hA [] rfl rfl (by decide)
  refine va_calli (va_runV (C := "java/lang/String") (As := [.int 4]) (rest := [.ref a0]) ⟨hx, hb, hml, hown, htx⟩ (cJS_charAt_8 l hl9 D cT aK aV H.size) ⟨callB_of 1 htx (xw_goodC kw_2_80) rfl rfl rfl (htx _ kw_1_6) (htx _ kw_3_31) ⟨by decide, by decide, by decide +kernel⟩ ⟨Nat.le_of_ble_eq_true rfl, Nat.le_of_ble_eq_true rfl⟩, (htx _ kw_2_78), (htx _ kw_2_79)⟩ ⟨xPre_blind, vk_recv hZ.2.2.2.2.2.2.2.2.2.1 (i := 11) (by decide) hS, (fun U hU hW => ⟨rfl, xPre_of hZ hS hFc hPc hDc hK U hU hW⟩)⟩ rfl rfl hl.1 rfl (lv_room (Nat.le_of_ble_eq_true rfl)) dT_addWord_13 ⟨Nat.le_of_ble_eq_true rfl, Nat.le_of_ble_eq_true rfl⟩) hS (fun q _ h => hFc q h) hFc (fun r18 u9 t H1 locs ht hvm hr9 hB hz1 hk1 hS => ?_)
  obtain ⟨hP1, hK1, hD1⟩ := hB
  rw [ht] at hP1
  obtain ⟨hP, hD⟩ := xjoin (W := [(a0, .inr (1, [.ref a1, .int o15.2.1, .int o15.2.2])), (a1, .inl (cT 0, 4096, .inl o15.1))]) hP hD [] [0, 1] 2 rfl rfl (by decide) (by decide) hk1 hFc hP1 hD1
  generalize H1 = H at hP hS ⊢
  rw [hr9]
  refine W.eq (g2 := F0 m 16 ls [.int 101, .ref a0]) rfl ?_
  obtain ⟨o19, hq20, hf⟩ := xbind hf
  obtain ⟨hPc, hDc, hFc⟩ := xcut (wc := [(a0, .inr (1, [.ref a1, .int o15.2.1, .int o15.2.2])), (a1, .inl (cT 0, 4096, .inl o15.1))]) hP hD hS hA [0, 1] rfl rfl (by decide)
  refine va_callv (va_runV (C := "ValueBench$Text") (As := [.int 101]) (rest := []) ⟨hx, hb, hml, hown, htx⟩ (gT_add l hl9 D cT aK aV H.size n a0 a1 (101 : Int32) o15.1 o15.2.1 o15.2.2 o19 hq20) ⟨callB_of 1 htx (xw_goodC kw_1_207) rfl rfl rfl (htx _ kw_1_2) (htx _ kw_1_204) ⟨by decide, by decide, by decide +kernel⟩ ⟨Nat.le_of_ble_eq_true rfl, Nat.le_of_ble_eq_true rfl⟩, (htx _ kw_1_205), (htx _ kw_1_206)⟩ ⟨xPre_blind, va_recv hK hP (ci := 1) rfl (q0 := 0) rfl, (fun U hU hW => ⟨rfl, xPre_of hZ hS hFc hPc hDc hK U hU hW⟩)⟩ rfl rfl hl.1 rfl (lv_room (Nat.le_of_ble_eq_true rfl)) dT_addWord_16 ⟨Nat.le_of_ble_eq_true rfl, Nat.le_of_ble_eq_true rfl⟩) hS (fun q _ h => hFc q h) hFc (fun u9 t H1 locs ht hvm hr9 hB hz1 hk1 hS => ?_)
  obtain ⟨hP1, hK1, hD1⟩ := hB
  rw [ht] at hP1
  obtain ⟨hP, hD⟩ := xjoin (W := [(a0, .inr (1, [.ref a1, .int o19.2.1, .int o19.2.2])), (a1, .inl (cT 0, 4096, .inl o19.1))]) hP hD [0, 1] [] 0 rfl rfl (by decide) (by decide) hk1 hFc hP1 hD1
  generalize H1 = H at hP hS ⊢
  refine lv_iinc (v := 5) (lv' := [(2, .int 5), (0, .ref a0), (1, .ref (aK 11))]) hx hb dT_addWord_19 hl (k := 0) rfl rfl (by decide) rfl (fun ls hl => ?_)
  refine lv_goto (tgt := 2) hx hb dT_addWord_22 (by decide) ?_
  refine lv_iload_n hx hb dT_addWord_2 rfl (lv_at hl 0 rfl) ?_
  refine lv_aload_n hx hb dT_addWord_3 rfl (lv_at hl 2 rfl) ?_
  obtain ⟨hPc, hDc, hFc⟩ := xcut (wc := []) hP hD hS hA [] rfl rfl (by decide)
  refine va_calli (va_runV (C := "java/lang/String") (As := []) (rest := [.int 5]) ⟨hx, hb, hml, hown, htx⟩ (cJS_length_1 l hl9 D cT aK aV H.size) ⟨callB_of 0 htx (xw_goodC kw_2_70) rfl rfl rfl (htx _ kw_1_6) (htx _ kw_3_30) ⟨by decide, by decide, by decide +kernel⟩ ⟨Nat.le_of_ble_eq_true rfl, Nat.le_of_ble_eq_true rfl⟩, (htx _ kw_2_68), (htx _ kw_2_69)⟩ ⟨xPre_blind, vk_recv hZ.2.2.2.2.2.2.2.2.2.1 (i := 11) (by decide) hS, (fun U hU hW => ⟨rfl, xPre_of hZ hS hFc hPc hDc hK U hU hW⟩)⟩ rfl rfl hl.1 rfl (lv_room (Nat.le_of_ble_eq_true rfl)) dT_addWord_4 ⟨Nat.le_of_ble_eq_true rfl, Nat.le_of_ble_eq_true rfl⟩) hS (fun q _ h => hFc q h) hFc (fun r21 u9 t H1 locs ht hvm hr9 hB hz1 hk1 hS => ?_)
  obtain ⟨hP1, hK1, hD1⟩ := hB
  rw [ht] at hP1
  obtain ⟨hP, hD⟩ := xjoin (W := [(a0, .inr (1, [.ref a1, .int o19.2.1, .int o19.2.2])), (a1, .inl (cT 0, 4096, .inl o19.1))]) hP hD [] [0, 1] 2 rfl rfl (by decide) (by decide) hk1 hFc hP1 hD1
  generalize H1 = H at hP hS ⊢
  rw [hr9]
  refine W.eq (g2 := F0 m 7 ls [.int 5, .int 5]) rfl ?_
  refine lv_icmp_ge (tgt := 25) hx hb dT_addWord_7 (by decide) (fun _ => ?_) (fun h => ((by revert h; decide : False)).elim)
  obtain rfl := Option.some.inj hf
  obtain ⟨hP9, hD9⟩ := xsub (wc := [(a0, .inr (1, [.ref a1, .int o19.2.1, .int o19.2.2])), (a1, .inl (cT 0, 4096, .inl o19.1))]) hP hD [0, 1] rfl rfl (by decide)
  exact W.vret hx hb hr (fun t ht hW => ⟨⟨(), rfl, trivial, by rw [ht]; exact hP9, va_K.moved hW.alike hK, hD9⟩, hS.F ht⟩) hS.2.2 dT_addWord_25
set_option maxHeartbeats 400000000 in
set_option maxRecDepth 100000 in
theorem gT_addWordb (l : Launch) (hl9 : l.stackTraces = false) (D : va_G) (cT : Nat → ClassId) (aK aV : Nat → Nat) (sz n : Nat) (a0 : Nat) (a1 : Nat) (f0 : Nat → Int32) (v1 : Int32) (v2 : Int32) (out : (Nat → Int32) × Int32 × Int32) (hf : fT_addWordb n f0 v1 v2 = some out) : xMet l yT_addWord wyT_addWord 4 0 0 85 D cT aK aV sz [.ref a0, .ref (aK 12)] [(a0, .inr (1, [.ref a1, .int v1, .int v2])), (a1, .inl (cT 0, 4096, .inl f0))] (fun A => va_Qv (fun _ : Unit => True) (fun _ t => xB D xcl cT A [(a0, .inr (1, [.ref a1, .int out.2.1, .int out.2.2])), (a1, .inl (cT 0, 4096, .inl out.1))] t) A) := by
  refine Met.ofW (cc := prog_11_method_10_code) (maxL := 3) (ret := none) (by decide) rfl ?_
  intro p e s m args below meth c s₁ B hml hv
  obtain ⟨rfl, hsz, hZ, hP, hK, hD0⟩ := hv
  have hx := B.exec
  have hb := B.bytes
  have hr := B.returns
  have hts := atoms_spec (ws := wyT_addWord) B.pre
  have htx := fun w h => hts w (List.mem_cons_of_mem _ h)
  have hown : s.vm.findClass "ValueBench$Text" = some m.cls := findClass_of_methodNamed B.named
  have hlocks := B.notSynchronized
  subst hsz
  have hD := hD0.self (sz := s.heap.size)
  generalize hAe : va_A [(a0, .inr (1, [.ref a1, .int v1, .int v2])), (a1, .inl (cT 0, 4096, .inl f0))] s.heap.size = A at hD hZ ⊢
  have hA : ∀ q : Nat, s.heap.size ≤ q → A q := fun q h => by rw [← hAe]; exact Or.inr h
  have hS : va_S A s.heap s.heap [] := va_S.rf
  have hP : va_P D xcl [(a0, .inr (1, [.ref a1, .int v1, .int v2])), (a1, .inl (cT 0, 4096, .inl f0))] s.heap := hP
  have hl := lv_entry ([.ref a0, .ref (aK 12)]) (n := 3) (Nat.le_of_ble_eq_true rfl)
  rw [lg_entry_eq]
  generalize (lg_sl ([.ref a0, .ref (aK 12)]) ++ List.replicate (3 - (lg_sl ([.ref a0, .ref (aK 12)])).length) Slot.unset).toArray = ls at hl ⊢
  have hl : lv_has ls 3 [(0, .ref a0), (1, .ref (aK 12))] := hl
  unfold fT_addWordb at hf
  refine lv_iconst (v := 0) hx hb dT_addWord_0 (by decide) ?_
  refine lv_istore_n (lv' := [(2, .int 0), (0, .ref a0), (1, .ref (aK 12))]) hx hb dT_addWord_1 rfl hl (by decide) rfl (fun ls hl => ?_)
  refine lv_iload_n hx hb dT_addWord_2 rfl (lv_at hl 0 rfl) ?_
  refine lv_aload_n hx hb dT_addWord_3 rfl (lv_at hl 2 rfl) ?_
  obtain ⟨hPc, hDc, hFc⟩ := xcut (wc := []) hP hD hS hA [] rfl rfl (by decide)
  refine va_calli (va_runV (C := "java/lang/String") (As := []) (rest := [.int 0]) ⟨hx, hb, hml, hown, htx⟩ (cJS_length_2 l hl9 D cT aK aV s.heap.size) ⟨callB_of 0 htx (xw_goodC kw_2_70) rfl rfl rfl (htx _ kw_1_6) (htx _ kw_3_30) ⟨by decide, by decide, by decide +kernel⟩ ⟨Nat.le_of_ble_eq_true rfl, Nat.le_of_ble_eq_true rfl⟩, (htx _ kw_2_68), (htx _ kw_2_69)⟩ ⟨xPre_blind, vk_recv hZ.2.2.2.2.2.2.2.2.2.1 (i := 12) (by decide) hS, (fun U hU hW => ⟨rfl, xPre_of hZ hS hFc hPc hDc hK U hU hW⟩)⟩ rfl rfl hl.1 rfl (lv_room (Nat.le_of_ble_eq_true rfl)) dT_addWord_4 ⟨Nat.le_of_ble_eq_true rfl, Nat.le_of_ble_eq_true rfl⟩) hS (fun q _ h => hFc q h) hFc (fun r1 u9 t H1 locs ht hvm hr9 hB hz1 hk1 hS => ?_)
  obtain ⟨hP1, hK1, hD1⟩ := hB
  rw [ht] at hP1
  obtain ⟨hP, hD⟩ := xjoin (W := [(a0, .inr (1, [.ref a1, .int v1, .int v2])), (a1, .inl (cT 0, 4096, .inl f0))]) hP hD [] [0, 1] 2 rfl rfl (by decide) (by decide) hk1 hFc hP1 hD1
  generalize H1 = H at hP hS ⊢
  rw [hr9]
  refine W.eq (g2 := F0 m 7 ls [.int 4, .int 0]) rfl ?_
  refine lv_icmp_ge (tgt := 25) hx hb dT_addWord_7 (by decide) (fun h => ((by revert h; decide : False)).elim) (fun _ => ?_)
  refine lv_aload_n hx hb dT_addWord_10 rfl (lv_at hl 1 rfl) ?_
  refine lv_aload_n hx hb dT_addWord_11 rfl (lv_at hl 2 rfl) ?_
  refine lv_iload_n hx hb dT_addWord_12 rfl (lv_at hl 0 rfl) ?_
  obtain ⟨hPc, hDc, hFc⟩ := xcut (wc := []) hP hD hS hA [] rfl rfl (by decide)
  refine va_calli (va_runV (C := "java/lang/String") (As := [.int 0]) (rest := [.ref a0]) ⟨hx, hb, hml, hown, htx⟩ (cJS_charAt_9 l hl9 D cT aK aV H.size) ⟨callB_of 1 htx (xw_goodC kw_2_80) rfl rfl rfl (htx _ kw_1_6) (htx _ kw_3_31) ⟨by decide, by decide, by decide +kernel⟩ ⟨Nat.le_of_ble_eq_true rfl, Nat.le_of_ble_eq_true rfl⟩, (htx _ kw_2_78), (htx _ kw_2_79)⟩ ⟨xPre_blind, vk_recv hZ.2.2.2.2.2.2.2.2.2.1 (i := 12) (by decide) hS, (fun U hU hW => ⟨rfl, xPre_of hZ hS hFc hPc hDc hK U hU hW⟩)⟩ rfl rfl hl.1 rfl (lv_room (Nat.le_of_ble_eq_true rfl)) dT_addWord_13 ⟨Nat.le_of_ble_eq_true rfl, Nat.le_of_ble_eq_true rfl⟩) hS (fun q _ h => hFc q h) hFc (fun r2 u9 t H1 locs ht hvm hr9 hB hz1 hk1 hS => ?_)
  obtain ⟨hP1, hK1, hD1⟩ := hB
  rw [ht] at hP1
  obtain ⟨hP, hD⟩ := xjoin (W := [(a0, .inr (1, [.ref a1, .int v1, .int v2])), (a1, .inl (cT 0, 4096, .inl f0))]) hP hD [] [0, 1] 2 rfl rfl (by decide) (by decide) hk1 hFc hP1 hD1
  generalize H1 = H at hP hS ⊢
  rw [hr9]
  refine W.eq (g2 := F0 m 16 ls [.int 116, .ref a0]) rfl ?_
  obtain ⟨o3, hq4, hf⟩ := xbind hf
  obtain ⟨hPc, hDc, hFc⟩ := xcut (wc := [(a0, .inr (1, [.ref a1, .int v1, .int v2])), (a1, .inl (cT 0, 4096, .inl f0))]) hP hD hS hA [0, 1] rfl rfl (by decide)
  refine va_callv (va_runV (C := "ValueBench$Text") (As := [.int 116]) (rest := []) ⟨hx, hb, hml, hown, htx⟩ (gT_add l hl9 D cT aK aV H.size n a0 a1 (116 : Int32) f0 v1 v2 o3 hq4) ⟨callB_of 1 htx (xw_goodC kw_1_207) rfl rfl rfl (htx _ kw_1_2) (htx _ kw_1_204) ⟨by decide, by decide, by decide +kernel⟩ ⟨Nat.le_of_ble_eq_true rfl, Nat.le_of_ble_eq_true rfl⟩, (htx _ kw_1_205), (htx _ kw_1_206)⟩ ⟨xPre_blind, va_recv hK hP (ci := 1) rfl (q0 := 0) rfl, (fun U hU hW => ⟨rfl, xPre_of hZ hS hFc hPc hDc hK U hU hW⟩)⟩ rfl rfl hl.1 rfl (lv_room (Nat.le_of_ble_eq_true rfl)) dT_addWord_16 ⟨Nat.le_of_ble_eq_true rfl, Nat.le_of_ble_eq_true rfl⟩) hS (fun q _ h => hFc q h) hFc (fun u9 t H1 locs ht hvm hr9 hB hz1 hk1 hS => ?_)
  obtain ⟨hP1, hK1, hD1⟩ := hB
  rw [ht] at hP1
  obtain ⟨hP, hD⟩ := xjoin (W := [(a0, .inr (1, [.ref a1, .int o3.2.1, .int o3.2.2])), (a1, .inl (cT 0, 4096, .inl o3.1))]) hP hD [0, 1] [] 0 rfl rfl (by decide) (by decide) hk1 hFc hP1 hD1
  generalize H1 = H at hP hS ⊢
  refine lv_iinc (v := 1) (lv' := [(2, .int 1), (0, .ref a0), (1, .ref (aK 12))]) hx hb dT_addWord_19 hl (k := 0) rfl rfl (by decide) rfl (fun ls hl => ?_)
  refine lv_goto (tgt := 2) hx hb dT_addWord_22 (by decide) ?_
  refine lv_iload_n hx hb dT_addWord_2 rfl (lv_at hl 0 rfl) ?_
  refine lv_aload_n hx hb dT_addWord_3 rfl (lv_at hl 2 rfl) ?_
  obtain ⟨hPc, hDc, hFc⟩ := xcut (wc := []) hP hD hS hA [] rfl rfl (by decide)
  refine va_calli (va_runV (C := "java/lang/String") (As := []) (rest := [.int 1]) ⟨hx, hb, hml, hown, htx⟩ (cJS_length_2 l hl9 D cT aK aV H.size) ⟨callB_of 0 htx (xw_goodC kw_2_70) rfl rfl rfl (htx _ kw_1_6) (htx _ kw_3_30) ⟨by decide, by decide, by decide +kernel⟩ ⟨Nat.le_of_ble_eq_true rfl, Nat.le_of_ble_eq_true rfl⟩, (htx _ kw_2_68), (htx _ kw_2_69)⟩ ⟨xPre_blind, vk_recv hZ.2.2.2.2.2.2.2.2.2.1 (i := 12) (by decide) hS, (fun U hU hW => ⟨rfl, xPre_of hZ hS hFc hPc hDc hK U hU hW⟩)⟩ rfl rfl hl.1 rfl (lv_room (Nat.le_of_ble_eq_true rfl)) dT_addWord_4 ⟨Nat.le_of_ble_eq_true rfl, Nat.le_of_ble_eq_true rfl⟩) hS (fun q _ h => hFc q h) hFc (fun r5 u9 t H1 locs ht hvm hr9 hB hz1 hk1 hS => ?_)
  obtain ⟨hP1, hK1, hD1⟩ := hB
  rw [ht] at hP1
  obtain ⟨hP, hD⟩ := xjoin (W := [(a0, .inr (1, [.ref a1, .int o3.2.1, .int o3.2.2])), (a1, .inl (cT 0, 4096, .inl o3.1))]) hP hD [] [0, 1] 2 rfl rfl (by decide) (by decide) hk1 hFc hP1 hD1
  generalize H1 = H at hP hS ⊢
  rw [hr9]
  refine W.eq (g2 := F0 m 7 ls [.int 4, .int 1]) rfl ?_
  refine lv_icmp_ge (tgt := 25) hx hb dT_addWord_7 (by decide) (fun h => ((by revert h; decide : False)).elim) (fun _ => ?_)
  refine lv_aload_n hx hb dT_addWord_10 rfl (lv_at hl 1 rfl) ?_
  refine lv_aload_n hx hb dT_addWord_11 rfl (lv_at hl 2 rfl) ?_
  refine lv_iload_n hx hb dT_addWord_12 rfl (lv_at hl 0 rfl) ?_
  obtain ⟨hPc, hDc, hFc⟩ := xcut (wc := []) hP hD hS hA [] rfl rfl (by decide)
  refine va_calli (va_runV (C := "java/lang/String") (As := [.int 1]) (rest := [.ref a0]) ⟨hx, hb, hml, hown, htx⟩ (cJS_charAt_10 l hl9 D cT aK aV H.size) ⟨callB_of 1 htx (xw_goodC kw_2_80) rfl rfl rfl (htx _ kw_1_6) (htx _ kw_3_31) ⟨by decide, by decide, by decide +kernel⟩ ⟨Nat.le_of_ble_eq_true rfl, Nat.le_of_ble_eq_true rfl⟩, (htx _ kw_2_78), (htx _ kw_2_79)⟩ ⟨xPre_blind, vk_recv hZ.2.2.2.2.2.2.2.2.2.1 (i := 12) (by decide) hS, (fun U hU hW => ⟨rfl, xPre_of hZ hS hFc hPc hDc hK U hU hW⟩)⟩ rfl rfl hl.1 rfl (lv_room (Nat.le_of_ble_eq_true rfl)) dT_addWord_13 ⟨Nat.le_of_ble_eq_true rfl, Nat.le_of_ble_eq_true rfl⟩) hS (fun q _ h => hFc q h) hFc (fun r6 u9 t H1 locs ht hvm hr9 hB hz1 hk1 hS => ?_)
  obtain ⟨hP1, hK1, hD1⟩ := hB
  rw [ht] at hP1
  obtain ⟨hP, hD⟩ := xjoin (W := [(a0, .inr (1, [.ref a1, .int o3.2.1, .int o3.2.2])), (a1, .inl (cT 0, 4096, .inl o3.1))]) hP hD [] [0, 1] 2 rfl rfl (by decide) (by decide) hk1 hFc hP1 hD1
  generalize H1 = H at hP hS ⊢
  rw [hr9]
  refine W.eq (g2 := F0 m 16 ls [.int 114, .ref a0]) rfl ?_
  obtain ⟨o7, hq8, hf⟩ := xbind hf
  obtain ⟨hPc, hDc, hFc⟩ := xcut (wc := [(a0, .inr (1, [.ref a1, .int o3.2.1, .int o3.2.2])), (a1, .inl (cT 0, 4096, .inl o3.1))]) hP hD hS hA [0, 1] rfl rfl (by decide)
  refine va_callv (va_runV (C := "ValueBench$Text") (As := [.int 114]) (rest := []) ⟨hx, hb, hml, hown, htx⟩ (gT_add l hl9 D cT aK aV H.size n a0 a1 (114 : Int32) o3.1 o3.2.1 o3.2.2 o7 hq8) ⟨callB_of 1 htx (xw_goodC kw_1_207) rfl rfl rfl (htx _ kw_1_2) (htx _ kw_1_204) ⟨by decide, by decide, by decide +kernel⟩ ⟨Nat.le_of_ble_eq_true rfl, Nat.le_of_ble_eq_true rfl⟩, (htx _ kw_1_205), (htx _ kw_1_206)⟩ ⟨xPre_blind, va_recv hK hP (ci := 1) rfl (q0 := 0) rfl, (fun U hU hW => ⟨rfl, xPre_of hZ hS hFc hPc hDc hK U hU hW⟩)⟩ rfl rfl hl.1 rfl (lv_room (Nat.le_of_ble_eq_true rfl)) dT_addWord_16 ⟨Nat.le_of_ble_eq_true rfl, Nat.le_of_ble_eq_true rfl⟩) hS (fun q _ h => hFc q h) hFc (fun u9 t H1 locs ht hvm hr9 hB hz1 hk1 hS => ?_)
  obtain ⟨hP1, hK1, hD1⟩ := hB
  rw [ht] at hP1
  obtain ⟨hP, hD⟩ := xjoin (W := [(a0, .inr (1, [.ref a1, .int o7.2.1, .int o7.2.2])), (a1, .inl (cT 0, 4096, .inl o7.1))]) hP hD [0, 1] [] 0 rfl rfl (by decide) (by decide) hk1 hFc hP1 hD1
  generalize H1 = H at hP hS ⊢
  refine lv_iinc (v := 2) (lv' := [(2, .int 2), (0, .ref a0), (1, .ref (aK 12))]) hx hb dT_addWord_19 hl (k := 0) rfl rfl (by decide) rfl (fun ls hl => ?_)
  refine lv_goto (tgt := 2) hx hb dT_addWord_22 (by decide) ?_
  refine lv_iload_n hx hb dT_addWord_2 rfl (lv_at hl 0 rfl) ?_
  refine lv_aload_n hx hb dT_addWord_3 rfl (lv_at hl 2 rfl) ?_
  obtain ⟨hPc, hDc, hFc⟩ := xcut (wc := []) hP hD hS hA [] rfl rfl (by decide)
  refine va_calli (va_runV (C := "java/lang/String") (As := []) (rest := [.int 2]) ⟨hx, hb, hml, hown, htx⟩ (cJS_length_2 l hl9 D cT aK aV H.size) ⟨callB_of 0 htx (xw_goodC kw_2_70) rfl rfl rfl (htx _ kw_1_6) (htx _ kw_3_30) ⟨by decide, by decide, by decide +kernel⟩ ⟨Nat.le_of_ble_eq_true rfl, Nat.le_of_ble_eq_true rfl⟩, (htx _ kw_2_68), (htx _ kw_2_69)⟩ ⟨xPre_blind, vk_recv hZ.2.2.2.2.2.2.2.2.2.1 (i := 12) (by decide) hS, (fun U hU hW => ⟨rfl, xPre_of hZ hS hFc hPc hDc hK U hU hW⟩)⟩ rfl rfl hl.1 rfl (lv_room (Nat.le_of_ble_eq_true rfl)) dT_addWord_4 ⟨Nat.le_of_ble_eq_true rfl, Nat.le_of_ble_eq_true rfl⟩) hS (fun q _ h => hFc q h) hFc (fun r9 u9 t H1 locs ht hvm hr9 hB hz1 hk1 hS => ?_)
  obtain ⟨hP1, hK1, hD1⟩ := hB
  rw [ht] at hP1
  obtain ⟨hP, hD⟩ := xjoin (W := [(a0, .inr (1, [.ref a1, .int o7.2.1, .int o7.2.2])), (a1, .inl (cT 0, 4096, .inl o7.1))]) hP hD [] [0, 1] 2 rfl rfl (by decide) (by decide) hk1 hFc hP1 hD1
  generalize H1 = H at hP hS ⊢
  rw [hr9]
  refine W.eq (g2 := F0 m 7 ls [.int 4, .int 2]) rfl ?_
  refine lv_icmp_ge (tgt := 25) hx hb dT_addWord_7 (by decide) (fun h => ((by revert h; decide : False)).elim) (fun _ => ?_)
  refine lv_aload_n hx hb dT_addWord_10 rfl (lv_at hl 1 rfl) ?_
  refine lv_aload_n hx hb dT_addWord_11 rfl (lv_at hl 2 rfl) ?_
  refine lv_iload_n hx hb dT_addWord_12 rfl (lv_at hl 0 rfl) ?_
  obtain ⟨hPc, hDc, hFc⟩ := xcut (wc := []) hP hD hS hA [] rfl rfl (by decide)
  refine va_calli (va_runV (C := "java/lang/String") (As := [.int 2]) (rest := [.ref a0]) ⟨hx, hb, hml, hown, htx⟩ (cJS_charAt_11 l hl9 D cT aK aV H.size) ⟨callB_of 1 htx (xw_goodC kw_2_80) rfl rfl rfl (htx _ kw_1_6) (htx _ kw_3_31) ⟨by decide, by decide, by decide +kernel⟩ ⟨Nat.le_of_ble_eq_true rfl, Nat.le_of_ble_eq_true rfl⟩, (htx _ kw_2_78), (htx _ kw_2_79)⟩ ⟨xPre_blind, vk_recv hZ.2.2.2.2.2.2.2.2.2.1 (i := 12) (by decide) hS, (fun U hU hW => ⟨rfl, xPre_of hZ hS hFc hPc hDc hK U hU hW⟩)⟩ rfl rfl hl.1 rfl (lv_room (Nat.le_of_ble_eq_true rfl)) dT_addWord_13 ⟨Nat.le_of_ble_eq_true rfl, Nat.le_of_ble_eq_true rfl⟩) hS (fun q _ h => hFc q h) hFc (fun r10 u9 t H1 locs ht hvm hr9 hB hz1 hk1 hS => ?_)
  obtain ⟨hP1, hK1, hD1⟩ := hB
  rw [ht] at hP1
  obtain ⟨hP, hD⟩ := xjoin (W := [(a0, .inr (1, [.ref a1, .int o7.2.1, .int o7.2.2])), (a1, .inl (cT 0, 4096, .inl o7.1))]) hP hD [] [0, 1] 2 rfl rfl (by decide) (by decide) hk1 hFc hP1 hD1
  generalize H1 = H at hP hS ⊢
  rw [hr9]
  refine W.eq (g2 := F0 m 16 ls [.int 117, .ref a0]) rfl ?_
  obtain ⟨o11, hq12, hf⟩ := xbind hf
  obtain ⟨hPc, hDc, hFc⟩ := xcut (wc := [(a0, .inr (1, [.ref a1, .int o7.2.1, .int o7.2.2])), (a1, .inl (cT 0, 4096, .inl o7.1))]) hP hD hS hA [0, 1] rfl rfl (by decide)
  refine va_callv (va_runV (C := "ValueBench$Text") (As := [.int 117]) (rest := []) ⟨hx, hb, hml, hown, htx⟩ (gT_add l hl9 D cT aK aV H.size n a0 a1 (117 : Int32) o7.1 o7.2.1 o7.2.2 o11 hq12) ⟨callB_of 1 htx (xw_goodC kw_1_207) rfl rfl rfl (htx _ kw_1_2) (htx _ kw_1_204) ⟨by decide, by decide, by decide +kernel⟩ ⟨Nat.le_of_ble_eq_true rfl, Nat.le_of_ble_eq_true rfl⟩, (htx _ kw_1_205), (htx _ kw_1_206)⟩ ⟨xPre_blind, va_recv hK hP (ci := 1) rfl (q0 := 0) rfl, (fun U hU hW => ⟨rfl, xPre_of hZ hS hFc hPc hDc hK U hU hW⟩)⟩ rfl rfl hl.1 rfl (lv_room (Nat.le_of_ble_eq_true rfl)) dT_addWord_16 ⟨Nat.le_of_ble_eq_true rfl, Nat.le_of_ble_eq_true rfl⟩) hS (fun q _ h => hFc q h) hFc (fun u9 t H1 locs ht hvm hr9 hB hz1 hk1 hS => ?_)
  obtain ⟨hP1, hK1, hD1⟩ := hB
  rw [ht] at hP1
  obtain ⟨hP, hD⟩ := xjoin (W := [(a0, .inr (1, [.ref a1, .int o11.2.1, .int o11.2.2])), (a1, .inl (cT 0, 4096, .inl o11.1))]) hP hD [0, 1] [] 0 rfl rfl (by decide) (by decide) hk1 hFc hP1 hD1
  generalize H1 = H at hP hS ⊢
  refine lv_iinc (v := 3) (lv' := [(2, .int 3), (0, .ref a0), (1, .ref (aK 12))]) hx hb dT_addWord_19 hl (k := 0) rfl rfl (by decide) rfl (fun ls hl => ?_)
  refine lv_goto (tgt := 2) hx hb dT_addWord_22 (by decide) ?_
  refine lv_iload_n hx hb dT_addWord_2 rfl (lv_at hl 0 rfl) ?_
  refine lv_aload_n hx hb dT_addWord_3 rfl (lv_at hl 2 rfl) ?_
  obtain ⟨hPc, hDc, hFc⟩ := xcut (wc := []) hP hD hS hA [] rfl rfl (by decide)
  refine va_calli (va_runV (C := "java/lang/String") (As := []) (rest := [.int 3]) ⟨hx, hb, hml, hown, htx⟩ (cJS_length_2 l hl9 D cT aK aV H.size) ⟨callB_of 0 htx (xw_goodC kw_2_70) rfl rfl rfl (htx _ kw_1_6) (htx _ kw_3_30) ⟨by decide, by decide, by decide +kernel⟩ ⟨Nat.le_of_ble_eq_true rfl, Nat.le_of_ble_eq_true rfl⟩, (htx _ kw_2_68), (htx _ kw_2_69)⟩ ⟨xPre_blind, vk_recv hZ.2.2.2.2.2.2.2.2.2.1 (i := 12) (by decide) hS, (fun U hU hW => ⟨rfl, xPre_of hZ hS hFc hPc hDc hK U hU hW⟩)⟩ rfl rfl hl.1 rfl (lv_room (Nat.le_of_ble_eq_true rfl)) dT_addWord_4 ⟨Nat.le_of_ble_eq_true rfl, Nat.le_of_ble_eq_true rfl⟩) hS (fun q _ h => hFc q h) hFc (fun r13 u9 t H1 locs ht hvm hr9 hB hz1 hk1 hS => ?_)
  obtain ⟨hP1, hK1, hD1⟩ := hB
  rw [ht] at hP1
  obtain ⟨hP, hD⟩ := xjoin (W := [(a0, .inr (1, [.ref a1, .int o11.2.1, .int o11.2.2])), (a1, .inl (cT 0, 4096, .inl o11.1))]) hP hD [] [0, 1] 2 rfl rfl (by decide) (by decide) hk1 hFc hP1 hD1
  generalize H1 = H at hP hS ⊢
  rw [hr9]
  refine W.eq (g2 := F0 m 7 ls [.int 4, .int 3]) rfl ?_
  refine lv_icmp_ge (tgt := 25) hx hb dT_addWord_7 (by decide) (fun h => ((by revert h; decide : False)).elim) (fun _ => ?_)
  refine lv_aload_n hx hb dT_addWord_10 rfl (lv_at hl 1 rfl) ?_
  refine lv_aload_n hx hb dT_addWord_11 rfl (lv_at hl 2 rfl) ?_
  refine lv_iload_n hx hb dT_addWord_12 rfl (lv_at hl 0 rfl) ?_
  obtain ⟨hPc, hDc, hFc⟩ := xcut (wc := []) hP hD hS hA [] rfl rfl (by decide)
  refine va_calli (va_runV (C := "java/lang/String") (As := [.int 3]) (rest := [.ref a0]) ⟨hx, hb, hml, hown, htx⟩ (cJS_charAt_12 l hl9 D cT aK aV H.size) ⟨callB_of 1 htx (xw_goodC kw_2_80) rfl rfl rfl (htx _ kw_1_6) (htx _ kw_3_31) ⟨by decide, by decide, by decide +kernel⟩ ⟨Nat.le_of_ble_eq_true rfl, Nat.le_of_ble_eq_true rfl⟩, (htx _ kw_2_78), (htx _ kw_2_79)⟩ ⟨xPre_blind, vk_recv hZ.2.2.2.2.2.2.2.2.2.1 (i := 12) (by decide) hS, (fun U hU hW => ⟨rfl, xPre_of hZ hS hFc hPc hDc hK U hU hW⟩)⟩ rfl rfl hl.1 rfl (lv_room (Nat.le_of_ble_eq_true rfl)) dT_addWord_13 ⟨Nat.le_of_ble_eq_true rfl, Nat.le_of_ble_eq_true rfl⟩) hS (fun q _ h => hFc q h) hFc (fun r14 u9 t H1 locs ht hvm hr9 hB hz1 hk1 hS => ?_)
  obtain ⟨hP1, hK1, hD1⟩ := hB
  rw [ht] at hP1
  obtain ⟨hP, hD⟩ := xjoin (W := [(a0, .inr (1, [.ref a1, .int o11.2.1, .int o11.2.2])), (a1, .inl (cT 0, 4096, .inl o11.1))]) hP hD [] [0, 1] 2 rfl rfl (by decide) (by decide) hk1 hFc hP1 hD1
  generalize H1 = H at hP hS ⊢
  rw [hr9]
  refine W.eq (g2 := F0 m 16 ls [.int 101, .ref a0]) rfl ?_
  obtain ⟨o15, hq16, hf⟩ := xbind hf
  obtain ⟨hPc, hDc, hFc⟩ := xcut (wc := [(a0, .inr (1, [.ref a1, .int o11.2.1, .int o11.2.2])), (a1, .inl (cT 0, 4096, .inl o11.1))]) hP hD hS hA [0, 1] rfl rfl (by decide)
  refine va_callv (va_runV (C := "ValueBench$Text") (As := [.int 101]) (rest := []) ⟨hx, hb, hml, hown, htx⟩ (gT_add l hl9 D cT aK aV H.size n a0 a1 (101 : Int32) o11.1 o11.2.1 o11.2.2 o15 hq16) ⟨callB_of 1 htx (xw_goodC kw_1_207) rfl rfl rfl (htx _ kw_1_2) (htx _ kw_1_204) ⟨by decide, by decide, by decide +kernel⟩ ⟨Nat.le_of_ble_eq_true rfl, Nat.le_of_ble_eq_true rfl⟩, (htx _ kw_1_205), (htx _ kw_1_206)⟩ ⟨xPre_blind, va_recv hK hP (ci := 1) rfl (q0 := 0) rfl, (fun U hU hW => ⟨rfl, xPre_of hZ hS hFc hPc hDc hK U hU hW⟩)⟩ rfl rfl hl.1 rfl (lv_room (Nat.le_of_ble_eq_true rfl)) dT_addWord_16 ⟨Nat.le_of_ble_eq_true rfl, Nat.le_of_ble_eq_true rfl⟩) hS (fun q _ h => hFc q h) hFc (fun u9 t H1 locs ht hvm hr9 hB hz1 hk1 hS => ?_)
  obtain ⟨hP1, hK1, hD1⟩ := hB
  rw [ht] at hP1
  obtain ⟨hP, hD⟩ := xjoin (W := [(a0, .inr (1, [.ref a1, .int o15.2.1, .int o15.2.2])), (a1, .inl (cT 0, 4096, .inl o15.1))]) hP hD [0, 1] [] 0 rfl rfl (by decide) (by decide) hk1 hFc hP1 hD1
  generalize H1 = H at hP hS ⊢
  refine lv_iinc (v := 4) (lv' := [(2, .int 4), (0, .ref a0), (1, .ref (aK 12))]) hx hb dT_addWord_19 hl (k := 0) rfl rfl (by decide) rfl (fun ls hl => ?_)
  refine lv_goto (tgt := 2) hx hb dT_addWord_22 (by decide) ?_
  refine lv_iload_n hx hb dT_addWord_2 rfl (lv_at hl 0 rfl) ?_
  refine lv_aload_n hx hb dT_addWord_3 rfl (lv_at hl 2 rfl) ?_
  obtain ⟨hPc, hDc, hFc⟩ := xcut (wc := []) hP hD hS hA [] rfl rfl (by decide)
  refine va_calli (va_runV (C := "java/lang/String") (As := []) (rest := [.int 4]) ⟨hx, hb, hml, hown, htx⟩ (cJS_length_2 l hl9 D cT aK aV H.size) ⟨callB_of 0 htx (xw_goodC kw_2_70) rfl rfl rfl (htx _ kw_1_6) (htx _ kw_3_30) ⟨by decide, by decide, by decide +kernel⟩ ⟨Nat.le_of_ble_eq_true rfl, Nat.le_of_ble_eq_true rfl⟩, (htx _ kw_2_68), (htx _ kw_2_69)⟩ ⟨xPre_blind, vk_recv hZ.2.2.2.2.2.2.2.2.2.1 (i := 12) (by decide) hS, (fun U hU hW => ⟨rfl, xPre_of hZ hS hFc hPc hDc hK U hU hW⟩)⟩ rfl rfl hl.1 rfl (lv_room (Nat.le_of_ble_eq_true rfl)) dT_addWord_4 ⟨Nat.le_of_ble_eq_true rfl, Nat.le_of_ble_eq_true rfl⟩) hS (fun q _ h => hFc q h) hFc (fun r17 u9 t H1 locs ht hvm hr9 hB hz1 hk1 hS => ?_)
  obtain ⟨hP1, hK1, hD1⟩ := hB
  rw [ht] at hP1
  obtain ⟨hP, hD⟩ := xjoin (W := [(a0, .inr (1, [.ref a1, .int o15.2.1, .int o15.2.2])), (a1, .inl (cT 0, 4096, .inl o15.1))]) hP hD [] [0, 1] 2 rfl rfl (by decide) (by decide) hk1 hFc hP1 hD1
  generalize H1 = H at hP hS ⊢
  rw [hr9]
  refine W.eq (g2 := F0 m 7 ls [.int 4, .int 4]) rfl ?_
  refine lv_icmp_ge (tgt := 25) hx hb dT_addWord_7 (by decide) (fun _ => ?_) (fun h => ((by revert h; decide : False)).elim)
  obtain rfl := Option.some.inj hf
  obtain ⟨hP9, hD9⟩ := xsub (wc := [(a0, .inr (1, [.ref a1, .int o15.2.1, .int o15.2.2])), (a1, .inl (cT 0, 4096, .inl o15.1))]) hP hD [0, 1] rfl rfl (by decide)
  exact W.vret hx hb hr (fun t ht hW => ⟨⟨(), rfl, trivial, by rw [ht]; exact hP9, va_K.moved hW.alike hK, hD9⟩, hS.F ht⟩) hS.2.2 dT_addWord_25
