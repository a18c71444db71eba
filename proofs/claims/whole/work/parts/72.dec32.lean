set_option maxHeartbeats 400000000 in
set_option maxRecDepth 100000 in
theorem gM_digit (l : Launch) (hl9 : l.stackTraces = false) (D : va_G) (cT : Nat → ClassId) (aK aV : Nat → Nat) (sz n : Nat) (x0 : Int32) (out : Int32) (hf : fM_digit n x0 = some out) : xMet l yM_digit wyM_digit 0 0 0 0 D cT aK aV sz [.int x0] [] (fun A => va_Qi (fun (r : Int32) (_ : Unit) => r = out) (fun _ t => xB D xcl cT A [] t) A) := by
  refine Met.ofW (cc := prog_13_method_30_code) (maxL := 1) (ret := (some .boolean)) (by decide) rfl ?_
  intro p e s m args below meth c s₁ B hml hv
  obtain ⟨rfl, hsz, hZ, hP, hK, hD0⟩ := hv
  have hx := B.exec
  have hb := B.bytes
  have hr := B.returns
  have hts := atoms_spec (ws := wyM_digit) B.pre
  have htx := fun w h => hts w (List.mem_cons_of_mem _ h)
  have hown : s.vm.findClass "ValueBenchModel" = some m.cls := findClass_of_methodNamed B.named
  have hlocks := B.notSynchronized
  subst hsz
  have hD := hD0.self (sz := s.heap.size)
  generalize hAe : va_A [] s.heap.size = A at hD hZ ⊢
  have hA : ∀ q : Nat, s.heap.size ≤ q → A q := fun q h => by rw [← hAe]; exact Or.inr h
  have hS : va_S A s.heap s.heap [] := va_S.rf
  have hP : va_P D xcl [] s.heap := hP
  have hl := lv_entry ([.int x0]) (n := 1) (Nat.le_of_ble_eq_true rfl)
  rw [lg_entry_eq]
  generalize (lg_sl ([.int x0]) ++ List.replicate (1 - (lg_sl ([.int x0])).length) Slot.unset).toArray = ls at hl ⊢
  have hl : lv_has ls 1 [(0, .int x0)] := hl
  unfold fM_digit at hf
  refine lv_iload_n hx hb dM_digit_0 rfl (lv_at hl 0 rfl) ?_
  refine lv_bipush (v := 48) hx hb dM_digit_1 (by decide) ?_
  refine lv_icmp_lt (tgt := 16) hx hb dM_digit_3 (by decide) (fun hc => ?_) (fun hc => ?_)
  · rw [if_pos hc] at hf
    refine lv_iconst (v := 0) hx hb dM_digit_16 (by decide) ?_
    obtain rfl := Option.some.inj hf
    obtain ⟨hP9, hD9⟩ := xsub (wc := []) hP hD [] rfl rfl (by decide)
    exact W.zret (v := (0 : Int32)) hx hb hr rfl (fun t ht hW => ⟨⟨(0 : Int32), (), rfl, rfl, by rw [ht]; exact hP9, va_K.moved hW.alike hK, hD9⟩, hS.F ht⟩) hS.2.2 dM_digit_17
  · rw [if_neg hc] at hf
    refine lv_iload_n hx hb dM_digit_6 rfl (lv_at hl 0 rfl) ?_
    refine lv_bipush (v := 57) hx hb dM_digit_7 (by decide) ?_
    refine lv_icmp_gt (tgt := 16) hx hb dM_digit_9 (by decide) (fun hc => ?_) (fun hc => ?_)
    · rw [if_pos hc] at hf
      refine lv_iconst (v := 0) hx hb dM_digit_16 (by decide) ?_
      obtain rfl := Option.some.inj hf
      obtain ⟨hP9, hD9⟩ := xsub (wc := []) hP hD [] rfl rfl (by decide)
      exact W.zret (v := (0 : Int32)) hx hb hr rfl (fun t ht hW => ⟨⟨(0 : Int32), (), rfl, rfl, by rw [ht]; exact hP9, va_K.moved hW.alike hK, hD9⟩, hS.F ht⟩) hS.2.2 dM_digit_17
    · rw [if_neg hc] at hf
      refine lv_iconst (v := 1) hx hb dM_digit_12 (by decide) ?_
      refine lv_goto (tgt := 17) hx hb dM_digit_13 (by decide) ?_
      obtain rfl := Option.some.inj hf
      obtain ⟨hP9, hD9⟩ := xsub (wc := []) hP hD [] rfl rfl (by decide)
      exact W.zret (v := (1 : Int32)) hx hb hr rfl (fun t ht hW => ⟨⟨(1 : Int32), (), rfl, rfl, by rw [ht]; exact hP9, va_K.moved hW.alike hK, hD9⟩, hS.F ht⟩) hS.2.2 dM_digit_17
set_option maxHeartbeats 400000000 in
set_option maxRecDepth 100000 in
theorem gM_hex (l : Launch) (hl9 : l.stackTraces = false) (D : va_G) (cT : Nat → ClassId) (aK aV : Nat → Nat) (sz n : Nat) (x0 : Int32) (out : Int32) (hf : fM_hex n x0 = some out) : xMet l yM_hex wyM_hex 0 0 0 0 D cT aK aV sz [.int x0] [] (fun A => va_Qi (fun (r : Int32) (_ : Unit) => r = out) (fun _ t => xB D xcl cT A [] t) A) := by
  refine Met.ofW (cc := prog_13_method_36_code) (maxL := 1) (ret := (some .int)) (by decide) rfl ?_
  intro p e s m args below meth c s₁ B hml hv
  obtain ⟨rfl, hsz, hZ, hP, hK, hD0⟩ := hv
  have hx := B.exec
  have hb := B.bytes
  have hr := B.returns
  have hts := atoms_spec (ws := wyM_hex) B.pre
  have htx := fun w h => hts w (List.mem_cons_of_mem _ h)
  have hown : s.vm.findClass "ValueBenchModel" = some m.cls := findClass_of_methodNamed B.named
  have hlocks := B.notSynchronized
  subst hsz
  have hD := hD0.self (sz := s.heap.size)
  generalize hAe : va_A [] s.heap.size = A at hD hZ ⊢
  have hA : ∀ q : Nat, s.heap.size ≤ q → A q := fun q h => by rw [← hAe]; exact Or.inr h
  have hS : va_S A s.heap s.heap [] := va_S.rf
  have hP : va_P D xcl [] s.heap := hP
  have hl := lv_entry ([.int x0]) (n := 1) (Nat.le_of_ble_eq_true rfl)
  rw [lg_entry_eq]
  generalize (lg_sl ([.int x0]) ++ List.replicate (1 - (lg_sl ([.int x0])).length) Slot.unset).toArray = ls at hl ⊢
  have hl : lv_has ls 1 [(0, .int x0)] := hl
  unfold fM_hex at hf
  refine lv_iload_n hx hb dM_hex_0 rfl (lv_at hl 0 rfl) ?_
  refine lv_bipush (v := 48) hx hb dM_hex_1 (by decide) ?_
  refine lv_icmp_lt (tgt := 19) hx hb dM_hex_3 (by decide) (fun hc => ?_) (fun hc => ?_)
  · rw [if_pos hc] at hf
    refine lv_iload_n hx hb dM_hex_19 rfl (lv_at hl 0 rfl) ?_
    refine lv_bipush (v := 97) hx hb dM_hex_20 (by decide) ?_
    refine lv_icmp_lt (tgt := 41) hx hb dM_hex_22 (by decide) (fun hc => ?_) (fun hc => ?_)
    · rw [if_pos hc] at hf
      refine lv_iload_n hx hb dM_hex_41 rfl (lv_at hl 0 rfl) ?_
      refine lv_bipush (v := 65) hx hb dM_hex_42 (by decide) ?_
      refine lv_icmp_lt (tgt := 63) hx hb dM_hex_44 (by decide) (fun hc => ?_) (fun hc => ?_)
      · rw [if_pos hc] at hf
        refine lv_iconst (v := (-1)) hx hb dM_hex_63 (by decide) ?_
        obtain rfl := Option.some.inj hf
        obtain ⟨hP9, hD9⟩ := xsub (wc := []) hP hD [] rfl rfl (by decide)
        exact W.iret (v := ((-1) : Int32)) hx hb hr (fun t ht hW => ⟨⟨((-1) : Int32), (), rfl, rfl, by rw [ht]; exact hP9, va_K.moved hW.alike hK, hD9⟩, hS.F ht⟩) hS.2.2 dM_hex_64
      · rw [if_neg hc] at hf
        refine lv_iload_n hx hb dM_hex_47 rfl (lv_at hl 0 rfl) ?_
        refine lv_bipush (v := 70) hx hb dM_hex_48 (by decide) ?_
        refine lv_icmp_gt (tgt := 63) hx hb dM_hex_50 (by decide) (fun hc => ?_) (fun hc => ?_)
        · rw [if_pos hc] at hf
          refine lv_iconst (v := (-1)) hx hb dM_hex_63 (by decide) ?_
          obtain rfl := Option.some.inj hf
          obtain ⟨hP9, hD9⟩ := xsub (wc := []) hP hD [] rfl rfl (by decide)
          exact W.iret (v := ((-1) : Int32)) hx hb hr (fun t ht hW => ⟨⟨((-1) : Int32), (), rfl, rfl, by rw [ht]; exact hP9, va_K.moved hW.alike hK, hD9⟩, hS.F ht⟩) hS.2.2 dM_hex_64
        · rw [if_neg hc] at hf
          refine lv_iload_n hx hb dM_hex_53 rfl (lv_at hl 0 rfl) ?_
          refine lv_bipush (v := 65) hx hb dM_hex_54 (by decide) ?_
          refine lv_isub hx hb dM_hex_56 ?_
          refine lv_bipush (v := 10) hx hb dM_hex_57 (by decide) ?_
          refine lv_iadd hx hb dM_hex_59 ?_
          refine lv_goto (tgt := 64) hx hb dM_hex_60 (by decide) ?_
          obtain rfl := Option.some.inj hf
          obtain ⟨hP9, hD9⟩ := xsub (wc := []) hP hD [] rfl rfl (by decide)
          exact W.iret (v := ((x0 - (65 : Int32)) + (10 : Int32))) hx hb hr (fun t ht hW => ⟨⟨((x0 - (65 : Int32)) + (10 : Int32)), (), rfl, rfl, by rw [ht]; exact hP9, va_K.moved hW.alike hK, hD9⟩, hS.F ht⟩) hS.2.2 dM_hex_64
    · rw [if_neg hc] at hf
      refine lv_iload_n hx hb dM_hex_25 rfl (lv_at hl 0 rfl) ?_
      refine lv_bipush (v := 102) hx hb dM_hex_26 (by decide) ?_
      refine lv_icmp_gt (tgt := 41) hx hb dM_hex_28 (by decide) (fun hc => ?_) (fun hc => ?_)
      · rw [if_pos hc] at hf
        refine lv_iload_n hx hb dM_hex_41 rfl (lv_at hl 0 rfl) ?_
        refine lv_bipush (v := 65) hx hb dM_hex_42 (by decide) ?_
        refine lv_icmp_lt (tgt := 63) hx hb dM_hex_44 (by decide) (fun hc => ?_) (fun hc => ?_)
        · rw [if_pos hc] at hf
          refine lv_iconst (v := (-1)) hx hb dM_hex_63 (by decide) ?_
          obtain rfl := Option.some.inj hf
          obtain ⟨hP9, hD9⟩ := xsub (wc := []) hP hD [] rfl rfl (by decide)
          exact W.iret (v := ((-1) : Int32)) hx hb hr (fun t ht hW => ⟨⟨((-1) : Int32), (), rfl, rfl, by rw [ht]; exact hP9, va_K.moved hW.alike hK, hD9⟩, hS.F ht⟩) hS.2.2 dM_hex_64
        · rw [if_neg hc] at hf
          refine lv_iload_n hx hb dM_hex_47 rfl (lv_at hl 0 rfl) ?_
          refine lv_bipush (v := 70) hx hb dM_hex_48 (by decide) ?_
          refine lv_icmp_gt (tgt := 63) hx hb dM_hex_50 (by decide) (fun hc => ?_) (fun hc => ?_)
          · rw [if_pos hc] at hf
            refine lv_iconst (v := (-1)) hx hb dM_hex_63 (by decide) ?_
            obtain rfl := Option.some.inj hf
            obtain ⟨hP9, hD9⟩ := xsub (wc := []) hP hD [] rfl rfl (by decide)
            exact W.iret (v := ((-1) : Int32)) hx hb hr (fun t ht hW => ⟨⟨((-1) : Int32), (), rfl, rfl, by rw [ht]; exact hP9, va_K.moved hW.alike hK, hD9⟩, hS.F ht⟩) hS.2.2 dM_hex_64
          · rw [if_neg hc] at hf
            refine lv_iload_n hx hb dM_hex_53 rfl (lv_at hl 0 rfl) ?_
            refine lv_bipush (v := 65) hx hb dM_hex_54 (by decide) ?_
            refine lv_isub hx hb dM_hex_56 ?_
            refine lv_bipush (v := 10) hx hb dM_hex_57 (by decide) ?_
            refine lv_iadd hx hb dM_hex_59 ?_
            refine lv_goto (tgt := 64) hx hb dM_hex_60 (by decide) ?_
            obtain rfl := Option.some.inj hf
            obtain ⟨hP9, hD9⟩ := xsub (wc := []) hP hD [] rfl rfl (by decide)
            exact W.iret (v := ((x0 - (65 : Int32)) + (10 : Int32))) hx hb hr (fun t ht hW => ⟨⟨((x0 - (65 : Int32)) + (10 : Int32)), (), rfl, rfl, by rw [ht]; exact hP9, va_K.moved hW.alike hK, hD9⟩, hS.F ht⟩) hS.2.2 dM_hex_64
      · rw [if_neg hc] at hf
        refine lv_iload_n hx hb dM_hex_31 rfl (lv_at hl 0 rfl) ?_
        refine lv_bipush (v := 97) hx hb dM_hex_32 (by decide) ?_
        refine lv_isub hx hb dM_hex_34 ?_
        refine lv_bipush (v := 10) hx hb dM_hex_35 (by decide) ?_
        refine lv_iadd hx hb dM_hex_37 ?_
        refine lv_goto (tgt := 64) hx hb dM_hex_38 (by decide) ?_
        obtain rfl := Option.some.inj hf
        obtain ⟨hP9, hD9⟩ := xsub (wc := []) hP hD [] rfl rfl (by decide)
        exact W.iret (v := ((x0 - (97 : Int32)) + (10 : Int32))) hx hb hr (fun t ht hW => ⟨⟨((x0 - (97 : Int32)) + (10 : Int32)), (), rfl, rfl, by rw [ht]; exact hP9, va_K.moved hW.alike hK, hD9⟩, hS.F ht⟩) hS.2.2 dM_hex_64
  · rw [if_neg hc] at hf
    refine lv_iload_n hx hb dM_hex_6 rfl (lv_at hl 0 rfl) ?_
    refine lv_bipush (v := 57) hx hb dM_hex_7 (by decide) ?_
    refine lv_icmp_gt (tgt := 19) hx hb dM_hex_9 (by decide) (fun hc => ?_) (fun hc => ?_)
    · rw [if_pos hc] at hf
      refine lv_iload_n hx hb dM_hex_19 rfl (lv_at hl 0 rfl) ?_
      refine lv_bipush (v := 97) hx hb dM_hex_20 (by decide) ?_
      refine lv_icmp_lt (tgt := 41) hx hb dM_hex_22 (by decide) (fun hc => ?_) (fun hc => ?_)
      · rw [if_pos hc] at hf
        refine lv_iload_n hx hb dM_hex_41 rfl (lv_at hl 0 rfl) ?_
        refine lv_bipush (v := 65) hx hb dM_hex_42 (by decide) ?_
        refine lv_icmp_lt (tgt := 63) hx hb dM_hex_44 (by decide) (fun hc => ?_) (fun hc => ?_)
        · rw [if_pos hc] at hf
          refine lv_iconst (v := (-1)) hx hb dM_hex_63 (by decide) ?_
          obtain rfl := Option.some.inj hf
          obtain ⟨hP9, hD9⟩ := xsub (wc := []) hP hD [] rfl rfl (by decide)
          exact W.iret (v := ((-1) : Int32)) hx hb hr (fun t ht hW => ⟨⟨((-1) : Int32), (), rfl, rfl, by rw [ht]; exact hP9, va_K.moved hW.alike hK, hD9⟩, hS.F ht⟩) hS.2.2 dM_hex_64
        · rw [if_neg hc] at hf
          refine lv_iload_n hx hb dM_hex_47 rfl (lv_at hl 0 rfl) ?_
          refine lv_bipush (v := 70) hx hb dM_hex_48 (by decide) ?_
          refine lv_icmp_gt (tgt := 63) hx hb dM_hex_50 (by decide) (fun hc => ?_) (fun hc => ?_)
          · rw [if_pos hc] at hf
            refine lv_iconst (v := (-1)) hx hb dM_hex_63 (by decide) ?_
            obtain rfl := Option.some.inj hf
            obtain ⟨hP9, hD9⟩ := xsub (wc := []) hP hD [] rfl rfl (by decide)
            exact W.iret (v := ((-1) : Int32)) hx hb hr (fun t ht hW => ⟨⟨((-1) : Int32), (), rfl, rfl, by rw [ht]; exact hP9, va_K.moved hW.alike hK, hD9⟩, hS.F ht⟩) hS.2.2 dM_hex_64
          · rw [if_neg hc] at hf
            refine lv_iload_n hx hb dM_hex_53 rfl (lv_at hl 0 rfl) ?_
            refine lv_bipush (v := 65) hx hb dM_hex_54 (by decide) ?_
            refine lv_isub hx hb dM_hex_56 ?_
            refine lv_bipush (v := 10) hx hb dM_hex_57 (by decide) ?_
            refine lv_iadd hx hb dM_hex_59 ?_
            refine lv_goto (tgt := 64) hx hb dM_hex_60 (by decide) ?_
            obtain rfl := Option.some.inj hf
            obtain ⟨hP9, hD9⟩ := xsub (wc := []) hP hD [] rfl rfl (by decide)
            exact W.iret (v := ((x0 - (65 : Int32)) + (10 : Int32))) hx hb hr (fun t ht hW => ⟨⟨((x0 - (65 : Int32)) + (10 : Int32)), (), rfl, rfl, by rw [ht]; exact hP9, va_K.moved hW.alike hK, hD9⟩, hS.F ht⟩) hS.2.2 dM_hex_64
      · rw [if_neg hc] at hf
        refine lv_iload_n hx hb dM_hex_25 rfl (lv_at hl 0 rfl) ?_
        refine lv_bipush (v := 102) hx hb dM_hex_26 (by decide) ?_
        refine lv_icmp_gt (tgt := 41) hx hb dM_hex_28 (by decide) (fun hc => ?_) (fun hc => ?_)
        · rw [if_pos hc] at hf
          refine lv_iload_n hx hb dM_hex_41 rfl (lv_at hl 0 rfl) ?_
          refine lv_bipush (v := 65) hx hb dM_hex_42 (by decide) ?_
          refine lv_icmp_lt (tgt := 63) hx hb dM_hex_44 (by decide) (fun hc => ?_) (fun hc => ?_)
          · rw [if_pos hc] at hf
            refine lv_iconst (v := (-1)) hx hb dM_hex_63 (by decide) ?_
            obtain rfl := Option.some.inj hf
            obtain ⟨hP9, hD9⟩ := xsub (wc := []) hP hD [] rfl rfl (by decide)
            exact W.iret (v := ((-1) : Int32)) hx hb hr (fun t ht hW => ⟨⟨((-1) : Int32), (), rfl, rfl, by rw [ht]; exact hP9, va_K.moved hW.alike hK, hD9⟩, hS.F ht⟩) hS.2.2 dM_hex_64
          · rw [if_neg hc] at hf
            refine lv_iload_n hx hb dM_hex_47 rfl (lv_at hl 0 rfl) ?_
            refine lv_bipush (v := 70) hx hb dM_hex_48 (by decide) ?_
            refine lv_icmp_gt (tgt := 63) hx hb dM_hex_50 (by decide) (fun hc => ?_) (fun hc => ?_)
            · rw [if_pos hc] at hf
              refine lv_iconst (v := (-1)) hx hb dM_hex_63 (by decide) ?_
              obtain rfl := Option.some.inj hf
              obtain ⟨hP9, hD9⟩ := xsub (wc := []) hP hD [] rfl rfl (by decide)
              exact W.iret (v := ((-1) : Int32)) hx hb hr (fun t ht hW => ⟨⟨((-1) : Int32), (), rfl, rfl, by rw [ht]; exact hP9, va_K.moved hW.alike hK, hD9⟩, hS.F ht⟩) hS.2.2 dM_hex_64
            · rw [if_neg hc] at hf
              refine lv_iload_n hx hb dM_hex_53 rfl (lv_at hl 0 rfl) ?_
              refine lv_bipush (v := 65) hx hb dM_hex_54 (by decide) ?_
              refine lv_isub hx hb dM_hex_56 ?_
              refine lv_bipush (v := 10) hx hb dM_hex_57 (by decide) ?_
              refine lv_iadd hx hb dM_hex_59 ?_
              refine lv_goto (tgt := 64) hx hb dM_hex_60 (by decide) ?_
              obtain rfl := Option.some.inj hf
              obtain ⟨hP9, hD9⟩ := xsub (wc := []) hP hD [] rfl rfl (by decide)
              exact W.iret (v := ((x0 - (65 : Int32)) + (10 : Int32))) hx hb hr (fun t ht hW => ⟨⟨((x0 - (65 : Int32)) + (10 : Int32)), (), rfl, rfl, by rw [ht]; exact hP9, va_K.moved hW.alike hK, hD9⟩, hS.F ht⟩) hS.2.2 dM_hex_64
        · rw [if_neg hc] at hf
          refine lv_iload_n hx hb dM_hex_31 rfl (lv_at hl 0 rfl) ?_
          refine lv_bipush (v := 97) hx hb dM_hex_32 (by decide) ?_
          refine lv_isub hx hb dM_hex_34 ?_
          refine lv_bipush (v := 10) hx hb dM_hex_35 (by decide) ?_
          refine lv_iadd hx hb dM_hex_37 ?_
          refine lv_goto (tgt := 64) hx hb dM_hex_38 (by decide) ?_
          obtain rfl := Option.some.inj hf
          obtain ⟨hP9, hD9⟩ := xsub (wc := []) hP hD [] rfl rfl (by decide)
          exact W.iret (v := ((x0 - (97 : Int32)) + (10 : Int32))) hx hb hr (fun t ht hW => ⟨⟨((x0 - (97 : Int32)) + (10 : Int32)), (), rfl, rfl, by rw [ht]; exact hP9, va_K.moved hW.alike hK, hD9⟩, hS.F ht⟩) hS.2.2 dM_hex_64
    · rw [if_neg hc] at hf
      refine lv_iload_n hx hb dM_hex_12 rfl (lv_at hl 0 rfl) ?_
      refine lv_bipush (v := 48) hx hb dM_hex_13 (by decide) ?_
      refine lv_isub hx hb dM_hex_15 ?_
      refine lv_goto (tgt := 64) hx hb dM_hex_16 (by decide) ?_
      obtain rfl := Option.some.inj hf
      obtain ⟨hP9, hD9⟩ := xsub (wc := []) hP hD [] rfl rfl (by decide)
      exact W.iret (v := (x0 - (48 : Int32))) hx hb hr (fun t ht hW => ⟨⟨(x0 - (48 : Int32)), (), rfl, rfl, by rw [ht]; exact hP9, va_K.moved hW.alike hK, hD9⟩, hS.F ht⟩) hS.2.2 dM_hex_64
set_option maxHeartbeats 400000000 in
set_option maxRecDepth 100000 in
theorem gM_refuse_1 (l : Launch) (hl9 : l.stackTraces = false) (D : va_G) (cT : Nat → ClassId) (aK aV : Nat → Nat) (sz n : Nat) (aM : Nat) (ad rd gd vad : Nat → Nat) (st : xS) (x0 : Int32) (out : Nat × Nat × Nat × Nat × xS) (hf : fM_refuse n st x0 = some out) (hkd : out.1 = 1) : xMetY l yM_refuse wyM_refuse 6 out.2.1 out.2.2.1 100 D cT aK aV sz [.ref aM, .int x0] (xMw cT aM ad rd gd vad st []) "java/lang/ArithmeticException" (fun u => xE vad st out.2.2.2.2 u) (fun A u t => xB D xcl cT A (xMw cT aM u.1 rd u.2.1 u.2.2 out.2.2.2.2 []) t) := by
  refine vx_ofW (cc := prog_13_method_4_code) (maxL := 2) (ret := (some (.object "ValueBenchModel$V"))) (by decide) rfl ?_
  intro p e s m args below meth c s₁ B hml hne hv
  obtain ⟨rfl, hsz, hZ, hP, hK, hD0⟩ := hv
  have hx := B.exec
  have hb := B.bytes
  have hr := B.returns
  have hts := atoms_spec (ws := wyM_refuse) B.pre
  have htx := fun w h => hts w (List.mem_cons_of_mem _ h)
  have hown : s.vm.findClass "ValueBenchModel" = some m.cls := findClass_of_methodNamed B.named
  have hlocks := B.notSynchronized
  subst hsz
  have hD := hD0.self (sz := s.heap.size)
  generalize hAe : va_A (xMw cT aM ad rd gd vad st []) s.heap.size = A at hD hZ ⊢
  have hA : ∀ q : Nat, s.heap.size ≤ q → A q := fun q h => by rw [← hAe]; exact Or.inr h
  have hS : va_S A s.heap s.heap [] := va_S.rf
  have hl := lv_entry ([.ref aM, .int x0]) (n := 2) (by simp [lg_sl, xvcat, xrscat, xcI, xcL, xcR, xcN])
  rw [show lv_args 0 [.ref aM, .int x0] = [(0, .ref aM), (1, .int x0)] from by simp [lv_args, xvcat, xrscat, xcI, xcL, xcR, xcN]] at hl
  rw [lg_entry_eq]
  generalize (lg_sl ([.ref aM, .int x0]) ++ List.replicate (2 - (lg_sl ([.ref aM, .int x0])).length) Slot.unset).toArray = ls at hl ⊢
  have hl : lv_has ls 2 [(0, .ref aM), (1, .int x0)] := hl
  have hE : ∀ p, p < xct st → vad p = vad p := fun _ _ => rfl
  have hN : xct st ≤ xct st := Nat.le_refl _
  unfold fM_refuse at hf
  refine lv_aload_n hx hb dM_refuse_0 rfl (lv_at hl 0 rfl) ?_
  refine lv_iload_n hx hb dM_refuse_1 rfl (lv_at hl 1 rfl) ?_
  refine xm_put (v := .int x0) (W' := (xMw cT aM ad rd gd vad (xsI st 8 x0) [])) (ty := .int) hx hb htx hown hK hP hD hS 8 (by decide) rfl (htx _ kw_5_95) rfl rfl (by decide +kernel) rfl rfl dM_refuse_2 (fun H locs hP hD hS => ?_)
  obtain rfl := Option.some.inj hf
  exact vx_throw0 (own := "ValueBenchModel") (cls := "java/lang/ArithmeticException") (names := ["java/lang/RuntimeException", "java/lang/Exception"]) hx hb hl9 hown (by decide +kernel) (by decide +kernel) (htx _ kw_6_94) (htx _ kw_1_20) (vx_hat (B := [.castable "java/lang/ArithmeticException" "java/lang/ArithmeticException", .declares ⟨"java/lang/RuntimeException", "<init>", "()V"⟩, .declares ⟨"java/lang/Exception", "<init>", "()V"⟩, .declares ⟨"java/lang/Throwable", "<init>", "()V"⟩]) (fun w h => htx w (xat_M_83_85 w h)) xat_M_83_85_b (vx_c ((hZ.2.2.2.2.2.1 "java/lang/ArithmeticException" (List.mem_of_getElem? (i := 3) rfl)).use rfl) (vx_c ((hZ.2.2.2.2.2.2.1 ⟨"java/lang/RuntimeException", "<init>", "()V"⟩ (List.mem_of_getElem? (i := 0) rfl)).use rfl) (vx_c ((hZ.2.2.2.2.2.2.1 ⟨"java/lang/Exception", "<init>", "()V"⟩ (List.mem_of_getElem? (i := 1) rfl)).use rfl) (vx_c ((hZ.2.2.2.2.2.2.1 ⟨"java/lang/Throwable", "<init>", "()V"⟩ (List.mem_of_getElem? (i := 2) rfl)).use rfl) vx_n))))) xat_M_83_85_g hZ.2.2.2.1 hZ.2.2.2.2.1 hS (hl.1.trans hml.symm) dM_refuse_5 dM_refuse_8 dM_refuse_9 dM_refuse_12 (fun x h => (hne x h).elim) (Nat.le_of_ble_eq_true rfl) (Nat.le_of_ble_eq_true rfl) (Nat.le_refl _) (Nat.le_refl _) hlocks (fun t ha hz hk => ⟨(ad, gd, vad), ⟨hE, hN⟩, ⟨rfl, xx_keepP hP hk, va_K.moved ha hK, hD⟩, xx_grown hS hz hk⟩) hS.2.2 (Nat.le_refl _) (Nat.le_refl _)
set_option maxHeartbeats 400000000 in
set_option maxRecDepth 100000 in
theorem gM_letter (l : Launch) (hl9 : l.stackTraces = false) (D : va_G) (cT : Nat → ClassId) (aK aV : Nat → Nat) (sz n : Nat) (aM : Nat) (ad rd gd vad : Nat → Nat) (st : xS) (x0 : Int32) (out : Nat × Nat × xS) (hf : fM_letter n st x0 = some out) : xMet l yM_letter wyM_letter 0 out.1 out.2.1 0 D cT aK aV sz [.ref aM, .int x0] (xMw cT aM ad rd gd vad st []) (fun A => va_Qv (fun u : xU => xE vad st out.2.2 u) (fun u t => xB D xcl cT A (xMw cT aM u.1 rd u.2.1 u.2.2 out.2.2 []) t) A) := by
  refine Met.ofW (cc := prog_13_method_9_code) (maxL := 4) (ret := none) (by decide) rfl ?_
  intro p e s m args below meth c s₁ B hml hv
  obtain ⟨rfl, hsz, hZ, hP, hK, hD0⟩ := hv
  have hx := B.exec
  have hb := B.bytes
  have hr := B.returns
  have hts := atoms_spec (ws := wyM_letter) B.pre
  have htx := fun w h => hts w (List.mem_cons_of_mem _ h)
  have hown : s.vm.findClass "ValueBenchModel" = some m.cls := findClass_of_methodNamed B.named
  have hlocks := B.notSynchronized
  subst hsz
  have hD := hD0.self (sz := s.heap.size)
  generalize hAe : va_A (xMw cT aM ad rd gd vad st []) s.heap.size = A at hD hZ ⊢
  have hA : ∀ q : Nat, s.heap.size ≤ q → A q := fun q h => by rw [← hAe]; exact Or.inr h
  have hS : va_S A s.heap s.heap [] := va_S.rf
  have hl := lv_entry ([.ref aM, .int x0]) (n := 4) (by simp [lg_sl, xvcat, xrscat, xcI, xcL, xcR, xcN])
  rw [show lv_args 0 [.ref aM, .int x0] = [(0, .ref aM), (1, .int x0)] from by simp [lv_args, xvcat, xrscat, xcI, xcL, xcR, xcN]] at hl
  rw [lg_entry_eq]
  generalize (lg_sl ([.ref aM, .int x0]) ++ List.replicate (4 - (lg_sl ([.ref aM, .int x0])).length) Slot.unset).toArray = ls at hl ⊢
  have hl : lv_has ls 4 [(0, .ref aM), (1, .int x0)] := hl
  have hE : ∀ p, p < xct st → vad p = vad p := fun _ _ => rfl
  have hN : xct st ≤ xct st := Nat.le_refl _
  unfold fM_letter at hf
  refine xloopM (σ := Nat × Int32 × Int32 × Nat × (Nat → Int32) × xS × Nat × Nat) (fun n x H locs ls => (∃ (adL gdL vadL : Nat → Nat) (tq0 : Nat), x.1 = 1 ∧ fM_letter_b n x.1 x.2.1 x.2.2.1 x.2.2.2.1 x.2.2.2.2.1 x.2.2.2.2.2.1 x.2.2.2.2.2.2.1 x.2.2.2.2.2.2.2 = some out ∧ va_P D xcl (xMw cT aM adL rd gdL vadL x.2.2.2.2.2.1 [(tq0, .inl (cT 0, x.2.2.2.1, .inl x.2.2.2.2.1))]) H ∧ va_D A (xMw cT aM adL rd gdL vadL x.2.2.2.2.2.1 [(tq0, .inl (cT 0, x.2.2.2.1, .inl x.2.2.2.2.1))]) ∧ va_S A s.heap H locs ∧ lv_has ls 4 [(3, .int x.2.1), (2, .ref tq0), (0, .ref aM), (1, .int x.2.2.1)] ∧ (∀ p, p < xct st → vadL p = vad p) ∧ xct st ≤ xct x.2.2.2.2.2.1)) (fun x => 23) (fun x => x.2.2.2.2.2.2.1) (fun x => x.2.2.2.2.2.2.2) (fun x H locs ls h => by (obtain ⟨_, _, _, _, h⟩ := h; exact absurd h.2.1 (by rw [fM_letter_b]; exact fun h => nomatch h))) (fun n ih x H locs ls hv => ?_) (fun key => ?_)
  · obtain ⟨lb, y3, y1, tn0, tf0, ws9, wc, wn⟩ := x
    rcases hv with ⟨adL, gdL, vadL, tq0, hj, hf, hP, hD, hS, hl, hE, hN⟩
    subst hj
    have hf : fM_letter_b (n + 1) 1 y3 y1 tn0 tf0 ws9 wc wn = some out := hf
    rw [fM_letter_b] at hf
    obtain ⟨hP, hD⟩ : xPD D xcl A (xMw cT aM adL rd gdL vadL ws9 [(tq0, .inl (cT 0, tn0, .inl tf0))]) H := ⟨hP, hD⟩
    have hl : lv_has ls 4 [(3, .int y3), (2, .ref tq0), (0, .ref aM), (1, .int y1)] := hl
    refine W.eq (g2 := F0 m 23 ls []) rfl ?_
    show W p l e _ s m _ below meth c H locs wc wn _ _
    obtain ⟨hm0, hf⟩ := xmoE hf
    refine lv_iload_n hx hb dM_letter_23 rfl (lv_at hl 0 rfl) ?_
    refine lv_aload_n hx hb dM_letter_24 rfl (lv_at hl 2 rfl) ?_
    refine xm_get (v := .int (xsi ws9 4)) hx hb htx hown hK hP 4 (by decide) rfl (htx _ kw_5_91) rfl dM_letter_25 ?_
    refine lv_icmp_ge (tgt := 46) hx hb dM_letter_28 (by decide) (fun hc => ?_) (fun hc => ?_)
    · rw [if_pos hc] at hf
      refine lv_aload_n hx hb dM_letter_46 rfl (lv_at hl 2 rfl) ?_
      refine lv_aload_n hx hb dM_letter_47 rfl (lv_at hl 1 rfl) ?_
      refine xm_put (v := .ref tq0) (W' := ((aM, Sum.inr (5, (xMf adL rd gdL ws9).set 3 (.ref tq0))) :: (xMa cT adL rd vadL ws9 ++ ([(tq0, .inl (cT 0, tn0, .inl tf0))] ++ (xMg cT gdL ws9 ++ xMt vadL ws9))))) (ty := (.array .byte)) hx hb htx hown hK hP hD hS 3 (by decide) rfl (htx _ kw_5_90) rfl rfl (by decide +kernel) rfl rfl dM_letter_48 (fun H locs hP hD hS => ?_)
      obtain ⟨hg1, hf⟩ := xifn hf
      rw [xMf_O (n := tn0) (f := tf0) (Nat.lt_of_not_le hg1)] at hP hD
      obtain ⟨hP, hD⟩ := xm_part (X := ((aM, Sum.inr (5, xMf (va_up adL 3 tq0) rd (va_up gdL (xgl ws9) (adL 3)) (xsO ws9 tn0 tf0))) :: (xMa cT adL rd vadL ws9 ++ [(tq0, .inl (cT 0, tn0, .inl tf0))]))) (cx := xMe cT aM (va_up adL 3 tq0) rd (va_up gdL (xgl ws9) (adL 3)) vadL (xsO ws9 tn0 tf0) ++ [(adL 3, .inl (cT 0, xln ws9 3, .inl (xba ws9 3)))]) (G := xMg cT gdL ws9 ++ xMt vadL ws9) (W2 := (xMw cT aM (va_up adL 3 tq0) rd (va_up gdL (xgl ws9) (adL 3)) vadL (xsO ws9 tn0 tf0) [])) hP hD rfl [0, 1, 22, 3, 4, 5, 6, 7, 8, 9, 10, 11, 12, 13, 14, 15, 16, 17, 18, 19, 20, 21, 2] rfl (by decide) xMw_O
      have hl : lv_has ls 4 [(3, .int y3), (0, .ref aM), (1, .int y1)] := lv_sub hl [0, 2, 3] rfl
      generalize (va_up adL 3 tq0) = ad2 at hP hD
      generalize (va_up gdL (xgl ws9) (adL 3)) = gd3 at hP hD
      refine lv_aload_n hx hb dM_letter_51 rfl (lv_at hl 1 rfl) ?_
      refine xm_get (v := .ref (ad2 3)) hx hb htx hown hK hP 3 (by decide) rfl (htx _ kw_5_90) rfl dM_letter_52 ?_
      refine lv_aload_n hx hb dM_letter_55 rfl (lv_at hl 1 rfl) ?_
      refine xm_get (v := .int (xsi ws9 4)) hx hb htx hown hK hP 4 (by decide) rfl (htx _ kw_5_91) rfl dM_letter_56 ?_
      refine lv_iload_n hx hb dM_letter_59 rfl (lv_at hl 2 rfl) ?_
      refine lv_i2b hx hb dM_letter_60 rfl ?_
      obtain ⟨hg4, hf⟩ := xifn hf
      refine va_bast hx hb hK hP hD hS 2 0 rfl rfl hg4 dM_letter_61 (fun H locs hP hD hS => ?_)
      obtain ⟨hP, hD⟩ : xPD D xcl A (xMw cT aM ad2 rd gd3 vadL (xsB (xsO ws9 tn0 tf0) 3 ((xsi ws9 4).toNatClampNeg) (vp_nar .byte y1.toInt8.toInt32)) []) H := ⟨hP, hD⟩
      refine lv_aload_n hx hb dM_letter_62 rfl (lv_at hl 1 rfl) ?_
      refine lv_dup hx hb dM_letter_63 rfl ?_
      refine xm_get (v := .int (xsi ws9 4)) hx hb htx hown hK hP 4 (by decide) rfl (htx _ kw_5_91) rfl dM_letter_64 ?_
      refine lv_iconst (v := 1) hx hb dM_letter_67 (by decide) ?_
      refine lv_iadd hx hb dM_letter_68 ?_
      refine xm_put (v := .int ((xsi ws9 4) + (1 : Int32))) (W' := (xMw cT aM ad2 rd gd3 vadL (xsI (xsB (xsO ws9 tn0 tf0) 3 ((xsi ws9 4).toNatClampNeg) (vp_nar .byte y1.toInt8.toInt32)) 4 ((xsi ws9 4) + (1 : Int32))) [])) (ty := .int) hx hb htx hown hK hP hD hS 4 (by decide) rfl (htx _ kw_5_91) rfl rfl (by decide +kernel) rfl rfl dM_letter_69 (fun H locs hP hD hS => ?_)
      obtain rfl := Option.some.inj hf
      exact W.vret hx hb hr (fun t ht hW => ⟨⟨(ad2, gd3, vadL), rfl, ⟨hE, hN⟩, by rw [ht]; exact hP, va_K.moved hW.alike hK, hD⟩, hS.F ht⟩) hS.2.2 dM_letter_72
    · rw [if_neg hc] at hf
      refine lv_aload_n hx hb dM_letter_31 rfl (lv_at hl 1 rfl) ?_
      refine lv_iload_n hx hb dM_letter_32 rfl (lv_at hl 0 rfl) ?_
      refine lv_aload_n hx hb dM_letter_33 rfl (lv_at hl 2 rfl) ?_
      refine xm_get (v := .ref (adL 3)) hx hb htx hown hK hP 3 (by decide) rfl (htx _ kw_5_90) rfl dM_letter_34 ?_
      refine lv_iload_n hx hb dM_letter_37 rfl (lv_at hl 0 rfl) ?_
      obtain ⟨hg1, hf⟩ := xifn hf
      refine va_bald hx hb hK hP 2 0 rfl rfl hg1 dM_letter_38 ?_
      refine W.eq (g2 := F0 m 39 ls [.int ((xba ws9 3) y3.toNatClampNeg), .int y3, .ref tq0]) rfl ?_
      obtain ⟨hg2, hf⟩ := xifn hf
      refine va_bast hx hb hK hP hD hS 22 0 rfl rfl hg2 dM_letter_39 (fun H locs hP hD hS => ?_)
      obtain ⟨hP, hD⟩ : xPD D xcl A (xMw cT aM adL rd gdL vadL ws9 [(tq0, .inl (cT 0, tn0, .inl (upd tf0 y3.toNatClampNeg (vp_nar .byte ((xba ws9 3) y3.toNatClampNeg)))))]) H := ⟨hP, hD⟩
      refine lv_iinc (v := (y3 + 1)) (lv' := [(3, .int (y3 + 1)), (2, .ref tq0), (0, .ref aM), (1, .int y1)]) hx hb dM_letter_40 hl (k := 0) rfl rfl (by decide) rfl (fun ls hl => ?_)
      refine lv_goto (tgt := 23) hx hb dM_letter_43 (by decide) ?_
      exact ih (1, (y3 + 1), y1, tn0, (upd tf0 y3.toNatClampNeg (vp_nar .byte ((xba ws9 3) y3.toNatClampNeg))), ws9, wc, wn) _ _ ls (⟨adL, gdL, vadL, tq0, rfl, hf, hP, hD, hS, lv_sub hl [0, 1, 2, 3] rfl, hE, hN⟩)
  refine lv_aload_n hx hb dM_letter_0 rfl (lv_at hl 0 rfl) ?_
  refine xm_get (v := .int (xsi st 4)) hx hb htx hown hK hP 4 (by decide) rfl (htx _ kw_5_91) rfl dM_letter_1 ?_
  refine lv_aload_n hx hb dM_letter_4 rfl (lv_at hl 0 rfl) ?_
  refine xm_get (v := .ref (ad 3)) hx hb htx hown hK hP 3 (by decide) rfl (htx _ kw_5_90) rfl dM_letter_5 ?_
  refine va_alen (v := Int32.ofNat (xln st 3)) hx hb hK hP 2 0 rfl rfl rfl dM_letter_8 ?_
  refine lv_icmp_ne (tgt := 51) hx hb dM_letter_9 (by decide) (fun hc => ?_) (fun hc => ?_)
  · rw [if_neg hc] at hf
    refine lv_aload_n hx hb dM_letter_51 rfl (lv_at hl 0 rfl) ?_
    refine xm_get (v := .ref (ad 3)) hx hb htx hown hK hP 3 (by decide) rfl (htx _ kw_5_90) rfl dM_letter_52 ?_
    refine lv_aload_n hx hb dM_letter_55 rfl (lv_at hl 0 rfl) ?_
    refine xm_get (v := .int (xsi st 4)) hx hb htx hown hK hP 4 (by decide) rfl (htx _ kw_5_91) rfl dM_letter_56 ?_
    refine lv_iload_n hx hb dM_letter_59 rfl (lv_at hl 1 rfl) ?_
    refine lv_i2b hx hb dM_letter_60 rfl ?_
    obtain ⟨hg1, hf⟩ := xifn hf
    refine va_bast hx hb hK hP hD hS 2 0 rfl rfl hg1 dM_letter_61 (fun H locs hP hD hS => ?_)
    obtain ⟨hP, hD⟩ : xPD D xcl A (xMw cT aM ad rd gd vad (xsB st 3 ((xsi st 4).toNatClampNeg) (vp_nar .byte x0.toInt8.toInt32)) []) H := ⟨hP, hD⟩
    refine lv_aload_n hx hb dM_letter_62 rfl (lv_at hl 0 rfl) ?_
    refine lv_dup hx hb dM_letter_63 rfl ?_
    refine xm_get (v := .int (xsi st 4)) hx hb htx hown hK hP 4 (by decide) rfl (htx _ kw_5_91) rfl dM_letter_64 ?_
    refine lv_iconst (v := 1) hx hb dM_letter_67 (by decide) ?_
    refine lv_iadd hx hb dM_letter_68 ?_
    refine xm_put (v := .int ((xsi st 4) + (1 : Int32))) (W' := (xMw cT aM ad rd gd vad (xsI (xsB st 3 ((xsi st 4).toNatClampNeg) (vp_nar .byte x0.toInt8.toInt32)) 4 ((xsi st 4) + (1 : Int32))) [])) (ty := .int) hx hb htx hown hK hP hD hS 4 (by decide) rfl (htx _ kw_5_91) rfl rfl (by decide +kernel) rfl rfl dM_letter_69 (fun H locs hP hD hS => ?_)
    obtain rfl := Option.some.inj hf
    exact W.vret hx hb hr (fun t ht hW => ⟨⟨(ad, gd, vad), rfl, ⟨hE, hN⟩, by rw [ht]; exact hP, va_K.moved hW.alike hK, hD⟩, hS.F ht⟩) hS.2.2 dM_letter_72
  · rw [if_pos hc] at hf
    refine lv_iconst (v := 2) hx hb dM_letter_12 (by decide) ?_
    refine lv_aload_n hx hb dM_letter_13 rfl (lv_at hl 0 rfl) ?_
    refine xm_get (v := .int (xsi st 4)) hx hb htx hown hK hP 4 (by decide) rfl (htx _ kw_5_91) rfl dM_letter_14 ?_
    refine lv_imul hx hb dM_letter_17 ?_
    obtain ⟨hg1, hf⟩ := xifn hf
    obtain ⟨hm2, hf⟩ := xmoE hf
    refine va_newa (atype := .byte) (N' := ((2 : Int32) * (xsi st 4)).toNatClampNeg) (a0 := (((2 : Int32) * (xsi st 4)).toNatClampNeg, .inl (fun _ => 0))) (ty := .byte) (n := ((2 : Int32) * (xsi st 4))) hx hb (htx _ kw_1_53) rfl hK hP hD hS hA (fun _ => rfl) (fun h => hg1 (Or.inl h)) rfl (by have := fun h => hg1 (Or.inr h); show _ * 1 ≤ _; omega) hm2.1 hm2.2 dM_letter_18 (fun qz3 cA9 H hK9 hP hD hS => ?_)
    obtain rfl := xk_eq hK9 0 rfl
    replace hP := xm_tmpP hP
    replace hD := xm_tmpD hD
    obtain ⟨hP, hD⟩ : xPD D xcl A (xMw cT aM ad rd gd vad st [(qz3, .inl (cT 0, ((2 : Int32) * (xsi st 4)).toNatClampNeg, .inl (fun _ => 0)))]) H := ⟨hP, hD⟩
    refine lv_astore_n (lv' := [(2, .ref qz3), (0, .ref aM), (1, .int x0)]) hx hb dM_letter_20 rfl hl (by decide) rfl (fun ls hl => ?_)
    refine lv_iconst (v := 0) hx hb dM_letter_21 (by decide) ?_
    refine lv_istore_n (lv' := [(3, .int 0), (2, .ref qz3), (0, .ref aM), (1, .int x0)]) hx hb dM_letter_22 rfl hl (by decide) rfl (fun ls hl => ?_)
    exact key n (1, (0 : Int32), x0, ((2 : Int32) * (xsi st 4)).toNatClampNeg, (fun _ => 0), st, (0 + 1), (0 + ((2 : Int32) * (xsi st 4)).toNatClampNeg)) _ _ ls (⟨ad, gd, vad, qz3, rfl, hf, hP, hD, hS, lv_sub hl [0, 1, 2, 3] rfl, hE, hN⟩)
set_option maxHeartbeats 400000000 in
set_option maxRecDepth 100000 in
theorem gM_letters (l : Launch) (hl9 : l.stackTraces = false) (D : va_G) (cT : Nat → ClassId) (aK aV : Nat → Nat) (sz n : Nat) (aM : Nat) (ad rd gd vad : Nat → Nat) (st : xS) (c0 : Nat) (out : Nat × Nat × xS) (hf : fM_letters n st c0 = some out) : xMet l yM_letters wyM_letters 1 out.1 out.2.1 23 D cT aK aV sz [.ref aM, xv vad c0] (xMw cT aM ad rd gd vad st []) (fun A => va_Qv (fun u : xU => xE vad st out.2.2 u) (fun u t => xB D xcl cT A (xMw cT aM u.1 rd u.2.1 u.2.2 out.2.2 []) t) A) := by
  refine Met.ofW (cc := prog_13_method_12_code) (maxL := 3) (ret := none) (by decide) rfl ?_
  intro p e s m args below meth c s₁ B hml hv
  obtain ⟨rfl, hsz, hZ, hP, hK, hD0⟩ := hv
  have hx := B.exec
  have hb := B.bytes
  have hr := B.returns
  have hts := atoms_spec (ws := wyM_letters) B.pre
  have htx := fun w h => hts w (List.mem_cons_of_mem _ h)
  have hown : s.vm.findClass "ValueBenchModel" = some m.cls := findClass_of_methodNamed B.named
  have hlocks := B.notSynchronized
  subst hsz
  have hD := hD0.self (sz := s.heap.size)
  generalize hAe : va_A (xMw cT aM ad rd gd vad st []) s.heap.size = A at hD hZ ⊢
  have hA : ∀ q : Nat, s.heap.size ≤ q → A q := fun q h => by rw [← hAe]; exact Or.inr h
  have hS : va_S A s.heap s.heap [] := va_S.rf
  have hl := lv_entry ([.ref aM, xv vad c0]) (n := 3) (by simp [lg_sl, xvcat, xrscat, xcI, xcL, xcR, xcN])
  rw [show lv_args 0 [.ref aM, xv vad c0] = [(0, .ref aM), (1, xv vad c0)] from by simp [lv_args, xvcat, xrscat, xcI, xcL, xcR, xcN]] at hl
  rw [lg_entry_eq]
  generalize (lg_sl ([.ref aM, xv vad c0]) ++ List.replicate (3 - (lg_sl ([.ref aM, xv vad c0])).length) Slot.unset).toArray = ls at hl ⊢
  have hl : lv_has ls 3 [(0, .ref aM), (1, xv vad c0)] := hl
  have hE : ∀ p, p < xct st → vad p = vad p := fun _ _ => rfl
  have hN : xct st ≤ xct st := Nat.le_refl _
  unfold fM_letters at hf
  refine xloopM (σ := Nat × Int32 × Nat × xS × Nat × Nat) (fun n x H locs ls => (∃ (adL gdL vadL : Nat → Nat), x.1 = 1 ∧ fM_letters_b n x.1 x.2.1 x.2.2.1 x.2.2.2.1 x.2.2.2.2.1 x.2.2.2.2.2 = some out ∧ va_P D xcl (xMw cT aM adL rd gdL vadL x.2.2.2.1 []) H ∧ va_D A (xMw cT aM adL rd gdL vadL x.2.2.2.1 []) ∧ va_S A s.heap H locs ∧ lv_has ls 3 [(2, .int x.2.1), (0, .ref aM), (1, xv vadL x.2.2.1)] ∧ (∀ p, p < xct st → vadL p = vad p) ∧ xct st ≤ xct x.2.2.2.1)) (fun x => 2) (fun x => x.2.2.2.2.1) (fun x => x.2.2.2.2.2) (fun x H locs ls h => by (obtain ⟨_, _, _, h⟩ := h; exact absurd h.2.1 (by rw [fM_letters_b]; exact fun h => nomatch h))) (fun n ih x H locs ls hv => ?_) (fun key => ?_)
  · obtain ⟨lb, y2, y1, ws9, wc, wn⟩ := x
    rcases hv with ⟨adL, gdL, vadL, hj, hf, hP, hD, hS, hl, hE, hN⟩
    subst hj
    have hf : fM_letters_b (n + 1) 1 y2 y1 ws9 wc wn = some out := hf
    rw [fM_letters_b] at hf
    obtain ⟨hP, hD⟩ : xPD D xcl A (xMw cT aM adL rd gdL vadL ws9 []) H := ⟨hP, hD⟩
    have hl : lv_has ls 3 [(2, .int y2), (0, .ref aM), (1, xv vadL y1)] := hl
    refine W.eq (g2 := F0 m 2 ls []) rfl ?_
    show W p l e _ s m _ below meth c H locs wc wn _ _
    obtain ⟨hm0, hf⟩ := xmoE hf
    refine lv_iload_n hx hb dM_letters_2 rfl (lv_at hl 0 rfl) ?_
    refine xm_aload_n hx hb (xvor _ _) dM_letters_3 rfl (lv_at hl 2 rfl) ?_
    obtain ⟨hg1, hf⟩ := xifn hf
    refine xm_vget (v := .int ((xpi ws9 3) (y1 - 1))) hx hb htx hown hK hP 3 (by decide) hg1 rfl ((hZ.1 (103, "count", "I") (List.mem_of_getElem? (i := 3) rfl)).use rfl) rfl dM_letters_4 ?_
    refine lv_icmp_ge (tgt := 31) hx hb dM_letters_7 (by decide) (fun hc => ?_) (fun hc => ?_)
    · rw [if_pos hc] at hf
      obtain rfl := Option.some.inj hf
      exact W.vret hx hb hr (fun t ht hW => ⟨⟨(adL, gdL, vadL), rfl, ⟨hE, hN⟩, by rw [ht]; exact hP, va_K.moved hW.alike hK, hD⟩, hS.F ht⟩) hS.2.2 dM_letters_31
    · rw [if_neg hc] at hf
      refine lv_aload_n hx hb dM_letters_10 rfl (lv_at hl 1 rfl) ?_
      refine lv_aload_n hx hb dM_letters_11 rfl (lv_at hl 1 rfl) ?_
      refine xm_get (v := .ref (adL 3)) hx hb htx hown hK hP 3 (by decide) rfl (htx _ kw_5_90) rfl dM_letters_12 ?_
      refine xm_aload_n hx hb (xvor _ _) dM_letters_15 rfl (lv_at hl 2 rfl) ?_
      refine xm_vget (v := .int ((xpi ws9 2) (y1 - 1))) hx hb htx hown hK hP 2 (by decide) hg1 rfl ((hZ.1 (100, "off", "I") (List.mem_of_getElem? (i := 2) rfl)).use rfl) rfl dM_letters_16 ?_
      refine lv_iload_n hx hb dM_letters_19 rfl (lv_at hl 0 rfl) ?_
      refine lv_iadd hx hb dM_letters_20 ?_
      obtain ⟨hg2, hf⟩ := xifn hf
      refine va_bald hx hb hK hP 2 0 rfl rfl hg2 dM_letters_21 ?_
      refine W.eq (g2 := F0 m 22 ls [.int ((xba ws9 3) (((xpi ws9 2) (y1 - 1)) + y2).toNatClampNeg), .ref aM]) rfl ?_
      obtain ⟨o3, hq4, hf⟩ := xbind hf
      obtain ⟨hm5, hf⟩ := xmoE hf
      have hFc := xm_free hD hS hA
      refine va_callv (va_runV (C := "ValueBenchModel") (As := [.int ((xba ws9 3) (((xpi ws9 2) (y1 - 1)) + y2).toNatClampNeg)]) (rest := []) ⟨hx, hb, hml, hown, htx⟩ (gM_letter l hl9 D cT aK aV H.size n aM adL rd gdL vadL ws9 ((xba ws9 3) (((xpi ws9 2) (y1 - 1)) + y2).toNatClampNeg) o3 hq4) ⟨callB_of 1 htx (xw_goodC kw_6_54) rfl rfl rfl (htx _ kw_1_5) (htx _ kw_6_51) ⟨by decide, by decide, by decide +kernel⟩ ⟨Nat.le_of_ble_eq_true rfl, Nat.le_of_ble_eq_true rfl⟩, (htx _ kw_6_53), (htx _ kp_M_letter)⟩ ⟨xPre_blind, va_recv hK hP (ci := 5) rfl (q0 := 0) rfl, (fun U hU hW => ⟨rfl, xPre_of hZ hS hFc hP hD hK U hU hW⟩)⟩ rfl rfl hl.1 rfl (xm_room (Nat.le_of_ble_eq_true rfl)) dM_letters_22 ⟨hm5.1, hm5.2⟩) hS (fun q _ h => hFc q h) hFc (fun u9 t H1 locs ht hvm hr9 hB hz1 hk1 hS => ?_)
      obtain ⟨hP1, hK1, hD1⟩ := hB
      rw [ht] at hP1
      obtain ⟨ad7, gd8, vad9⟩ := u9
      obtain ⟨hv10, hn11⟩ := hr9
      have hP : va_P D xcl (xMw cT aM ad7 rd gd8 vad9 o3.2.2 []) H1 := hP1
      have hD : va_D A (xMw cT aM ad7 rd gd8 vad9 o3.2.2 []) := hD1.weaken (fun k q _ h => hFc q.1 h)
      generalize H1 = H at hP hS ⊢
      have hE9 : ∀ p, p < xct st → vad9 p = vad p := fun p h => (hv10 p (Nat.lt_of_lt_of_le h hN)).trans (hE p h)
      have hE := hE9
      have hN : xct st ≤ xct o3.2.2 := Nat.le_trans hN hn11
      have ev12 : xv vadL y1 = xv vad9 y1 := xvE hv10 (fun h => hg1 (Or.inr h))
      have hl : lv_has ls 3 [(2, .int y2), (0, .ref aM), (1, xv vad9 y1)] := by first | exact hl | ((try (rw [← ev12])); exact hl)
      refine W.eq (g2 := F0 m 25 ls []) (by first | rfl | ((try (rw [ev12])); rfl)) ?_
      refine lv_iinc (v := (y2 + 1)) (lv' := [(2, .int (y2 + 1)), (0, .ref aM), (1, xv vad9 y1)]) hx hb dM_letters_25 hl (k := 0) rfl rfl (by decide) (by simp only [List.filter, xvcat, xrscat, xcI, xcL, xcR, xcN]; rfl) (fun ls hl => ?_)
      refine lv_goto (tgt := 2) hx hb dM_letters_28 (by decide) ?_
      exact ih (1, (y2 + 1), y1, o3.2.2, (wc + o3.1), (wn + o3.2.1)) _ _ ls (⟨ad7, gd8, vad9, rfl, hf, hP, hD, hS, lv_sub hl [0, 1, 2] rfl, hE, hN⟩)
  refine lv_iconst (v := 0) hx hb dM_letters_0 (by decide) ?_
  refine lv_istore_n (lv' := [(2, .int 0), (0, .ref aM), (1, xv vad c0)]) hx hb dM_letters_1 rfl hl (by decide) (by simp only [List.filter, xvcat, xrscat, xcI, xcL, xcR, xcN]; rfl) (fun ls hl => ?_)
  exact key n (1, (0 : Int32), c0, st, 0, 0) _ _ ls (⟨ad, gd, vad, rfl, hf, hP, hD, hS, lv_sub hl [0, 1, 2] rfl, hE, hN⟩)
set_option maxHeartbeats 400000000 in
set_option maxRecDepth 100000 in
theorem gM_fresh (l : Launch) (hl9 : l.stackTraces = false) (D : va_G) (cT : Nat → ClassId) (aK aV : Nat → Nat) (sz n : Nat) (aM : Nat) (ad rd gd vad : Nat → Nat) (st : xS) (x0 : Int32) (out : Nat × Nat × Nat × xS) (hf : fM_fresh n st x0 = some out) : xMet l yM_fresh wyM_fresh 2 out.1 out.2.1 32 D cT aK aV sz [.ref aM, .int x0] (xMw cT aM ad rd gd vad st []) (fun A => va_Qq (fun (r : Option Nat) (u : xU) => r = xca u.2.2 out.2.2.1 ∧ xE vad st out.2.2.2 u) (fun u t => xB D xcl cT A (xMw cT aM u.1 rd u.2.1 u.2.2 out.2.2.2 []) t) A) := by
  refine Met.ofW (cc := prog_13_method_6_code) (maxL := 4) (ret := (some (.object "ValueBenchModel$V"))) (by decide) rfl ?_
  intro p e s m args below meth c s₁ B hml hv
  obtain ⟨rfl, hsz, hZ, hP, hK, hD0⟩ := hv
  have hx := B.exec
  have hb := B.bytes
  have hr := B.returns
  have hts := atoms_spec (ws := wyM_fresh) B.pre
  have htx := fun w h => hts w (List.mem_cons_of_mem _ h)
  have hown : s.vm.findClass "ValueBenchModel" = some m.cls := findClass_of_methodNamed B.named
  have hlocks := B.notSynchronized
  subst hsz
  have hD := hD0.self (sz := s.heap.size)
  generalize hAe : va_A (xMw cT aM ad rd gd vad st []) s.heap.size = A at hD hZ ⊢
  have hA : ∀ q : Nat, s.heap.size ≤ q → A q := fun q h => by rw [← hAe]; exact Or.inr h
  have hS : va_S A s.heap s.heap [] := va_S.rf
  have hl := lv_entry ([.ref aM, .int x0]) (n := 4) (by simp [lg_sl, xvcat, xrscat, xcI, xcL, xcR, xcN])
  rw [show lv_args 0 [.ref aM, .int x0] = [(0, .ref aM), (1, .int x0)] from by simp [lv_args, xvcat, xrscat, xcI, xcL, xcR, xcN]] at hl
  rw [lg_entry_eq]
  generalize (lg_sl ([.ref aM, .int x0]) ++ List.replicate (4 - (lg_sl ([.ref aM, .int x0])).length) Slot.unset).toArray = ls at hl ⊢
  have hl : lv_has ls 4 [(0, .ref aM), (1, .int x0)] := hl
  have hE : ∀ p, p < xct st → vad p = vad p := fun _ _ => rfl
  have hN : xct st ≤ xct st := Nat.le_refl _
  unfold fM_fresh at hf
  refine xloopM (σ := Nat × Int32 × Int32 × Nat × (Nat → Nat) × xS × Nat × Nat) (fun n x H locs ls => (∃ (adL gdL vadL : Nat → Nat) (tq0 : Nat), x.1 = 1 ∧ fM_fresh_b n x.1 x.2.1 x.2.2.1 x.2.2.2.1 x.2.2.2.2.1 x.2.2.2.2.2.1 x.2.2.2.2.2.2.1 x.2.2.2.2.2.2.2 = some out ∧ va_P D xcl (xMw cT aM adL rd gdL vadL x.2.2.2.2.2.1 [(tq0, .inl (cT 4, x.2.2.2.1, .inr (.inr (.inr (.inr (xcf vadL x.2.2.2.2.1))))))]) H ∧ va_D A (xMw cT aM adL rd gdL vadL x.2.2.2.2.2.1 [(tq0, .inl (cT 4, x.2.2.2.1, .inr (.inr (.inr (.inr (xcf vadL x.2.2.2.2.1))))))]) ∧ va_S A s.heap H locs ∧ lv_has ls 4 [(3, .int x.2.1), (2, .ref tq0), (0, .ref aM), (1, .int x.2.2.1)] ∧ (∀ p, p < xct st → vadL p = vad p) ∧ xct st ≤ xct x.2.2.2.2.2.1)) (fun x => 24) (fun x => x.2.2.2.2.2.2.1) (fun x => x.2.2.2.2.2.2.2) (fun x H locs ls h => by (obtain ⟨_, _, _, _, h⟩ := h; exact absurd h.2.1 (by rw [fM_fresh_b]; exact fun h => nomatch h))) (fun n ih x H locs ls hv => ?_) (fun key => ?_)
  · obtain ⟨lb, y3, y1, tn0, tf0, ws9, wc, wn⟩ := x
    rcases hv with ⟨adL, gdL, vadL, tq0, hj, hf, hP, hD, hS, hl, hE, hN⟩
    subst hj
    have hf : fM_fresh_b (n + 1) 1 y3 y1 tn0 tf0 ws9 wc wn = some out := hf
    rw [fM_fresh_b] at hf
    obtain ⟨hP, hD⟩ : xPD D xcl A (xMw cT aM adL rd gdL vadL ws9 [(tq0, .inl (cT 4, tn0, .inr (.inr (.inr (.inr (xcf vadL tf0))))))]) H := ⟨hP, hD⟩
    have hl : lv_has ls 4 [(3, .int y3), (2, .ref tq0), (0, .ref aM), (1, .int y1)] := hl
    refine W.eq (g2 := F0 m 24 ls []) rfl ?_
    show W p l e _ s m _ below meth c H locs wc wn _ _
    obtain ⟨hm0, hf⟩ := xmoE hf
    refine lv_iload_n hx hb dM_fresh_24 rfl (lv_at hl 0 rfl) ?_
    refine lv_aload_n hx hb dM_fresh_25 rfl (lv_at hl 2 rfl) ?_
    refine xm_get (v := .int (xsi ws9 2)) hx hb htx hown hK hP 2 (by decide) rfl (htx _ kw_5_89) rfl dM_fresh_26 ?_
    refine lv_icmp_ge (tgt := 47) hx hb dM_fresh_29 (by decide) (fun hc => ?_) (fun hc => ?_)
    · rw [if_pos hc] at hf
      refine lv_aload_n hx hb dM_fresh_47 rfl (lv_at hl 2 rfl) ?_
      refine lv_aload_n hx hb dM_fresh_48 rfl (lv_at hl 1 rfl) ?_
      refine xm_put (v := .ref tq0) (W' := ((aM, Sum.inr (5, (xMf adL rd gdL ws9).set 1 (.ref tq0))) :: (xMa cT adL rd vadL ws9 ++ ([(tq0, .inl (cT 4, tn0, .inr (.inr (.inr (.inr (xcf vadL tf0))))))] ++ (xMg cT gdL ws9 ++ xMt vadL ws9))))) (ty := (.array (.object "ValueBenchModel$V"))) hx hb htx hown hK hP hD hS 1 (by decide) rfl (htx _ kw_5_88) rfl rfl (by decide +kernel) rfl rfl dM_fresh_49 (fun H locs hP hD hS => ?_)
      obtain ⟨hP, hD⟩ := xm_part (X := ((aM, Sum.inr (5, (xMf adL rd gdL ws9).set 1 (.ref tq0))) :: (xMa cT adL rd vadL ws9 ++ [(tq0, .inl (cT 4, tn0, .inr (.inr (.inr (.inr (xcf vadL tf0))))))]))) (cx := xMe cT aM (va_up adL 1 tq0) rd gdL vadL (xsH ws9 1 tn0 tf0) ++ []) (G := xMg cT gdL ws9 ++ xMt vadL ws9) (W2 := (xMw cT aM (va_up adL 1 tq0) rd gdL vadL (xsH ws9 1 tn0 tf0) [])) hP hD rfl [0, 22, 2, 3, 4, 5, 6, 7, 8, 9, 10, 11, 12, 13, 14, 15, 16, 17, 18, 19, 20, 21] rfl (by decide) rfl
      have hl : lv_has ls 4 [(3, .int y3), (0, .ref aM), (1, .int y1)] := lv_sub hl [0, 2, 3] rfl
      generalize (va_up adL 1 tq0) = ad1 at hP hD
      refine lv_aload_n hx hb dM_fresh_52 rfl (lv_at hl 1 rfl) ?_
      refine xm_get (v := .ref (ad1 1)) hx hb htx hown hK hP 1 (by decide) rfl (htx _ kw_5_88) rfl dM_fresh_53 ?_
      refine lv_aload_n hx hb dM_fresh_56 rfl (lv_at hl 1 rfl) ?_
      refine xm_get (v := .int (xsi ws9 2)) hx hb htx hown hK hP 2 (by decide) rfl (htx _ kw_5_89) rfl dM_fresh_57 ?_
      obtain ⟨hg3, hf⟩ := xifn hf
      refine va_aldq hx hb hK hP 1 4 rfl rfl hg3 dM_fresh_60 ?_
      refine W.eq (g2 := F0 m 61 ls [xv vadL (tf0 (xsi ws9 2).toNatClampNeg)]) rfl ?_
      refine xm_ifnonnull (tgt := 80) hx hb dM_fresh_61 (by decide) (fun hc => ?_) (fun hc => ?_)
      · rw [if_neg hc] at hf
        refine lv_aload_n hx hb dM_fresh_80 rfl (lv_at hl 1 rfl) ?_
        refine xm_get (v := .ref (ad1 1)) hx hb htx hown hK hP 1 (by decide) rfl (htx _ kw_5_88) rfl dM_fresh_81 ?_
        refine lv_aload_n hx hb dM_fresh_84 rfl (lv_at hl 1 rfl) ?_
        refine xm_get (v := .int (xsi ws9 2)) hx hb htx hown hK hP 2 (by decide) rfl (htx _ kw_5_89) rfl dM_fresh_85 ?_
        obtain ⟨hg4, hf⟩ := xifn hf
        refine va_aldq hx hb hK hP 1 4 rfl rfl hg4 dM_fresh_88 ?_
        refine W.eq (g2 := F0 m 89 ls [xv vadL (tf0 (xsi ws9 2).toNatClampNeg)]) rfl ?_
        refine xm_astore_n (lv' := [(2, xv vadL (tf0 (xsi ws9 2).toNatClampNeg)), (3, .int y3), (0, .ref aM), (1, .int y1)]) hx hb (xvor _ _) dM_fresh_89 rfl hl (by decide) rfl (fun ls hl => ?_)
        refine lv_aload_n hx hb dM_fresh_90 rfl (lv_at hl 2 rfl) ?_
        refine lv_dup hx hb dM_fresh_91 rfl ?_
        refine xm_get (v := .int (xsi ws9 2)) hx hb htx hown hK hP 2 (by decide) rfl (htx _ kw_5_89) rfl dM_fresh_92 ?_
        refine lv_iconst (v := 1) hx hb dM_fresh_95 (by decide) ?_
        refine lv_iadd hx hb dM_fresh_96 ?_
        refine xm_put (v := .int ((xsi ws9 2) + (1 : Int32))) (W' := (xMw cT aM ad1 rd gdL vadL (xsI (xsH ws9 1 tn0 tf0) 2 ((xsi ws9 2) + (1 : Int32))) [])) (ty := .int) hx hb htx hown hK hP hD hS 2 (by decide) rfl (htx _ kw_5_89) rfl rfl (by decide +kernel) rfl rfl dM_fresh_97 (fun H locs hP hD hS => ?_)
        refine xm_aload_n hx hb (xvor _ _) dM_fresh_100 rfl (lv_at hl 0 rfl) ?_
        refine lv_iload_n hx hb dM_fresh_101 rfl (lv_at hl 3 rfl) ?_
        obtain ⟨hg5, hf⟩ := xifn hf
        refine xm_vput (v := .int y1) (ty := .int) hx hb htx hown hK hP hD hS 0 (by decide) hg5 (xsP (xsI (xsH ws9 1 tn0 tf0) 2 ((xsi ws9 2) + (1 : Int32))) 0 ((tf0 (xsi ws9 2).toNatClampNeg) - 1) y1) rfl rfl rfl (xVf_P 0 (by decide)) (xVf_P2 0 (by decide)) ((hZ.1 (93, "kind", "I") (List.mem_of_getElem? (i := 0) rfl)).use rfl) rfl rfl (by decide +kernel) rfl rfl dM_fresh_102 (fun H locs hP hD hS => ?_)
        refine xm_aload_n hx hb (xvor _ _) dM_fresh_105 rfl (lv_at hl 0 rfl) ?_
        refine lv_lconst (v := 0) hx hb dM_fresh_106 (by decide) ?_
        refine xm_vput (v := .long 0) (ty := .long) hx hb htx hown hK hP hD hS 1 (by decide) hg5 (xsN (xsP (xsI (xsH ws9 1 tn0 tf0) 2 ((xsi ws9 2) + (1 : Int32))) 0 ((tf0 (xsi ws9 2).toNatClampNeg) - 1) y1) ((tf0 (xsi ws9 2).toNatClampNeg) - 1) (0 : Int64)) rfl rfl rfl xVf_N xVf_N2 ((hZ.1 (96, "n", "J") (List.mem_of_getElem? (i := 1) rfl)).use rfl) rfl rfl (by decide +kernel) rfl rfl dM_fresh_107 (fun H locs hP hD hS => ?_)
        refine xm_aload_n hx hb (xvor _ _) dM_fresh_110 rfl (lv_at hl 0 rfl) ?_
        refine lv_iconst (v := 0) hx hb dM_fresh_111 (by decide) ?_
        refine xm_vput (v := .int 0) (ty := .int) hx hb htx hown hK hP hD hS 2 (by decide) hg5 (xsP (xsN (xsP (xsI (xsH ws9 1 tn0 tf0) 2 ((xsi ws9 2) + (1 : Int32))) 0 ((tf0 (xsi ws9 2).toNatClampNeg) - 1) y1) ((tf0 (xsi ws9 2).toNatClampNeg) - 1) (0 : Int64)) 2 ((tf0 (xsi ws9 2).toNatClampNeg) - 1) (0 : Int32)) rfl rfl rfl (xVf_P 2 (by decide)) (xVf_P2 2 (by decide)) ((hZ.1 (100, "off", "I") (List.mem_of_getElem? (i := 2) rfl)).use rfl) rfl rfl (by decide +kernel) rfl rfl dM_fresh_112 (fun H locs hP hD hS => ?_)
        refine xm_aload_n hx hb (xvor _ _) dM_fresh_115 rfl (lv_at hl 0 rfl) ?_
        refine lv_iconst (v := 0) hx hb dM_fresh_116 (by decide) ?_
        refine xm_vput (v := .int 0) (ty := .int) hx hb htx hown hK hP hD hS 3 (by decide) hg5 (xsP (xsP (xsN (xsP (xsI (xsH ws9 1 tn0 tf0) 2 ((xsi ws9 2) + (1 : Int32))) 0 ((tf0 (xsi ws9 2).toNatClampNeg) - 1) y1) ((tf0 (xsi ws9 2).toNatClampNeg) - 1) (0 : Int64)) 2 ((tf0 (xsi ws9 2).toNatClampNeg) - 1) (0 : Int32)) 3 ((tf0 (xsi ws9 2).toNatClampNeg) - 1) (0 : Int32)) rfl rfl rfl (xVf_P 3 (by decide)) (xVf_P2 3 (by decide)) ((hZ.1 (103, "count", "I") (List.mem_of_getElem? (i := 3) rfl)).use rfl) rfl rfl (by decide +kernel) rfl rfl dM_fresh_117 (fun H locs hP hD hS => ?_)
        refine xm_aload_n hx hb (xvor _ _) dM_fresh_120 rfl (lv_at hl 0 rfl) ?_
        refine lv_iconst (v := 0) hx hb dM_fresh_121 (by decide) ?_
        refine xm_vput (v := .int 0) (ty := .int) hx hb htx hown hK hP hD hS 4 (by decide) hg5 (xsP (xsP (xsP (xsN (xsP (xsI (xsH ws9 1 tn0 tf0) 2 ((xsi ws9 2) + (1 : Int32))) 0 ((tf0 (xsi ws9 2).toNatClampNeg) - 1) y1) ((tf0 (xsi ws9 2).toNatClampNeg) - 1) (0 : Int64)) 2 ((tf0 (xsi ws9 2).toNatClampNeg) - 1) (0 : Int32)) 3 ((tf0 (xsi ws9 2).toNatClampNeg) - 1) (0 : Int32)) 4 ((tf0 (xsi ws9 2).toNatClampNeg) - 1) (0 : Int32)) rfl rfl rfl (xVf_P 4 (by decide)) (xVf_P2 4 (by decide)) ((hZ.1 (106, "depth", "I") (List.mem_of_getElem? (i := 4) rfl)).use rfl) rfl rfl (by decide +kernel) rfl rfl dM_fresh_122 (fun H locs hP hD hS => ?_)
        refine xm_aload_n hx hb (xvor _ _) dM_fresh_125 rfl (lv_at hl 0 rfl) ?_
        refine lv_iconst (v := 1) hx hb dM_fresh_126 (by decide) ?_
        refine xm_vput (v := .int 1) (ty := .int) hx hb htx hown hK hP hD hS 5 (by decide) hg5 (xsP (xsP (xsP (xsP (xsN (xsP (xsI (xsH ws9 1 tn0 tf0) 2 ((xsi ws9 2) + (1 : Int32))) 0 ((tf0 (xsi ws9 2).toNatClampNeg) - 1) y1) ((tf0 (xsi ws9 2).toNatClampNeg) - 1) (0 : Int64)) 2 ((tf0 (xsi ws9 2).toNatClampNeg) - 1) (0 : Int32)) 3 ((tf0 (xsi ws9 2).toNatClampNeg) - 1) (0 : Int32)) 4 ((tf0 (xsi ws9 2).toNatClampNeg) - 1) (0 : Int32)) 5 ((tf0 (xsi ws9 2).toNatClampNeg) - 1) (1 : Int32)) rfl rfl rfl (xVf_P 5 (by decide)) (xVf_P2 5 (by decide)) ((hZ.1 (109, "weight", "I") (List.mem_of_getElem? (i := 5) rfl)).use rfl) rfl rfl (by decide +kernel) rfl rfl dM_fresh_127 (fun H locs hP hD hS => ?_)
        refine xm_aload_n hx hb (xvor _ _) dM_fresh_130 rfl (lv_at hl 0 rfl) ?_
        obtain rfl := Option.some.inj hf
        exact W.aret (v := xv vadL (tf0 (xsi ws9 2).toNatClampNeg)) hx hb hr (Or.inl ⟨_, rfl⟩) (xvor _ _) (fun t ht hW => ⟨⟨xca vadL (tf0 (xsi ws9 2).toNatClampNeg), (ad1, gdL, vadL), rfl, ⟨rfl, hE, hN⟩, by rw [ht]; exact hP, va_K.moved hW.alike hK, hD⟩, hS.F ht⟩) hS.2.2 dM_fresh_131
      · rw [if_pos hc] at hf
        refine lv_aload_n hx hb dM_fresh_64 rfl (lv_at hl 1 rfl) ?_
        refine xm_get (v := .ref (ad1 1)) hx hb htx hown hK hP 1 (by decide) rfl (htx _ kw_5_88) rfl dM_fresh_65 ?_
        refine lv_aload_n hx hb dM_fresh_68 rfl (lv_at hl 1 rfl) ?_
        refine xm_get (v := .int (xsi ws9 2)) hx hb htx hown hK hP 2 (by decide) rfl (htx _ kw_5_89) rfl dM_fresh_69 ?_
        obtain ⟨hI4, hf⟩ := xdef _ hf
        obtain ⟨hm5, hf⟩ := xmoE hf
        refine xm_newV hx hb htx hown (htx _ kw_5_80) (htx _ kw_6_17) (htx _ kw_1_19) hK hP hD hS hA hI4 hm5.1 hm5.2 dM_fresh_72 (fun qz6 H hP hD hS hv8 => ?_)
        generalize va_up vadL (xct (xsH ws9 1 tn0 tf0)) qz6 = vad7 at hP hD hv8 ⊢
        have hE9 : ∀ p, p < xct st → vad7 p = vad p := fun p h => (hv8 p (Nat.lt_of_lt_of_le h hN)).trans (hE p h)
        have hE := hE9
        have hN : xct st ≤ xct (xsA (xsH ws9 1 tn0 tf0)) := Nat.le_succ_of_le hN
        refine W.eq (g2 := F0 m 75 ls [xv vad7 ((xct ws9) + 1), .int (xsi ws9 2), .ref (ad1 1)]) (by first | rfl | (skip; rfl)) ?_
        refine lv_dup hx hb dM_fresh_75 (xvcat _ _) ?_
        refine W.eq (g2 := F0 m 76 ls (.ref (vad7 (((xct ws9) + 1) - 1)) :: [xv vad7 ((xct ws9) + 1), .int (xsi ws9 2), .ref (ad1 1)])) (by rw [← xv1 (Nat.succ_ne_zero _)]) ?_
        refine va_callv (va_runIN (As := []) (rest := [xv vad7 ((xct ws9) + 1), .int (xsi ws9 2), .ref (ad1 1)]) ⟨hx, hb, hml, hown, htx⟩ (cV_init_0 l hl9 D cT aK aV H.size (vad7 (((xct ws9) + 1) - 1))) ⟨va_cnB (host := "ValueBenchModel") 0 htx (xw_goodC kw_6_20) rfl rfl rfl (hZ.2.1 ("ValueBenchModel", 92, yV_init) (List.mem_of_getElem? (i := 3) rfl)) (htx _ kw_1_19) ⟨by decide, by decide, by decide +kernel⟩ ⟨Nat.le_of_ble_eq_true rfl, Nat.le_of_ble_eq_true rfl⟩, rfl, (htx _ kw_6_19)⟩ ⟨xPre_blind, (fun U hU hW => ⟨rfl, xPre_of hZ hS (xm_free0 hS hA) xm_Pnil xm_Dnil hK U hU hW⟩)⟩ rfl rfl hl.1 rfl (lv_room (Nat.le_of_ble_eq_true rfl)) dM_fresh_76 ⟨(hm5.1), (hm5.2)⟩) hS (fun q _ h => xm_free0 hS hA q h) (xm_free0 hS hA) (fun u9 t H1 locs ht hvm hr9 hB hz1 hk1 hS => ?_)
        replace hP := xm_keep hP hk1
        generalize H1 = H at hP hS ⊢
        refine W.eq (g2 := F0 m 79 ls [xv vad7 ((xct ws9) + 1), .int (xsi ws9 2), .ref (ad1 1)]) (by first | rfl | rw [xv1 (Nat.succ_ne_zero _)]) ?_
        obtain ⟨hg9, hf⟩ := xifn hf
        obtain ⟨hg10, hf⟩ := xifn hf
        refine xm_ast (x := ((xct ws9) + 1)) (W' := (xMw cT aM ad1 rd gdL vad7 (xsC (xsA (xsH ws9 1 tn0 tf0)) 1 ((xsi ws9 2).toNatClampNeg) ((xct ws9) + 1)) [])) hx hb hK hP hD hS 1 rfl hg9 hg10 dM_fresh_79 rfl (fun H locs hP hD hS => ?_)
        refine lv_aload_n hx hb dM_fresh_80 rfl (lv_at hl 1 rfl) ?_
        refine xm_get (v := .ref (ad1 1)) hx hb htx hown hK hP 1 (by decide) rfl (htx _ kw_5_88) rfl dM_fresh_81 ?_
        refine lv_aload_n hx hb dM_fresh_84 rfl (lv_at hl 1 rfl) ?_
        refine xm_get (v := .int (xsi ws9 2)) hx hb htx hown hK hP 2 (by decide) rfl (htx _ kw_5_89) rfl dM_fresh_85 ?_
        obtain ⟨hg11, hf⟩ := xifn hf
        refine va_aldq hx hb hK hP 1 4 rfl rfl hg11 dM_fresh_88 ?_
        refine W.eq (g2 := F0 m 89 ls [xv vad7 ((va_up tf0 ((xsi ws9 2).toNatClampNeg) ((xct ws9) + 1)) (xsi ws9 2).toNatClampNeg)]) rfl ?_
        refine xm_astore_n (lv' := [(2, xv vad7 ((va_up tf0 ((xsi ws9 2).toNatClampNeg) ((xct ws9) + 1)) (xsi ws9 2).toNatClampNeg)), (3, .int y3), (0, .ref aM), (1, .int y1)]) hx hb (xvor _ _) dM_fresh_89 rfl hl (by decide) rfl (fun ls hl => ?_)
        refine lv_aload_n hx hb dM_fresh_90 rfl (lv_at hl 2 rfl) ?_
        refine lv_dup hx hb dM_fresh_91 rfl ?_
        refine xm_get (v := .int (xsi ws9 2)) hx hb htx hown hK hP 2 (by decide) rfl (htx _ kw_5_89) rfl dM_fresh_92 ?_
        refine lv_iconst (v := 1) hx hb dM_fresh_95 (by decide) ?_
        refine lv_iadd hx hb dM_fresh_96 ?_
        refine xm_put (v := .int ((xsi ws9 2) + (1 : Int32))) (W' := (xMw cT aM ad1 rd gdL vad7 (xsI (xsC (xsA (xsH ws9 1 tn0 tf0)) 1 ((xsi ws9 2).toNatClampNeg) ((xct ws9) + 1)) 2 ((xsi ws9 2) + (1 : Int32))) [])) (ty := .int) hx hb htx hown hK hP hD hS 2 (by decide) rfl (htx _ kw_5_89) rfl rfl (by decide +kernel) rfl rfl dM_fresh_97 (fun H locs hP hD hS => ?_)
        refine xm_aload_n hx hb (xvor _ _) dM_fresh_100 rfl (lv_at hl 0 rfl) ?_
        refine lv_iload_n hx hb dM_fresh_101 rfl (lv_at hl 3 rfl) ?_
        obtain ⟨hg12, hf⟩ := xifn hf
        refine xm_vput (v := .int y1) (ty := .int) hx hb htx hown hK hP hD hS 0 (by decide) hg12 (xsP (xsI (xsC (xsA (xsH ws9 1 tn0 tf0)) 1 ((xsi ws9 2).toNatClampNeg) ((xct ws9) + 1)) 2 ((xsi ws9 2) + (1 : Int32))) 0 (((va_up tf0 ((xsi ws9 2).toNatClampNeg) ((xct ws9) + 1)) (xsi ws9 2).toNatClampNeg) - 1) y1) rfl rfl rfl (xVf_P 0 (by decide)) (xVf_P2 0 (by decide)) ((hZ.1 (93, "kind", "I") (List.mem_of_getElem? (i := 0) rfl)).use rfl) rfl rfl (by decide +kernel) rfl rfl dM_fresh_102 (fun H locs hP hD hS => ?_)
        refine xm_aload_n hx hb (xvor _ _) dM_fresh_105 rfl (lv_at hl 0 rfl) ?_
        refine lv_lconst (v := 0) hx hb dM_fresh_106 (by decide) ?_
        refine xm_vput (v := .long 0) (ty := .long) hx hb htx hown hK hP hD hS 1 (by decide) hg12 (xsN (xsP (xsI (xsC (xsA (xsH ws9 1 tn0 tf0)) 1 ((xsi ws9 2).toNatClampNeg) ((xct ws9) + 1)) 2 ((xsi ws9 2) + (1 : Int32))) 0 (((va_up tf0 ((xsi ws9 2).toNatClampNeg) ((xct ws9) + 1)) (xsi ws9 2).toNatClampNeg) - 1) y1) (((va_up tf0 ((xsi ws9 2).toNatClampNeg) ((xct ws9) + 1)) (xsi ws9 2).toNatClampNeg) - 1) (0 : Int64)) rfl rfl rfl xVf_N xVf_N2 ((hZ.1 (96, "n", "J") (List.mem_of_getElem? (i := 1) rfl)).use rfl) rfl rfl (by decide +kernel) rfl rfl dM_fresh_107 (fun H locs hP hD hS => ?_)
        refine xm_aload_n hx hb (xvor _ _) dM_fresh_110 rfl (lv_at hl 0 rfl) ?_
        refine lv_iconst (v := 0) hx hb dM_fresh_111 (by decide) ?_
        refine xm_vput (v := .int 0) (ty := .int) hx hb htx hown hK hP hD hS 2 (by decide) hg12 (xsP (xsN (xsP (xsI (xsC (xsA (xsH ws9 1 tn0 tf0)) 1 ((xsi ws9 2).toNatClampNeg) ((xct ws9) + 1)) 2 ((xsi ws9 2) + (1 : Int32))) 0 (((va_up tf0 ((xsi ws9 2).toNatClampNeg) ((xct ws9) + 1)) (xsi ws9 2).toNatClampNeg) - 1) y1) (((va_up tf0 ((xsi ws9 2).toNatClampNeg) ((xct ws9) + 1)) (xsi ws9 2).toNatClampNeg) - 1) (0 : Int64)) 2 (((va_up tf0 ((xsi ws9 2).toNatClampNeg) ((xct ws9) + 1)) (xsi ws9 2).toNatClampNeg) - 1) (0 : Int32)) rfl rfl rfl (xVf_P 2 (by decide)) (xVf_P2 2 (by decide)) ((hZ.1 (100, "off", "I") (List.mem_of_getElem? (i := 2) rfl)).use rfl) rfl rfl (by decide +kernel) rfl rfl dM_fresh_112 (fun H locs hP hD hS => ?_)
        refine xm_aload_n hx hb (xvor _ _) dM_fresh_115 rfl (lv_at hl 0 rfl) ?_
        refine lv_iconst (v := 0) hx hb dM_fresh_116 (by decide) ?_
        refine xm_vput (v := .int 0) (ty := .int) hx hb htx hown hK hP hD hS 3 (by decide) hg12 (xsP (xsP (xsN (xsP (xsI (xsC (xsA (xsH ws9 1 tn0 tf0)) 1 ((xsi ws9 2).toNatClampNeg) ((xct ws9) + 1)) 2 ((xsi ws9 2) + (1 : Int32))) 0 (((va_up tf0 ((xsi ws9 2).toNatClampNeg) ((xct ws9) + 1)) (xsi ws9 2).toNatClampNeg) - 1) y1) (((va_up tf0 ((xsi ws9 2).toNatClampNeg) ((xct ws9) + 1)) (xsi ws9 2).toNatClampNeg) - 1) (0 : Int64)) 2 (((va_up tf0 ((xsi ws9 2).toNatClampNeg) ((xct ws9) + 1)) (xsi ws9 2).toNatClampNeg) - 1) (0 : Int32)) 3 (((va_up tf0 ((xsi ws9 2).toNatClampNeg) ((xct ws9) + 1)) (xsi ws9 2).toNatClampNeg) - 1) (0 : Int32)) rfl rfl rfl (xVf_P 3 (by decide)) (xVf_P2 3 (by decide)) ((hZ.1 (103, "count", "I") (List.mem_of_getElem? (i := 3) rfl)).use rfl) rfl rfl (by decide +kernel) rfl rfl dM_fresh_117 (fun H locs hP hD hS => ?_)
        refine xm_aload_n hx hb (xvor _ _) dM_fresh_120 rfl (lv_at hl 0 rfl) ?_
        refine lv_iconst (v := 0) hx hb dM_fresh_121 (by decide) ?_
        refine xm_vput (v := .int 0) (ty := .int) hx hb htx hown hK hP hD hS 4 (by decide) hg12 (xsP (xsP (xsP (xsN (xsP (xsI (xsC (xsA (xsH ws9 1 tn0 tf0)) 1 ((xsi ws9 2).toNatClampNeg) ((xct ws9) + 1)) 2 ((xsi ws9 2) + (1 : Int32))) 0 (((va_up tf0 ((xsi ws9 2).toNatClampNeg) ((xct ws9) + 1)) (xsi ws9 2).toNatClampNeg) - 1) y1) (((va_up tf0 ((xsi ws9 2).toNatClampNeg) ((xct ws9) + 1)) (xsi ws9 2).toNatClampNeg) - 1) (0 : Int64)) 2 (((va_up tf0 ((xsi ws9 2).toNatClampNeg) ((xct ws9) + 1)) (xsi ws9 2).toNatClampNeg) - 1) (0 : Int32)) 3 (((va_up tf0 ((xsi ws9 2).toNatClampNeg) ((xct ws9) + 1)) (xsi ws9 2).toNatClampNeg) - 1) (0 : Int32)) 4 (((va_up tf0 ((xsi ws9 2).toNatClampNeg) ((xct ws9) + 1)) (xsi ws9 2).toNatClampNeg) - 1) (0 : Int32)) rfl rfl rfl (xVf_P 4 (by decide)) (xVf_P2 4 (by decide)) ((hZ.1 (106, "depth", "I") (List.mem_of_getElem? (i := 4) rfl)).use rfl) rfl rfl (by decide +kernel) rfl rfl dM_fresh_122 (fun H locs hP hD hS => ?_)
        refine xm_aload_n hx hb (xvor _ _) dM_fresh_125 rfl (lv_at hl 0 rfl) ?_
        refine lv_iconst (v := 1) hx hb dM_fresh_126 (by decide) ?_
        refine xm_vput (v := .int 1) (ty := .int) hx hb htx hown hK hP hD hS 5 (by decide) hg12 (xsP (xsP (xsP (xsP (xsN (xsP (xsI (xsC (xsA (xsH ws9 1 tn0 tf0)) 1 ((xsi ws9 2).toNatClampNeg) ((xct ws9) + 1)) 2 ((xsi ws9 2) + (1 : Int32))) 0 (((va_up tf0 ((xsi ws9 2).toNatClampNeg) ((xct ws9) + 1)) (xsi ws9 2).toNatClampNeg) - 1) y1) (((va_up tf0 ((xsi ws9 2).toNatClampNeg) ((xct ws9) + 1)) (xsi ws9 2).toNatClampNeg) - 1) (0 : Int64)) 2 (((va_up tf0 ((xsi ws9 2).toNatClampNeg) ((xct ws9) + 1)) (xsi ws9 2).toNatClampNeg) - 1) (0 : Int32)) 3 (((va_up tf0 ((xsi ws9 2).toNatClampNeg) ((xct ws9) + 1)) (xsi ws9 2).toNatClampNeg) - 1) (0 : Int32)) 4 (((va_up tf0 ((xsi ws9 2).toNatClampNeg) ((xct ws9) + 1)) (xsi ws9 2).toNatClampNeg) - 1) (0 : Int32)) 5 (((va_up tf0 ((xsi ws9 2).toNatClampNeg) ((xct ws9) + 1)) (xsi ws9 2).toNatClampNeg) - 1) (1 : Int32)) rfl rfl rfl (xVf_P 5 (by decide)) (xVf_P2 5 (by decide)) ((hZ.1 (109, "weight", "I") (List.mem_of_getElem? (i := 5) rfl)).use rfl) rfl rfl (by decide +kernel) rfl rfl dM_fresh_127 (fun H locs hP hD hS => ?_)
        refine xm_aload_n hx hb (xvor _ _) dM_fresh_130 rfl (lv_at hl 0 rfl) ?_
        obtain rfl := Option.some.inj hf
        exact W.aret (v := xv vad7 ((va_up tf0 ((xsi ws9 2).toNatClampNeg) ((xct ws9) + 1)) (xsi ws9 2).toNatClampNeg)) hx hb hr (Or.inl ⟨_, rfl⟩) (xvor _ _) (fun t ht hW => ⟨⟨xca vad7 ((va_up tf0 ((xsi ws9 2).toNatClampNeg) ((xct ws9) + 1)) (xsi ws9 2).toNatClampNeg), (ad1, gdL, vad7), rfl, ⟨rfl, hE, hN⟩, by rw [ht]; exact hP, va_K.moved hW.alike hK, hD⟩, hS.F ht⟩) hS.2.2 dM_fresh_131
    · rw [if_neg hc] at hf
      refine lv_aload_n hx hb dM_fresh_32 rfl (lv_at hl 1 rfl) ?_
      refine lv_iload_n hx hb dM_fresh_33 rfl (lv_at hl 0 rfl) ?_
      refine lv_aload_n hx hb dM_fresh_34 rfl (lv_at hl 2 rfl) ?_
      refine xm_get (v := .ref (adL 1)) hx hb htx hown hK hP 1 (by decide) rfl (htx _ kw_5_88) rfl dM_fresh_35 ?_
      refine lv_iload_n hx hb dM_fresh_38 rfl (lv_at hl 0 rfl) ?_
      obtain ⟨hg1, hf⟩ := xifn hf
      refine va_aldq hx hb hK hP 1 4 rfl rfl hg1 dM_fresh_39 ?_
      refine W.eq (g2 := F0 m 40 ls [xv vadL ((xvc ws9 1) y3.toNatClampNeg), .int y3, .ref tq0]) rfl ?_
      obtain ⟨hg2, hf⟩ := xifn hf
      obtain ⟨hg3, hf⟩ := xifn hf
      refine xm_ast (x := ((xvc ws9 1) y3.toNatClampNeg)) (W' := (xMw cT aM adL rd gdL vadL ws9 [(tq0, .inl (cT 4, tn0, .inr (.inr (.inr (.inr (xcf vadL (va_up tf0 y3.toNatClampNeg ((xvc ws9 1) y3.toNatClampNeg))))))))])) hx hb hK hP hD hS 22 rfl hg2 hg3 dM_fresh_40 rfl (fun H locs hP hD hS => ?_)
      refine lv_iinc (v := (y3 + 1)) (lv' := [(3, .int (y3 + 1)), (2, .ref tq0), (0, .ref aM), (1, .int y1)]) hx hb dM_fresh_41 hl (k := 0) rfl rfl (by decide) rfl (fun ls hl => ?_)
      refine lv_goto (tgt := 24) hx hb dM_fresh_44 (by decide) ?_
      exact ih (1, (y3 + 1), y1, tn0, (va_up tf0 y3.toNatClampNeg ((xvc ws9 1) y3.toNatClampNeg)), ws9, wc, wn) _ _ ls (⟨adL, gdL, vadL, tq0, rfl, hf, hP, hD, hS, lv_sub hl [0, 1, 2, 3] rfl, hE, hN⟩)
  refine lv_aload_n hx hb dM_fresh_0 rfl (lv_at hl 0 rfl) ?_
  refine xm_get (v := .int (xsi st 2)) hx hb htx hown hK hP 2 (by decide) rfl (htx _ kw_5_89) rfl dM_fresh_1 ?_
  refine lv_aload_n hx hb dM_fresh_4 rfl (lv_at hl 0 rfl) ?_
  refine xm_get (v := .ref (ad 1)) hx hb htx hown hK hP 1 (by decide) rfl (htx _ kw_5_88) rfl dM_fresh_5 ?_
  refine va_alen (v := Int32.ofNat (xln st 1)) hx hb hK hP 1 4 rfl rfl rfl dM_fresh_8 ?_
  refine lv_icmp_ne (tgt := 52) hx hb dM_fresh_9 (by decide) (fun hc => ?_) (fun hc => ?_)
  · rw [if_neg hc] at hf
    refine lv_aload_n hx hb dM_fresh_52 rfl (lv_at hl 0 rfl) ?_
    refine xm_get (v := .ref (ad 1)) hx hb htx hown hK hP 1 (by decide) rfl (htx _ kw_5_88) rfl dM_fresh_53 ?_
    refine lv_aload_n hx hb dM_fresh_56 rfl (lv_at hl 0 rfl) ?_
    refine xm_get (v := .int (xsi st 2)) hx hb htx hown hK hP 2 (by decide) rfl (htx _ kw_5_89) rfl dM_fresh_57 ?_
    obtain ⟨hg1, hf⟩ := xifn hf
    refine va_aldq hx hb hK hP 1 4 rfl rfl hg1 dM_fresh_60 ?_
    refine W.eq (g2 := F0 m 61 ls [xv vad ((xvc st 1) (xsi st 2).toNatClampNeg)]) rfl ?_
    refine xm_ifnonnull (tgt := 80) hx hb dM_fresh_61 (by decide) (fun hc => ?_) (fun hc => ?_)
    · rw [if_neg hc] at hf
      refine lv_aload_n hx hb dM_fresh_80 rfl (lv_at hl 0 rfl) ?_
      refine xm_get (v := .ref (ad 1)) hx hb htx hown hK hP 1 (by decide) rfl (htx _ kw_5_88) rfl dM_fresh_81 ?_
      refine lv_aload_n hx hb dM_fresh_84 rfl (lv_at hl 0 rfl) ?_
      refine xm_get (v := .int (xsi st 2)) hx hb htx hown hK hP 2 (by decide) rfl (htx _ kw_5_89) rfl dM_fresh_85 ?_
      obtain ⟨hg2, hf⟩ := xifn hf
      refine va_aldq hx hb hK hP 1 4 rfl rfl hg2 dM_fresh_88 ?_
      refine W.eq (g2 := F0 m 89 ls [xv vad ((xvc st 1) (xsi st 2).toNatClampNeg)]) rfl ?_
      refine xm_astore_n (lv' := [(2, xv vad ((xvc st 1) (xsi st 2).toNatClampNeg)), (0, .ref aM), (1, .int x0)]) hx hb (xvor _ _) dM_fresh_89 rfl hl (by decide) rfl (fun ls hl => ?_)
      refine lv_aload_n hx hb dM_fresh_90 rfl (lv_at hl 1 rfl) ?_
      refine lv_dup hx hb dM_fresh_91 rfl ?_
      refine xm_get (v := .int (xsi st 2)) hx hb htx hown hK hP 2 (by decide) rfl (htx _ kw_5_89) rfl dM_fresh_92 ?_
      refine lv_iconst (v := 1) hx hb dM_fresh_95 (by decide) ?_
      refine lv_iadd hx hb dM_fresh_96 ?_
      refine xm_put (v := .int ((xsi st 2) + (1 : Int32))) (W' := (xMw cT aM ad rd gd vad (xsI st 2 ((xsi st 2) + (1 : Int32))) [])) (ty := .int) hx hb htx hown hK hP hD hS 2 (by decide) rfl (htx _ kw_5_89) rfl rfl (by decide +kernel) rfl rfl dM_fresh_97 (fun H locs hP hD hS => ?_)
      refine xm_aload_n hx hb (xvor _ _) dM_fresh_100 rfl (lv_at hl 0 rfl) ?_
      refine lv_iload_n hx hb dM_fresh_101 rfl (lv_at hl 2 rfl) ?_
      obtain ⟨hg3, hf⟩ := xifn hf
      refine xm_vput (v := .int x0) (ty := .int) hx hb htx hown hK hP hD hS 0 (by decide) hg3 (xsP (xsI st 2 ((xsi st 2) + (1 : Int32))) 0 (((xvc st 1) (xsi st 2).toNatClampNeg) - 1) x0) rfl rfl rfl (xVf_P 0 (by decide)) (xVf_P2 0 (by decide)) ((hZ.1 (93, "kind", "I") (List.mem_of_getElem? (i := 0) rfl)).use rfl) rfl rfl (by decide +kernel) rfl rfl dM_fresh_102 (fun H locs hP hD hS => ?_)
      refine xm_aload_n hx hb (xvor _ _) dM_fresh_105 rfl (lv_at hl 0 rfl) ?_
      refine lv_lconst (v := 0) hx hb dM_fresh_106 (by decide) ?_
      refine xm_vput (v := .long 0) (ty := .long) hx hb htx hown hK hP hD hS 1 (by decide) hg3 (xsN (xsP (xsI st 2 ((xsi st 2) + (1 : Int32))) 0 (((xvc st 1) (xsi st 2).toNatClampNeg) - 1) x0) (((xvc st 1) (xsi st 2).toNatClampNeg) - 1) (0 : Int64)) rfl rfl rfl xVf_N xVf_N2 ((hZ.1 (96, "n", "J") (List.mem_of_getElem? (i := 1) rfl)).use rfl) rfl rfl (by decide +kernel) rfl rfl dM_fresh_107 (fun H locs hP hD hS => ?_)
      refine xm_aload_n hx hb (xvor _ _) dM_fresh_110 rfl (lv_at hl 0 rfl) ?_
      refine lv_iconst (v := 0) hx hb dM_fresh_111 (by decide) ?_
      refine xm_vput (v := .int 0) (ty := .int) hx hb htx hown hK hP hD hS 2 (by decide) hg3 (xsP (xsN (xsP (xsI st 2 ((xsi st 2) + (1 : Int32))) 0 (((xvc st 1) (xsi st 2).toNatClampNeg) - 1) x0) (((xvc st 1) (xsi st 2).toNatClampNeg) - 1) (0 : Int64)) 2 (((xvc st 1) (xsi st 2).toNatClampNeg) - 1) (0 : Int32)) rfl rfl rfl (xVf_P 2 (by decide)) (xVf_P2 2 (by decide)) ((hZ.1 (100, "off", "I") (List.mem_of_getElem? (i := 2) rfl)).use rfl) rfl rfl (by decide +kernel) rfl rfl dM_fresh_112 (fun H locs hP hD hS => ?_)
      refine xm_aload_n hx hb (xvor _ _) dM_fresh_115 rfl (lv_at hl 0 rfl) ?_
      refine lv_iconst (v := 0) hx hb dM_fresh_116 (by decide) ?_
      refine xm_vput (v := .int 0) (ty := .int) hx hb htx hown hK hP hD hS 3 (by decide) hg3 (xsP (xsP (xsN (xsP (xsI st 2 ((xsi st 2) + (1 : Int32))) 0 (((xvc st 1) (xsi st 2).toNatClampNeg) - 1) x0) (((xvc st 1) (xsi st 2).toNatClampNeg) - 1) (0 : Int64)) 2 (((xvc st 1) (xsi st 2).toNatClampNeg) - 1) (0 : Int32)) 3 (((xvc st 1) (xsi st 2).toNatClampNeg) - 1) (0 : Int32)) rfl rfl rfl (xVf_P 3 (by decide)) (xVf_P2 3 (by decide)) ((hZ.1 (103, "count", "I") (List.mem_of_getElem? (i := 3) rfl)).use rfl) rfl rfl (by decide +kernel) rfl rfl dM_fresh_117 (fun H locs hP hD hS => ?_)
      refine xm_aload_n hx hb (xvor _ _) dM_fresh_120 rfl (lv_at hl 0 rfl) ?_
      refine lv_iconst (v := 0) hx hb dM_fresh_121 (by decide) ?_
      refine xm_vput (v := .int 0) (ty := .int) hx hb htx hown hK hP hD hS 4 (by decide) hg3 (xsP (xsP (xsP (xsN (xsP (xsI st 2 ((xsi st 2) + (1 : Int32))) 0 (((xvc st 1) (xsi st 2).toNatClampNeg) - 1) x0) (((xvc st 1) (xsi st 2).toNatClampNeg) - 1) (0 : Int64)) 2 (((xvc st 1) (xsi st 2).toNatClampNeg) - 1) (0 : Int32)) 3 (((xvc st 1) (xsi st 2).toNatClampNeg) - 1) (0 : Int32)) 4 (((xvc st 1) (xsi st 2).toNatClampNeg) - 1) (0 : Int32)) rfl rfl rfl (xVf_P 4 (by decide)) (xVf_P2 4 (by decide)) ((hZ.1 (106, "depth", "I") (List.mem_of_getElem? (i := 4) rfl)).use rfl) rfl rfl (by decide +kernel) rfl rfl dM_fresh_122 (fun H locs hP hD hS => ?_)
      refine xm_aload_n hx hb (xvor _ _) dM_fresh_125 rfl (lv_at hl 0 rfl) ?_
      refine lv_iconst (v := 1) hx hb dM_fresh_126 (by decide) ?_
      refine xm_vput (v := .int 1) (ty := .int) hx hb htx hown hK hP hD hS 5 (by decide) hg3 (xsP (xsP (xsP (xsP (xsN (xsP (xsI st 2 ((xsi st 2) + (1 : Int32))) 0 (((xvc st 1) (xsi st 2).toNatClampNeg) - 1) x0) (((xvc st 1) (xsi st 2).toNatClampNeg) - 1) (0 : Int64)) 2 (((xvc st 1) (xsi st 2).toNatClampNeg) - 1) (0 : Int32)) 3 (((xvc st 1) (xsi st 2).toNatClampNeg) - 1) (0 : Int32)) 4 (((xvc st 1) (xsi st 2).toNatClampNeg) - 1) (0 : Int32)) 5 (((xvc st 1) (xsi st 2).toNatClampNeg) - 1) (1 : Int32)) rfl rfl rfl (xVf_P 5 (by decide)) (xVf_P2 5 (by decide)) ((hZ.1 (109, "weight", "I") (List.mem_of_getElem? (i := 5) rfl)).use rfl) rfl rfl (by decide +kernel) rfl rfl dM_fresh_127 (fun H locs hP hD hS => ?_)
      refine xm_aload_n hx hb (xvor _ _) dM_fresh_130 rfl (lv_at hl 0 rfl) ?_
      obtain rfl := Option.some.inj hf
      exact W.aret (v := xv vad ((xvc st 1) (xsi st 2).toNatClampNeg)) hx hb hr (Or.inl ⟨_, rfl⟩) (xvor _ _) (fun t ht hW => ⟨⟨xca vad ((xvc st 1) (xsi st 2).toNatClampNeg), (ad, gd, vad), rfl, ⟨rfl, hE, hN⟩, by rw [ht]; exact hP, va_K.moved hW.alike hK, hD⟩, hS.F ht⟩) hS.2.2 dM_fresh_131
    · rw [if_pos hc] at hf
      refine lv_aload_n hx hb dM_fresh_64 rfl (lv_at hl 0 rfl) ?_
      refine xm_get (v := .ref (ad 1)) hx hb htx hown hK hP 1 (by decide) rfl (htx _ kw_5_88) rfl dM_fresh_65 ?_
      refine lv_aload_n hx hb dM_fresh_68 rfl (lv_at hl 0 rfl) ?_
      refine xm_get (v := .int (xsi st 2)) hx hb htx hown hK hP 2 (by decide) rfl (htx _ kw_5_89) rfl dM_fresh_69 ?_
      obtain ⟨hI2, hf⟩ := xdef _ hf
      obtain ⟨hm3, hf⟩ := xmoE hf
      refine xm_newV hx hb htx hown (htx _ kw_5_80) (htx _ kw_6_17) (htx _ kw_1_19) hK hP hD hS hA hI2 hm3.1 hm3.2 dM_fresh_72 (fun qz4 H hP hD hS hv6 => ?_)
      generalize va_up vad (xct st) qz4 = vad5 at hP hD hv6 ⊢
      have hE9 : ∀ p, p < xct st → vad5 p = vad p := fun p h => (hv6 p (Nat.lt_of_lt_of_le h hN)).trans (hE p h)
      have hE := hE9
      have hN : xct st ≤ xct (xsA st) := Nat.le_succ_of_le hN
      refine W.eq (g2 := F0 m 75 ls [xv vad5 ((xct st) + 1), .int (xsi st 2), .ref (ad 1)]) (by first | rfl | (skip; rfl)) ?_
      refine lv_dup hx hb dM_fresh_75 (xvcat _ _) ?_
      refine W.eq (g2 := F0 m 76 ls (.ref (vad5 (((xct st) + 1) - 1)) :: [xv vad5 ((xct st) + 1), .int (xsi st 2), .ref (ad 1)])) (by rw [← xv1 (Nat.succ_ne_zero _)]) ?_
      refine va_callv (va_runIN (As := []) (rest := [xv vad5 ((xct st) + 1), .int (xsi st 2), .ref (ad 1)]) ⟨hx, hb, hml, hown, htx⟩ (cV_init_0 l hl9 D cT aK aV H.size (vad5 (((xct st) + 1) - 1))) ⟨va_cnB (host := "ValueBenchModel") 0 htx (xw_goodC kw_6_20) rfl rfl rfl (hZ.2.1 ("ValueBenchModel", 92, yV_init) (List.mem_of_getElem? (i := 3) rfl)) (htx _ kw_1_19) ⟨by decide, by decide, by decide +kernel⟩ ⟨Nat.le_of_ble_eq_true rfl, Nat.le_of_ble_eq_true rfl⟩, rfl, (htx _ kw_6_19)⟩ ⟨xPre_blind, (fun U hU hW => ⟨rfl, xPre_of hZ hS (xm_free0 hS hA) xm_Pnil xm_Dnil hK U hU hW⟩)⟩ rfl rfl hl.1 rfl (lv_room (Nat.le_of_ble_eq_true rfl)) dM_fresh_76 ⟨(hm3.1), (hm3.2)⟩) hS (fun q _ h => xm_free0 hS hA q h) (xm_free0 hS hA) (fun u9 t H1 locs ht hvm hr9 hB hz1 hk1 hS => ?_)
      replace hP := xm_keep hP hk1
      generalize H1 = H at hP hS ⊢
      refine W.eq (g2 := F0 m 79 ls [xv vad5 ((xct st) + 1), .int (xsi st 2), .ref (ad 1)]) (by first | rfl | rw [xv1 (Nat.succ_ne_zero _)]) ?_
      obtain ⟨hg7, hf⟩ := xifn hf
      obtain ⟨hg8, hf⟩ := xifn hf
      refine xm_ast (x := ((xct st) + 1)) (W' := (xMw cT aM ad rd gd vad5 (xsC (xsA st) 1 ((xsi st 2).toNatClampNeg) ((xct st) + 1)) [])) hx hb hK hP hD hS 1 rfl hg7 hg8 dM_fresh_79 rfl (fun H locs hP hD hS => ?_)
      refine lv_aload_n hx hb dM_fresh_80 rfl (lv_at hl 0 rfl) ?_
      refine xm_get (v := .ref (ad 1)) hx hb htx hown hK hP 1 (by decide) rfl (htx _ kw_5_88) rfl dM_fresh_81 ?_
      refine lv_aload_n hx hb dM_fresh_84 rfl (lv_at hl 0 rfl) ?_
      refine xm_get (v := .int (xsi st 2)) hx hb htx hown hK hP 2 (by decide) rfl (htx _ kw_5_89) rfl dM_fresh_85 ?_
      obtain ⟨hg9, hf⟩ := xifn hf
      refine va_aldq hx hb hK hP 1 4 rfl rfl hg9 dM_fresh_88 ?_
      refine W.eq (g2 := F0 m 89 ls [xv vad5 ((va_up (xvc st 1) ((xsi st 2).toNatClampNeg) ((xct st) + 1)) (xsi st 2).toNatClampNeg)]) rfl ?_
      refine xm_astore_n (lv' := [(2, xv vad5 ((va_up (xvc st 1) ((xsi st 2).toNatClampNeg) ((xct st) + 1)) (xsi st 2).toNatClampNeg)), (0, .ref aM), (1, .int x0)]) hx hb (xvor _ _) dM_fresh_89 rfl hl (by decide) rfl (fun ls hl => ?_)
      refine lv_aload_n hx hb dM_fresh_90 rfl (lv_at hl 1 rfl) ?_
      refine lv_dup hx hb dM_fresh_91 rfl ?_
      refine xm_get (v := .int (xsi st 2)) hx hb htx hown hK hP 2 (by decide) rfl (htx _ kw_5_89) rfl dM_fresh_92 ?_
      refine lv_iconst (v := 1) hx hb dM_fresh_95 (by decide) ?_
      refine lv_iadd hx hb dM_fresh_96 ?_
      refine xm_put (v := .int ((xsi st 2) + (1 : Int32))) (W' := (xMw cT aM ad rd gd vad5 (xsI (xsC (xsA st) 1 ((xsi st 2).toNatClampNeg) ((xct st) + 1)) 2 ((xsi st 2) + (1 : Int32))) [])) (ty := .int) hx hb htx hown hK hP hD hS 2 (by decide) rfl (htx _ kw_5_89) rfl rfl (by decide +kernel) rfl rfl dM_fresh_97 (fun H locs hP hD hS => ?_)
      refine xm_aload_n hx hb (xvor _ _) dM_fresh_100 rfl (lv_at hl 0 rfl) ?_
      refine lv_iload_n hx hb dM_fresh_101 rfl (lv_at hl 2 rfl) ?_
      obtain ⟨hg10, hf⟩ := xifn hf
      refine xm_vput (v := .int x0) (ty := .int) hx hb htx hown hK hP hD hS 0 (by decide) hg10 (xsP (xsI (xsC (xsA st) 1 ((xsi st 2).toNatClampNeg) ((xct st) + 1)) 2 ((xsi st 2) + (1 : Int32))) 0 (((va_up (xvc st 1) ((xsi st 2).toNatClampNeg) ((xct st) + 1)) (xsi st 2).toNatClampNeg) - 1) x0) rfl rfl rfl (xVf_P 0 (by decide)) (xVf_P2 0 (by decide)) ((hZ.1 (93, "kind", "I") (List.mem_of_getElem? (i := 0) rfl)).use rfl) rfl rfl (by decide +kernel) rfl rfl dM_fresh_102 (fun H locs hP hD hS => ?_)
      refine xm_aload_n hx hb (xvor _ _) dM_fresh_105 rfl (lv_at hl 0 rfl) ?_
      refine lv_lconst (v := 0) hx hb dM_fresh_106 (by decide) ?_
      refine xm_vput (v := .long 0) (ty := .long) hx hb htx hown hK hP hD hS 1 (by decide) hg10 (xsN (xsP (xsI (xsC (xsA st) 1 ((xsi st 2).toNatClampNeg) ((xct st) + 1)) 2 ((xsi st 2) + (1 : Int32))) 0 (((va_up (xvc st 1) ((xsi st 2).toNatClampNeg) ((xct st) + 1)) (xsi st 2).toNatClampNeg) - 1) x0) (((va_up (xvc st 1) ((xsi st 2).toNatClampNeg) ((xct st) + 1)) (xsi st 2).toNatClampNeg) - 1) (0 : Int64)) rfl rfl rfl xVf_N xVf_N2 ((hZ.1 (96, "n", "J") (List.mem_of_getElem? (i := 1) rfl)).use rfl) rfl rfl (by decide +kernel) rfl rfl dM_fresh_107 (fun H locs hP hD hS => ?_)
      refine xm_aload_n hx hb (xvor _ _) dM_fresh_110 rfl (lv_at hl 0 rfl) ?_
      refine lv_iconst (v := 0) hx hb dM_fresh_111 (by decide) ?_
      refine xm_vput (v := .int 0) (ty := .int) hx hb htx hown hK hP hD hS 2 (by decide) hg10 (xsP (xsN (xsP (xsI (xsC (xsA st) 1 ((xsi st 2).toNatClampNeg) ((xct st) + 1)) 2 ((xsi st 2) + (1 : Int32))) 0 (((va_up (xvc st 1) ((xsi st 2).toNatClampNeg) ((xct st) + 1)) (xsi st 2).toNatClampNeg) - 1) x0) (((va_up (xvc st 1) ((xsi st 2).toNatClampNeg) ((xct st) + 1)) (xsi st 2).toNatClampNeg) - 1) (0 : Int64)) 2 (((va_up (xvc st 1) ((xsi st 2).toNatClampNeg) ((xct st) + 1)) (xsi st 2).toNatClampNeg) - 1) (0 : Int32)) rfl rfl rfl (xVf_P 2 (by decide)) (xVf_P2 2 (by decide)) ((hZ.1 (100, "off", "I") (List.mem_of_getElem? (i := 2) rfl)).use rfl) rfl rfl (by decide +kernel) rfl rfl dM_fresh_112 (fun H locs hP hD hS => ?_)
      refine xm_aload_n hx hb (xvor _ _) dM_fresh_115 rfl (lv_at hl 0 rfl) ?_
      refine lv_iconst (v := 0) hx hb dM_fresh_116 (by decide) ?_
      refine xm_vput (v := .int 0) (ty := .int) hx hb htx hown hK hP hD hS 3 (by decide) hg10 (xsP (xsP (xsN (xsP (xsI (xsC (xsA st) 1 ((xsi st 2).toNatClampNeg) ((xct st) + 1)) 2 ((xsi st 2) + (1 : Int32))) 0 (((va_up (xvc st 1) ((xsi st 2).toNatClampNeg) ((xct st) + 1)) (xsi st 2).toNatClampNeg) - 1) x0) (((va_up (xvc st 1) ((xsi st 2).toNatClampNeg) ((xct st) + 1)) (xsi st 2).toNatClampNeg) - 1) (0 : Int64)) 2 (((va_up (xvc st 1) ((xsi st 2).toNatClampNeg) ((xct st) + 1)) (xsi st 2).toNatClampNeg) - 1) (0 : Int32)) 3 (((va_up (xvc st 1) ((xsi st 2).toNatClampNeg) ((xct st) + 1)) (xsi st 2).toNatClampNeg) - 1) (0 : Int32)) rfl rfl rfl (xVf_P 3 (by decide)) (xVf_P2 3 (by decide)) ((hZ.1 (103, "count", "I") (List.mem_of_getElem? (i := 3) rfl)).use rfl) rfl rfl (by decide +kernel) rfl rfl dM_fresh_117 (fun H locs hP hD hS => ?_)
      refine xm_aload_n hx hb (xvor _ _) dM_fresh_120 rfl (lv_at hl 0 rfl) ?_
      refine lv_iconst (v := 0) hx hb dM_fresh_121 (by decide) ?_
      refine xm_vput (v := .int 0) (ty := .int) hx hb htx hown hK hP hD hS 4 (by decide) hg10 (xsP (xsP (xsP (xsN (xsP (xsI (xsC (xsA st) 1 ((xsi st 2).toNatClampNeg) ((xct st) + 1)) 2 ((xsi st 2) + (1 : Int32))) 0 (((va_up (xvc st 1) ((xsi st 2).toNatClampNeg) ((xct st) + 1)) (xsi st 2).toNatClampNeg) - 1) x0) (((va_up (xvc st 1) ((xsi st 2).toNatClampNeg) ((xct st) + 1)) (xsi st 2).toNatClampNeg) - 1) (0 : Int64)) 2 (((va_up (xvc st 1) ((xsi st 2).toNatClampNeg) ((xct st) + 1)) (xsi st 2).toNatClampNeg) - 1) (0 : Int32)) 3 (((va_up (xvc st 1) ((xsi st 2).toNatClampNeg) ((xct st) + 1)) (xsi st 2).toNatClampNeg) - 1) (0 : Int32)) 4 (((va_up (xvc st 1) ((xsi st 2).toNatClampNeg) ((xct st) + 1)) (xsi st 2).toNatClampNeg) - 1) (0 : Int32)) rfl rfl rfl (xVf_P 4 (by decide)) (xVf_P2 4 (by decide)) ((hZ.1 (106, "depth", "I") (List.mem_of_getElem? (i := 4) rfl)).use rfl) rfl rfl (by decide +kernel) rfl rfl dM_fresh_122 (fun H locs hP hD hS => ?_)
      refine xm_aload_n hx hb (xvor _ _) dM_fresh_125 rfl (lv_at hl 0 rfl) ?_
      refine lv_iconst (v := 1) hx hb dM_fresh_126 (by decide) ?_
      refine xm_vput (v := .int 1) (ty := .int) hx hb htx hown hK hP hD hS 5 (by decide) hg10 (xsP (xsP (xsP (xsP (xsN (xsP (xsI (xsC (xsA st) 1 ((xsi st 2).toNatClampNeg) ((xct st) + 1)) 2 ((xsi st 2) + (1 : Int32))) 0 (((va_up (xvc st 1) ((xsi st 2).toNatClampNeg) ((xct st) + 1)) (xsi st 2).toNatClampNeg) - 1) x0) (((va_up (xvc st 1) ((xsi st 2).toNatClampNeg) ((xct st) + 1)) (xsi st 2).toNatClampNeg) - 1) (0 : Int64)) 2 (((va_up (xvc st 1) ((xsi st 2).toNatClampNeg) ((xct st) + 1)) (xsi st 2).toNatClampNeg) - 1) (0 : Int32)) 3 (((va_up (xvc st 1) ((xsi st 2).toNatClampNeg) ((xct st) + 1)) (xsi st 2).toNatClampNeg) - 1) (0 : Int32)) 4 (((va_up (xvc st 1) ((xsi st 2).toNatClampNeg) ((xct st) + 1)) (xsi st 2).toNatClampNeg) - 1) (0 : Int32)) 5 (((va_up (xvc st 1) ((xsi st 2).toNatClampNeg) ((xct st) + 1)) (xsi st 2).toNatClampNeg) - 1) (1 : Int32)) rfl rfl rfl (xVf_P 5 (by decide)) (xVf_P2 5 (by decide)) ((hZ.1 (109, "weight", "I") (List.mem_of_getElem? (i := 5) rfl)).use rfl) rfl rfl (by decide +kernel) rfl rfl dM_fresh_127 (fun H locs hP hD hS => ?_)
      refine xm_aload_n hx hb (xvor _ _) dM_fresh_130 rfl (lv_at hl 0 rfl) ?_
      obtain rfl := Option.some.inj hf
      exact W.aret (v := xv vad5 ((va_up (xvc st 1) ((xsi st 2).toNatClampNeg) ((xct st) + 1)) (xsi st 2).toNatClampNeg)) hx hb hr (Or.inl ⟨_, rfl⟩) (xvor _ _) (fun t ht hW => ⟨⟨xca vad5 ((va_up (xvc st 1) ((xsi st 2).toNatClampNeg) ((xct st) + 1)) (xsi st 2).toNatClampNeg), (ad, gd, vad5), rfl, ⟨rfl, hE, hN⟩, by rw [ht]; exact hP, va_K.moved hW.alike hK, hD⟩, hS.F ht⟩) hS.2.2 dM_fresh_131
  · rw [if_pos hc] at hf
    refine lv_iconst (v := 2) hx hb dM_fresh_12 (by decide) ?_
    refine lv_aload_n hx hb dM_fresh_13 rfl (lv_at hl 0 rfl) ?_
    refine xm_get (v := .int (xsi st 2)) hx hb htx hown hK hP 2 (by decide) rfl (htx _ kw_5_89) rfl dM_fresh_14 ?_
    refine lv_imul hx hb dM_fresh_17 ?_
    obtain ⟨hg1, hf⟩ := xifn hf
    obtain ⟨hm2, hf⟩ := xmoE hf
    refine va_newq (C := "ValueBenchModel$V") (N' := ((2 : Int32) * (xsi st 2)).toNatClampNeg) (n := ((2 : Int32) * (xsi st 2))) hx hb hown (htx _ kw_5_80) hZ.2.2.1.2 hK hP hD hS hA (fun h => hg1 (Or.inl h)) rfl (by have := fun h => hg1 (Or.inr h); show _ * 4 ≤ _; omega) hm2.1 hm2.2 dM_fresh_18 (fun qz3 cA9 H hK9 hP hD hS => ?_)
    obtain rfl := xk_eq hK9 4 rfl
    rw [xcf_0 vad] at hP hD
    replace hP := xm_tmpP hP
    replace hD := xm_tmpD hD
    obtain ⟨hP, hD⟩ : xPD D xcl A (xMw cT aM ad rd gd vad st [(qz3, .inl (cT 4, ((2 : Int32) * (xsi st 2)).toNatClampNeg, .inr (.inr (.inr (.inr (xcf vad (fun _ => 0)))))))]) H := ⟨hP, hD⟩
    refine lv_astore_n (lv' := [(2, .ref qz3), (0, .ref aM), (1, .int x0)]) hx hb dM_fresh_21 rfl hl (by decide) rfl (fun ls hl => ?_)
    refine lv_iconst (v := 0) hx hb dM_fresh_22 (by decide) ?_
    refine lv_istore_n (lv' := [(3, .int 0), (2, .ref qz3), (0, .ref aM), (1, .int x0)]) hx hb dM_fresh_23 rfl hl (by decide) rfl (fun ls hl => ?_)
    exact key n (1, (0 : Int32), x0, ((2 : Int32) * (xsi st 2)).toNatClampNeg, (fun _ => 0), st, (0 + 1), (0 + ((2 : Int32) * (xsi st 2)).toNatClampNeg)) _ _ ls (⟨ad, gd, vad, qz3, rfl, hf, hP, hD, hS, lv_sub hl [0, 1, 2, 3] rfl, hE, hN⟩)
set_option maxHeartbeats 400000000 in
set_option maxRecDepth 100000 in
theorem gM_limit_1 (l : Launch) (hl9 : l.stackTraces = false) (D : va_G) (cT : Nat → ClassId) (aK aV : Nat → Nat) (sz n : Nat) (aM : Nat) (ad rd gd vad : Nat → Nat) (st : xS) (out : Nat × Nat × Nat × Nat) (hf : fM_limit n st = some out) (hkd : out.1 = 1) : xMetY l yM_limit wyM_limit 6 out.2.1 out.2.2.1 100 D cT aK aV sz [.ref aM] (xMw cT aM ad rd gd vad st []) "java/lang/IndexOutOfBoundsException" (fun u => xE vad st st u) (fun A u t => xB D xcl cT A (xMw cT aM u.1 rd u.2.1 u.2.2 st []) t) := by
  refine vx_ofW (cc := prog_13_method_5_code) (maxL := 1) (ret := (some (.object "ValueBenchModel$V"))) (by decide) rfl ?_
  intro p e s m args below meth c s₁ B hml hne hv
  obtain ⟨rfl, hsz, hZ, hP, hK, hD0⟩ := hv
  have hx := B.exec
  have hb := B.bytes
  have hr := B.returns
  have hts := atoms_spec (ws := wyM_limit) B.pre
  have htx := fun w h => hts w (List.mem_cons_of_mem _ h)
  have hown : s.vm.findClass "ValueBenchModel" = some m.cls := findClass_of_methodNamed B.named
  have hlocks := B.notSynchronized
  subst hsz
  have hD := hD0.self (sz := s.heap.size)
  generalize hAe : va_A (xMw cT aM ad rd gd vad st []) s.heap.size = A at hD hZ ⊢
  have hA : ∀ q : Nat, s.heap.size ≤ q → A q := fun q h => by rw [← hAe]; exact Or.inr h
  have hS : va_S A s.heap s.heap [] := va_S.rf
  have hl := lv_entry ([.ref aM]) (n := 1) (by simp [lg_sl, xvcat, xrscat, xcI, xcL, xcR, xcN])
  rw [show lv_args 0 [.ref aM] = [(0, .ref aM)] from by simp [lv_args, xvcat, xrscat, xcI, xcL, xcR, xcN]] at hl
  rw [lg_entry_eq]
  generalize (lg_sl ([.ref aM]) ++ List.replicate (1 - (lg_sl ([.ref aM])).length) Slot.unset).toArray = ls at hl ⊢
  have hl : lv_has ls 1 [(0, .ref aM)] := hl
  have hE : ∀ p, p < xct st → vad p = vad p := fun _ _ => rfl
  have hN : xct st ≤ xct st := Nat.le_refl _
  unfold fM_limit at hf
  obtain rfl := Option.some.inj hf
  exact vx_throw0 (own := "ValueBenchModel") (cls := "java/lang/IndexOutOfBoundsException") (names := ["java/lang/RuntimeException", "java/lang/Exception"]) hx hb hl9 hown (by decide +kernel) (by decide +kernel) (htx _ kw_5_205) (htx _ kw_1_13) (vx_hat (B := [.castable "java/lang/IndexOutOfBoundsException" "java/lang/IndexOutOfBoundsException", .declares ⟨"java/lang/RuntimeException", "<init>", "()V"⟩, .declares ⟨"java/lang/Exception", "<init>", "()V"⟩, .declares ⟨"java/lang/Throwable", "<init>", "()V"⟩]) (fun w h => htx w (xat_M_86_88 w h)) xat_M_86_88_b (vx_c ((hZ.2.2.2.2.2.1 "java/lang/IndexOutOfBoundsException" (List.mem_of_getElem? (i := 0) rfl)).use rfl) (vx_c ((hZ.2.2.2.2.2.2.1 ⟨"java/lang/RuntimeException", "<init>", "()V"⟩ (List.mem_of_getElem? (i := 0) rfl)).use rfl) (vx_c ((hZ.2.2.2.2.2.2.1 ⟨"java/lang/Exception", "<init>", "()V"⟩ (List.mem_of_getElem? (i := 1) rfl)).use rfl) (vx_c ((hZ.2.2.2.2.2.2.1 ⟨"java/lang/Throwable", "<init>", "()V"⟩ (List.mem_of_getElem? (i := 2) rfl)).use rfl) vx_n))))) xat_M_86_88_g hZ.2.2.2.1 hZ.2.2.2.2.1 hS (hl.1.trans hml.symm) dM_limit_0 dM_limit_3 dM_limit_4 dM_limit_7 (fun x h => (hne x h).elim) (Nat.le_of_ble_eq_true rfl) (Nat.le_of_ble_eq_true rfl) (Nat.le_refl _) (Nat.le_refl _) hlocks (fun t ha hz hk => ⟨(ad, gd, vad), ⟨hE, hN⟩, ⟨rfl, xx_keepP hP hk, va_K.moved ha hK, hD⟩, xx_grown hS hz hk⟩) hS.2.2 (Nat.le_refl _) (Nat.le_refl _)
set_option maxHeartbeats 400000000 in
set_option maxRecDepth 100000 in
theorem gM_string (l : Launch) (hl9 : l.stackTraces = false) (D : va_G) (cT : Nat → ClassId) (aK aV : Nat → Nat) (sz n : Nat) (aM : Nat) (ad rd gd vad : Nat → Nat) (st : xS) (x0 : Int32) (out : Nat × Nat × Nat × Nat × xS) (hf : fM_string n st x0 = some out) (hkd : out.1 = 0) : xMet l yM_string wyM_string 7 out.2.1 out.2.2.1 120 D cT aK aV sz [.ref aM, .int x0] (xMw cT aM ad rd gd vad st []) (fun A => va_Qq (fun (r : Option Nat) (u : xU) => r = xca u.2.2 out.2.2.2.1 ∧ xE vad st out.2.2.2.2 u) (fun u t => xB D xcl cT A (xMw cT aM u.1 rd u.2.1 u.2.2 out.2.2.2.2 []) t) A) := by
  refine Met.ofW (cc := prog_13_method_10_code) (maxL := 3) (ret := (some (.object "ValueBenchModel$V"))) (by decide) rfl ?_
  intro p e s m args below meth c s₁ B hml hv
  obtain ⟨rfl, hsz, hZ, hP, hK, hD0⟩ := hv
  have hx := B.exec
  have hb := B.bytes
  have hr := B.returns
  have hts := atoms_spec (ws := wyM_string) B.pre
  have htx := fun w h => hts w (List.mem_cons_of_mem _ h)
  have hown : s.vm.findClass "ValueBenchModel" = some m.cls := findClass_of_methodNamed B.named
  have hlocks := B.notSynchronized
  subst hsz
  have hD := hD0.self (sz := s.heap.size)
  generalize hAe : va_A (xMw cT aM ad rd gd vad st []) s.heap.size = A at hD hZ ⊢
  have hA : ∀ q : Nat, s.heap.size ≤ q → A q := fun q h => by rw [← hAe]; exact Or.inr h
  have hS : va_S A s.heap s.heap [] := va_S.rf
  have hl := lv_entry ([.ref aM, .int x0]) (n := 3) (by simp [lg_sl, xvcat, xrscat, xcI, xcL, xcR, xcN])
  rw [show lv_args 0 [.ref aM, .int x0] = [(0, .ref aM), (1, .int x0)] from by simp [lv_args, xvcat, xrscat, xcI, xcL, xcR, xcN]] at hl
  rw [lg_entry_eq]
  generalize (lg_sl ([.ref aM, .int x0]) ++ List.replicate (3 - (lg_sl ([.ref aM, .int x0])).length) Slot.unset).toArray = ls at hl ⊢
  have hl : lv_has ls 3 [(0, .ref aM), (1, .int x0)] := hl
  have hE : ∀ p, p < xct st → vad p = vad p := fun _ _ => rfl
  have hN : xct st ≤ xct st := Nat.le_refl _
  unfold fM_string at hf
  refine lv_aload_n hx hb dM_string_0 rfl (lv_at hl 0 rfl) ?_
  refine lv_iconst (v := 4) hx hb dM_string_1 (by decide) ?_
  obtain ⟨o1, hq2, hf⟩ := xbind hf
  obtain ⟨hm3, hf⟩ := xmoE hf
  have hFc := xm_free hD hS hA
  refine va_callq (va_runV (C := "ValueBenchModel") (As := [.int 4]) (rest := []) ⟨hx, hb, hml, hown, htx⟩ (gM_fresh l hl9 D cT aK aV s.heap.size n aM ad rd gd vad st (4 : Int32) o1 hq2) ⟨callB_of 1 htx (xw_goodC kw_6_16) rfl rfl rfl (htx _ kw_1_5) (htx _ kw_6_13) ⟨by decide, by decide, by decide +kernel⟩ ⟨Nat.le_of_ble_eq_true rfl, Nat.le_of_ble_eq_true rfl⟩, (htx _ kw_6_15), (htx _ kp_M_fresh)⟩ ⟨xPre_blind, va_recv hK hP (ci := 5) rfl (q0 := 0) rfl, (fun U hU hW => ⟨rfl, xPre_of hZ hS hFc hP hD hK U hU hW⟩)⟩ rfl rfl hl.1 rfl (xm_room (Nat.le_of_ble_eq_true rfl)) dM_string_2 ⟨hm3.1, hm3.2⟩) hS (fun q _ h => hFc q h) hFc (fun r4 u9 t H1 locs ht hvm hr9 hB hz1 hk1 hS => ?_)
  obtain ⟨hP1, hK1, hD1⟩ := hB
  rw [ht] at hP1
  obtain ⟨ad5, gd6, vad7⟩ := u9
  obtain ⟨hr9, hv8, hn9⟩ := hr9
  have hP : va_P D xcl (xMw cT aM ad5 rd gd6 vad7 o1.2.2.2 []) H1 := hP1
  have hD : va_D A (xMw cT aM ad5 rd gd6 vad7 o1.2.2.2 []) := hD1.weaken (fun k q _ h => hFc q.1 h)
  generalize H1 = H at hP hS ⊢
  have hE9 : ∀ p, p < xct st → vad7 p = vad p := fun p h => (hv8 p (Nat.lt_of_lt_of_le h hN)).trans (hE p h)
  have hE := hE9
  have hN : xct st ≤ xct o1.2.2.2 := Nat.le_trans hN hn9
  rw [hr9]
  refine W.eq (g2 := F0 m 5 ls [xv vad7 o1.2.2.1]) (by first | rfl | (skip; rfl)) ?_
  refine xm_astore_n (lv' := [(2, xv vad7 o1.2.2.1), (0, .ref aM), (1, .int x0)]) hx hb (xvor _ _) dM_string_5 rfl hl (by decide) rfl (fun ls hl => ?_)
  refine xm_aload_n hx hb (xvor _ _) dM_string_6 rfl (lv_at hl 0 rfl) ?_
  refine lv_iload_n hx hb dM_string_7 rfl (lv_at hl 2 rfl) ?_
  obtain ⟨hg10, hf⟩ := xifn hf
  refine xm_vput (v := .int x0) (ty := .int) hx hb htx hown hK hP hD hS 2 (by decide) hg10 (xsP o1.2.2.2 2 (o1.2.2.1 - 1) x0) rfl rfl rfl (xVf_P 2 (by decide)) (xVf_P2 2 (by decide)) ((hZ.1 (100, "off", "I") (List.mem_of_getElem? (i := 2) rfl)).use rfl) rfl rfl (by decide +kernel) rfl rfl dM_string_8 (fun H locs hP hD hS => ?_)
  refine xm_aload_n hx hb (xvor _ _) dM_string_11 rfl (lv_at hl 0 rfl) ?_
  refine lv_aload_n hx hb dM_string_12 rfl (lv_at hl 1 rfl) ?_
  refine xm_get (v := .int (xsi o1.2.2.2 4)) hx hb htx hown hK hP 4 (by decide) rfl (htx _ kw_5_91) rfl dM_string_13 ?_
  refine lv_iload_n hx hb dM_string_16 rfl (lv_at hl 2 rfl) ?_
  refine lv_isub hx hb dM_string_17 ?_
  refine xm_vput (v := .int ((xsi o1.2.2.2 4) - x0)) (ty := .int) hx hb htx hown hK hP hD hS 3 (by decide) hg10 (xsP (xsP o1.2.2.2 2 (o1.2.2.1 - 1) x0) 3 (o1.2.2.1 - 1) ((xsi o1.2.2.2 4) - x0)) rfl rfl rfl (xVf_P 3 (by decide)) (xVf_P2 3 (by decide)) ((hZ.1 (103, "count", "I") (List.mem_of_getElem? (i := 3) rfl)).use rfl) rfl rfl (by decide +kernel) rfl rfl dM_string_18 (fun H locs hP hD hS => ?_)
  refine xm_aload_n hx hb (xvor _ _) dM_string_21 rfl (lv_at hl 0 rfl) ?_
  refine lv_iconst (v := 1) hx hb dM_string_22 (by decide) ?_
  refine xm_aload_n hx hb (xvor _ _) dM_string_23 rfl (lv_at hl 0 rfl) ?_
  refine xm_vget (v := .int ((upd (xpi o1.2.2.2 3) (o1.2.2.1 - 1) ((xsi o1.2.2.2 4) - x0)) (o1.2.2.1 - 1))) hx hb htx hown hK hP 3 (by decide) hg10 rfl ((hZ.1 (103, "count", "I") (List.mem_of_getElem? (i := 3) rfl)).use rfl) rfl dM_string_24 ?_
  refine lv_iadd hx hb dM_string_27 ?_
  refine xm_vput (v := .int ((1 : Int32) + ((upd (xpi o1.2.2.2 3) (o1.2.2.1 - 1) ((xsi o1.2.2.2 4) - x0)) (o1.2.2.1 - 1)))) (ty := .int) hx hb htx hown hK hP hD hS 5 (by decide) hg10 (xsP (xsP (xsP o1.2.2.2 2 (o1.2.2.1 - 1) x0) 3 (o1.2.2.1 - 1) ((xsi o1.2.2.2 4) - x0)) 5 (o1.2.2.1 - 1) ((1 : Int32) + ((upd (xpi o1.2.2.2 3) (o1.2.2.1 - 1) ((xsi o1.2.2.2 4) - x0)) (o1.2.2.1 - 1)))) rfl rfl rfl (xVf_P 5 (by decide)) (xVf_P2 5 (by decide)) ((hZ.1 (109, "weight", "I") (List.mem_of_getElem? (i := 5) rfl)).use rfl) rfl rfl (by decide +kernel) rfl rfl dM_string_28 (fun H locs hP hD hS => ?_)
  refine xm_aload_n hx hb (xvor _ _) dM_string_31 rfl (lv_at hl 0 rfl) ?_
  refine xm_vget (v := .int ((upd (xpi o1.2.2.2 5) (o1.2.2.1 - 1) ((1 : Int32) + ((upd (xpi o1.2.2.2 3) (o1.2.2.1 - 1) ((xsi o1.2.2.2 4) - x0)) (o1.2.2.1 - 1)))) (o1.2.2.1 - 1))) hx hb htx hown hK hP 5 (by decide) hg10 rfl ((hZ.1 (109, "weight", "I") (List.mem_of_getElem? (i := 5) rfl)).use rfl) rfl dM_string_32 ?_
  refine lv_ldc hx hb hown (htx _ kw_6_62) dM_string_35 ?_
  refine lv_icmp_le (tgt := 45) hx hb dM_string_37 (by decide) (fun hc => ?_) (fun hc => ?_)
  · rw [if_pos hc] at hf
    refine xm_aload_n hx hb (xvor _ _) dM_string_45 rfl (lv_at hl 0 rfl) ?_
    obtain rfl := Option.some.inj hf
    exact W.aret (v := xv vad7 o1.2.2.1) hx hb hr (Or.inl ⟨_, rfl⟩) (xvor _ _) (fun t ht hW => ⟨⟨xca vad7 o1.2.2.1, (ad5, gd6, vad7), rfl, ⟨rfl, hE, hN⟩, by rw [ht]; exact hP, va_K.moved hW.alike hK, hD⟩, hS.F ht⟩) hS.2.2 dM_string_46
  · rw [if_neg hc] at hf
    refine lv_aload_n hx hb dM_string_40 rfl (lv_at hl 1 rfl) ?_
    obtain ⟨o11, hq12, hf⟩ := xbind hf
    have hl := lv_sub (l' := [(0, .ref aM), (1, .int x0)]) hl [1, 2] rfl
    by_cases hk13 : o11.1 = 1
    · rw [if_pos hk13] at hf
      obtain ⟨hm14, hf⟩ := xmoE hf
      obtain rfl := Option.some.inj hf
      exact absurd (show (1 : Nat) = 0 from hkd) (by decide)
    rw [if_neg hk13] at hf
    exact nomatch hf
set_option maxHeartbeats 400000000 in
set_option maxRecDepth 100000 in
theorem gM_string_1 (l : Launch) (hl9 : l.stackTraces = false) (D : va_G) (cT : Nat → ClassId) (aK aV : Nat → Nat) (sz n : Nat) (aM : Nat) (ad rd gd vad : Nat → Nat) (st : xS) (x0 : Int32) (out : Nat × Nat × Nat × Nat × xS) (hf : fM_string n st x0 = some out) (hkd : out.1 = 1) : xMetY l yM_string wyM_string 7 out.2.1 out.2.2.1 120 D cT aK aV sz [.ref aM, .int x0] (xMw cT aM ad rd gd vad st []) "java/lang/IndexOutOfBoundsException" (fun u => xE vad st out.2.2.2.2 u) (fun A u t => xB D xcl cT A (xMw cT aM u.1 rd u.2.1 u.2.2 out.2.2.2.2 []) t) := by
  refine vx_ofW (cc := prog_13_method_10_code) (maxL := 3) (ret := (some (.object "ValueBenchModel$V"))) (by decide) rfl ?_
  intro p e s m args below meth c s₁ B hml hne hv
  obtain ⟨rfl, hsz, hZ, hP, hK, hD0⟩ := hv
  have hx := B.exec
  have hb := B.bytes
  have hr := B.returns
  have hts := atoms_spec (ws := wyM_string) B.pre
  have htx := fun w h => hts w (List.mem_cons_of_mem _ h)
  have hown : s.vm.findClass "ValueBenchModel" = some m.cls := findClass_of_methodNamed B.named
  have hlocks := B.notSynchronized
  subst hsz
  have hD := hD0.self (sz := s.heap.size)
  generalize hAe : va_A (xMw cT aM ad rd gd vad st []) s.heap.size = A at hD hZ ⊢
  have hA : ∀ q : Nat, s.heap.size ≤ q → A q := fun q h => by rw [← hAe]; exact Or.inr h
  have hS : va_S A s.heap s.heap [] := va_S.rf
  have hl := lv_entry ([.ref aM, .int x0]) (n := 3) (by simp [lg_sl, xvcat, xrscat, xcI, xcL, xcR, xcN])
  rw [show lv_args 0 [.ref aM, .int x0] = [(0, .ref aM), (1, .int x0)] from by simp [lv_args, xvcat, xrscat, xcI, xcL, xcR, xcN]] at hl
  rw [lg_entry_eq]
  generalize (lg_sl ([.ref aM, .int x0]) ++ List.replicate (3 - (lg_sl ([.ref aM, .int x0])).length) Slot.unset).toArray = ls at hl ⊢
  have hl : lv_has ls 3 [(0, .ref aM), (1, .int x0)] := hl
  have hE : ∀ p, p < xct st → vad p = vad p := fun _ _ => rfl
  have hN : xct st ≤ xct st := Nat.le_refl _
  unfold fM_string at hf
  refine lv_aload_n hx hb dM_string_0 rfl (lv_at hl 0 rfl) ?_
  refine lv_iconst (v := 4) hx hb dM_string_1 (by decide) ?_
  obtain ⟨o1, hq2, hf⟩ := xbind hf
  obtain ⟨hm3, hf⟩ := xmoE hf
  have hFc := xm_free hD hS hA
  refine va_callq (va_runV (C := "ValueBenchModel") (As := [.int 4]) (rest := []) ⟨hx, hb, hml, hown, htx⟩ (gM_fresh l hl9 D cT aK aV s.heap.size n aM ad rd gd vad st (4 : Int32) o1 hq2) ⟨callB_of 1 htx (xw_goodC kw_6_16) rfl rfl rfl (htx _ kw_1_5) (htx _ kw_6_13) ⟨by decide, by decide, by decide +kernel⟩ ⟨Nat.le_of_ble_eq_true rfl, Nat.le_of_ble_eq_true rfl⟩, (htx _ kw_6_15), (htx _ kp_M_fresh)⟩ ⟨xPre_blind, va_recv hK hP (ci := 5) rfl (q0 := 0) rfl, (fun U hU hW => ⟨rfl, xPre_of hZ hS hFc hP hD hK U hU hW⟩)⟩ rfl rfl hl.1 rfl (xm_room (Nat.le_of_ble_eq_true rfl)) dM_string_2 ⟨hm3.1, hm3.2⟩) hS (fun q _ h => hFc q h) hFc (fun r4 u9 t H1 locs ht hvm hr9 hB hz1 hk1 hS => ?_)
  obtain ⟨hP1, hK1, hD1⟩ := hB
  rw [ht] at hP1
  obtain ⟨ad5, gd6, vad7⟩ := u9
  obtain ⟨hr9, hv8, hn9⟩ := hr9
  have hP : va_P D xcl (xMw cT aM ad5 rd gd6 vad7 o1.2.2.2 []) H1 := hP1
  have hD : va_D A (xMw cT aM ad5 rd gd6 vad7 o1.2.2.2 []) := hD1.weaken (fun k q _ h => hFc q.1 h)
  generalize H1 = H at hP hS ⊢
  have hE9 : ∀ p, p < xct st → vad7 p = vad p := fun p h => (hv8 p (Nat.lt_of_lt_of_le h hN)).trans (hE p h)
  have hE := hE9
  have hN : xct st ≤ xct o1.2.2.2 := Nat.le_trans hN hn9
  rw [hr9]
  refine W.eq (g2 := F0 m 5 ls [xv vad7 o1.2.2.1]) (by first | rfl | (skip; rfl)) ?_
  refine xm_astore_n (lv' := [(2, xv vad7 o1.2.2.1), (0, .ref aM), (1, .int x0)]) hx hb (xvor _ _) dM_string_5 rfl hl (by decide) rfl (fun ls hl => ?_)
  refine xm_aload_n hx hb (xvor _ _) dM_string_6 rfl (lv_at hl 0 rfl) ?_
  refine lv_iload_n hx hb dM_string_7 rfl (lv_at hl 2 rfl) ?_
  obtain ⟨hg10, hf⟩ := xifn hf
  refine xm_vput (v := .int x0) (ty := .int) hx hb htx hown hK hP hD hS 2 (by decide) hg10 (xsP o1.2.2.2 2 (o1.2.2.1 - 1) x0) rfl rfl rfl (xVf_P 2 (by decide)) (xVf_P2 2 (by decide)) ((hZ.1 (100, "off", "I") (List.mem_of_getElem? (i := 2) rfl)).use rfl) rfl rfl (by decide +kernel) rfl rfl dM_string_8 (fun H locs hP hD hS => ?_)
  refine xm_aload_n hx hb (xvor _ _) dM_string_11 rfl (lv_at hl 0 rfl) ?_
  refine lv_aload_n hx hb dM_string_12 rfl (lv_at hl 1 rfl) ?_
  refine xm_get (v := .int (xsi o1.2.2.2 4)) hx hb htx hown hK hP 4 (by decide) rfl (htx _ kw_5_91) rfl dM_string_13 ?_
  refine lv_iload_n hx hb dM_string_16 rfl (lv_at hl 2 rfl) ?_
  refine lv_isub hx hb dM_string_17 ?_
  refine xm_vput (v := .int ((xsi o1.2.2.2 4) - x0)) (ty := .int) hx hb htx hown hK hP hD hS 3 (by decide) hg10 (xsP (xsP o1.2.2.2 2 (o1.2.2.1 - 1) x0) 3 (o1.2.2.1 - 1) ((xsi o1.2.2.2 4) - x0)) rfl rfl rfl (xVf_P 3 (by decide)) (xVf_P2 3 (by decide)) ((hZ.1 (103, "count", "I") (List.mem_of_getElem? (i := 3) rfl)).use rfl) rfl rfl (by decide +kernel) rfl rfl dM_string_18 (fun H locs hP hD hS => ?_)
  refine xm_aload_n hx hb (xvor _ _) dM_string_21 rfl (lv_at hl 0 rfl) ?_
  refine lv_iconst (v := 1) hx hb dM_string_22 (by decide) ?_
  refine xm_aload_n hx hb (xvor _ _) dM_string_23 rfl (lv_at hl 0 rfl) ?_
  refine xm_vget (v := .int ((upd (xpi o1.2.2.2 3) (o1.2.2.1 - 1) ((xsi o1.2.2.2 4) - x0)) (o1.2.2.1 - 1))) hx hb htx hown hK hP 3 (by decide) hg10 rfl ((hZ.1 (103, "count", "I") (List.mem_of_getElem? (i := 3) rfl)).use rfl) rfl dM_string_24 ?_
  refine lv_iadd hx hb dM_string_27 ?_
  refine xm_vput (v := .int ((1 : Int32) + ((upd (xpi o1.2.2.2 3) (o1.2.2.1 - 1) ((xsi o1.2.2.2 4) - x0)) (o1.2.2.1 - 1)))) (ty := .int) hx hb htx hown hK hP hD hS 5 (by decide) hg10 (xsP (xsP (xsP o1.2.2.2 2 (o1.2.2.1 - 1) x0) 3 (o1.2.2.1 - 1) ((xsi o1.2.2.2 4) - x0)) 5 (o1.2.2.1 - 1) ((1 : Int32) + ((upd (xpi o1.2.2.2 3) (o1.2.2.1 - 1) ((xsi o1.2.2.2 4) - x0)) (o1.2.2.1 - 1)))) rfl rfl rfl (xVf_P 5 (by decide)) (xVf_P2 5 (by decide)) ((hZ.1 (109, "weight", "I") (List.mem_of_getElem? (i := 5) rfl)).use rfl) rfl rfl (by decide +kernel) rfl rfl dM_string_28 (fun H locs hP hD hS => ?_)
  refine xm_aload_n hx hb (xvor _ _) dM_string_31 rfl (lv_at hl 0 rfl) ?_
  refine xm_vget (v := .int ((upd (xpi o1.2.2.2 5) (o1.2.2.1 - 1) ((1 : Int32) + ((upd (xpi o1.2.2.2 3) (o1.2.2.1 - 1) ((xsi o1.2.2.2 4) - x0)) (o1.2.2.1 - 1)))) (o1.2.2.1 - 1))) hx hb htx hown hK hP 5 (by decide) hg10 rfl ((hZ.1 (109, "weight", "I") (List.mem_of_getElem? (i := 5) rfl)).use rfl) rfl dM_string_32 ?_
  refine lv_ldc hx hb hown (htx _ kw_6_62) dM_string_35 ?_
  refine lv_icmp_le (tgt := 45) hx hb dM_string_37 (by decide) (fun hc => ?_) (fun hc => ?_)
  · rw [if_pos hc] at hf
    refine xm_aload_n hx hb (xvor _ _) dM_string_45 rfl (lv_at hl 0 rfl) ?_
    obtain rfl := Option.some.inj hf
    exact absurd (show (0 : Nat) = 1 from hkd) (by decide)
  · rw [if_neg hc] at hf
    refine lv_aload_n hx hb dM_string_40 rfl (lv_at hl 1 rfl) ?_
    obtain ⟨o11, hq12, hf⟩ := xbind hf
    have hl := lv_sub (l' := [(0, .ref aM), (1, .int x0)]) hl [1, 2] rfl
    by_cases hk13 : o11.1 = 1
    · rw [if_pos hk13] at hf
      obtain ⟨hm14, hf⟩ := xmoE hf
      have hFc := xm_free hD hS hA
      refine xx_thr (vx_runV (C := "ValueBenchModel") (As := []) (rest := []) ⟨hx, hb, hml, hown, htx⟩ (gM_limit_1 l hl9 D cT aK aV H.size n aM ad5 rd gd6 vad7 (xsP (xsP (xsP o1.2.2.2 2 (o1.2.2.1 - 1) x0) 3 (o1.2.2.1 - 1) ((xsi o1.2.2.2 4) - x0)) 5 (o1.2.2.1 - 1) ((1 : Int32) + ((upd (xpi o1.2.2.2 3) (o1.2.2.1 - 1) ((xsi o1.2.2.2 4) - x0)) (o1.2.2.1 - 1)))) o11 hq12 hk13) ⟨callB_of 0 htx (xw_goodC kw_6_66) rfl rfl rfl (htx _ kw_1_5) (htx _ kw_6_63) ⟨by decide, by decide, by decide +kernel⟩ ⟨Nat.le_of_ble_eq_true rfl, Nat.le_of_ble_eq_true rfl⟩, (htx _ kw_6_65), (htx _ kp_M_limit)⟩ ⟨xPre_blind, va_recv hK hP (ci := 5) rfl (q0 := 0) rfl, (fun U hU hW => ⟨rfl, xPre_of hZ hS hFc hP hD hK U hU hW⟩)⟩ rfl rfl hl.1 rfl (xm_room (Nat.le_of_ble_eq_true rfl)) dM_string_41 ⟨hm14.1, hm14.2⟩) hS hFc (fun q _ h => hFc q h) (fun E ce q9 u9 t H1 locs ht hvm hr9 hB hz1 hk1 hS hce hcv hcl => ?_)
      obtain ⟨rfl, hP1, hK1, hD1⟩ := hB
      rw [ht] at hP1
      obtain ⟨ad16, gd17, vad18⟩ := u9
      obtain ⟨hv19, hn20⟩ := hr9
      have hP : va_P D xcl (xMw cT aM ad16 rd gd17 vad18 (xsP (xsP (xsP o1.2.2.2 2 (o1.2.2.1 - 1) x0) 3 (o1.2.2.1 - 1) ((xsi o1.2.2.2 4) - x0)) 5 (o1.2.2.1 - 1) ((1 : Int32) + ((upd (xpi o1.2.2.2 3) (o1.2.2.1 - 1) ((xsi o1.2.2.2 4) - x0)) (o1.2.2.1 - 1)))) []) H1 := hP1
      have hD : va_D A (xMw cT aM ad16 rd gd17 vad18 (xsP (xsP (xsP o1.2.2.2 2 (o1.2.2.1 - 1) x0) 3 (o1.2.2.1 - 1) ((xsi o1.2.2.2 4) - x0)) 5 (o1.2.2.1 - 1) ((1 : Int32) + ((upd (xpi o1.2.2.2 3) (o1.2.2.1 - 1) ((xsi o1.2.2.2 4) - x0)) (o1.2.2.1 - 1)))) []) := hD1.weaken (fun k q _ h => hFc q.1 h)
      generalize H1 = H at hP hS hce ⊢
      have hE9 : ∀ p, p < xct st → vad18 p = vad p := fun p h => (hv19 p (Nat.lt_of_lt_of_le h hN)).trans (hE p h)
      have hE := hE9
      have hN : xct st ≤ xct (xsP (xsP (xsP o1.2.2.2 2 (o1.2.2.1 - 1) x0) 3 (o1.2.2.1 - 1) ((xsi o1.2.2.2 4) - x0)) 5 (o1.2.2.1 - 1) ((1 : Int32) + ((upd (xpi o1.2.2.2 3) (o1.2.2.1 - 1) ((xsi o1.2.2.2 4) - x0)) (o1.2.2.1 - 1)))) := Nat.le_trans hN hn20
      obtain rfl := Option.some.inj hf
      exact vx_out (E := "java/lang/IndexOutOfBoundsException") (fun x h => (hne x h).elim) hlocks hce hcv hcl (fun t ht ha => ⟨(ad16, gd17, vad18), ⟨hE, hN⟩, ⟨rfl, by rw [ht]; exact hP, va_K.moved ha hK, hD⟩, hS.F ht⟩) hS.2.2 (Nat.le_refl _) (Nat.le_refl _)
    rw [if_neg hk13] at hf
    exact nomatch hf
set_option maxHeartbeats 400000000 in
set_option maxRecDepth 100000 in
theorem gM_number (l : Launch) (hl9 : l.stackTraces = false) (D : va_G) (cT : Nat → ClassId) (aK aV : Nat → Nat) (sz n : Nat) (aM : Nat) (ad rd gd vad : Nat → Nat) (st : xS) (x0 : Int64) (out : Nat × Nat × Nat × Nat × xS) (hf : fM_number n st x0 = some out) (hkd : out.1 = 0) : xMet l yM_number wyM_number 7 out.2.1 out.2.2.1 121 D cT aK aV sz [.ref aM, .long x0] (xMw cT aM ad rd gd vad st []) (fun A => va_Qq (fun (r : Option Nat) (u : xU) => r = xca u.2.2 out.2.2.2.1 ∧ xE vad st out.2.2.2.2 u) (fun u t => xB D xcl cT A (xMw cT aM u.1 rd u.2.1 u.2.2 out.2.2.2.2 []) t) A) := by
  refine Met.ofW (cc := prog_13_method_7_code) (maxL := 4) (ret := (some (.object "ValueBenchModel$V"))) (by decide) rfl ?_
  intro p e s m args below meth c s₁ B hml hv
  obtain ⟨rfl, hsz, hZ, hP, hK, hD0⟩ := hv
  have hx := B.exec
  have hb := B.bytes
  have hr := B.returns
  have hts := atoms_spec (ws := wyM_number) B.pre
  have htx := fun w h => hts w (List.mem_cons_of_mem _ h)
  have hown : s.vm.findClass "ValueBenchModel" = some m.cls := findClass_of_methodNamed B.named
  have hlocks := B.notSynchronized
  subst hsz
  have hD := hD0.self (sz := s.heap.size)
  generalize hAe : va_A (xMw cT aM ad rd gd vad st []) s.heap.size = A at hD hZ ⊢
  have hA : ∀ q : Nat, s.heap.size ≤ q → A q := fun q h => by rw [← hAe]; exact Or.inr h
  have hS : va_S A s.heap s.heap [] := va_S.rf
  have hl := lv_entry ([.ref aM, .long x0]) (n := 4) (by simp [lg_sl, xvcat, xrscat, xcI, xcL, xcR, xcN])
  rw [show lv_args 0 [.ref aM, .long x0] = [(0, .ref aM), (1, .long x0)] from by simp [lv_args, xvcat, xrscat, xcI, xcL, xcR, xcN]] at hl
  rw [lg_entry_eq]
  generalize (lg_sl ([.ref aM, .long x0]) ++ List.replicate (4 - (lg_sl ([.ref aM, .long x0])).length) Slot.unset).toArray = ls at hl ⊢
  have hl : lv_has ls 4 [(0, .ref aM), (1, .long x0)] := hl
  have hE : ∀ p, p < xct st → vad p = vad p := fun _ _ => rfl
  have hN : xct st ≤ xct st := Nat.le_refl _
  unfold fM_number at hf
  refine lv_lload_n hx hb dM_number_0 rfl (lv_at hl 1 rfl) ?_
  refine lv_ldc2 hx hb hown (htx _ kw_6_84) dM_number_1 ?_
  refine W.lcmp hx hb dM_number_4 ?_
  refine lv_if_gt (tgt := 16) hx hb dM_number_5 (by decide) (fun hc => ?_) (fun hc => ?_)
  · rw [if_pos hc] at hf
    refine lv_aload_n hx hb dM_number_16 rfl (lv_at hl 0 rfl) ?_
    refine lv_iconst (v := 2) hx hb dM_number_17 (by decide) ?_
    obtain ⟨o1, hq2, hf⟩ := xbind hf
    by_cases hk3 : o1.1 = 1
    · rw [if_pos hk3] at hf
      obtain ⟨hm4, hf⟩ := xmoE hf
      obtain rfl := Option.some.inj hf
      exact absurd (show (1 : Nat) = 0 from hkd) (by decide)
    rw [if_neg hk3] at hf
    exact nomatch hf
  · rw [if_neg hc] at hf
    refine lv_lload_n hx hb dM_number_8 rfl (lv_at hl 1 rfl) ?_
    refine lv_ldc2 hx hb hown (htx _ kw_6_89) dM_number_9 ?_
    refine W.lcmp hx hb dM_number_12 ?_
    refine lv_if_ge (tgt := 22) hx hb dM_number_13 (by decide) (fun hc => ?_) (fun hc => ?_)
    · rw [if_pos hc] at hf
      refine lv_aload_n hx hb dM_number_22 rfl (lv_at hl 0 rfl) ?_
      refine lv_iconst (v := 3) hx hb dM_number_23 (by decide) ?_
      obtain ⟨o1, hq2, hf⟩ := xbind hf
      obtain ⟨hm3, hf⟩ := xmoE hf
      have hFc := xm_free hD hS hA
      refine va_callq (va_runV (C := "ValueBenchModel") (As := [.int 3]) (rest := []) ⟨hx, hb, hml, hown, htx⟩ (gM_fresh l hl9 D cT aK aV s.heap.size n aM ad rd gd vad st (3 : Int32) o1 hq2) ⟨callB_of 1 htx (xw_goodC kw_6_16) rfl rfl rfl (htx _ kw_1_5) (htx _ kw_6_13) ⟨by decide, by decide, by decide +kernel⟩ ⟨Nat.le_of_ble_eq_true rfl, Nat.le_of_ble_eq_true rfl⟩, (htx _ kw_6_15), (htx _ kp_M_fresh)⟩ ⟨xPre_blind, va_recv hK hP (ci := 5) rfl (q0 := 0) rfl, (fun U hU hW => ⟨rfl, xPre_of hZ hS hFc hP hD hK U hU hW⟩)⟩ rfl rfl hl.1 rfl (xm_room (Nat.le_of_ble_eq_true rfl)) dM_number_24 ⟨hm3.1, hm3.2⟩) hS (fun q _ h => hFc q h) hFc (fun r4 u9 t H1 locs ht hvm hr9 hB hz1 hk1 hS => ?_)
      obtain ⟨hP1, hK1, hD1⟩ := hB
      rw [ht] at hP1
      obtain ⟨ad5, gd6, vad7⟩ := u9
      obtain ⟨hr9, hv8, hn9⟩ := hr9
      have hP : va_P D xcl (xMw cT aM ad5 rd gd6 vad7 o1.2.2.2 []) H1 := hP1
      have hD : va_D A (xMw cT aM ad5 rd gd6 vad7 o1.2.2.2 []) := hD1.weaken (fun k q _ h => hFc q.1 h)
      generalize H1 = H at hP hS ⊢
      have hE9 : ∀ p, p < xct st → vad7 p = vad p := fun p h => (hv8 p (Nat.lt_of_lt_of_le h hN)).trans (hE p h)
      have hE := hE9
      have hN : xct st ≤ xct o1.2.2.2 := Nat.le_trans hN hn9
      rw [hr9]
      refine W.eq (g2 := F0 m 27 ls [xv vad7 o1.2.2.1]) (by first | rfl | (skip; rfl)) ?_
      refine xm_astore_n (lv' := [(3, xv vad7 o1.2.2.1), (0, .ref aM), (1, .long x0)]) hx hb (xvor _ _) dM_number_27 rfl hl (by decide) rfl (fun ls hl => ?_)
      refine xm_aload_n hx hb (xvor _ _) dM_number_28 rfl (lv_at hl 0 rfl) ?_
      refine lv_lload_n hx hb dM_number_29 rfl (lv_at hl 2 rfl) ?_
      obtain ⟨hg10, hf⟩ := xifn hf
      refine xm_vput (v := .long x0) (ty := .long) hx hb htx hown hK hP hD hS 1 (by decide) hg10 (xsN o1.2.2.2 (o1.2.2.1 - 1) x0) rfl rfl rfl xVf_N xVf_N2 ((hZ.1 (96, "n", "J") (List.mem_of_getElem? (i := 1) rfl)).use rfl) rfl rfl (by decide +kernel) rfl rfl dM_number_30 (fun H locs hP hD hS => ?_)
      refine xm_aload_n hx hb (xvor _ _) dM_number_33 rfl (lv_at hl 0 rfl) ?_
      obtain rfl := Option.some.inj hf
      exact W.aret (v := xv vad7 o1.2.2.1) hx hb hr (Or.inl ⟨_, rfl⟩) (xvor _ _) (fun t ht hW => ⟨⟨xca vad7 o1.2.2.1, (ad5, gd6, vad7), rfl, ⟨rfl, hE, hN⟩, by rw [ht]; exact hP, va_K.moved hW.alike hK, hD⟩, hS.F ht⟩) hS.2.2 dM_number_34
    · rw [if_neg hc] at hf
      refine lv_aload_n hx hb dM_number_16 rfl (lv_at hl 0 rfl) ?_
      refine lv_iconst (v := 2) hx hb dM_number_17 (by decide) ?_
      obtain ⟨o1, hq2, hf⟩ := xbind hf
      by_cases hk3 : o1.1 = 1
      · rw [if_pos hk3] at hf
        obtain ⟨hm4, hf⟩ := xmoE hf
        obtain rfl := Option.some.inj hf
        exact absurd (show (1 : Nat) = 0 from hkd) (by decide)
      rw [if_neg hk3] at hf
      exact nomatch hf
set_option maxHeartbeats 400000000 in
set_option maxRecDepth 100000 in
theorem gM_number_1 (l : Launch) (hl9 : l.stackTraces = false) (D : va_G) (cT : Nat → ClassId) (aK aV : Nat → Nat) (sz n : Nat) (aM : Nat) (ad rd gd vad : Nat → Nat) (st : xS) (x0 : Int64) (out : Nat × Nat × Nat × Nat × xS) (hf : fM_number n st x0 = some out) (hkd : out.1 = 1) : xMetY l yM_number wyM_number 7 out.2.1 out.2.2.1 121 D cT aK aV sz [.ref aM, .long x0] (xMw cT aM ad rd gd vad st []) "java/lang/ArithmeticException" (fun u => xE vad st out.2.2.2.2 u) (fun A u t => xB D xcl cT A (xMw cT aM u.1 rd u.2.1 u.2.2 out.2.2.2.2 []) t) := by
  refine vx_ofW (cc := prog_13_method_7_code) (maxL := 4) (ret := (some (.object "ValueBenchModel$V"))) (by decide) rfl ?_
  intro p e s m args below meth c s₁ B hml hne hv
  obtain ⟨rfl, hsz, hZ, hP, hK, hD0⟩ := hv
  have hx := B.exec
  have hb := B.bytes
  have hr := B.returns
  have hts := atoms_spec (ws := wyM_number) B.pre
  have htx := fun w h => hts w (List.mem_cons_of_mem _ h)
  have hown : s.vm.findClass "ValueBenchModel" = some m.cls := findClass_of_methodNamed B.named
  have hlocks := B.notSynchronized
  subst hsz
  have hD := hD0.self (sz := s.heap.size)
  generalize hAe : va_A (xMw cT aM ad rd gd vad st []) s.heap.size = A at hD hZ ⊢
  have hA : ∀ q : Nat, s.heap.size ≤ q → A q := fun q h => by rw [← hAe]; exact Or.inr h
  have hS : va_S A s.heap s.heap [] := va_S.rf
  have hl := lv_entry ([.ref aM, .long x0]) (n := 4) (by simp [lg_sl, xvcat, xrscat, xcI, xcL, xcR, xcN])
  rw [show lv_args 0 [.ref aM, .long x0] = [(0, .ref aM), (1, .long x0)] from by simp [lv_args, xvcat, xrscat, xcI, xcL, xcR, xcN]] at hl
  rw [lg_entry_eq]
  generalize (lg_sl ([.ref aM, .long x0]) ++ List.replicate (4 - (lg_sl ([.ref aM, .long x0])).length) Slot.unset).toArray = ls at hl ⊢
  have hl : lv_has ls 4 [(0, .ref aM), (1, .long x0)] := hl
  have hE : ∀ p, p < xct st → vad p = vad p := fun _ _ => rfl
  have hN : xct st ≤ xct st := Nat.le_refl _
  unfold fM_number at hf
  refine lv_lload_n hx hb dM_number_0 rfl (lv_at hl 1 rfl) ?_
  refine lv_ldc2 hx hb hown (htx _ kw_6_84) dM_number_1 ?_
  refine W.lcmp hx hb dM_number_4 ?_
  refine lv_if_gt (tgt := 16) hx hb dM_number_5 (by decide) (fun hc => ?_) (fun hc => ?_)
  · rw [if_pos hc] at hf
    refine lv_aload_n hx hb dM_number_16 rfl (lv_at hl 0 rfl) ?_
    refine lv_iconst (v := 2) hx hb dM_number_17 (by decide) ?_
    obtain ⟨o1, hq2, hf⟩ := xbind hf
    by_cases hk3 : o1.1 = 1
    · rw [if_pos hk3] at hf
      obtain ⟨hm4, hf⟩ := xmoE hf
      have hFc := xm_free hD hS hA
      refine xx_thr (vx_runV (C := "ValueBenchModel") (As := [.int 2]) (rest := []) ⟨hx, hb, hml, hown, htx⟩ (gM_refuse_1 l hl9 D cT aK aV s.heap.size n aM ad rd gd vad st (2 : Int32) o1 hq2 hk3) ⟨callB_of 1 htx (xw_goodC kw_6_93) rfl rfl rfl (htx _ kw_1_5) (htx _ kw_6_90) ⟨by decide, by decide, by decide +kernel⟩ ⟨Nat.le_of_ble_eq_true rfl, Nat.le_of_ble_eq_true rfl⟩, (htx _ kw_6_92), (htx _ kp_M_refuse)⟩ ⟨xPre_blind, va_recv hK hP (ci := 5) rfl (q0 := 0) rfl, (fun U hU hW => ⟨rfl, xPre_of hZ hS hFc hP hD hK U hU hW⟩)⟩ rfl rfl hl.1 rfl (xm_room (Nat.le_of_ble_eq_true rfl)) dM_number_18 ⟨hm4.1, hm4.2⟩) hS hFc (fun q _ h => hFc q h) (fun E ce q9 u9 t H1 locs ht hvm hr9 hB hz1 hk1 hS hce hcv hcl => ?_)
      obtain ⟨rfl, hP1, hK1, hD1⟩ := hB
      rw [ht] at hP1
      obtain ⟨ad6, gd7, vad8⟩ := u9
      obtain ⟨hv9, hn10⟩ := hr9
      have hP : va_P D xcl (xMw cT aM ad6 rd gd7 vad8 o1.2.2.2.2 []) H1 := hP1
      have hD : va_D A (xMw cT aM ad6 rd gd7 vad8 o1.2.2.2.2 []) := hD1.weaken (fun k q _ h => hFc q.1 h)
      generalize H1 = H at hP hS hce ⊢
      have hE9 : ∀ p, p < xct st → vad8 p = vad p := fun p h => (hv9 p (Nat.lt_of_lt_of_le h hN)).trans (hE p h)
      have hE := hE9
      have hN : xct st ≤ xct o1.2.2.2.2 := Nat.le_trans hN hn10
      obtain rfl := Option.some.inj hf
      exact vx_out (E := "java/lang/ArithmeticException") (fun x h => (hne x h).elim) hlocks hce hcv hcl (fun t ht ha => ⟨(ad6, gd7, vad8), ⟨hE, hN⟩, ⟨rfl, by rw [ht]; exact hP, va_K.moved ha hK, hD⟩, hS.F ht⟩) hS.2.2 (Nat.le_refl _) (Nat.le_refl _)
    rw [if_neg hk3] at hf
    exact nomatch hf
  · rw [if_neg hc] at hf
    refine lv_lload_n hx hb dM_number_8 rfl (lv_at hl 1 rfl) ?_
    refine lv_ldc2 hx hb hown (htx _ kw_6_89) dM_number_9 ?_
    refine W.lcmp hx hb dM_number_12 ?_
    refine lv_if_ge (tgt := 22) hx hb dM_number_13 (by decide) (fun hc => ?_) (fun hc => ?_)
    · rw [if_pos hc] at hf
      refine lv_aload_n hx hb dM_number_22 rfl (lv_at hl 0 rfl) ?_
      refine lv_iconst (v := 3) hx hb dM_number_23 (by decide) ?_
      obtain ⟨o1, hq2, hf⟩ := xbind hf
      obtain ⟨hm3, hf⟩ := xmoE hf
      have hFc := xm_free hD hS hA
      refine va_callq (va_runV (C := "ValueBenchModel") (As := [.int 3]) (rest := []) ⟨hx, hb, hml, hown, htx⟩ (gM_fresh l hl9 D cT aK aV s.heap.size n aM ad rd gd vad st (3 : Int32) o1 hq2) ⟨callB_of 1 htx (xw_goodC kw_6_16) rfl rfl rfl (htx _ kw_1_5) (htx _ kw_6_13) ⟨by decide, by decide, by decide +kernel⟩ ⟨Nat.le_of_ble_eq_true rfl, Nat.le_of_ble_eq_true rfl⟩, (htx _ kw_6_15), (htx _ kp_M_fresh)⟩ ⟨xPre_blind, va_recv hK hP (ci := 5) rfl (q0 := 0) rfl, (fun U hU hW => ⟨rfl, xPre_of hZ hS hFc hP hD hK U hU hW⟩)⟩ rfl rfl hl.1 rfl (xm_room (Nat.le_of_ble_eq_true rfl)) dM_number_24 ⟨hm3.1, hm3.2⟩) hS (fun q _ h => hFc q h) hFc (fun r4 u9 t H1 locs ht hvm hr9 hB hz1 hk1 hS => ?_)
      obtain ⟨hP1, hK1, hD1⟩ := hB
      rw [ht] at hP1
      obtain ⟨ad5, gd6, vad7⟩ := u9
      obtain ⟨hr9, hv8, hn9⟩ := hr9
      have hP : va_P D xcl (xMw cT aM ad5 rd gd6 vad7 o1.2.2.2 []) H1 := hP1
      have hD : va_D A (xMw cT aM ad5 rd gd6 vad7 o1.2.2.2 []) := hD1.weaken (fun k q _ h => hFc q.1 h)
      generalize H1 = H at hP hS ⊢
      have hE9 : ∀ p, p < xct st → vad7 p = vad p := fun p h => (hv8 p (Nat.lt_of_lt_of_le h hN)).trans (hE p h)
      have hE := hE9
      have hN : xct st ≤ xct o1.2.2.2 := Nat.le_trans hN hn9
      rw [hr9]
      refine W.eq (g2 := F0 m 27 ls [xv vad7 o1.2.2.1]) (by first | rfl | (skip; rfl)) ?_
      refine xm_astore_n (lv' := [(3, xv vad7 o1.2.2.1), (0, .ref aM), (1, .long x0)]) hx hb (xvor _ _) dM_number_27 rfl hl (by decide) rfl (fun ls hl => ?_)
      refine xm_aload_n hx hb (xvor _ _) dM_number_28 rfl (lv_at hl 0 rfl) ?_
      refine lv_lload_n hx hb dM_number_29 rfl (lv_at hl 2 rfl) ?_
      obtain ⟨hg10, hf⟩ := xifn hf
      refine xm_vput (v := .long x0) (ty := .long) hx hb htx hown hK hP hD hS 1 (by decide) hg10 (xsN o1.2.2.2 (o1.2.2.1 - 1) x0) rfl rfl rfl xVf_N xVf_N2 ((hZ.1 (96, "n", "J") (List.mem_of_getElem? (i := 1) rfl)).use rfl) rfl rfl (by decide +kernel) rfl rfl dM_number_30 (fun H locs hP hD hS => ?_)
      refine xm_aload_n hx hb (xvor _ _) dM_number_33 rfl (lv_at hl 0 rfl) ?_
      obtain rfl := Option.some.inj hf
      exact absurd (show (0 : Nat) = 1 from hkd) (by decide)
    · rw [if_neg hc] at hf
      refine lv_aload_n hx hb dM_number_16 rfl (lv_at hl 0 rfl) ?_
      refine lv_iconst (v := 2) hx hb dM_number_17 (by decide) ?_
      obtain ⟨o1, hq2, hf⟩ := xbind hf
      by_cases hk3 : o1.1 = 1
      · rw [if_pos hk3] at hf
        obtain ⟨hm4, hf⟩ := xmoE hf
        have hFc := xm_free hD hS hA
        refine xx_thr (vx_runV (C := "ValueBenchModel") (As := [.int 2]) (rest := []) ⟨hx, hb, hml, hown, htx⟩ (gM_refuse_1 l hl9 D cT aK aV s.heap.size n aM ad rd gd vad st (2 : Int32) o1 hq2 hk3) ⟨callB_of 1 htx (xw_goodC kw_6_93) rfl rfl rfl (htx _ kw_1_5) (htx _ kw_6_90) ⟨by decide, by decide, by decide +kernel⟩ ⟨Nat.le_of_ble_eq_true rfl, Nat.le_of_ble_eq_true rfl⟩, (htx _ kw_6_92), (htx _ kp_M_refuse)⟩ ⟨xPre_blind, va_recv hK hP (ci := 5) rfl (q0 := 0) rfl, (fun U hU hW => ⟨rfl, xPre_of hZ hS hFc hP hD hK U hU hW⟩)⟩ rfl rfl hl.1 rfl (xm_room (Nat.le_of_ble_eq_true rfl)) dM_number_18 ⟨hm4.1, hm4.2⟩) hS hFc (fun q _ h => hFc q h) (fun E ce q9 u9 t H1 locs ht hvm hr9 hB hz1 hk1 hS hce hcv hcl => ?_)
        obtain ⟨rfl, hP1, hK1, hD1⟩ := hB
        rw [ht] at hP1
        obtain ⟨ad6, gd7, vad8⟩ := u9
        obtain ⟨hv9, hn10⟩ := hr9
        have hP : va_P D xcl (xMw cT aM ad6 rd gd7 vad8 o1.2.2.2.2 []) H1 := hP1
        have hD : va_D A (xMw cT aM ad6 rd gd7 vad8 o1.2.2.2.2 []) := hD1.weaken (fun k q _ h => hFc q.1 h)
        generalize H1 = H at hP hS hce ⊢
        have hE9 : ∀ p, p < xct st → vad8 p = vad p := fun p h => (hv9 p (Nat.lt_of_lt_of_le h hN)).trans (hE p h)
        have hE := hE9
        have hN : xct st ≤ xct o1.2.2.2.2 := Nat.le_trans hN hn10
        obtain rfl := Option.some.inj hf
        exact vx_out (E := "java/lang/ArithmeticException") (fun x h => (hne x h).elim) hlocks hce hcv hcl (fun t ht ha => ⟨(ad6, gd7, vad8), ⟨hE, hN⟩, ⟨rfl, by rw [ht]; exact hP, va_K.moved ha hK, hD⟩, hS.F ht⟩) hS.2.2 (Nat.le_refl _) (Nat.le_refl _)
      rw [if_neg hk3] at hf
      exact nomatch hf
set_option maxHeartbeats 400000000 in
set_option maxRecDepth 100000 in
theorem gM_kid (l : Launch) (hl9 : l.stackTraces = false) (D : va_G) (cT : Nat → ClassId) (aK aV : Nat → Nat) (sz n : Nat) (aM : Nat) (ad rd gd vad : Nat → Nat) (st : xS) (c0 : Nat) (x1 : Int32) (out : Nat) (hf : fM_kid n st c0 x1 = some out) : xMet l yM_kid wyM_kid 0 0 0 0 D cT aK aV sz [.ref aM, xv vad c0, .int x1] (xMw cT aM ad rd gd vad st []) (fun A => va_Qq (fun (r : Option Nat) (_ : Unit) => r = xca vad out) (fun _ t => xB D xcl cT A (xMw cT aM ad rd gd vad st []) t) A) := by
  refine Met.ofW (cc := prog_13_method_16_code) (maxL := 3) (ret := (some (.object "ValueBenchModel$V"))) (by decide) rfl ?_
  intro p e s m args below meth c s₁ B hml hv
  obtain ⟨rfl, hsz, hZ, hP, hK, hD0⟩ := hv
  have hx := B.exec
  have hb := B.bytes
  have hr := B.returns
  have hts := atoms_spec (ws := wyM_kid) B.pre
  have htx := fun w h => hts w (List.mem_cons_of_mem _ h)
  have hown : s.vm.findClass "ValueBenchModel" = some m.cls := findClass_of_methodNamed B.named
  have hlocks := B.notSynchronized
  subst hsz
  have hD := hD0.self (sz := s.heap.size)
  generalize hAe : va_A (xMw cT aM ad rd gd vad st []) s.heap.size = A at hD hZ ⊢
  have hA : ∀ q : Nat, s.heap.size ≤ q → A q := fun q h => by rw [← hAe]; exact Or.inr h
  have hS : va_S A s.heap s.heap [] := va_S.rf
  have hl := lv_entry ([.ref aM, xv vad c0, .int x1]) (n := 3) (by simp [lg_sl, xvcat, xrscat, xcI, xcL, xcR, xcN])
  rw [show lv_args 0 [.ref aM, xv vad c0, .int x1] = [(0, .ref aM), (1, xv vad c0), (2, .int x1)] from by simp [lv_args, xvcat, xrscat, xcI, xcL, xcR, xcN]] at hl
  rw [lg_entry_eq]
  generalize (lg_sl ([.ref aM, xv vad c0, .int x1]) ++ List.replicate (3 - (lg_sl ([.ref aM, xv vad c0, .int x1])).length) Slot.unset).toArray = ls at hl ⊢
  have hl : lv_has ls 3 [(0, .ref aM), (1, xv vad c0), (2, .int x1)] := hl
  unfold fM_kid at hf
  refine lv_aload_n hx hb dM_kid_0 rfl (lv_at hl 0 rfl) ?_
  refine xm_get (v := .ref (ad 5)) hx hb htx hown hK hP 5 (by decide) rfl (htx _ kw_5_92) rfl dM_kid_1 ?_
  refine xm_aload_n hx hb (xvor _ _) dM_kid_4 rfl (lv_at hl 1 rfl) ?_
  obtain ⟨hg1, hf⟩ := xifn hf
  refine xm_vget (v := .int ((xpi st 2) (c0 - 1))) hx hb htx hown hK hP 2 (by decide) hg1 rfl ((hZ.1 (100, "off", "I") (List.mem_of_getElem? (i := 2) rfl)).use rfl) rfl dM_kid_5 ?_
  refine lv_iload_n hx hb dM_kid_8 rfl (lv_at hl 2 rfl) ?_
  refine lv_iadd hx hb dM_kid_9 ?_
  obtain ⟨hg2, hf⟩ := xifn hf
  refine va_aldq hx hb hK hP 3 4 rfl rfl hg2 dM_kid_10 ?_
  refine W.eq (g2 := F0 m 11 ls [xv vad ((xvc st 5) (((xpi st 2) (c0 - 1)) + x1).toNatClampNeg)]) rfl ?_
  obtain rfl := Option.some.inj hf
  exact W.aret (v := xv vad ((xvc st 5) (((xpi st 2) (c0 - 1)) + x1).toNatClampNeg)) hx hb hr (Or.inl ⟨_, rfl⟩) (xvor _ _) (fun t ht hW => ⟨⟨xca vad ((xvc st 5) (((xpi st 2) (c0 - 1)) + x1).toNatClampNeg), (), rfl, rfl, by rw [ht]; exact hP, va_K.moved hW.alike hK, hD⟩, hS.F ht⟩) hS.2.2 dM_kid_11
set_option maxHeartbeats 400000000 in
set_option maxRecDepth 100000 in
theorem gM_wait (l : Launch) (hl9 : l.stackTraces = false) (D : va_G) (cT : Nat → ClassId) (aK aV : Nat → Nat) (sz n : Nat) (aM : Nat) (ad rd gd vad : Nat → Nat) (st : xS) (c0 : Nat) (c1 : Nat) (out : Nat × Nat × xS) (hf : fM_wait n st c0 c1 = some out) : xMet l yM_wait wyM_wait 0 out.1 out.2.1 0 D cT aK aV sz [.ref aM, xv vad c0, xv vad c1] (xMw cT aM ad rd gd vad st []) (fun A => va_Qv (fun u : xU => xE vad st out.2.2 u) (fun u t => xB D xcl cT A (xMw cT aM u.1 rd u.2.1 u.2.2 out.2.2 []) t) A) := by
  refine Met.ofW (cc := prog_13_method_14_code) (maxL := 6) (ret := none) (by decide) rfl ?_
  intro p e s m args below meth c s₁ B hml hv
  obtain ⟨rfl, hsz, hZ, hP, hK, hD0⟩ := hv
  have hx := B.exec
  have hb := B.bytes
  have hr := B.returns
  have hts := atoms_spec (ws := wyM_wait) B.pre
  have htx := fun w h => hts w (List.mem_cons_of_mem _ h)
  have hown : s.vm.findClass "ValueBenchModel" = some m.cls := findClass_of_methodNamed B.named
  have hlocks := B.notSynchronized
  subst hsz
  have hD := hD0.self (sz := s.heap.size)
  generalize hAe : va_A (xMw cT aM ad rd gd vad st []) s.heap.size = A at hD hZ ⊢
  have hA : ∀ q : Nat, s.heap.size ≤ q → A q := fun q h => by rw [← hAe]; exact Or.inr h
  have hS : va_S A s.heap s.heap [] := va_S.rf
  have hl := lv_entry ([.ref aM, xv vad c0, xv vad c1]) (n := 6) (by simp [lg_sl, xvcat, xrscat, xcI, xcL, xcR, xcN])
  rw [show lv_args 0 [.ref aM, xv vad c0, xv vad c1] = [(0, .ref aM), (1, xv vad c0), (2, xv vad c1)] from by simp [lv_args, xvcat, xrscat, xcI, xcL, xcR, xcN]] at hl
  rw [lg_entry_eq]
  generalize (lg_sl ([.ref aM, xv vad c0, xv vad c1]) ++ List.replicate (6 - (lg_sl ([.ref aM, xv vad c0, xv vad c1])).length) Slot.unset).toArray = ls at hl ⊢
  have hl : lv_has ls 6 [(0, .ref aM), (1, xv vad c0), (2, xv vad c1)] := hl
  have hE : ∀ p, p < xct st → vad p = vad p := fun _ _ => rfl
  have hN : xct st ≤ xct st := Nat.le_refl _
  unfold fM_wait at hf
  refine xloopM (σ := Nat × Int32 × Nat × Nat × Nat × (Nat → Nat) × Nat × (Nat → Nat) × xS × Nat × Nat) (fun n x H locs ls => (∃ (adL gdL vadL : Nat → Nat) (tq0 : Nat) (tq1 : Nat), x.1 = 1 ∧ fM_wait_b n x.1 x.2.1 x.2.2.1 x.2.2.2.1 x.2.2.2.2.1 x.2.2.2.2.2.1 x.2.2.2.2.2.2.1 x.2.2.2.2.2.2.2.1 x.2.2.2.2.2.2.2.2.1 x.2.2.2.2.2.2.2.2.2.1 x.2.2.2.2.2.2.2.2.2.2 = some out ∧ va_P D xcl (xMw cT aM adL rd gdL vadL x.2.2.2.2.2.2.2.2.1 [(tq0, .inl (cT 4, x.2.2.2.2.1, .inr (.inr (.inr (.inr (xcf vadL x.2.2.2.2.2.1)))))), (tq1, .inl (cT 4, x.2.2.2.2.2.2.1, .inr (.inr (.inr (.inr (xcf vadL x.2.2.2.2.2.2.2.1))))))]) H ∧ va_D A (xMw cT aM adL rd gdL vadL x.2.2.2.2.2.2.2.2.1 [(tq0, .inl (cT 4, x.2.2.2.2.1, .inr (.inr (.inr (.inr (xcf vadL x.2.2.2.2.2.1)))))), (tq1, .inl (cT 4, x.2.2.2.2.2.2.1, .inr (.inr (.inr (.inr (xcf vadL x.2.2.2.2.2.2.2.1))))))]) ∧ va_S A s.heap H locs ∧ lv_has ls 6 [(5, .int x.2.1), (4, .ref tq1), (3, .ref tq0), (0, .ref aM), (1, xv vadL x.2.2.1), (2, xv vadL x.2.2.2.1)] ∧ (∀ p, p < xct st → vadL p = vad p) ∧ xct st ≤ xct x.2.2.2.2.2.2.2.2.1)) (fun x => 36) (fun x => x.2.2.2.2.2.2.2.2.2.1) (fun x => x.2.2.2.2.2.2.2.2.2.2) (fun x H locs ls h => by (obtain ⟨_, _, _, _, _, h⟩ := h; exact absurd h.2.1 (by rw [fM_wait_b]; exact fun h => nomatch h))) (fun n ih x H locs ls hv => ?_) (fun key => ?_)
  · obtain ⟨lb, y5, y1, y2, tn0, tf0, tn1, tf1, ws9, wc, wn⟩ := x
    rcases hv with ⟨adL, gdL, vadL, tq0, tq1, hj, hf, hP, hD, hS, hl, hE, hN⟩
    subst hj
    have hf : fM_wait_b (n + 1) 1 y5 y1 y2 tn0 tf0 tn1 tf1 ws9 wc wn = some out := hf
    rw [fM_wait_b] at hf
    obtain ⟨hP, hD⟩ : xPD D xcl A (xMw cT aM adL rd gdL vadL ws9 [(tq0, .inl (cT 4, tn0, .inr (.inr (.inr (.inr (xcf vadL tf0)))))), (tq1, .inl (cT 4, tn1, .inr (.inr (.inr (.inr (xcf vadL tf1))))))]) H := ⟨hP, hD⟩
    have hl : lv_has ls 6 [(5, .int y5), (4, .ref tq1), (3, .ref tq0), (0, .ref aM), (1, xv vadL y1), (2, xv vadL y2)] := hl
    refine W.eq (g2 := F0 m 36 ls []) rfl ?_
    show W p l e _ s m _ below meth c H locs wc wn _ _
    obtain ⟨hm0, hf⟩ := xmoE hf
    refine lv_iload hx hb dM_wait_36 (lv_at hl 0 rfl) ?_
    refine lv_aload_n hx hb dM_wait_38 rfl (lv_at hl 3 rfl) ?_
    refine xm_get (v := .int (xsi ws9 12)) hx hb htx hown hK hP 12 (by decide) rfl (htx _ kw_5_99) rfl dM_wait_39 ?_
    refine lv_icmp_ge (tgt := 74) hx hb dM_wait_42 (by decide) (fun hc => ?_) (fun hc => ?_)
    · rw [if_pos hc] at hf
      refine lv_aload_n hx hb dM_wait_74 rfl (lv_at hl 3 rfl) ?_
      refine lv_aload_n hx hb dM_wait_75 rfl (lv_at hl 2 rfl) ?_
      refine xm_put (v := .ref tq0) (W' := ((aM, Sum.inr (5, (xMf adL rd gdL ws9).set 10 (.ref tq0))) :: (xMa cT adL rd vadL ws9 ++ ([(tq0, .inl (cT 4, tn0, .inr (.inr (.inr (.inr (xcf vadL tf0)))))), (tq1, .inl (cT 4, tn1, .inr (.inr (.inr (.inr (xcf vadL tf1))))))] ++ (xMg cT gdL ws9 ++ xMt vadL ws9))))) (ty := (.array (.object "ValueBenchModel$V"))) hx hb htx hown hK hP hD hS 10 (by decide) rfl (htx _ kw_5_97) rfl rfl (by decide +kernel) rfl rfl dM_wait_76 (fun H locs hP hD hS => ?_)
      obtain ⟨hP, hD⟩ := xm_part (X := ((aM, Sum.inr (5, (xMf adL rd gdL ws9).set 10 (.ref tq0))) :: (xMa cT adL rd vadL ws9 ++ [(tq0, .inl (cT 4, tn0, .inr (.inr (.inr (.inr (xcf vadL tf0)))))), (tq1, .inl (cT 4, tn1, .inr (.inr (.inr (.inr (xcf vadL tf1))))))]))) (cx := xMe cT aM (va_up adL 10 tq0) rd gdL vadL (xsH ws9 10 tn0 tf0) ++ [(tq1, .inl (cT 4, tn1, .inr (.inr (.inr (.inr (xcf vadL tf1))))))]) (G := xMg cT gdL ws9 ++ xMt vadL ws9) (W2 := (xMw cT aM (va_up adL 10 tq0) rd gdL vadL (xsH ws9 10 tn0 tf0) [(tq1, .inl (cT 4, tn1, .inr (.inr (.inr (.inr (xcf vadL tf1))))))])) hP hD rfl [0, 1, 2, 3, 4, 22, 6, 7, 8, 9, 10, 11, 12, 13, 14, 15, 16, 17, 18, 19, 20, 21, 23] rfl (by decide) rfl
      have hl : lv_has ls 6 [(5, .int y5), (4, .ref tq1), (0, .ref aM), (1, xv vadL y1), (2, xv vadL y2)] := lv_sub hl [0, 1, 3, 4, 5] rfl
      generalize (va_up adL 10 tq0) = ad1 at hP hD
      refine lv_aload_n hx hb dM_wait_79 rfl (lv_at hl 2 rfl) ?_
      refine lv_aload hx hb dM_wait_80 (lv_at hl 1 rfl) ?_
      refine xm_put (v := .ref tq1) (W' := ((aM, Sum.inr (5, (xMf ad1 rd gdL (xsH ws9 10 tn0 tf0)).set 11 (.ref tq1))) :: (xMa cT ad1 rd vadL (xsH ws9 10 tn0 tf0) ++ ([(tq1, .inl (cT 4, tn1, .inr (.inr (.inr (.inr (xcf vadL tf1))))))] ++ (xMg cT gdL (xsH ws9 10 tn0 tf0) ++ xMt vadL (xsH ws9 10 tn0 tf0)))))) (ty := (.array (.object "ValueBenchModel$V"))) hx hb htx hown hK hP hD hS 11 (by decide) rfl (htx _ kw_5_98) rfl rfl (by decide +kernel) rfl rfl dM_wait_82 (fun H locs hP hD hS => ?_)
      obtain ⟨hP, hD⟩ := xm_part (X := ((aM, Sum.inr (5, (xMf ad1 rd gdL (xsH ws9 10 tn0 tf0)).set 11 (.ref tq1))) :: (xMa cT ad1 rd vadL (xsH ws9 10 tn0 tf0) ++ [(tq1, .inl (cT 4, tn1, .inr (.inr (.inr (.inr (xcf vadL tf1))))))]))) (cx := xMe cT aM (va_up ad1 11 tq1) rd gdL vadL (xsH (xsH ws9 10 tn0 tf0) 11 tn1 tf1) ++ []) (G := xMg cT gdL (xsH ws9 10 tn0 tf0) ++ xMt vadL (xsH ws9 10 tn0 tf0)) (W2 := (xMw cT aM (va_up ad1 11 tq1) rd gdL vadL (xsH (xsH ws9 10 tn0 tf0) 11 tn1 tf1) [])) hP hD rfl [0, 1, 2, 3, 4, 5, 22, 7, 8, 9, 10, 11, 12, 13, 14, 15, 16, 17, 18, 19, 20, 21] rfl (by decide) rfl
      have hl : lv_has ls 6 [(5, .int y5), (0, .ref aM), (1, xv vadL y1), (2, xv vadL y2)] := lv_sub hl [0, 2, 3, 4] rfl
      generalize (va_up ad1 11 tq1) = ad3 at hP hD
      refine lv_aload_n hx hb dM_wait_85 rfl (lv_at hl 1 rfl) ?_
      refine xm_get (v := .ref (ad3 10)) hx hb htx hown hK hP 10 (by decide) rfl (htx _ kw_5_97) rfl dM_wait_86 ?_
      refine lv_aload_n hx hb dM_wait_89 rfl (lv_at hl 1 rfl) ?_
      refine xm_get (v := .int (xsi ws9 12)) hx hb htx hown hK hP 12 (by decide) rfl (htx _ kw_5_99) rfl dM_wait_90 ?_
      refine xm_aload_n hx hb (xvor _ _) dM_wait_93 rfl (lv_at hl 3 rfl) ?_
      obtain ⟨hg5, hf⟩ := xifn hf
      obtain ⟨hg6, hf⟩ := xifn hf
      refine xm_ast (x := y2) (W' := (xMw cT aM ad3 rd gdL vadL (xsC (xsH (xsH ws9 10 tn0 tf0) 11 tn1 tf1) 10 ((xsi ws9 12).toNatClampNeg) y2) [])) hx hb hK hP hD hS 5 rfl hg5 hg6 dM_wait_94 rfl (fun H locs hP hD hS => ?_)
      refine lv_aload_n hx hb dM_wait_95 rfl (lv_at hl 1 rfl) ?_
      refine xm_get (v := .ref (ad3 11)) hx hb htx hown hK hP 11 (by decide) rfl (htx _ kw_5_98) rfl dM_wait_96 ?_
      refine lv_aload_n hx hb dM_wait_99 rfl (lv_at hl 1 rfl) ?_
      refine xm_get (v := .int (xsi ws9 12)) hx hb htx hown hK hP 12 (by decide) rfl (htx _ kw_5_99) rfl dM_wait_100 ?_
      refine xm_aload_n hx hb (xvor _ _) dM_wait_103 rfl (lv_at hl 2 rfl) ?_
      obtain ⟨hg7, hf⟩ := xifn hf
      obtain ⟨hg8, hf⟩ := xifn hf
      refine xm_ast (x := y1) (W' := (xMw cT aM ad3 rd gdL vadL (xsC (xsC (xsH (xsH ws9 10 tn0 tf0) 11 tn1 tf1) 10 ((xsi ws9 12).toNatClampNeg) y2) 11 ((xsi ws9 12).toNatClampNeg) y1) [])) hx hb hK hP hD hS 6 rfl hg7 hg8 dM_wait_104 rfl (fun H locs hP hD hS => ?_)
      refine lv_aload_n hx hb dM_wait_105 rfl (lv_at hl 1 rfl) ?_
      refine lv_dup hx hb dM_wait_106 rfl ?_
      refine xm_get (v := .int (xsi ws9 12)) hx hb htx hown hK hP 12 (by decide) rfl (htx _ kw_5_99) rfl dM_wait_107 ?_
      refine lv_iconst (v := 1) hx hb dM_wait_110 (by decide) ?_
      refine lv_iadd hx hb dM_wait_111 ?_
      refine xm_put (v := .int ((xsi ws9 12) + (1 : Int32))) (W' := (xMw cT aM ad3 rd gdL vadL (xsI (xsC (xsC (xsH (xsH ws9 10 tn0 tf0) 11 tn1 tf1) 10 ((xsi ws9 12).toNatClampNeg) y2) 11 ((xsi ws9 12).toNatClampNeg) y1) 12 ((xsi ws9 12) + (1 : Int32))) [])) (ty := .int) hx hb htx hown hK hP hD hS 12 (by decide) rfl (htx _ kw_5_99) rfl rfl (by decide +kernel) rfl rfl dM_wait_112 (fun H locs hP hD hS => ?_)
      obtain rfl := Option.some.inj hf
      exact W.vret hx hb hr (fun t ht hW => ⟨⟨(ad3, gdL, vadL), rfl, ⟨hE, hN⟩, by rw [ht]; exact hP, va_K.moved hW.alike hK, hD⟩, hS.F ht⟩) hS.2.2 dM_wait_115
    · rw [if_neg hc] at hf
      refine lv_aload_n hx hb dM_wait_45 rfl (lv_at hl 2 rfl) ?_
      refine lv_iload hx hb dM_wait_46 (lv_at hl 0 rfl) ?_
      refine lv_aload_n hx hb dM_wait_48 rfl (lv_at hl 3 rfl) ?_
      refine xm_get (v := .ref (adL 10)) hx hb htx hown hK hP 10 (by decide) rfl (htx _ kw_5_97) rfl dM_wait_49 ?_
      refine lv_iload hx hb dM_wait_52 (lv_at hl 0 rfl) ?_
      obtain ⟨hg1, hf⟩ := xifn hf
      refine va_aldq hx hb hK hP 5 4 rfl rfl hg1 dM_wait_54 ?_
      refine W.eq (g2 := F0 m 55 ls [xv vadL ((xvc ws9 10) y5.toNatClampNeg), .int y5, .ref tq0]) rfl ?_
      obtain ⟨hg2, hf⟩ := xifn hf
      obtain ⟨hg3, hf⟩ := xifn hf
      refine xm_ast (x := ((xvc ws9 10) y5.toNatClampNeg)) (W' := (xMw cT aM adL rd gdL vadL ws9 [(tq0, .inl (cT 4, tn0, .inr (.inr (.inr (.inr (xcf vadL (va_up tf0 y5.toNatClampNeg ((xvc ws9 10) y5.toNatClampNeg)))))))), (tq1, .inl (cT 4, tn1, .inr (.inr (.inr (.inr (xcf vadL tf1))))))])) hx hb hK hP hD hS 22 rfl hg2 hg3 dM_wait_55 rfl (fun H locs hP hD hS => ?_)
      refine lv_aload hx hb dM_wait_56 (lv_at hl 1 rfl) ?_
      refine lv_iload hx hb dM_wait_58 (lv_at hl 0 rfl) ?_
      refine lv_aload_n hx hb dM_wait_60 rfl (lv_at hl 3 rfl) ?_
      refine xm_get (v := .ref (adL 11)) hx hb htx hown hK hP 11 (by decide) rfl (htx _ kw_5_98) rfl dM_wait_61 ?_
      refine lv_iload hx hb dM_wait_64 (lv_at hl 0 rfl) ?_
      obtain ⟨hg4, hf⟩ := xifn hf
      refine va_aldq hx hb hK hP 6 4 rfl rfl hg4 dM_wait_66 ?_
      refine W.eq (g2 := F0 m 67 ls [xv vadL ((xvc ws9 11) y5.toNatClampNeg), .int y5, .ref tq1]) rfl ?_
      obtain ⟨hg5, hf⟩ := xifn hf
      obtain ⟨hg6, hf⟩ := xifn hf
      refine xm_ast (x := ((xvc ws9 11) y5.toNatClampNeg)) (W' := (xMw cT aM adL rd gdL vadL ws9 [(tq0, .inl (cT 4, tn0, .inr (.inr (.inr (.inr (xcf vadL (va_up tf0 y5.toNatClampNeg ((xvc ws9 10) y5.toNatClampNeg)))))))), (tq1, .inl (cT 4, tn1, .inr (.inr (.inr (.inr (xcf vadL (va_up tf1 y5.toNatClampNeg ((xvc ws9 11) y5.toNatClampNeg))))))))])) hx hb hK hP hD hS 23 rfl hg5 hg6 dM_wait_67 rfl (fun H locs hP hD hS => ?_)
      refine lv_iinc (v := (y5 + 1)) (lv' := [(5, .int (y5 + 1)), (4, .ref tq1), (3, .ref tq0), (0, .ref aM), (1, xv vadL y1), (2, xv vadL y2)]) hx hb dM_wait_68 hl (k := 0) rfl rfl (by decide) rfl (fun ls hl => ?_)
      refine lv_goto (tgt := 36) hx hb dM_wait_71 (by decide) ?_
      exact ih (1, (y5 + 1), y1, y2, tn0, (va_up tf0 y5.toNatClampNeg ((xvc ws9 10) y5.toNatClampNeg)), tn1, (va_up tf1 y5.toNatClampNeg ((xvc ws9 11) y5.toNatClampNeg)), ws9, wc, wn) _ _ ls (⟨adL, gdL, vadL, tq0, tq1, rfl, hf, hP, hD, hS, lv_sub hl [0, 1, 2, 3, 4, 5] rfl, hE, hN⟩)
  refine lv_aload_n hx hb dM_wait_0 rfl (lv_at hl 0 rfl) ?_
  refine xm_get (v := .int (xsi st 12)) hx hb htx hown hK hP 12 (by decide) rfl (htx _ kw_5_99) rfl dM_wait_1 ?_
  refine lv_aload_n hx hb dM_wait_4 rfl (lv_at hl 0 rfl) ?_
  refine xm_get (v := .ref (ad 10)) hx hb htx hown hK hP 10 (by decide) rfl (htx _ kw_5_97) rfl dM_wait_5 ?_
  refine va_alen (v := Int32.ofNat (xln st 10)) hx hb hK hP 5 4 rfl rfl rfl dM_wait_8 ?_
  refine lv_icmp_ne (tgt := 85) hx hb dM_wait_9 (by decide) (fun hc => ?_) (fun hc => ?_)
  · rw [if_neg hc] at hf
    refine lv_aload_n hx hb dM_wait_85 rfl (lv_at hl 0 rfl) ?_
    refine xm_get (v := .ref (ad 10)) hx hb htx hown hK hP 10 (by decide) rfl (htx _ kw_5_97) rfl dM_wait_86 ?_
    refine lv_aload_n hx hb dM_wait_89 rfl (lv_at hl 0 rfl) ?_
    refine xm_get (v := .int (xsi st 12)) hx hb htx hown hK hP 12 (by decide) rfl (htx _ kw_5_99) rfl dM_wait_90 ?_
    refine xm_aload_n hx hb (xvor _ _) dM_wait_93 rfl (lv_at hl 2 rfl) ?_
    obtain ⟨hg1, hf⟩ := xifn hf
    obtain ⟨hg2, hf⟩ := xifn hf
    refine xm_ast (x := c1) (W' := (xMw cT aM ad rd gd vad (xsC st 10 ((xsi st 12).toNatClampNeg) c1) [])) hx hb hK hP hD hS 5 rfl hg1 hg2 dM_wait_94 rfl (fun H locs hP hD hS => ?_)
    refine lv_aload_n hx hb dM_wait_95 rfl (lv_at hl 0 rfl) ?_
    refine xm_get (v := .ref (ad 11)) hx hb htx hown hK hP 11 (by decide) rfl (htx _ kw_5_98) rfl dM_wait_96 ?_
    refine lv_aload_n hx hb dM_wait_99 rfl (lv_at hl 0 rfl) ?_
    refine xm_get (v := .int (xsi st 12)) hx hb htx hown hK hP 12 (by decide) rfl (htx _ kw_5_99) rfl dM_wait_100 ?_
    refine xm_aload_n hx hb (xvor _ _) dM_wait_103 rfl (lv_at hl 1 rfl) ?_
    obtain ⟨hg3, hf⟩ := xifn hf
    obtain ⟨hg4, hf⟩ := xifn hf
    refine xm_ast (x := c0) (W' := (xMw cT aM ad rd gd vad (xsC (xsC st 10 ((xsi st 12).toNatClampNeg) c1) 11 ((xsi st 12).toNatClampNeg) c0) [])) hx hb hK hP hD hS 6 rfl hg3 hg4 dM_wait_104 rfl (fun H locs hP hD hS => ?_)
    refine lv_aload_n hx hb dM_wait_105 rfl (lv_at hl 0 rfl) ?_
    refine lv_dup hx hb dM_wait_106 rfl ?_
    refine xm_get (v := .int (xsi st 12)) hx hb htx hown hK hP 12 (by decide) rfl (htx _ kw_5_99) rfl dM_wait_107 ?_
    refine lv_iconst (v := 1) hx hb dM_wait_110 (by decide) ?_
    refine lv_iadd hx hb dM_wait_111 ?_
    refine xm_put (v := .int ((xsi st 12) + (1 : Int32))) (W' := (xMw cT aM ad rd gd vad (xsI (xsC (xsC st 10 ((xsi st 12).toNatClampNeg) c1) 11 ((xsi st 12).toNatClampNeg) c0) 12 ((xsi st 12) + (1 : Int32))) [])) (ty := .int) hx hb htx hown hK hP hD hS 12 (by decide) rfl (htx _ kw_5_99) rfl rfl (by decide +kernel) rfl rfl dM_wait_112 (fun H locs hP hD hS => ?_)
    obtain rfl := Option.some.inj hf
    exact W.vret hx hb hr (fun t ht hW => ⟨⟨(ad, gd, vad), rfl, ⟨hE, hN⟩, by rw [ht]; exact hP, va_K.moved hW.alike hK, hD⟩, hS.F ht⟩) hS.2.2 dM_wait_115
  · rw [if_pos hc] at hf
    refine lv_iconst (v := 2) hx hb dM_wait_12 (by decide) ?_
    refine lv_aload_n hx hb dM_wait_13 rfl (lv_at hl 0 rfl) ?_
    refine xm_get (v := .int (xsi st 12)) hx hb htx hown hK hP 12 (by decide) rfl (htx _ kw_5_99) rfl dM_wait_14 ?_
    refine lv_imul hx hb dM_wait_17 ?_
    obtain ⟨hg1, hf⟩ := xifn hf
    obtain ⟨hm2, hf⟩ := xmoE hf
    refine va_newq (C := "ValueBenchModel$V") (N' := ((2 : Int32) * (xsi st 12)).toNatClampNeg) (n := ((2 : Int32) * (xsi st 12))) hx hb hown (htx _ kw_5_80) hZ.2.2.1.2 hK hP hD hS hA (fun h => hg1 (Or.inl h)) rfl (by have := fun h => hg1 (Or.inr h); show _ * 4 ≤ _; omega) hm2.1 hm2.2 dM_wait_18 (fun qz3 cA9 H hK9 hP hD hS => ?_)
    obtain rfl := xk_eq hK9 4 rfl
    rw [xcf_0 vad] at hP hD
    replace hP := xm_tmpP hP
    replace hD := xm_tmpD hD
    obtain ⟨hP, hD⟩ : xPD D xcl A (xMw cT aM ad rd gd vad st [(qz3, .inl (cT 4, ((2 : Int32) * (xsi st 12)).toNatClampNeg, .inr (.inr (.inr (.inr (xcf vad (fun _ => 0)))))))]) H := ⟨hP, hD⟩
    refine lv_astore_n (lv' := [(3, .ref qz3), (0, .ref aM), (1, xv vad c0), (2, xv vad c1)]) hx hb dM_wait_21 rfl hl (by decide) (by simp only [List.filter, xvcat, xrscat, xcI, xcL, xcR, xcN]; rfl) (fun ls hl => ?_)
    refine lv_iconst (v := 2) hx hb dM_wait_22 (by decide) ?_
    refine lv_aload_n hx hb dM_wait_23 rfl (lv_at hl 1 rfl) ?_
    refine xm_get (v := .int (xsi st 12)) hx hb htx hown hK hP 12 (by decide) rfl (htx _ kw_5_99) rfl dM_wait_24 ?_
    refine lv_imul hx hb dM_wait_27 ?_
    obtain ⟨hg4, hf⟩ := xifn hf
    obtain ⟨hm5, hf⟩ := xmoE hf
    refine va_newq (C := "ValueBenchModel$V") (N' := ((2 : Int32) * (xsi st 12)).toNatClampNeg) (n := ((2 : Int32) * (xsi st 12))) hx hb hown (htx _ kw_5_80) hZ.2.2.1.2 hK hP hD hS hA (fun h => hg4 (Or.inl h)) rfl (by have := fun h => hg4 (Or.inr h); show _ * 4 ≤ _; omega) hm5.1 hm5.2 dM_wait_28 (fun qz6 cA9 H hK9 hP hD hS => ?_)
    obtain rfl := xk_eq hK9 4 rfl
    rw [xcf_0 vad] at hP hD
    replace hP := xm_tmpP hP
    replace hD := xm_tmpD hD
    obtain ⟨hP, hD⟩ : xPD D xcl A (xMw cT aM ad rd gd vad st [(qz3, .inl (cT 4, ((2 : Int32) * (xsi st 12)).toNatClampNeg, .inr (.inr (.inr (.inr (xcf vad (fun _ => 0))))))), (qz6, .inl (cT 4, ((2 : Int32) * (xsi st 12)).toNatClampNeg, .inr (.inr (.inr (.inr (xcf vad (fun _ => 0)))))))]) H := ⟨hP, hD⟩
    refine lv_astore (lv' := [(4, .ref qz6), (3, .ref qz3), (0, .ref aM), (1, xv vad c0), (2, xv vad c1)]) hx hb dM_wait_31 hl (by decide) rfl (fun ls hl => ?_)
    refine lv_iconst (v := 0) hx hb dM_wait_33 (by decide) ?_
    refine lv_istore (lv' := [(5, .int 0), (4, .ref qz6), (3, .ref qz3), (0, .ref aM), (1, xv vad c0), (2, xv vad c1)]) hx hb dM_wait_34 hl (by decide) rfl (fun ls hl => ?_)
    exact key n (1, (0 : Int32), c0, c1, ((2 : Int32) * (xsi st 12)).toNatClampNeg, (fun _ => 0), ((2 : Int32) * (xsi st 12)).toNatClampNeg, (fun _ => 0), st, ((0 + 1) + 1), ((0 + ((2 : Int32) * (xsi st 12)).toNatClampNeg) + ((2 : Int32) * (xsi st 12)).toNatClampNeg)) _ _ ls (⟨ad, gd, vad, qz3, qz6, rfl, hf, hP, hD, hS, lv_sub hl [0, 1, 2, 3, 4, 5] rfl, hE, hN⟩)
set_option maxHeartbeats 400000000 in
set_option maxRecDepth 100000 in
theorem gM_name (l : Launch) (hl9 : l.stackTraces = false) (D : va_G) (cT : Nat → ClassId) (aK aV : Nat → Nat) (sz n : Nat) (aM : Nat) (ad rd gd vad : Nat → Nat) (st : xS) (c0 : Nat) (x1 : Int32) (out : Nat) (hf : fM_name n st c0 x1 = some out) : xMet l yM_name wyM_name 0 0 0 0 D cT aK aV sz [.ref aM, xv vad c0, .int x1] (xMw cT aM ad rd gd vad st []) (fun A => va_Qq (fun (r : Option Nat) (_ : Unit) => r = xca vad out) (fun _ t => xB D xcl cT A (xMw cT aM ad rd gd vad st []) t) A) := by
  refine Met.ofW (cc := prog_13_method_17_code) (maxL := 3) (ret := (some (.object "ValueBenchModel$V"))) (by decide) rfl ?_
  intro p e s m args below meth c s₁ B hml hv
  obtain ⟨rfl, hsz, hZ, hP, hK, hD0⟩ := hv
  have hx := B.exec
  have hb := B.bytes
  have hr := B.returns
  have hts := atoms_spec (ws := wyM_name) B.pre
  have htx := fun w h => hts w (List.mem_cons_of_mem _ h)
  have hown : s.vm.findClass "ValueBenchModel" = some m.cls := findClass_of_methodNamed B.named
  have hlocks := B.notSynchronized
  subst hsz
  have hD := hD0.self (sz := s.heap.size)
  generalize hAe : va_A (xMw cT aM ad rd gd vad st []) s.heap.size = A at hD hZ ⊢
  have hA : ∀ q : Nat, s.heap.size ≤ q → A q := fun q h => by rw [← hAe]; exact Or.inr h
  have hS : va_S A s.heap s.heap [] := va_S.rf
  have hl := lv_entry ([.ref aM, xv vad c0, .int x1]) (n := 3) (by simp [lg_sl, xvcat, xrscat, xcI, xcL, xcR, xcN])
  rw [show lv_args 0 [.ref aM, xv vad c0, .int x1] = [(0, .ref aM), (1, xv vad c0), (2, .int x1)] from by simp [lv_args, xvcat, xrscat, xcI, xcL, xcR, xcN]] at hl
  rw [lg_entry_eq]
  generalize (lg_sl ([.ref aM, xv vad c0, .int x1]) ++ List.replicate (3 - (lg_sl ([.ref aM, xv vad c0, .int x1])).length) Slot.unset).toArray = ls at hl ⊢
  have hl : lv_has ls 3 [(0, .ref aM), (1, xv vad c0), (2, .int x1)] := hl
  unfold fM_name at hf
  refine lv_aload_n hx hb dM_name_0 rfl (lv_at hl 0 rfl) ?_
  refine xm_get (v := .ref (ad 6)) hx hb htx hown hK hP 6 (by decide) rfl (htx _ kw_5_93) rfl dM_name_1 ?_
  refine xm_aload_n hx hb (xvor _ _) dM_name_4 rfl (lv_at hl 1 rfl) ?_
  obtain ⟨hg1, hf⟩ := xifn hf
  refine xm_vget (v := .int ((xpi st 2) (c0 - 1))) hx hb htx hown hK hP 2 (by decide) hg1 rfl ((hZ.1 (100, "off", "I") (List.mem_of_getElem? (i := 2) rfl)).use rfl) rfl dM_name_5 ?_
  refine lv_iload_n hx hb dM_name_8 rfl (lv_at hl 2 rfl) ?_
  refine lv_iadd hx hb dM_name_9 ?_
  obtain ⟨hg2, hf⟩ := xifn hf
  refine va_aldq hx hb hK hP 4 4 rfl rfl hg2 dM_name_10 ?_
  refine W.eq (g2 := F0 m 11 ls [xv vad ((xvc st 6) (((xpi st 2) (c0 - 1)) + x1).toNatClampNeg)]) rfl ?_
  obtain rfl := Option.some.inj hf
  exact W.aret (v := xv vad ((xvc st 6) (((xpi st 2) (c0 - 1)) + x1).toNatClampNeg)) hx hb hr (Or.inl ⟨_, rfl⟩) (xvor _ _) (fun t ht hW => ⟨⟨xca vad ((xvc st 6) (((xpi st 2) (c0 - 1)) + x1).toNatClampNeg), (), rfl, rfl, by rw [ht]; exact hP, va_K.moved hW.alike hK, hD⟩, hS.F ht⟩) hS.2.2 dM_name_11
set_option maxHeartbeats 400000000 in
set_option maxRecDepth 100000 in
theorem gM_sameText (l : Launch) (hl9 : l.stackTraces = false) (D : va_G) (cT : Nat → ClassId) (aK aV : Nat → Nat) (sz n : Nat) (aM : Nat) (ad rd gd vad : Nat → Nat) (st : xS) (c0 : Nat) (c1 : Nat) (out : Int32) (hf : fM_sameText n st c0 c1 = some out) : xMet l yM_sameText wyM_sameText 0 0 0 0 D cT aK aV sz [.ref aM, xv vad c0, xv vad c1] (xMw cT aM ad rd gd vad st []) (fun A => va_Qi (fun (r : Int32) (_ : Unit) => r = out) (fun _ t => xB D xcl cT A (xMw cT aM ad rd gd vad st []) t) A) := by
  refine Met.ofW (cc := prog_13_method_19_code) (maxL := 4) (ret := (some .boolean)) (by decide) rfl ?_
  intro p e s m args below meth c s₁ B hml hv
  obtain ⟨rfl, hsz, hZ, hP, hK, hD0⟩ := hv
  have hx := B.exec
  have hb := B.bytes
  have hr := B.returns
  have hts := atoms_spec (ws := wyM_sameText) B.pre
  have htx := fun w h => hts w (List.mem_cons_of_mem _ h)
  have hown : s.vm.findClass "ValueBenchModel" = some m.cls := findClass_of_methodNamed B.named
  have hlocks := B.notSynchronized
  subst hsz
  have hD := hD0.self (sz := s.heap.size)
  generalize hAe : va_A (xMw cT aM ad rd gd vad st []) s.heap.size = A at hD hZ ⊢
  have hA : ∀ q : Nat, s.heap.size ≤ q → A q := fun q h => by rw [← hAe]; exact Or.inr h
  have hS : va_S A s.heap s.heap [] := va_S.rf
  have hl := lv_entry ([.ref aM, xv vad c0, xv vad c1]) (n := 4) (by simp [lg_sl, xvcat, xrscat, xcI, xcL, xcR, xcN])
  rw [show lv_args 0 [.ref aM, xv vad c0, xv vad c1] = [(0, .ref aM), (1, xv vad c0), (2, xv vad c1)] from by simp [lv_args, xvcat, xrscat, xcI, xcL, xcR, xcN]] at hl
  rw [lg_entry_eq]
  generalize (lg_sl ([.ref aM, xv vad c0, xv vad c1]) ++ List.replicate (4 - (lg_sl ([.ref aM, xv vad c0, xv vad c1])).length) Slot.unset).toArray = ls at hl ⊢
  have hl : lv_has ls 4 [(0, .ref aM), (1, xv vad c0), (2, xv vad c1)] := hl
  unfold fM_sameText at hf
  refine xloopM (σ := Nat × Int32 × Nat × Nat) (fun n x H locs ls => (x.1 = 1 ∧ fM_sameText_b st n x.1 x.2.1 x.2.2.1 x.2.2.2 = some out ∧ va_P D xcl (xMw cT aM ad rd gd vad st []) H ∧ va_D A (xMw cT aM ad rd gd vad st []) ∧ va_S A s.heap H locs ∧ lv_has ls 4 [(3, .int x.2.1), (0, .ref aM), (1, xv vad x.2.2.1), (2, xv vad x.2.2.2)])) (fun x => 15) (fun x => 0) (fun x => 0) (fun x H locs ls h => by (exact absurd h.2.1 (by rw [fM_sameText_b]; exact fun h => nomatch h))) (fun n ih x H locs ls hv => ?_) (fun key => ?_)
  · obtain ⟨lb, y3, y1, y2⟩ := x
    rcases hv with ⟨hj, hf, hP, hD, hS, hl⟩
    subst hj
    have hf : fM_sameText_b st (n + 1) 1 y3 y1 y2 = some out := hf
    rw [fM_sameText_b] at hf
    obtain ⟨hP, hD⟩ : xPD D xcl A (xMw cT aM ad rd gd vad st []) H := ⟨hP, hD⟩
    have hl : lv_has ls 4 [(3, .int y3), (0, .ref aM), (1, xv vad y1), (2, xv vad y2)] := hl
    refine W.eq (g2 := F0 m 15 ls []) rfl ?_
    refine lv_iload_n hx hb dM_sameText_15 rfl (lv_at hl 0 rfl) ?_
    refine xm_aload_n hx hb (xvor _ _) dM_sameText_16 rfl (lv_at hl 2 rfl) ?_
    obtain ⟨hg1, hf⟩ := xifn hf
    refine xm_vget (v := .int ((xpi st 3) (y1 - 1))) hx hb htx hown hK hP 3 (by decide) hg1 rfl ((hZ.1 (103, "count", "I") (List.mem_of_getElem? (i := 3) rfl)).use rfl) rfl dM_sameText_17 ?_
    refine lv_icmp_ge (tgt := 56) hx hb dM_sameText_20 (by decide) (fun hc => ?_) (fun hc => ?_)
    · rw [if_pos hc] at hf
      refine lv_iconst (v := 1) hx hb dM_sameText_56 (by decide) ?_
      obtain rfl := Option.some.inj hf
      exact W.zret (v := (1 : Int32)) hx hb hr rfl (fun t ht hW => ⟨⟨(1 : Int32), (), rfl, rfl, by rw [ht]; exact hP, va_K.moved hW.alike hK, hD⟩, hS.F ht⟩) hS.2.2 dM_sameText_57
    · rw [if_neg hc] at hf
      refine lv_aload_n hx hb dM_sameText_23 rfl (lv_at hl 1 rfl) ?_
      refine xm_get (v := .ref (ad 3)) hx hb htx hown hK hP 3 (by decide) rfl (htx _ kw_5_90) rfl dM_sameText_24 ?_
      refine xm_aload_n hx hb (xvor _ _) dM_sameText_27 rfl (lv_at hl 2 rfl) ?_
      refine xm_vget (v := .int ((xpi st 2) (y1 - 1))) hx hb htx hown hK hP 2 (by decide) hg1 rfl ((hZ.1 (100, "off", "I") (List.mem_of_getElem? (i := 2) rfl)).use rfl) rfl dM_sameText_28 ?_
      refine lv_iload_n hx hb dM_sameText_31 rfl (lv_at hl 0 rfl) ?_
      refine lv_iadd hx hb dM_sameText_32 ?_
      obtain ⟨hg2, hf⟩ := xifn hf
      refine va_bald hx hb hK hP 2 0 rfl rfl hg2 dM_sameText_33 ?_
      refine W.eq (g2 := F0 m 34 ls [.int ((xba st 3) (((xpi st 2) (y1 - 1)) + y3).toNatClampNeg)]) rfl ?_
      refine lv_aload_n hx hb dM_sameText_34 rfl (lv_at hl 1 rfl) ?_
      refine xm_get (v := .ref (ad 3)) hx hb htx hown hK hP 3 (by decide) rfl (htx _ kw_5_90) rfl dM_sameText_35 ?_
      refine xm_aload_n hx hb (xvor _ _) dM_sameText_38 rfl (lv_at hl 3 rfl) ?_
      obtain ⟨hg3, hf⟩ := xifn hf
      refine xm_vget (v := .int ((xpi st 2) (y2 - 1))) hx hb htx hown hK hP 2 (by decide) hg3 rfl ((hZ.1 (100, "off", "I") (List.mem_of_getElem? (i := 2) rfl)).use rfl) rfl dM_sameText_39 ?_
      refine lv_iload_n hx hb dM_sameText_42 rfl (lv_at hl 0 rfl) ?_
      refine lv_iadd hx hb dM_sameText_43 ?_
      obtain ⟨hg4, hf⟩ := xifn hf
      refine va_bald hx hb hK hP 2 0 rfl rfl hg4 dM_sameText_44 ?_
      refine W.eq (g2 := F0 m 45 ls [.int ((xba st 3) (((xpi st 2) (y2 - 1)) + y3).toNatClampNeg), .int ((xba st 3) (((xpi st 2) (y1 - 1)) + y3).toNatClampNeg)]) rfl ?_
      refine lv_icmp_eq (tgt := 50) hx hb dM_sameText_45 (by decide) (fun hc => ?_) (fun hc => ?_)
      · rw [if_pos hc] at hf
        refine lv_iinc (v := (y3 + 1)) (lv' := [(3, .int (y3 + 1)), (0, .ref aM), (1, xv vad y1), (2, xv vad y2)]) hx hb dM_sameText_50 hl (k := 0) rfl rfl (by decide) (by simp only [List.filter, xvcat, xrscat, xcI, xcL, xcR, xcN]; rfl) (fun ls hl => ?_)
        refine lv_goto (tgt := 15) hx hb dM_sameText_53 (by decide) ?_
        exact ih (1, (y3 + 1), y1, y2) _ _ ls (⟨rfl, hf, hP, hD, hS, lv_sub hl [0, 1, 2, 3] rfl⟩)
      · rw [if_neg hc] at hf
        refine lv_iconst (v := 0) hx hb dM_sameText_48 (by decide) ?_
        obtain rfl := Option.some.inj hf
        exact W.zret (v := (0 : Int32)) hx hb hr rfl (fun t ht hW => ⟨⟨(0 : Int32), (), rfl, rfl, by rw [ht]; exact hP, va_K.moved hW.alike hK, hD⟩, hS.F ht⟩) hS.2.2 dM_sameText_49
  refine xm_aload_n hx hb (xvor _ _) dM_sameText_0 rfl (lv_at hl 1 rfl) ?_
  obtain ⟨hg1, hf⟩ := xifn hf
  refine xm_vget (v := .int ((xpi st 3) (c0 - 1))) hx hb htx hown hK hP 3 (by decide) hg1 rfl ((hZ.1 (103, "count", "I") (List.mem_of_getElem? (i := 3) rfl)).use rfl) rfl dM_sameText_1 ?_
  refine xm_aload_n hx hb (xvor _ _) dM_sameText_4 rfl (lv_at hl 2 rfl) ?_
  obtain ⟨hg2, hf⟩ := xifn hf
  refine xm_vget (v := .int ((xpi st 3) (c1 - 1))) hx hb htx hown hK hP 3 (by decide) hg2 rfl ((hZ.1 (103, "count", "I") (List.mem_of_getElem? (i := 3) rfl)).use rfl) rfl dM_sameText_5 ?_
  refine lv_icmp_eq (tgt := 13) hx hb dM_sameText_8 (by decide) (fun hc => ?_) (fun hc => ?_)
  · rw [if_pos hc] at hf
    refine lv_iconst (v := 0) hx hb dM_sameText_13 (by decide) ?_
    refine lv_istore_n (lv' := [(3, .int 0), (0, .ref aM), (1, xv vad c0), (2, xv vad c1)]) hx hb dM_sameText_14 rfl hl (by decide) (by simp only [List.filter, xvcat, xrscat, xcI, xcL, xcR, xcN]; rfl) (fun ls hl => ?_)
    exact key n (1, (0 : Int32), c0, c1) _ _ ls (⟨rfl, hf, hP, hD, hS, lv_sub hl [0, 1, 2, 3] rfl⟩)
  · rw [if_neg hc] at hf
    refine lv_iconst (v := 0) hx hb dM_sameText_11 (by decide) ?_
    obtain rfl := Option.some.inj hf
    exact W.zret (v := (0 : Int32)) hx hb hr rfl (fun t ht hW => ⟨⟨(0 : Int32), (), rfl, rfl, by rw [ht]; exact hP, va_K.moved hW.alike hK, hD⟩, hS.F ht⟩) hS.2.2 dM_sameText_12
set_option maxHeartbeats 400000000 in
set_option maxRecDepth 100000 in
theorem gM_place (l : Launch) (hl9 : l.stackTraces = false) (D : va_G) (cT : Nat → ClassId) (aK aV : Nat → Nat) (sz n : Nat) (aM : Nat) (ad rd gd vad : Nat → Nat) (st : xS) (c0 : Nat) (c1 : Nat) (out : Int32) (hf : fM_place n st c0 c1 = some out) : xMet l yM_place wyM_place 1 0 0 23 D cT aK aV sz [.ref aM, xv vad c0, xv vad c1] (xMw cT aM ad rd gd vad st []) (fun A => va_Qi (fun (r : Int32) (_ : Unit) => r = out) (fun _ t => xB D xcl cT A (xMw cT aM ad rd gd vad st []) t) A) := by
  refine Met.ofW (cc := prog_13_method_20_code) (maxL := 4) (ret := (some .int)) (by decide) rfl ?_
  intro p e s m args below meth c s₁ B hml hv
  obtain ⟨rfl, hsz, hZ, hP, hK, hD0⟩ := hv
  have hx := B.exec
  have hb := B.bytes
  have hr := B.returns
  have hts := atoms_spec (ws := wyM_place) B.pre
  have htx := fun w h => hts w (List.mem_cons_of_mem _ h)
  have hown : s.vm.findClass "ValueBenchModel" = some m.cls := findClass_of_methodNamed B.named
  have hlocks := B.notSynchronized
  subst hsz
  have hD := hD0.self (sz := s.heap.size)
  generalize hAe : va_A (xMw cT aM ad rd gd vad st []) s.heap.size = A at hD hZ ⊢
  have hA : ∀ q : Nat, s.heap.size ≤ q → A q := fun q h => by rw [← hAe]; exact Or.inr h
  have hS : va_S A s.heap s.heap [] := va_S.rf
  have hl := lv_entry ([.ref aM, xv vad c0, xv vad c1]) (n := 4) (by simp [lg_sl, xvcat, xrscat, xcI, xcL, xcR, xcN])
  rw [show lv_args 0 [.ref aM, xv vad c0, xv vad c1] = [(0, .ref aM), (1, xv vad c0), (2, xv vad c1)] from by simp [lv_args, xvcat, xrscat, xcI, xcL, xcR, xcN]] at hl
  rw [lg_entry_eq]
  generalize (lg_sl ([.ref aM, xv vad c0, xv vad c1]) ++ List.replicate (4 - (lg_sl ([.ref aM, xv vad c0, xv vad c1])).length) Slot.unset).toArray = ls at hl ⊢
  have hl : lv_has ls 4 [(0, .ref aM), (1, xv vad c0), (2, xv vad c1)] := hl
  unfold fM_place at hf
  refine xloopM (σ := Nat × Int32 × Nat × Nat) (fun n x H locs ls => (x.1 = 1 ∧ fM_place_b st n x.1 x.2.1 x.2.2.1 x.2.2.2 = some out ∧ va_P D xcl (xMw cT aM ad rd gd vad st []) H ∧ va_D A (xMw cT aM ad rd gd vad st []) ∧ va_S A s.heap H locs ∧ lv_has ls 4 [(3, .int x.2.1), (0, .ref aM), (1, xv vad x.2.2.1), (2, xv vad x.2.2.2)])) (fun x => 2) (fun x => 0) (fun x => 0) (fun x H locs ls h => by (exact absurd h.2.1 (by rw [fM_place_b]; exact fun h => nomatch h))) (fun n ih x H locs ls hv => ?_) (fun key => ?_)
  · obtain ⟨lb, y3, y1, y2⟩ := x
    rcases hv with ⟨hj, hf, hP, hD, hS, hl⟩
    subst hj
    have hf : fM_place_b st (n + 1) 1 y3 y1 y2 = some out := hf
    rw [fM_place_b] at hf
    obtain ⟨hP, hD⟩ : xPD D xcl A (xMw cT aM ad rd gd vad st []) H := ⟨hP, hD⟩
    have hl : lv_has ls 4 [(3, .int y3), (0, .ref aM), (1, xv vad y1), (2, xv vad y2)] := hl
    refine W.eq (g2 := F0 m 2 ls []) rfl ?_
    refine lv_iload_n hx hb dM_place_2 rfl (lv_at hl 0 rfl) ?_
    refine xm_aload_n hx hb (xvor _ _) dM_place_3 rfl (lv_at hl 2 rfl) ?_
    obtain ⟨hg1, hf⟩ := xifn hf
    refine xm_vget (v := .int ((xpi st 3) (y1 - 1))) hx hb htx hown hK hP 3 (by decide) hg1 rfl ((hZ.1 (103, "count", "I") (List.mem_of_getElem? (i := 3) rfl)).use rfl) rfl dM_place_4 ?_
    refine lv_icmp_ge (tgt := 32) hx hb dM_place_7 (by decide) (fun hc => ?_) (fun hc => ?_)
    · rw [if_pos hc] at hf
      refine lv_iconst (v := (-1)) hx hb dM_place_32 (by decide) ?_
      obtain rfl := Option.some.inj hf
      exact W.iret (v := ((-1) : Int32)) hx hb hr (fun t ht hW => ⟨⟨((-1) : Int32), (), rfl, rfl, by rw [ht]; exact hP, va_K.moved hW.alike hK, hD⟩, hS.F ht⟩) hS.2.2 dM_place_33
    · rw [if_neg hc] at hf
      refine lv_aload_n hx hb dM_place_10 rfl (lv_at hl 1 rfl) ?_
      refine lv_aload_n hx hb dM_place_11 rfl (lv_at hl 1 rfl) ?_
      refine xm_aload_n hx hb (xvor _ _) dM_place_12 rfl (lv_at hl 2 rfl) ?_
      refine lv_iload_n hx hb dM_place_13 rfl (lv_at hl 0 rfl) ?_
      obtain ⟨o2, hq3, hf⟩ := xbind hf
      have hFc := xm_free hD hS hA
      refine va_callq (va_runV (C := "ValueBenchModel") (As := [xv vad y1, .int y3]) (rest := [.ref aM]) ⟨hx, hb, hml, hown, htx⟩ (gM_name l hl9 D cT aK aV H.size n aM ad rd gd vad st y1 y3 o2 hq3) ⟨callB_of 2 htx (xw_goodC kw_6_154) rfl rfl rfl (htx _ kw_1_5) (htx _ kw_6_151) ⟨by decide, by decide, by decide +kernel⟩ ⟨Nat.le_of_ble_eq_true rfl, Nat.le_of_ble_eq_true rfl⟩, (htx _ kw_6_153), (htx _ kp_M_name)⟩ ⟨xPre_blind, va_recv hK hP (ci := 5) rfl (q0 := 0) rfl, (fun U hU hW => ⟨rfl, xPre_of hZ hS hFc hP hD hK U hU hW⟩)⟩ rfl rfl hl.1 rfl (xm_room (Nat.le_of_ble_eq_true rfl)) dM_place_14 ⟨Nat.le_of_ble_eq_true rfl, Nat.le_of_ble_eq_true rfl⟩) hS (fun q _ h => hFc q h) hFc (fun r4 u9 t H1 locs ht hvm hr9 hB hz1 hk1 hS => ?_)
      obtain ⟨hP1, hK1, hD1⟩ := hB
      rw [ht] at hP1
      have hP : va_P D xcl (xMw cT aM ad rd gd vad st []) H1 := hP1
      have hD : va_D A (xMw cT aM ad rd gd vad st []) := hD1.weaken (fun k q _ h => hFc q.1 h)
      generalize H1 = H at hP hS ⊢
      rw [hr9]
      refine W.eq (g2 := F0 m 17 ls [xv vad o2, .ref aM]) (by first | rfl | (skip; rfl)) ?_
      refine xm_aload_n hx hb (xvor _ _) dM_place_17 rfl (lv_at hl 3 rfl) ?_
      obtain ⟨o5, hq6, hf⟩ := xbind hf
      have hFc := xm_free hD hS hA
      refine va_calli (va_runV (C := "ValueBenchModel") (As := [xv vad o2, xv vad y2]) (rest := []) ⟨hx, hb, hml, hown, htx⟩ (gM_sameText l hl9 D cT aK aV H.size n aM ad rd gd vad st o2 y2 o5 hq6) ⟨callB_of 2 htx (xw_goodC kw_6_120) rfl rfl rfl (htx _ kw_1_5) (htx _ kw_6_117) ⟨by decide, by decide, by decide +kernel⟩ ⟨Nat.le_of_ble_eq_true rfl, Nat.le_of_ble_eq_true rfl⟩, (htx _ kw_6_119), (htx _ kp_M_sameText)⟩ ⟨xPre_blind, va_recv hK hP (ci := 5) rfl (q0 := 0) rfl, (fun U hU hW => ⟨rfl, xPre_of hZ hS hFc hP hD hK U hU hW⟩)⟩ rfl rfl hl.1 rfl (xm_room (Nat.le_of_ble_eq_true rfl)) dM_place_18 ⟨Nat.le_of_ble_eq_true rfl, Nat.le_of_ble_eq_true rfl⟩) hS (fun q _ h => hFc q h) hFc (fun r7 u9 t H1 locs ht hvm hr9 hB hz1 hk1 hS => ?_)
      obtain ⟨hP1, hK1, hD1⟩ := hB
      rw [ht] at hP1
      have hP : va_P D xcl (xMw cT aM ad rd gd vad st []) H1 := hP1
      have hD : va_D A (xMw cT aM ad rd gd vad st []) := hD1.weaken (fun k q _ h => hFc q.1 h)
      generalize H1 = H at hP hS ⊢
      rw [hr9]
      refine W.eq (g2 := F0 m 21 ls [.int o5]) (by first | rfl | (skip; rfl)) ?_
      refine lv_if_eq (tgt := 26) hx hb dM_place_21 (by decide) (fun hc => ?_) (fun hc => ?_)
      · rw [if_pos hc] at hf
        refine lv_iinc (v := (y3 + 1)) (lv' := [(3, .int (y3 + 1)), (0, .ref aM), (1, xv vad y1), (2, xv vad y2)]) hx hb dM_place_26 hl (k := 0) rfl rfl (by decide) (by simp only [List.filter, xvcat, xrscat, xcI, xcL, xcR, xcN]; rfl) (fun ls hl => ?_)
        refine lv_goto (tgt := 2) hx hb dM_place_29 (by decide) ?_
        exact ih (1, (y3 + 1), y1, y2) _ _ ls (⟨rfl, hf, hP, hD, hS, lv_sub hl [0, 1, 2, 3] rfl⟩)
      · rw [if_neg hc] at hf
        refine lv_iload_n hx hb dM_place_24 rfl (lv_at hl 0 rfl) ?_
        obtain rfl := Option.some.inj hf
        exact W.iret (v := y3) hx hb hr (fun t ht hW => ⟨⟨y3, (), rfl, rfl, by rw [ht]; exact hP, va_K.moved hW.alike hK, hD⟩, hS.F ht⟩) hS.2.2 dM_place_25
  refine lv_iconst (v := 0) hx hb dM_place_0 (by decide) ?_
  refine lv_istore_n (lv' := [(3, .int 0), (0, .ref aM), (1, xv vad c0), (2, xv vad c1)]) hx hb dM_place_1 rfl hl (by decide) (by simp only [List.filter, xvcat, xrscat, xcI, xcL, xcR, xcN]; rfl) (fun ls hl => ?_)
  exact key n (1, (0 : Int32), c0, c1) _ _ ls (⟨rfl, hf, hP, hD, hS, lv_sub hl [0, 1, 2, 3] rfl⟩)
set_option maxHeartbeats 400000000 in
set_option maxRecDepth 100000 in
theorem gM_whole (l : Launch) (hl9 : l.stackTraces = false) (D : va_G) (cT : Nat → ClassId) (aK aV : Nat → Nat) (sz n : Nat) (aM : Nat) (ad rd gd vad : Nat → Nat) (st : xS) (x0 : Int32) (x1 : Int32) (out : Nat × Nat × Nat × Nat × xS) (hf : fM_whole n st x0 x1 = some out) (hkd : out.1 = 0) : xMet l yM_whole wyM_whole 7 out.2.1 out.2.2.1 120 D cT aK aV sz [.ref aM, .int x0, .int x1] (xMw cT aM ad rd gd vad st []) (fun A => va_Qq (fun (r : Option Nat) (u : xU) => r = xca u.2.2 out.2.2.2.1 ∧ xE vad st out.2.2.2.2 u) (fun u t => xB D xcl cT A (xMw cT aM u.1 rd u.2.1 u.2.2 out.2.2.2.2 []) t) A) := by
  refine Met.ofW (cc := prog_13_method_15_code) (maxL := 8) (ret := (some (.object "ValueBenchModel$V"))) (by decide) rfl ?_
  intro p e s m args below meth c s₁ B hml hv
  obtain ⟨rfl, hsz, hZ, hP, hK, hD0⟩ := hv
  have hx := B.exec
  have hb := B.bytes
  have hr := B.returns
  have hts := atoms_spec (ws := wyM_whole) B.pre
  have htx := fun w h => hts w (List.mem_cons_of_mem _ h)
  have hown : s.vm.findClass "ValueBenchModel" = some m.cls := findClass_of_methodNamed B.named
  have hlocks := B.notSynchronized
  subst hsz
  have hD := hD0.self (sz := s.heap.size)
  generalize hAe : va_A (xMw cT aM ad rd gd vad st []) s.heap.size = A at hD hZ ⊢
  have hA : ∀ q : Nat, s.heap.size ≤ q → A q := fun q h => by rw [← hAe]; exact Or.inr h
  have hS : va_S A s.heap s.heap [] := va_S.rf
  have hl := lv_entry ([.ref aM, .int x0, .int x1]) (n := 8) (by simp [lg_sl, xvcat, xrscat, xcI, xcL, xcR, xcN])
  rw [show lv_args 0 [.ref aM, .int x0, .int x1] = [(0, .ref aM), (1, .int x0), (2, .int x1)] from by simp [lv_args, xvcat, xrscat, xcI, xcL, xcR, xcN]] at hl
  rw [lg_entry_eq]
  generalize (lg_sl ([.ref aM, .int x0, .int x1]) ++ List.replicate (8 - (lg_sl ([.ref aM, .int x0, .int x1])).length) Slot.unset).toArray = ls at hl ⊢
  have hl : lv_has ls 8 [(0, .ref aM), (1, .int x0), (2, .int x1)] := hl
  have hE : ∀ p, p < xct st → vad p = vad p := fun _ _ => rfl
  have hN : xct st ≤ xct st := Nat.le_refl _
  unfold fM_whole at hf
  refine xloopM (σ := Nat × Nat × Int32 × Int32 × Int32 × Int32 × Int64 × Nat × (Nat → Nat) × Nat × (Nat → Nat) × xS × Nat × Nat) (fun n x H locs ls => (∃ (adL gdL vadL : Nat → Nat), x.1 = 1 ∧ fM_whole_b n x.1 x.2.1 x.2.2.1 x.2.2.2.1 x.2.2.2.2.1 x.2.2.2.2.2.1 x.2.2.2.2.2.2.1 x.2.2.2.2.2.2.2.1 x.2.2.2.2.2.2.2.2.1 x.2.2.2.2.2.2.2.2.2.1 x.2.2.2.2.2.2.2.2.2.2.1 x.2.2.2.2.2.2.2.2.2.2.2.1 x.2.2.2.2.2.2.2.2.2.2.2.2.1 x.2.2.2.2.2.2.2.2.2.2.2.2.2 = some out ∧ va_P D xcl (xMw cT aM adL rd gdL vadL x.2.2.2.2.2.2.2.2.2.2.2.1 []) H ∧ va_D A (xMw cT aM adL rd gdL vadL x.2.2.2.2.2.2.2.2.2.2.2.1 []) ∧ va_S A s.heap H locs ∧ lv_has ls 8 [(3, xv vadL x.2.1), (0, .ref aM), (1, .int x.2.2.1), (2, .int x.2.2.2.1)] ∧ (∀ p, p < xct st → vadL p = vad p) ∧ xct st ≤ xct x.2.2.2.2.2.2.2.2.2.2.2.1) ∨ (∃ (adL gdL vadL : Nat → Nat) (tq0 : Nat) (tq1 : Nat), x.1 = 2 ∧ fM_whole_b n x.1 x.2.1 x.2.2.1 x.2.2.2.1 x.2.2.2.2.1 x.2.2.2.2.2.1 x.2.2.2.2.2.2.1 x.2.2.2.2.2.2.2.1 x.2.2.2.2.2.2.2.2.1 x.2.2.2.2.2.2.2.2.2.1 x.2.2.2.2.2.2.2.2.2.2.1 x.2.2.2.2.2.2.2.2.2.2.2.1 x.2.2.2.2.2.2.2.2.2.2.2.2.1 x.2.2.2.2.2.2.2.2.2.2.2.2.2 = some out ∧ va_P D xcl (xMw cT aM adL rd gdL vadL x.2.2.2.2.2.2.2.2.2.2.2.1 [(tq0, .inl (cT 4, x.2.2.2.2.2.2.2.1, .inr (.inr (.inr (.inr (xcf vadL x.2.2.2.2.2.2.2.2.1)))))), (tq1, .inl (cT 4, x.2.2.2.2.2.2.2.2.2.1, .inr (.inr (.inr (.inr (xcf vadL x.2.2.2.2.2.2.2.2.2.2.1))))))]) H ∧ va_D A (xMw cT aM adL rd gdL vadL x.2.2.2.2.2.2.2.2.2.2.2.1 [(tq0, .inl (cT 4, x.2.2.2.2.2.2.2.1, .inr (.inr (.inr (.inr (xcf vadL x.2.2.2.2.2.2.2.2.1)))))), (tq1, .inl (cT 4, x.2.2.2.2.2.2.2.2.2.1, .inr (.inr (.inr (.inr (xcf vadL x.2.2.2.2.2.2.2.2.2.2.1))))))]) ∧ va_S A s.heap H locs ∧ lv_has ls 8 [(6, .int x.2.2.2.2.1), (5, .ref tq1), (4, .ref tq0), (3, xv vadL x.2.1), (0, .ref aM), (1, .int x.2.2.1), (2, .int x.2.2.2.1)] ∧ (∀ p, p < xct st → vadL p = vad p) ∧ xct st ≤ xct x.2.2.2.2.2.2.2.2.2.2.2.1) ∨ (∃ (adL gdL vadL : Nat → Nat), x.1 = 3 ∧ fM_whole_b n x.1 x.2.1 x.2.2.1 x.2.2.2.1 x.2.2.2.2.1 x.2.2.2.2.2.1 x.2.2.2.2.2.2.1 x.2.2.2.2.2.2.2.1 x.2.2.2.2.2.2.2.2.1 x.2.2.2.2.2.2.2.2.2.1 x.2.2.2.2.2.2.2.2.2.2.1 x.2.2.2.2.2.2.2.2.2.2.2.1 x.2.2.2.2.2.2.2.2.2.2.2.2.1 x.2.2.2.2.2.2.2.2.2.2.2.2.2 = some out ∧ va_P D xcl (xMw cT aM adL rd gdL vadL x.2.2.2.2.2.2.2.2.2.2.2.1 []) H ∧ va_D A (xMw cT aM adL rd gdL vadL x.2.2.2.2.2.2.2.2.2.2.2.1 []) ∧ va_S A s.heap H locs ∧ lv_has ls 8 [(7, .int x.2.2.2.2.2.1), (6, .int x.2.2.2.2.1), (4, .long x.2.2.2.2.2.2.1), (3, xv vadL x.2.1), (0, .ref aM), (1, .int x.2.2.1), (2, .int x.2.2.2.1)] ∧ (∀ p, p < xct st → vadL p = vad p) ∧ xct st ≤ xct x.2.2.2.2.2.2.2.2.2.2.2.1)) (fun x => if x.1 = 1 then 24 else if x.1 = 2 then 68 else 131) (fun x => x.2.2.2.2.2.2.2.2.2.2.2.2.1) (fun x => x.2.2.2.2.2.2.2.2.2.2.2.2.2) (fun x H locs ls h => by rcases h with h | h | h; (obtain ⟨_, _, _, h⟩ := h; exact absurd h.2.1 (by rw [fM_whole_b]; exact fun h => nomatch h)); (obtain ⟨_, _, _, _, _, h⟩ := h; exact absurd h.2.1 (by rw [fM_whole_b]; exact fun h => nomatch h)); (obtain ⟨_, _, _, h⟩ := h; exact absurd h.2.1 (by rw [fM_whole_b]; exact fun h => nomatch h))) (fun n ih x H locs ls hv => ?_) (fun key => ?_)
  · obtain ⟨lb, y3, y1, y2, y6, y7, y4, tn0, tf0, tn1, tf1, ws9, wc, wn⟩ := x
    rcases hv with ⟨adL, gdL, vadL, hj, hf, hP, hD, hS, hl, hE, hN⟩ | ⟨adL, gdL, vadL, tq0, tq1, hj, hf, hP, hD, hS, hl, hE, hN⟩ | ⟨adL, gdL, vadL, hj, hf, hP, hD, hS, hl, hE, hN⟩
    · subst hj
      have hf : fM_whole_b (n + 1) 1 y3 y1 y2 y6 y7 y4 tn0 tf0 tn1 tf1 ws9 wc wn = some out := hf
      rw [fM_whole_b, if_pos rfl] at hf
      obtain ⟨hP, hD⟩ : xPD D xcl A (xMw cT aM adL rd gdL vadL ws9 []) H := ⟨hP, hD⟩
      have hl : lv_has ls 8 [(3, xv vadL y3), (0, .ref aM), (1, .int y1), (2, .int y2)] := hl
      refine W.eq (g2 := F0 m 24 ls []) rfl ?_
      show W p l e _ s m _ below meth c H locs wc wn _ _
      obtain ⟨hm0, hf⟩ := xmoE hf
      refine lv_aload_n hx hb dM_whole_24 rfl (lv_at hl 1 rfl) ?_
      refine xm_get (v := .int (xsi ws9 7)) hx hb htx hown hK hP 7 (by decide) rfl (htx _ kw_5_94) rfl dM_whole_25 ?_
      refine xm_aload_n hx hb (xvor _ _) dM_whole_28 rfl (lv_at hl 0 rfl) ?_
      obtain ⟨hg1, hf⟩ := xifn hf
      refine xm_vget (v := .int ((xpi ws9 3) (y3 - 1))) hx hb htx hown hK hP 3 (by decide) hg1 rfl ((hZ.1 (103, "count", "I") (List.mem_of_getElem? (i := 3) rfl)).use rfl) rfl dM_whole_29 ?_
      refine lv_iadd hx hb dM_whole_32 ?_
      refine lv_aload_n hx hb dM_whole_33 rfl (lv_at hl 1 rfl) ?_
      refine xm_get (v := .ref (adL 5)) hx hb htx hown hK hP 5 (by decide) rfl (htx _ kw_5_92) rfl dM_whole_34 ?_
      refine va_alen (v := Int32.ofNat (xln ws9 5)) hx hb hK hP 3 4 rfl rfl rfl dM_whole_37 ?_
      refine lv_icmp_le (tgt := 122) hx hb dM_whole_38 (by decide) (fun hc => ?_) (fun hc => ?_)
      · rw [if_pos hc] at hf
        refine lv_lconst (v := 1) hx hb dM_whole_122 (by decide) ?_
        refine lv_lstore (lv' := [(4, .long 1), (3, xv vadL y3), (0, .ref aM), (1, .int y1), (2, .int y2)]) hx hb dM_whole_123 hl (by decide) (by simp only [List.filter, xvcat, xrscat, xcI, xcL, xcR, xcN]; rfl) (fun ls hl => ?_)
        refine lv_iconst (v := 0) hx hb dM_whole_125 (by decide) ?_
        refine lv_istore (lv' := [(6, .int 0), (4, .long 1), (3, xv vadL y3), (0, .ref aM), (1, .int y1), (2, .int y2)]) hx hb dM_whole_126 hl (by decide) rfl (fun ls hl => ?_)
        refine lv_iload_n hx hb dM_whole_128 rfl (lv_at hl 5 rfl) ?_
        refine lv_istore (lv' := [(7, .int y2), (6, .int 0), (4, .long 1), (3, xv vadL y3), (0, .ref aM), (1, .int y1), (2, .int y2)]) hx hb dM_whole_129 hl (by decide) rfl (fun ls hl => ?_)
        exact ih (3, y3, y1, y2, (0 : Int32), y2, (1 : Int64), 0, (fun _ => 0), 0, (fun _ => 0), ws9, wc, wn) _ _ ls (Or.inr (Or.inr (⟨adL, gdL, vadL, rfl, hf, hP, hD, hS, lv_sub hl [0, 1, 2, 3, 4, 5, 6] rfl, hE, hN⟩)))
      · rw [if_neg hc] at hf
        refine lv_iconst (v := 2) hx hb dM_whole_41 (by decide) ?_
        refine lv_aload_n hx hb dM_whole_42 rfl (lv_at hl 1 rfl) ?_
        refine xm_get (v := .ref (adL 5)) hx hb htx hown hK hP 5 (by decide) rfl (htx _ kw_5_92) rfl dM_whole_43 ?_
        refine va_alen (v := Int32.ofNat (xln ws9 5)) hx hb hK hP 3 4 rfl rfl rfl dM_whole_46 ?_
        refine lv_imul hx hb dM_whole_47 ?_
        obtain ⟨hg2, hf⟩ := xifn hf
        obtain ⟨hm3, hf⟩ := xmoE hf
        refine va_newq (C := "ValueBenchModel$V") (N' := ((2 : Int32) * (Int32.ofNat (xln ws9 5))).toNatClampNeg) (n := ((2 : Int32) * (Int32.ofNat (xln ws9 5)))) hx hb hown (htx _ kw_5_80) hZ.2.2.1.2 hK hP hD hS hA (fun h => hg2 (Or.inl h)) rfl (by have := fun h => hg2 (Or.inr h); show _ * 4 ≤ _; omega) hm3.1 hm3.2 dM_whole_48 (fun qz4 cA9 H hK9 hP hD hS => ?_)
        obtain rfl := xk_eq hK9 4 rfl
        rw [xcf_0 vadL] at hP hD
        replace hP := xm_tmpP hP
        replace hD := xm_tmpD hD
        obtain ⟨hP, hD⟩ : xPD D xcl A (xMw cT aM adL rd gdL vadL ws9 [(qz4, .inl (cT 4, ((2 : Int32) * (Int32.ofNat (xln ws9 5))).toNatClampNeg, .inr (.inr (.inr (.inr (xcf vadL (fun _ => 0)))))))]) H := ⟨hP, hD⟩
        refine lv_astore (lv' := [(4, .ref qz4), (3, xv vadL y3), (0, .ref aM), (1, .int y1), (2, .int y2)]) hx hb dM_whole_51 hl (by decide) (by simp only [List.filter, xvcat, xrscat, xcI, xcL, xcR, xcN]; rfl) (fun ls hl => ?_)
        refine lv_iconst (v := 2) hx hb dM_whole_53 (by decide) ?_
        refine lv_aload_n hx hb dM_whole_54 rfl (lv_at hl 2 rfl) ?_
        refine xm_get (v := .ref (adL 5)) hx hb htx hown hK hP 5 (by decide) rfl (htx _ kw_5_92) rfl dM_whole_55 ?_
        refine va_alen (v := Int32.ofNat (xln ws9 5)) hx hb hK hP 3 4 rfl rfl rfl dM_whole_58 ?_
        refine lv_imul hx hb dM_whole_59 ?_
        obtain ⟨hg5, hf⟩ := xifn hf
        obtain ⟨hm6, hf⟩ := xmoE hf
        refine va_newq (C := "ValueBenchModel$V") (N' := ((2 : Int32) * (Int32.ofNat (xln ws9 5))).toNatClampNeg) (n := ((2 : Int32) * (Int32.ofNat (xln ws9 5)))) hx hb hown (htx _ kw_5_80) hZ.2.2.1.2 hK hP hD hS hA (fun h => hg5 (Or.inl h)) rfl (by have := fun h => hg5 (Or.inr h); show _ * 4 ≤ _; omega) hm6.1 hm6.2 dM_whole_60 (fun qz7 cA9 H hK9 hP hD hS => ?_)
        obtain rfl := xk_eq hK9 4 rfl
        rw [xcf_0 vadL] at hP hD
        replace hP := xm_tmpP hP
        replace hD := xm_tmpD hD
        obtain ⟨hP, hD⟩ : xPD D xcl A (xMw cT aM adL rd gdL vadL ws9 [(qz4, .inl (cT 4, ((2 : Int32) * (Int32.ofNat (xln ws9 5))).toNatClampNeg, .inr (.inr (.inr (.inr (xcf vadL (fun _ => 0))))))), (qz7, .inl (cT 4, ((2 : Int32) * (Int32.ofNat (xln ws9 5))).toNatClampNeg, .inr (.inr (.inr (.inr (xcf vadL (fun _ => 0)))))))]) H := ⟨hP, hD⟩
        refine lv_astore (lv' := [(5, .ref qz7), (4, .ref qz4), (3, xv vadL y3), (0, .ref aM), (1, .int y1), (2, .int y2)]) hx hb dM_whole_63 hl (by decide) rfl (fun ls hl => ?_)
        refine lv_iconst (v := 0) hx hb dM_whole_65 (by decide) ?_
        refine lv_istore (lv' := [(6, .int 0), (5, .ref qz7), (4, .ref qz4), (3, xv vadL y3), (0, .ref aM), (1, .int y1), (2, .int y2)]) hx hb dM_whole_66 hl (by decide) rfl (fun ls hl => ?_)
        exact ih (2, y3, y1, y2, (0 : Int32), 0, 0, ((2 : Int32) * (Int32.ofNat (xln ws9 5))).toNatClampNeg, (fun _ => 0), ((2 : Int32) * (Int32.ofNat (xln ws9 5))).toNatClampNeg, (fun _ => 0), ws9, ((wc + 1) + 1), ((wn + ((2 : Int32) * (Int32.ofNat (xln ws9 5))).toNatClampNeg) + ((2 : Int32) * (Int32.ofNat (xln ws9 5))).toNatClampNeg)) _ _ ls (Or.inr (Or.inl ⟨adL, gdL, vadL, qz4, qz7, rfl, hf, hP, hD, hS, lv_sub hl [0, 1, 2, 3, 4, 5, 6] rfl, hE, hN⟩))
    · subst hj
      have hf : fM_whole_b (n + 1) 2 y3 y1 y2 y6 y7 y4 tn0 tf0 tn1 tf1 ws9 wc wn = some out := hf
      rw [fM_whole_b, if_neg (by decide), if_pos rfl] at hf
      obtain ⟨hP, hD⟩ : xPD D xcl A (xMw cT aM adL rd gdL vadL ws9 [(tq0, .inl (cT 4, tn0, .inr (.inr (.inr (.inr (xcf vadL tf0)))))), (tq1, .inl (cT 4, tn1, .inr (.inr (.inr (.inr (xcf vadL tf1))))))]) H := ⟨hP, hD⟩
      have hl : lv_has ls 8 [(6, .int y6), (5, .ref tq1), (4, .ref tq0), (3, xv vadL y3), (0, .ref aM), (1, .int y1), (2, .int y2)] := hl
      refine W.eq (g2 := F0 m 68 ls []) rfl ?_
      show W p l e _ s m _ below meth c H locs wc wn _ _
      obtain ⟨hm0, hf⟩ := xmoE hf
      refine lv_iload hx hb dM_whole_68 (lv_at hl 0 rfl) ?_
      refine lv_aload_n hx hb dM_whole_70 rfl (lv_at hl 4 rfl) ?_
      refine xm_get (v := .int (xsi ws9 7)) hx hb htx hown hK hP 7 (by decide) rfl (htx _ kw_5_94) rfl dM_whole_71 ?_
      refine lv_icmp_ge (tgt := 107) hx hb dM_whole_74 (by decide) (fun hc => ?_) (fun hc => ?_)
      · rw [if_pos hc] at hf
        refine lv_aload_n hx hb dM_whole_107 rfl (lv_at hl 4 rfl) ?_
        refine lv_aload hx hb dM_whole_108 (lv_at hl 2 rfl) ?_
        refine xm_put (v := .ref tq0) (W' := ((aM, Sum.inr (5, (xMf adL rd gdL ws9).set 5 (.ref tq0))) :: (xMa cT adL rd vadL ws9 ++ ([(tq0, .inl (cT 4, tn0, .inr (.inr (.inr (.inr (xcf vadL tf0)))))), (tq1, .inl (cT 4, tn1, .inr (.inr (.inr (.inr (xcf vadL tf1))))))] ++ (xMg cT gdL ws9 ++ xMt vadL ws9))))) (ty := (.array (.object "ValueBenchModel$V"))) hx hb htx hown hK hP hD hS 5 (by decide) rfl (htx _ kw_5_92) rfl rfl (by decide +kernel) rfl rfl dM_whole_110 (fun H locs hP hD hS => ?_)
        obtain ⟨hP, hD⟩ := xm_part (X := ((aM, Sum.inr (5, (xMf adL rd gdL ws9).set 5 (.ref tq0))) :: (xMa cT adL rd vadL ws9 ++ [(tq0, .inl (cT 4, tn0, .inr (.inr (.inr (.inr (xcf vadL tf0)))))), (tq1, .inl (cT 4, tn1, .inr (.inr (.inr (.inr (xcf vadL tf1))))))]))) (cx := xMe cT aM (va_up adL 5 tq0) rd gdL vadL (xsH ws9 5 tn0 tf0) ++ [(tq1, .inl (cT 4, tn1, .inr (.inr (.inr (.inr (xcf vadL tf1))))))]) (G := xMg cT gdL ws9 ++ xMt vadL ws9) (W2 := (xMw cT aM (va_up adL 5 tq0) rd gdL vadL (xsH ws9 5 tn0 tf0) [(tq1, .inl (cT 4, tn1, .inr (.inr (.inr (.inr (xcf vadL tf1))))))])) hP hD rfl [0, 1, 2, 22, 4, 5, 6, 7, 8, 9, 10, 11, 12, 13, 14, 15, 16, 17, 18, 19, 20, 21, 23] rfl (by decide) rfl
        have hl : lv_has ls 8 [(6, .int y6), (5, .ref tq1), (3, xv vadL y3), (0, .ref aM), (1, .int y1), (2, .int y2)] := lv_sub hl [0, 1, 3, 4, 5, 6] rfl
        generalize (va_up adL 5 tq0) = ad1 at hP hD
        refine lv_aload_n hx hb dM_whole_113 rfl (lv_at hl 3 rfl) ?_
        refine lv_aload hx hb dM_whole_114 (lv_at hl 1 rfl) ?_
        refine xm_put (v := .ref tq1) (W' := ((aM, Sum.inr (5, (xMf ad1 rd gdL (xsH ws9 5 tn0 tf0)).set 6 (.ref tq1))) :: (xMa cT ad1 rd vadL (xsH ws9 5 tn0 tf0) ++ ([(tq1, .inl (cT 4, tn1, .inr (.inr (.inr (.inr (xcf vadL tf1))))))] ++ (xMg cT gdL (xsH ws9 5 tn0 tf0) ++ xMt vadL (xsH ws9 5 tn0 tf0)))))) (ty := (.array (.object "ValueBenchModel$V"))) hx hb htx hown hK hP hD hS 6 (by decide) rfl (htx _ kw_5_93) rfl rfl (by decide +kernel) rfl rfl dM_whole_116 (fun H locs hP hD hS => ?_)
        obtain ⟨hP, hD⟩ := xm_part (X := ((aM, Sum.inr (5, (xMf ad1 rd gdL (xsH ws9 5 tn0 tf0)).set 6 (.ref tq1))) :: (xMa cT ad1 rd vadL (xsH ws9 5 tn0 tf0) ++ [(tq1, .inl (cT 4, tn1, .inr (.inr (.inr (.inr (xcf vadL tf1))))))]))) (cx := xMe cT aM (va_up ad1 6 tq1) rd gdL vadL (xsH (xsH ws9 5 tn0 tf0) 6 tn1 tf1) ++ []) (G := xMg cT gdL (xsH ws9 5 tn0 tf0) ++ xMt vadL (xsH ws9 5 tn0 tf0)) (W2 := (xMw cT aM (va_up ad1 6 tq1) rd gdL vadL (xsH (xsH ws9 5 tn0 tf0) 6 tn1 tf1) [])) hP hD rfl [0, 1, 2, 3, 22, 5, 6, 7, 8, 9, 10, 11, 12, 13, 14, 15, 16, 17, 18, 19, 20, 21] rfl (by decide) rfl
        have hl : lv_has ls 8 [(6, .int y6), (3, xv vadL y3), (0, .ref aM), (1, .int y1), (2, .int y2)] := lv_sub hl [0, 2, 3, 4, 5] rfl
        generalize (va_up ad1 6 tq1) = ad3 at hP hD
        refine lv_goto (tgt := 24) hx hb dM_whole_119 (by decide) ?_
        exact ih (1, y3, y1, y2, y6, 0, 0, 0, (fun _ => 0), 0, (fun _ => 0), (xsH (xsH ws9 5 tn0 tf0) 6 tn1 tf1), wc, wn) _ _ ls (Or.inl ⟨ad3, gdL, vadL, rfl, hf, hP, hD, hS, lv_sub hl [1, 2, 3, 4] rfl, hE, hN⟩)
      · rw [if_neg hc] at hf
        refine lv_aload hx hb dM_whole_77 (lv_at hl 2 rfl) ?_
        refine lv_iload hx hb dM_whole_79 (lv_at hl 0 rfl) ?_
        refine lv_aload_n hx hb dM_whole_81 rfl (lv_at hl 4 rfl) ?_
        refine xm_get (v := .ref (adL 5)) hx hb htx hown hK hP 5 (by decide) rfl (htx _ kw_5_92) rfl dM_whole_82 ?_
        refine lv_iload hx hb dM_whole_85 (lv_at hl 0 rfl) ?_
        obtain ⟨hg1, hf⟩ := xifn hf
        refine va_aldq hx hb hK hP 3 4 rfl rfl hg1 dM_whole_87 ?_
        refine W.eq (g2 := F0 m 88 ls [xv vadL ((xvc ws9 5) y6.toNatClampNeg), .int y6, .ref tq0]) rfl ?_
        obtain ⟨hg2, hf⟩ := xifn hf
        obtain ⟨hg3, hf⟩ := xifn hf
        refine xm_ast (x := ((xvc ws9 5) y6.toNatClampNeg)) (W' := (xMw cT aM adL rd gdL vadL ws9 [(tq0, .inl (cT 4, tn0, .inr (.inr (.inr (.inr (xcf vadL (va_up tf0 y6.toNatClampNeg ((xvc ws9 5) y6.toNatClampNeg)))))))), (tq1, .inl (cT 4, tn1, .inr (.inr (.inr (.inr (xcf vadL tf1))))))])) hx hb hK hP hD hS 22 rfl hg2 hg3 dM_whole_88 rfl (fun H locs hP hD hS => ?_)
        refine lv_aload hx hb dM_whole_89 (lv_at hl 1 rfl) ?_
        refine lv_iload hx hb dM_whole_91 (lv_at hl 0 rfl) ?_
        refine lv_aload_n hx hb dM_whole_93 rfl (lv_at hl 4 rfl) ?_
        refine xm_get (v := .ref (adL 6)) hx hb htx hown hK hP 6 (by decide) rfl (htx _ kw_5_93) rfl dM_whole_94 ?_
        refine lv_iload hx hb dM_whole_97 (lv_at hl 0 rfl) ?_
        obtain ⟨hg4, hf⟩ := xifn hf
        refine va_aldq hx hb hK hP 4 4 rfl rfl hg4 dM_whole_99 ?_
        refine W.eq (g2 := F0 m 100 ls [xv vadL ((xvc ws9 6) y6.toNatClampNeg), .int y6, .ref tq1]) rfl ?_
        obtain ⟨hg5, hf⟩ := xifn hf
        obtain ⟨hg6, hf⟩ := xifn hf
        refine xm_ast (x := ((xvc ws9 6) y6.toNatClampNeg)) (W' := (xMw cT aM adL rd gdL vadL ws9 [(tq0, .inl (cT 4, tn0, .inr (.inr (.inr (.inr (xcf vadL (va_up tf0 y6.toNatClampNeg ((xvc ws9 5) y6.toNatClampNeg)))))))), (tq1, .inl (cT 4, tn1, .inr (.inr (.inr (.inr (xcf vadL (va_up tf1 y6.toNatClampNeg ((xvc ws9 6) y6.toNatClampNeg))))))))])) hx hb hK hP hD hS 23 rfl hg5 hg6 dM_whole_100 rfl (fun H locs hP hD hS => ?_)
        refine lv_iinc (v := (y6 + 1)) (lv' := [(6, .int (y6 + 1)), (5, .ref tq1), (4, .ref tq0), (3, xv vadL y3), (0, .ref aM), (1, .int y1), (2, .int y2)]) hx hb dM_whole_101 hl (k := 0) rfl rfl (by decide) rfl (fun ls hl => ?_)
        refine lv_goto (tgt := 68) hx hb dM_whole_104 (by decide) ?_
        exact ih (2, y3, y1, y2, (y6 + 1), 0, 0, tn0, (va_up tf0 y6.toNatClampNeg ((xvc ws9 5) y6.toNatClampNeg)), tn1, (va_up tf1 y6.toNatClampNeg ((xvc ws9 6) y6.toNatClampNeg)), ws9, wc, wn) _ _ ls (Or.inr (Or.inl ⟨adL, gdL, vadL, tq0, tq1, rfl, hf, hP, hD, hS, lv_sub hl [0, 1, 2, 3, 4, 5, 6] rfl, hE, hN⟩))
    · subst hj
      have hf : fM_whole_b (n + 1) 3 y3 y1 y2 y6 y7 y4 tn0 tf0 tn1 tf1 ws9 wc wn = some out := hf
      rw [fM_whole_b, if_neg (by decide), if_neg (by decide)] at hf
      obtain ⟨hP, hD⟩ : xPD D xcl A (xMw cT aM adL rd gdL vadL ws9 []) H := ⟨hP, hD⟩
      have hl : lv_has ls 8 [(7, .int y7), (6, .int y6), (4, .long y4), (3, xv vadL y3), (0, .ref aM), (1, .int y1), (2, .int y2)] := hl
      refine W.eq (g2 := F0 m 131 ls []) rfl ?_
      show W p l e _ s m _ below meth c H locs wc wn _ _
      obtain ⟨hm0, hf⟩ := xmoE hf
      refine lv_iload hx hb dM_whole_131 (lv_at hl 0 rfl) ?_
      refine lv_aload_n hx hb dM_whole_133 rfl (lv_at hl 4 rfl) ?_
      refine xm_get (v := .int (xsi ws9 12)) hx hb htx hown hK hP 12 (by decide) rfl (htx _ kw_5_99) rfl dM_whole_134 ?_
      refine lv_icmp_ge (tgt := 242) hx hb dM_whole_137 (by decide) (fun hc => ?_) (fun hc => ?_)
      · rw [if_pos hc] at hf
        refine lv_aload_n hx hb dM_whole_242 rfl (lv_at hl 4 rfl) ?_
        refine lv_iload_n hx hb dM_whole_243 rfl (lv_at hl 6 rfl) ?_
        refine xm_put (v := .int y2) (W' := (xMw cT aM adL rd gdL vadL (xsI ws9 12 y2) [])) (ty := .int) hx hb htx hown hK hP hD hS 12 (by decide) rfl (htx _ kw_5_99) rfl rfl (by decide +kernel) rfl rfl dM_whole_244 (fun H locs hP hD hS => ?_)
        refine xm_aload_n hx hb (xvor _ _) dM_whole_247 rfl (lv_at hl 3 rfl) ?_
        refine lv_iload hx hb dM_whole_248 (lv_at hl 1 rfl) ?_
        refine lv_iconst (v := 1) hx hb dM_whole_250 (by decide) ?_
        refine lv_iadd hx hb dM_whole_251 ?_
        obtain ⟨hg1, hf⟩ := xifn hf
        refine xm_vput (v := .int (y6 + (1 : Int32))) (ty := .int) hx hb htx hown hK hP hD hS 4 (by decide) hg1 (xsP (xsI ws9 12 y2) 4 (y3 - 1) (y6 + (1 : Int32))) rfl rfl rfl (xVf_P 4 (by decide)) (xVf_P2 4 (by decide)) ((hZ.1 (106, "depth", "I") (List.mem_of_getElem? (i := 4) rfl)).use rfl) rfl rfl (by decide +kernel) rfl rfl dM_whole_252 (fun H locs hP hD hS => ?_)
        refine xm_aload_n hx hb (xvor _ _) dM_whole_255 rfl (lv_at hl 3 rfl) ?_
        refine xm_vget (v := .int ((upd (xpi ws9 4) (y3 - 1) (y6 + (1 : Int32))) (y3 - 1))) hx hb htx hown hK hP 4 (by decide) hg1 rfl ((hZ.1 (106, "depth", "I") (List.mem_of_getElem? (i := 4) rfl)).use rfl) rfl dM_whole_256 ?_
        refine lv_bipush (v := 60) hx hb dM_whole_259 (by decide) ?_
        refine lv_icmp_gt (tgt := 273) hx hb dM_whole_261 (by decide) (fun hc => ?_) (fun hc => ?_)
        · rw [if_pos hc] at hf
          refine lv_aload_n hx hb dM_whole_273 rfl (lv_at hl 4 rfl) ?_
          obtain ⟨o2, hq3, hf⟩ := xbind hf
          have hl := lv_sub (l' := [(7, .int y7), (6, .int y6), (4, .long y4), (0, .ref aM), (1, .int y1), (2, .int y2)]) hl [0, 1, 2, 4, 5, 6] rfl
          by_cases hk4 : o2.1 = 1
          · rw [if_pos hk4] at hf
            obtain ⟨hm5, hf⟩ := xmoE hf
            obtain rfl := Option.some.inj hf
            exact absurd (show (1 : Nat) = 0 from hkd) (by decide)
          rw [if_neg hk4] at hf
          exact nomatch hf
        · rw [if_neg hc] at hf
          refine lv_lload hx hb dM_whole_264 (lv_at hl 2 rfl) ?_
          refine lv_ldc2 hx hb hown (htx _ kw_6_108) dM_whole_266 ?_
          refine W.lcmp hx hb dM_whole_269 ?_
          refine lv_if_le (tgt := 278) hx hb dM_whole_270 (by decide) (fun hc => ?_) (fun hc => ?_)
          · rw [if_pos hc] at hf
            refine xm_aload_n hx hb (xvor _ _) dM_whole_278 rfl (lv_at hl 3 rfl) ?_
            refine lv_lload hx hb dM_whole_279 (lv_at hl 2 rfl) ?_
            refine lv_l2i hx hb dM_whole_281 rfl ?_
            refine xm_vput (v := .int y4.toInt32) (ty := .int) hx hb htx hown hK hP hD hS 5 (by decide) hg1 (xsP (xsP (xsI ws9 12 y2) 4 (y3 - 1) (y6 + (1 : Int32))) 5 (y3 - 1) y4.toInt32) rfl rfl rfl (xVf_P 5 (by decide)) (xVf_P2 5 (by decide)) ((hZ.1 (109, "weight", "I") (List.mem_of_getElem? (i := 5) rfl)).use rfl) rfl rfl (by decide +kernel) rfl rfl dM_whole_282 (fun H locs hP hD hS => ?_)
            refine xm_aload_n hx hb (xvor _ _) dM_whole_285 rfl (lv_at hl 3 rfl) ?_
            obtain rfl := Option.some.inj hf
            exact W.aret (v := xv vadL y3) hx hb hr (Or.inl ⟨_, rfl⟩) (xvor _ _) (fun t ht hW => ⟨⟨xca vadL y3, (adL, gdL, vadL), rfl, ⟨rfl, hE, hN⟩, by rw [ht]; exact hP, va_K.moved hW.alike hK, hD⟩, hS.F ht⟩) hS.2.2 dM_whole_286
          · rw [if_neg hc] at hf
            refine lv_aload_n hx hb dM_whole_273 rfl (lv_at hl 4 rfl) ?_
            obtain ⟨o2, hq3, hf⟩ := xbind hf
            have hl := lv_sub (l' := [(7, .int y7), (6, .int y6), (4, .long y4), (0, .ref aM), (1, .int y1), (2, .int y2)]) hl [0, 1, 2, 4, 5, 6] rfl
            by_cases hk4 : o2.1 = 1
            · rw [if_pos hk4] at hf
              obtain ⟨hm5, hf⟩ := xmoE hf
              obtain rfl := Option.some.inj hf
              exact absurd (show (1 : Nat) = 0 from hkd) (by decide)
            rw [if_neg hk4] at hf
            exact nomatch hf
      · rw [if_neg hc] at hf
        refine lv_aload_n hx hb dM_whole_140 rfl (lv_at hl 4 rfl) ?_
        refine xm_get (v := .ref (adL 5)) hx hb htx hown hK hP 5 (by decide) rfl (htx _ kw_5_92) rfl dM_whole_141 ?_
        refine lv_aload_n hx hb dM_whole_144 rfl (lv_at hl 4 rfl) ?_
        refine xm_get (v := .int (xsi ws9 7)) hx hb htx hown hK hP 7 (by decide) rfl (htx _ kw_5_94) rfl dM_whole_145 ?_
        refine lv_aload_n hx hb dM_whole_148 rfl (lv_at hl 4 rfl) ?_
        refine xm_get (v := .ref (adL 10)) hx hb htx hown hK hP 10 (by decide) rfl (htx _ kw_5_97) rfl dM_whole_149 ?_
        refine lv_iload hx hb dM_whole_152 (lv_at hl 0 rfl) ?_
        obtain ⟨hg1, hf⟩ := xifn hf
        refine va_aldq hx hb hK hP 5 4 rfl rfl hg1 dM_whole_154 ?_
        refine W.eq (g2 := F0 m 155 ls [xv vadL ((xvc ws9 10) y7.toNatClampNeg), .int (xsi ws9 7), .ref (adL 5)]) rfl ?_
        obtain ⟨hg2, hf⟩ := xifn hf
        obtain ⟨hg3, hf⟩ := xifn hf
        refine xm_ast (x := ((xvc ws9 10) y7.toNatClampNeg)) (W' := (xMw cT aM adL rd gdL vadL (xsC ws9 5 ((xsi ws9 7).toNatClampNeg) ((xvc ws9 10) y7.toNatClampNeg)) [])) hx hb hK hP hD hS 3 rfl hg2 hg3 dM_whole_155 rfl (fun H locs hP hD hS => ?_)
        refine lv_aload_n hx hb dM_whole_156 rfl (lv_at hl 4 rfl) ?_
        refine xm_get (v := .ref (adL 6)) hx hb htx hown hK hP 6 (by decide) rfl (htx _ kw_5_93) rfl dM_whole_157 ?_
        refine lv_aload_n hx hb dM_whole_160 rfl (lv_at hl 4 rfl) ?_
        refine xm_get (v := .int (xsi ws9 7)) hx hb htx hown hK hP 7 (by decide) rfl (htx _ kw_5_94) rfl dM_whole_161 ?_
        refine lv_aload_n hx hb dM_whole_164 rfl (lv_at hl 4 rfl) ?_
        refine xm_get (v := .ref (adL 11)) hx hb htx hown hK hP 11 (by decide) rfl (htx _ kw_5_98) rfl dM_whole_165 ?_
        refine lv_iload hx hb dM_whole_168 (lv_at hl 0 rfl) ?_
        obtain ⟨hg4, hf⟩ := xifn hf
        refine va_aldq hx hb hK hP 6 4 rfl rfl hg4 dM_whole_170 ?_
        refine W.eq (g2 := F0 m 171 ls [xv vadL ((xvc ws9 11) y7.toNatClampNeg), .int (xsi ws9 7), .ref (adL 6)]) rfl ?_
        obtain ⟨hg5, hf⟩ := xifn hf
        obtain ⟨hg6, hf⟩ := xifn hf
        refine xm_ast (x := ((xvc ws9 11) y7.toNatClampNeg)) (W' := (xMw cT aM adL rd gdL vadL (xsC (xsC ws9 5 ((xsi ws9 7).toNatClampNeg) ((xvc ws9 10) y7.toNatClampNeg)) 6 ((xsi ws9 7).toNatClampNeg) ((xvc ws9 11) y7.toNatClampNeg)) [])) hx hb hK hP hD hS 4 rfl hg5 hg6 dM_whole_171 rfl (fun H locs hP hD hS => ?_)
        refine lv_aload_n hx hb dM_whole_172 rfl (lv_at hl 4 rfl) ?_
        refine lv_dup hx hb dM_whole_173 rfl ?_
        refine xm_get (v := .int (xsi ws9 7)) hx hb htx hown hK hP 7 (by decide) rfl (htx _ kw_5_94) rfl dM_whole_174 ?_
        refine lv_iconst (v := 1) hx hb dM_whole_177 (by decide) ?_
        refine lv_iadd hx hb dM_whole_178 ?_
        refine xm_put (v := .int ((xsi ws9 7) + (1 : Int32))) (W' := (xMw cT aM adL rd gdL vadL (xsI (xsC (xsC ws9 5 ((xsi ws9 7).toNatClampNeg) ((xvc ws9 10) y7.toNatClampNeg)) 6 ((xsi ws9 7).toNatClampNeg) ((xvc ws9 11) y7.toNatClampNeg)) 7 ((xsi ws9 7) + (1 : Int32))) [])) (ty := .int) hx hb htx hown hK hP hD hS 7 (by decide) rfl (htx _ kw_5_94) rfl rfl (by decide +kernel) rfl rfl dM_whole_179 (fun H locs hP hD hS => ?_)
        refine lv_lload hx hb dM_whole_182 (lv_at hl 2 rfl) ?_
        refine lv_aload_n hx hb dM_whole_184 rfl (lv_at hl 4 rfl) ?_
        refine xm_get (v := .ref (adL 10)) hx hb htx hown hK hP 10 (by decide) rfl (htx _ kw_5_97) rfl dM_whole_185 ?_
        refine lv_iload hx hb dM_whole_188 (lv_at hl 0 rfl) ?_
        obtain ⟨hg7, hf⟩ := xifn hf
        refine va_aldq hx hb hK hP 5 4 rfl rfl hg7 dM_whole_190 ?_
        refine W.eq (g2 := F0 m 191 ls [xv vadL ((xvc ws9 10) y7.toNatClampNeg), .long y4]) rfl ?_
        obtain ⟨hg8, hf⟩ := xifn hf
        refine xm_vget (v := .int ((xpi ws9 5) (((xvc ws9 10) y7.toNatClampNeg) - 1))) hx hb htx hown hK hP 5 (by decide) hg8 rfl ((hZ.1 (109, "weight", "I") (List.mem_of_getElem? (i := 5) rfl)).use rfl) rfl dM_whole_191 ?_
        refine lv_iload_n hx hb dM_whole_194 rfl (lv_at hl 5 rfl) ?_
        refine lv_bipush (v := 6) hx hb dM_whole_195 (by decide) ?_
        refine lv_icmp_ne (tgt := 213) hx hb dM_whole_197 (by decide) (fun hc => ?_) (fun hc => ?_)
        · rw [if_neg hc] at hf
          refine lv_iconst (v := 0) hx hb dM_whole_213 (by decide) ?_
          refine lv_iadd hx hb dM_whole_214 ?_
          refine lv_i2l hx hb dM_whole_215 rfl ?_
          refine lv_ladd hx hb dM_whole_216 ?_
          refine lv_lstore (lv' := [(4, .long (y4 + (((xpi ws9 5) (((xvc ws9 10) y7.toNatClampNeg) - 1)) + (0 : Int32)).toInt64)), (7, .int y7), (6, .int y6), (3, xv vadL y3), (0, .ref aM), (1, .int y1), (2, .int y2)]) hx hb dM_whole_217 hl (by decide) (by simp only [List.filter, xvcat, xrscat, xcI, xcL, xcR, xcN]; rfl) (fun ls hl => ?_)
          refine lv_iload hx hb dM_whole_219 (lv_at hl 2 rfl) ?_
          refine lv_aload_n hx hb dM_whole_221 rfl (lv_at hl 4 rfl) ?_
          refine xm_get (v := .ref (adL 10)) hx hb htx hown hK hP 10 (by decide) rfl (htx _ kw_5_97) rfl dM_whole_222 ?_
          refine lv_iload hx hb dM_whole_225 (lv_at hl 1 rfl) ?_
          obtain ⟨hg9, hf⟩ := xifn hf
          refine va_aldq hx hb hK hP 5 4 rfl rfl hg9 dM_whole_227 ?_
          refine W.eq (g2 := F0 m 228 ls [xv vadL ((xvc ws9 10) y7.toNatClampNeg), .int y6]) rfl ?_
          refine xm_vget (v := .int ((xpi ws9 4) (((xvc ws9 10) y7.toNatClampNeg) - 1))) hx hb htx hown hK hP 4 (by decide) hg8 rfl ((hZ.1 (106, "depth", "I") (List.mem_of_getElem? (i := 4) rfl)).use rfl) rfl dM_whole_228 ?_
          refine va_mmax hx hb (hml.trans hl.1.symm) hown (htx _ kw_6_107) (htx _ kw_2_6) (htx _ kw_1_15) (htx _ kw_2_7) (Nat.le_of_ble_eq_true rfl) (Nat.le_of_ble_eq_true rfl) (hm0.1) (hm0.2) dM_whole_231 ?_
          refine W.eq (g2 := F0 m 234 ls [.int (if y6 < ((xpi ws9 4) (((xvc ws9 10) y7.toNatClampNeg) - 1)) then ((xpi ws9 4) (((xvc ws9 10) y7.toNatClampNeg) - 1)) else y6)]) rfl ?_
          refine lv_istore (lv' := [(6, .int (if y6 < ((xpi ws9 4) (((xvc ws9 10) y7.toNatClampNeg) - 1)) then ((xpi ws9 4) (((xvc ws9 10) y7.toNatClampNeg) - 1)) else y6)), (4, .long (y4 + (((xpi ws9 5) (((xvc ws9 10) y7.toNatClampNeg) - 1)) + (0 : Int32)).toInt64)), (7, .int y7), (3, xv vadL y3), (0, .ref aM), (1, .int y1), (2, .int y2)]) hx hb dM_whole_234 hl (by decide) rfl (fun ls hl => ?_)
          refine lv_iinc (v := (y7 + 1)) (lv' := [(7, .int (y7 + 1)), (6, .int (if y6 < ((xpi ws9 4) (((xvc ws9 10) y7.toNatClampNeg) - 1)) then ((xpi ws9 4) (((xvc ws9 10) y7.toNatClampNeg) - 1)) else y6)), (4, .long (y4 + (((xpi ws9 5) (((xvc ws9 10) y7.toNatClampNeg) - 1)) + (0 : Int32)).toInt64)), (3, xv vadL y3), (0, .ref aM), (1, .int y1), (2, .int y2)]) hx hb dM_whole_236 hl (k := 2) rfl rfl (by decide) rfl (fun ls hl => ?_)
          refine lv_goto (tgt := 131) hx hb dM_whole_239 (by decide) ?_
          exact ih (3, y3, y1, y2, (if y6 < ((xpi ws9 4) (((xvc ws9 10) y7.toNatClampNeg) - 1)) then ((xpi ws9 4) (((xvc ws9 10) y7.toNatClampNeg) - 1)) else y6), (y7 + 1), (y4 + (((xpi ws9 5) (((xvc ws9 10) y7.toNatClampNeg) - 1)) + (0 : Int32)).toInt64), 0, (fun _ => 0), 0, (fun _ => 0), (xsI (xsC (xsC ws9 5 ((xsi ws9 7).toNatClampNeg) ((xvc ws9 10) y7.toNatClampNeg)) 6 ((xsi ws9 7).toNatClampNeg) ((xvc ws9 11) y7.toNatClampNeg)) 7 ((xsi ws9 7) + (1 : Int32))), wc, wn) _ _ ls (Or.inr (Or.inr (⟨adL, gdL, vadL, rfl, hf, hP, hD, hS, lv_sub hl [0, 1, 2, 3, 4, 5, 6] rfl, hE, hN⟩)))
        · rw [if_pos hc] at hf
          refine lv_aload_n hx hb dM_whole_200 rfl (lv_at hl 4 rfl) ?_
          refine xm_get (v := .ref (adL 11)) hx hb htx hown hK hP 11 (by decide) rfl (htx _ kw_5_98) rfl dM_whole_201 ?_
          refine lv_iload hx hb dM_whole_204 (lv_at hl 0 rfl) ?_
          obtain ⟨hg9, hf⟩ := xifn hf
          refine va_aldq hx hb hK hP 6 4 rfl rfl hg9 dM_whole_206 ?_
          refine W.eq (g2 := F0 m 207 ls [xv vadL ((xvc ws9 11) y7.toNatClampNeg), .int ((xpi ws9 5) (((xvc ws9 10) y7.toNatClampNeg) - 1)), .long y4]) rfl ?_
          obtain ⟨hg10, hf⟩ := xifn hf
          refine xm_vget (v := .int ((xpi ws9 5) (((xvc ws9 11) y7.toNatClampNeg) - 1))) hx hb htx hown hK hP 5 (by decide) hg10 rfl ((hZ.1 (109, "weight", "I") (List.mem_of_getElem? (i := 5) rfl)).use rfl) rfl dM_whole_207 ?_
          refine lv_goto (tgt := 214) hx hb dM_whole_210 (by decide) ?_
          refine lv_iadd hx hb dM_whole_214 ?_
          refine lv_i2l hx hb dM_whole_215 rfl ?_
          refine lv_ladd hx hb dM_whole_216 ?_
          refine lv_lstore (lv' := [(4, .long (y4 + (((xpi ws9 5) (((xvc ws9 10) y7.toNatClampNeg) - 1)) + ((xpi ws9 5) (((xvc ws9 11) y7.toNatClampNeg) - 1))).toInt64)), (7, .int y7), (6, .int y6), (3, xv vadL y3), (0, .ref aM), (1, .int y1), (2, .int y2)]) hx hb dM_whole_217 hl (by decide) (by simp only [List.filter, xvcat, xrscat, xcI, xcL, xcR, xcN]; rfl) (fun ls hl => ?_)
          refine lv_iload hx hb dM_whole_219 (lv_at hl 2 rfl) ?_
          refine lv_aload_n hx hb dM_whole_221 rfl (lv_at hl 4 rfl) ?_
          refine xm_get (v := .ref (adL 10)) hx hb htx hown hK hP 10 (by decide) rfl (htx _ kw_5_97) rfl dM_whole_222 ?_
          refine lv_iload hx hb dM_whole_225 (lv_at hl 1 rfl) ?_
          obtain ⟨hg11, hf⟩ := xifn hf
          refine va_aldq hx hb hK hP 5 4 rfl rfl hg11 dM_whole_227 ?_
          refine W.eq (g2 := F0 m 228 ls [xv vadL ((xvc ws9 10) y7.toNatClampNeg), .int y6]) rfl ?_
          refine xm_vget (v := .int ((xpi ws9 4) (((xvc ws9 10) y7.toNatClampNeg) - 1))) hx hb htx hown hK hP 4 (by decide) hg8 rfl ((hZ.1 (106, "depth", "I") (List.mem_of_getElem? (i := 4) rfl)).use rfl) rfl dM_whole_228 ?_
          refine va_mmax hx hb (hml.trans hl.1.symm) hown (htx _ kw_6_107) (htx _ kw_2_6) (htx _ kw_1_15) (htx _ kw_2_7) (Nat.le_of_ble_eq_true rfl) (Nat.le_of_ble_eq_true rfl) (hm0.1) (hm0.2) dM_whole_231 ?_
          refine W.eq (g2 := F0 m 234 ls [.int (if y6 < ((xpi ws9 4) (((xvc ws9 10) y7.toNatClampNeg) - 1)) then ((xpi ws9 4) (((xvc ws9 10) y7.toNatClampNeg) - 1)) else y6)]) rfl ?_
          refine lv_istore (lv' := [(6, .int (if y6 < ((xpi ws9 4) (((xvc ws9 10) y7.toNatClampNeg) - 1)) then ((xpi ws9 4) (((xvc ws9 10) y7.toNatClampNeg) - 1)) else y6)), (4, .long (y4 + (((xpi ws9 5) (((xvc ws9 10) y7.toNatClampNeg) - 1)) + ((xpi ws9 5) (((xvc ws9 11) y7.toNatClampNeg) - 1))).toInt64)), (7, .int y7), (3, xv vadL y3), (0, .ref aM), (1, .int y1), (2, .int y2)]) hx hb dM_whole_234 hl (by decide) rfl (fun ls hl => ?_)
          refine lv_iinc (v := (y7 + 1)) (lv' := [(7, .int (y7 + 1)), (6, .int (if y6 < ((xpi ws9 4) (((xvc ws9 10) y7.toNatClampNeg) - 1)) then ((xpi ws9 4) (((xvc ws9 10) y7.toNatClampNeg) - 1)) else y6)), (4, .long (y4 + (((xpi ws9 5) (((xvc ws9 10) y7.toNatClampNeg) - 1)) + ((xpi ws9 5) (((xvc ws9 11) y7.toNatClampNeg) - 1))).toInt64)), (3, xv vadL y3), (0, .ref aM), (1, .int y1), (2, .int y2)]) hx hb dM_whole_236 hl (k := 2) rfl rfl (by decide) rfl (fun ls hl => ?_)
          refine lv_goto (tgt := 131) hx hb dM_whole_239 (by decide) ?_
          exact ih (3, y3, y1, y2, (if y6 < ((xpi ws9 4) (((xvc ws9 10) y7.toNatClampNeg) - 1)) then ((xpi ws9 4) (((xvc ws9 10) y7.toNatClampNeg) - 1)) else y6), (y7 + 1), (y4 + (((xpi ws9 5) (((xvc ws9 10) y7.toNatClampNeg) - 1)) + ((xpi ws9 5) (((xvc ws9 11) y7.toNatClampNeg) - 1))).toInt64), 0, (fun _ => 0), 0, (fun _ => 0), (xsI (xsC (xsC ws9 5 ((xsi ws9 7).toNatClampNeg) ((xvc ws9 10) y7.toNatClampNeg)) 6 ((xsi ws9 7).toNatClampNeg) ((xvc ws9 11) y7.toNatClampNeg)) 7 ((xsi ws9 7) + (1 : Int32))), wc, wn) _ _ ls (Or.inr (Or.inr (⟨adL, gdL, vadL, rfl, hf, hP, hD, hS, lv_sub hl [0, 1, 2, 3, 4, 5, 6] rfl, hE, hN⟩)))
  refine lv_aload_n hx hb dM_whole_0 rfl (lv_at hl 0 rfl) ?_
  refine lv_iload_n hx hb dM_whole_1 rfl (lv_at hl 1 rfl) ?_
  obtain ⟨o1, hq2, hf⟩ := xbind hf
  obtain ⟨hm3, hf⟩ := xmoE hf
  have hFc := xm_free hD hS hA
  refine va_callq (va_runV (C := "ValueBenchModel") (As := [.int x0]) (rest := []) ⟨hx, hb, hml, hown, htx⟩ (gM_fresh l hl9 D cT aK aV s.heap.size n aM ad rd gd vad st x0 o1 hq2) ⟨callB_of 1 htx (xw_goodC kw_6_16) rfl rfl rfl (htx _ kw_1_5) (htx _ kw_6_13) ⟨by decide, by decide, by decide +kernel⟩ ⟨Nat.le_of_ble_eq_true rfl, Nat.le_of_ble_eq_true rfl⟩, (htx _ kw_6_15), (htx _ kp_M_fresh)⟩ ⟨xPre_blind, va_recv hK hP (ci := 5) rfl (q0 := 0) rfl, (fun U hU hW => ⟨rfl, xPre_of hZ hS hFc hP hD hK U hU hW⟩)⟩ rfl rfl hl.1 rfl (xm_room (Nat.le_of_ble_eq_true rfl)) dM_whole_2 ⟨hm3.1, hm3.2⟩) hS (fun q _ h => hFc q h) hFc (fun r4 u9 t H1 locs ht hvm hr9 hB hz1 hk1 hS => ?_)
  obtain ⟨hP1, hK1, hD1⟩ := hB
  rw [ht] at hP1
  obtain ⟨ad5, gd6, vad7⟩ := u9
  obtain ⟨hr9, hv8, hn9⟩ := hr9
  have hP : va_P D xcl (xMw cT aM ad5 rd gd6 vad7 o1.2.2.2 []) H1 := hP1
  have hD : va_D A (xMw cT aM ad5 rd gd6 vad7 o1.2.2.2 []) := hD1.weaken (fun k q _ h => hFc q.1 h)
  generalize H1 = H at hP hS ⊢
  have hE9 : ∀ p, p < xct st → vad7 p = vad p := fun p h => (hv8 p (Nat.lt_of_lt_of_le h hN)).trans (hE p h)
  have hE := hE9
  have hN : xct st ≤ xct o1.2.2.2 := Nat.le_trans hN hn9
  rw [hr9]
  refine W.eq (g2 := F0 m 5 ls [xv vad7 o1.2.2.1]) (by first | rfl | (skip; rfl)) ?_
  refine xm_astore_n (lv' := [(3, xv vad7 o1.2.2.1), (0, .ref aM), (1, .int x0), (2, .int x1)]) hx hb (xvor _ _) dM_whole_5 rfl hl (by decide) rfl (fun ls hl => ?_)
  refine xm_aload_n hx hb (xvor _ _) dM_whole_6 rfl (lv_at hl 0 rfl) ?_
  refine lv_aload_n hx hb dM_whole_7 rfl (lv_at hl 1 rfl) ?_
  refine xm_get (v := .int (xsi o1.2.2.2 7)) hx hb htx hown hK hP 7 (by decide) rfl (htx _ kw_5_94) rfl dM_whole_8 ?_
  obtain ⟨hg10, hf⟩ := xifn hf
  refine xm_vput (v := .int (xsi o1.2.2.2 7)) (ty := .int) hx hb htx hown hK hP hD hS 2 (by decide) hg10 (xsP o1.2.2.2 2 (o1.2.2.1 - 1) (xsi o1.2.2.2 7)) rfl rfl rfl (xVf_P 2 (by decide)) (xVf_P2 2 (by decide)) ((hZ.1 (100, "off", "I") (List.mem_of_getElem? (i := 2) rfl)).use rfl) rfl rfl (by decide +kernel) rfl rfl dM_whole_11 (fun H locs hP hD hS => ?_)
  refine xm_aload_n hx hb (xvor _ _) dM_whole_14 rfl (lv_at hl 0 rfl) ?_
  refine lv_aload_n hx hb dM_whole_15 rfl (lv_at hl 1 rfl) ?_
  refine xm_get (v := .int (xsi o1.2.2.2 12)) hx hb htx hown hK hP 12 (by decide) rfl (htx _ kw_5_99) rfl dM_whole_16 ?_
  refine lv_iload_n hx hb dM_whole_19 rfl (lv_at hl 3 rfl) ?_
  refine lv_isub hx hb dM_whole_20 ?_
  refine xm_vput (v := .int ((xsi o1.2.2.2 12) - x1)) (ty := .int) hx hb htx hown hK hP hD hS 3 (by decide) hg10 (xsP (xsP o1.2.2.2 2 (o1.2.2.1 - 1) (xsi o1.2.2.2 7)) 3 (o1.2.2.1 - 1) ((xsi o1.2.2.2 12) - x1)) rfl rfl rfl (xVf_P 3 (by decide)) (xVf_P2 3 (by decide)) ((hZ.1 (103, "count", "I") (List.mem_of_getElem? (i := 3) rfl)).use rfl) rfl rfl (by decide +kernel) rfl rfl dM_whole_21 (fun H locs hP hD hS => ?_)
  exact key n (1, o1.2.2.1, x0, x1, 0, 0, 0, 0, (fun _ => 0), 0, (fun _ => 0), (xsP (xsP o1.2.2.2 2 (o1.2.2.1 - 1) (xsi o1.2.2.2 7)) 3 (o1.2.2.1 - 1) ((xsi o1.2.2.2 12) - x1)), (0 + o1.1), (0 + o1.2.1)) _ _ ls (Or.inl ⟨ad5, gd6, vad7, rfl, hf, hP, hD, hS, lv_sub hl [0, 1, 2, 3] rfl, hE, hN⟩)
set_option maxHeartbeats 400000000 in
set_option maxRecDepth 100000 in
theorem gM_whole_1 (l : Launch) (hl9 : l.stackTraces = false) (D : va_G) (cT : Nat → ClassId) (aK aV : Nat → Nat) (sz n : Nat) (aM : Nat) (ad rd gd vad : Nat → Nat) (st : xS) (x0 : Int32) (x1 : Int32) (out : Nat × Nat × Nat × Nat × xS) (hf : fM_whole n st x0 x1 = some out) (hkd : out.1 = 1) : xMetY l yM_whole wyM_whole 7 out.2.1 out.2.2.1 120 D cT aK aV sz [.ref aM, .int x0, .int x1] (xMw cT aM ad rd gd vad st []) "java/lang/IndexOutOfBoundsException" (fun u => xE vad st out.2.2.2.2 u) (fun A u t => xB D xcl cT A (xMw cT aM u.1 rd u.2.1 u.2.2 out.2.2.2.2 []) t) := by
  refine vx_ofW (cc := prog_13_method_15_code) (maxL := 8) (ret := (some (.object "ValueBenchModel$V"))) (by decide) rfl ?_
  intro p e s m args below meth c s₁ B hml hne hv
  obtain ⟨rfl, hsz, hZ, hP, hK, hD0⟩ := hv
  have hx := B.exec
  have hb := B.bytes
  have hr := B.returns
  have hts := atoms_spec (ws := wyM_whole) B.pre
  have htx := fun w h => hts w (List.mem_cons_of_mem _ h)
  have hown : s.vm.findClass "ValueBenchModel" = some m.cls := findClass_of_methodNamed B.named
  have hlocks := B.notSynchronized
  subst hsz
  have hD := hD0.self (sz := s.heap.size)
  generalize hAe : va_A (xMw cT aM ad rd gd vad st []) s.heap.size = A at hD hZ ⊢
  have hA : ∀ q : Nat, s.heap.size ≤ q → A q := fun q h => by rw [← hAe]; exact Or.inr h
  have hS : va_S A s.heap s.heap [] := va_S.rf
  have hl := lv_entry ([.ref aM, .int x0, .int x1]) (n := 8) (by simp [lg_sl, xvcat, xrscat, xcI, xcL, xcR, xcN])
  rw [show lv_args 0 [.ref aM, .int x0, .int x1] = [(0, .ref aM), (1, .int x0), (2, .int x1)] from by simp [lv_args, xvcat, xrscat, xcI, xcL, xcR, xcN]] at hl
  rw [lg_entry_eq]
  generalize (lg_sl ([.ref aM, .int x0, .int x1]) ++ List.replicate (8 - (lg_sl ([.ref aM, .int x0, .int x1])).length) Slot.unset).toArray = ls at hl ⊢
  have hl : lv_has ls 8 [(0, .ref aM), (1, .int x0), (2, .int x1)] := hl
  have hE : ∀ p, p < xct st → vad p = vad p := fun _ _ => rfl
  have hN : xct st ≤ xct st := Nat.le_refl _
  unfold fM_whole at hf
  refine xloopM (σ := Nat × Nat × Int32 × Int32 × Int32 × Int32 × Int64 × Nat × (Nat → Nat) × Nat × (Nat → Nat) × xS × Nat × Nat) (fun n x H locs ls => (∃ (adL gdL vadL : Nat → Nat), x.1 = 1 ∧ fM_whole_b n x.1 x.2.1 x.2.2.1 x.2.2.2.1 x.2.2.2.2.1 x.2.2.2.2.2.1 x.2.2.2.2.2.2.1 x.2.2.2.2.2.2.2.1 x.2.2.2.2.2.2.2.2.1 x.2.2.2.2.2.2.2.2.2.1 x.2.2.2.2.2.2.2.2.2.2.1 x.2.2.2.2.2.2.2.2.2.2.2.1 x.2.2.2.2.2.2.2.2.2.2.2.2.1 x.2.2.2.2.2.2.2.2.2.2.2.2.2 = some out ∧ va_P D xcl (xMw cT aM adL rd gdL vadL x.2.2.2.2.2.2.2.2.2.2.2.1 []) H ∧ va_D A (xMw cT aM adL rd gdL vadL x.2.2.2.2.2.2.2.2.2.2.2.1 []) ∧ va_S A s.heap H locs ∧ lv_has ls 8 [(3, xv vadL x.2.1), (0, .ref aM), (1, .int x.2.2.1), (2, .int x.2.2.2.1)] ∧ (∀ p, p < xct st → vadL p = vad p) ∧ xct st ≤ xct x.2.2.2.2.2.2.2.2.2.2.2.1) ∨ (∃ (adL gdL vadL : Nat → Nat) (tq0 : Nat) (tq1 : Nat), x.1 = 2 ∧ fM_whole_b n x.1 x.2.1 x.2.2.1 x.2.2.2.1 x.2.2.2.2.1 x.2.2.2.2.2.1 x.2.2.2.2.2.2.1 x.2.2.2.2.2.2.2.1 x.2.2.2.2.2.2.2.2.1 x.2.2.2.2.2.2.2.2.2.1 x.2.2.2.2.2.2.2.2.2.2.1 x.2.2.2.2.2.2.2.2.2.2.2.1 x.2.2.2.2.2.2.2.2.2.2.2.2.1 x.2.2.2.2.2.2.2.2.2.2.2.2.2 = some out ∧ va_P D xcl (xMw cT aM adL rd gdL vadL x.2.2.2.2.2.2.2.2.2.2.2.1 [(tq0, .inl (cT 4, x.2.2.2.2.2.2.2.1, .inr (.inr (.inr (.inr (xcf vadL x.2.2.2.2.2.2.2.2.1)))))), (tq1, .inl (cT 4, x.2.2.2.2.2.2.2.2.2.1, .inr (.inr (.inr (.inr (xcf vadL x.2.2.2.2.2.2.2.2.2.2.1))))))]) H ∧ va_D A (xMw cT aM adL rd gdL vadL x.2.2.2.2.2.2.2.2.2.2.2.1 [(tq0, .inl (cT 4, x.2.2.2.2.2.2.2.1, .inr (.inr (.inr (.inr (xcf vadL x.2.2.2.2.2.2.2.2.1)))))), (tq1, .inl (cT 4, x.2.2.2.2.2.2.2.2.2.1, .inr (.inr (.inr (.inr (xcf vadL x.2.2.2.2.2.2.2.2.2.2.1))))))]) ∧ va_S A s.heap H locs ∧ lv_has ls 8 [(6, .int x.2.2.2.2.1), (5, .ref tq1), (4, .ref tq0), (3, xv vadL x.2.1), (0, .ref aM), (1, .int x.2.2.1), (2, .int x.2.2.2.1)] ∧ (∀ p, p < xct st → vadL p = vad p) ∧ xct st ≤ xct x.2.2.2.2.2.2.2.2.2.2.2.1) ∨ (∃ (adL gdL vadL : Nat → Nat), x.1 = 3 ∧ fM_whole_b n x.1 x.2.1 x.2.2.1 x.2.2.2.1 x.2.2.2.2.1 x.2.2.2.2.2.1 x.2.2.2.2.2.2.1 x.2.2.2.2.2.2.2.1 x.2.2.2.2.2.2.2.2.1 x.2.2.2.2.2.2.2.2.2.1 x.2.2.2.2.2.2.2.2.2.2.1 x.2.2.2.2.2.2.2.2.2.2.2.1 x.2.2.2.2.2.2.2.2.2.2.2.2.1 x.2.2.2.2.2.2.2.2.2.2.2.2.2 = some out ∧ va_P D xcl (xMw cT aM adL rd gdL vadL x.2.2.2.2.2.2.2.2.2.2.2.1 []) H ∧ va_D A (xMw cT aM adL rd gdL vadL x.2.2.2.2.2.2.2.2.2.2.2.1 []) ∧ va_S A s.heap H locs ∧ lv_has ls 8 [(7, .int x.2.2.2.2.2.1), (6, .int x.2.2.2.2.1), (4, .long x.2.2.2.2.2.2.1), (3, xv vadL x.2.1), (0, .ref aM), (1, .int x.2.2.1), (2, .int x.2.2.2.1)] ∧ (∀ p, p < xct st → vadL p = vad p) ∧ xct st ≤ xct x.2.2.2.2.2.2.2.2.2.2.2.1)) (fun x => if x.1 = 1 then 24 else if x.1 = 2 then 68 else 131) (fun x => x.2.2.2.2.2.2.2.2.2.2.2.2.1) (fun x => x.2.2.2.2.2.2.2.2.2.2.2.2.2) (fun x H locs ls h => by rcases h with h | h | h; (obtain ⟨_, _, _, h⟩ := h; exact absurd h.2.1 (by rw [fM_whole_b]; exact fun h => nomatch h)); (obtain ⟨_, _, _, _, _, h⟩ := h; exact absurd h.2.1 (by rw [fM_whole_b]; exact fun h => nomatch h)); (obtain ⟨_, _, _, h⟩ := h; exact absurd h.2.1 (by rw [fM_whole_b]; exact fun h => nomatch h))) (fun n ih x H locs ls hv => ?_) (fun key => ?_)
  · obtain ⟨lb, y3, y1, y2, y6, y7, y4, tn0, tf0, tn1, tf1, ws9, wc, wn⟩ := x
    rcases hv with ⟨adL, gdL, vadL, hj, hf, hP, hD, hS, hl, hE, hN⟩ | ⟨adL, gdL, vadL, tq0, tq1, hj, hf, hP, hD, hS, hl, hE, hN⟩ | ⟨adL, gdL, vadL, hj, hf, hP, hD, hS, hl, hE, hN⟩
    · subst hj
      have hf : fM_whole_b (n + 1) 1 y3 y1 y2 y6 y7 y4 tn0 tf0 tn1 tf1 ws9 wc wn = some out := hf
      rw [fM_whole_b, if_pos rfl] at hf
      obtain ⟨hP, hD⟩ : xPD D xcl A (xMw cT aM adL rd gdL vadL ws9 []) H := ⟨hP, hD⟩
      have hl : lv_has ls 8 [(3, xv vadL y3), (0, .ref aM), (1, .int y1), (2, .int y2)] := hl
      refine W.eq (g2 := F0 m 24 ls []) rfl ?_
      show W p l e _ s m _ below meth c H locs wc wn _ _
      obtain ⟨hm0, hf⟩ := xmoE hf
      refine lv_aload_n hx hb dM_whole_24 rfl (lv_at hl 1 rfl) ?_
      refine xm_get (v := .int (xsi ws9 7)) hx hb htx hown hK hP 7 (by decide) rfl (htx _ kw_5_94) rfl dM_whole_25 ?_
      refine xm_aload_n hx hb (xvor _ _) dM_whole_28 rfl (lv_at hl 0 rfl) ?_
      obtain ⟨hg1, hf⟩ := xifn hf
      refine xm_vget (v := .int ((xpi ws9 3) (y3 - 1))) hx hb htx hown hK hP 3 (by decide) hg1 rfl ((hZ.1 (103, "count", "I") (List.mem_of_getElem? (i := 3) rfl)).use rfl) rfl dM_whole_29 ?_
      refine lv_iadd hx hb dM_whole_32 ?_
      refine lv_aload_n hx hb dM_whole_33 rfl (lv_at hl 1 rfl) ?_
      refine xm_get (v := .ref (adL 5)) hx hb htx hown hK hP 5 (by decide) rfl (htx _ kw_5_92) rfl dM_whole_34 ?_
      refine va_alen (v := Int32.ofNat (xln ws9 5)) hx hb hK hP 3 4 rfl rfl rfl dM_whole_37 ?_
      refine lv_icmp_le (tgt := 122) hx hb dM_whole_38 (by decide) (fun hc => ?_) (fun hc => ?_)
      · rw [if_pos hc] at hf
        refine lv_lconst (v := 1) hx hb dM_whole_122 (by decide) ?_
        refine lv_lstore (lv' := [(4, .long 1), (3, xv vadL y3), (0, .ref aM), (1, .int y1), (2, .int y2)]) hx hb dM_whole_123 hl (by decide) (by simp only [List.filter, xvcat, xrscat, xcI, xcL, xcR, xcN]; rfl) (fun ls hl => ?_)
        refine lv_iconst (v := 0) hx hb dM_whole_125 (by decide) ?_
        refine lv_istore (lv' := [(6, .int 0), (4, .long 1), (3, xv vadL y3), (0, .ref aM), (1, .int y1), (2, .int y2)]) hx hb dM_whole_126 hl (by decide) rfl (fun ls hl => ?_)
        refine lv_iload_n hx hb dM_whole_128 rfl (lv_at hl 5 rfl) ?_
        refine lv_istore (lv' := [(7, .int y2), (6, .int 0), (4, .long 1), (3, xv vadL y3), (0, .ref aM), (1, .int y1), (2, .int y2)]) hx hb dM_whole_129 hl (by decide) rfl (fun ls hl => ?_)
        exact ih (3, y3, y1, y2, (0 : Int32), y2, (1 : Int64), 0, (fun _ => 0), 0, (fun _ => 0), ws9, wc, wn) _ _ ls (Or.inr (Or.inr (⟨adL, gdL, vadL, rfl, hf, hP, hD, hS, lv_sub hl [0, 1, 2, 3, 4, 5, 6] rfl, hE, hN⟩)))
      · rw [if_neg hc] at hf
        refine lv_iconst (v := 2) hx hb dM_whole_41 (by decide) ?_
        refine lv_aload_n hx hb dM_whole_42 rfl (lv_at hl 1 rfl) ?_
        refine xm_get (v := .ref (adL 5)) hx hb htx hown hK hP 5 (by decide) rfl (htx _ kw_5_92) rfl dM_whole_43 ?_
        refine va_alen (v := Int32.ofNat (xln ws9 5)) hx hb hK hP 3 4 rfl rfl rfl dM_whole_46 ?_
        refine lv_imul hx hb dM_whole_47 ?_
        obtain ⟨hg2, hf⟩ := xifn hf
        obtain ⟨hm3, hf⟩ := xmoE hf
        refine va_newq (C := "ValueBenchModel$V") (N' := ((2 : Int32) * (Int32.ofNat (xln ws9 5))).toNatClampNeg) (n := ((2 : Int32) * (Int32.ofNat (xln ws9 5)))) hx hb hown (htx _ kw_5_80) hZ.2.2.1.2 hK hP hD hS hA (fun h => hg2 (Or.inl h)) rfl (by have := fun h => hg2 (Or.inr h); show _ * 4 ≤ _; omega) hm3.1 hm3.2 dM_whole_48 (fun qz4 cA9 H hK9 hP hD hS => ?_)
        obtain rfl := xk_eq hK9 4 rfl
        rw [xcf_0 vadL] at hP hD
        replace hP := xm_tmpP hP
        replace hD := xm_tmpD hD
        obtain ⟨hP, hD⟩ : xPD D xcl A (xMw cT aM adL rd gdL vadL ws9 [(qz4, .inl (cT 4, ((2 : Int32) * (Int32.ofNat (xln ws9 5))).toNatClampNeg, .inr (.inr (.inr (.inr (xcf vadL (fun _ => 0)))))))]) H := ⟨hP, hD⟩
        refine lv_astore (lv' := [(4, .ref qz4), (3, xv vadL y3), (0, .ref aM), (1, .int y1), (2, .int y2)]) hx hb dM_whole_51 hl (by decide) (by simp only [List.filter, xvcat, xrscat, xcI, xcL, xcR, xcN]; rfl) (fun ls hl => ?_)
        refine lv_iconst (v := 2) hx hb dM_whole_53 (by decide) ?_
        refine lv_aload_n hx hb dM_whole_54 rfl (lv_at hl 2 rfl) ?_
        refine xm_get (v := .ref (adL 5)) hx hb htx hown hK hP 5 (by decide) rfl (htx _ kw_5_92) rfl dM_whole_55 ?_
        refine va_alen (v := Int32.ofNat (xln ws9 5)) hx hb hK hP 3 4 rfl rfl rfl dM_whole_58 ?_
        refine lv_imul hx hb dM_whole_59 ?_
        obtain ⟨hg5, hf⟩ := xifn hf
        obtain ⟨hm6, hf⟩ := xmoE hf
        refine va_newq (C := "ValueBenchModel$V") (N' := ((2 : Int32) * (Int32.ofNat (xln ws9 5))).toNatClampNeg) (n := ((2 : Int32) * (Int32.ofNat (xln ws9 5)))) hx hb hown (htx _ kw_5_80) hZ.2.2.1.2 hK hP hD hS hA (fun h => hg5 (Or.inl h)) rfl (by have := fun h => hg5 (Or.inr h); show _ * 4 ≤ _; omega) hm6.1 hm6.2 dM_whole_60 (fun qz7 cA9 H hK9 hP hD hS => ?_)
        obtain rfl := xk_eq hK9 4 rfl
        rw [xcf_0 vadL] at hP hD
        replace hP := xm_tmpP hP
        replace hD := xm_tmpD hD
        obtain ⟨hP, hD⟩ : xPD D xcl A (xMw cT aM adL rd gdL vadL ws9 [(qz4, .inl (cT 4, ((2 : Int32) * (Int32.ofNat (xln ws9 5))).toNatClampNeg, .inr (.inr (.inr (.inr (xcf vadL (fun _ => 0))))))), (qz7, .inl (cT 4, ((2 : Int32) * (Int32.ofNat (xln ws9 5))).toNatClampNeg, .inr (.inr (.inr (.inr (xcf vadL (fun _ => 0)))))))]) H := ⟨hP, hD⟩
        refine lv_astore (lv' := [(5, .ref qz7), (4, .ref qz4), (3, xv vadL y3), (0, .ref aM), (1, .int y1), (2, .int y2)]) hx hb dM_whole_63 hl (by decide) rfl (fun ls hl => ?_)
        refine lv_iconst (v := 0) hx hb dM_whole_65 (by decide) ?_
        refine lv_istore (lv' := [(6, .int 0), (5, .ref qz7), (4, .ref qz4), (3, xv vadL y3), (0, .ref aM), (1, .int y1), (2, .int y2)]) hx hb dM_whole_66 hl (by decide) rfl (fun ls hl => ?_)
        exact ih (2, y3, y1, y2, (0 : Int32), 0, 0, ((2 : Int32) * (Int32.ofNat (xln ws9 5))).toNatClampNeg, (fun _ => 0), ((2 : Int32) * (Int32.ofNat (xln ws9 5))).toNatClampNeg, (fun _ => 0), ws9, ((wc + 1) + 1), ((wn + ((2 : Int32) * (Int32.ofNat (xln ws9 5))).toNatClampNeg) + ((2 : Int32) * (Int32.ofNat (xln ws9 5))).toNatClampNeg)) _ _ ls (Or.inr (Or.inl ⟨adL, gdL, vadL, qz4, qz7, rfl, hf, hP, hD, hS, lv_sub hl [0, 1, 2, 3, 4, 5, 6] rfl, hE, hN⟩))
    · subst hj
      have hf : fM_whole_b (n + 1) 2 y3 y1 y2 y6 y7 y4 tn0 tf0 tn1 tf1 ws9 wc wn = some out := hf
      rw [fM_whole_b, if_neg (by decide), if_pos rfl] at hf
      obtain ⟨hP, hD⟩ : xPD D xcl A (xMw cT aM adL rd gdL vadL ws9 [(tq0, .inl (cT 4, tn0, .inr (.inr (.inr (.inr (xcf vadL tf0)))))), (tq1, .inl (cT 4, tn1, .inr (.inr (.inr (.inr (xcf vadL tf1))))))]) H := ⟨hP, hD⟩
      have hl : lv_has ls 8 [(6, .int y6), (5, .ref tq1), (4, .ref tq0), (3, xv vadL y3), (0, .ref aM), (1, .int y1), (2, .int y2)] := hl
      refine W.eq (g2 := F0 m 68 ls []) rfl ?_
      show W p l e _ s m _ below meth c H locs wc wn _ _
      obtain ⟨hm0, hf⟩ := xmoE hf
      refine lv_iload hx hb dM_whole_68 (lv_at hl 0 rfl) ?_
      refine lv_aload_n hx hb dM_whole_70 rfl (lv_at hl 4 rfl) ?_
      refine xm_get (v := .int (xsi ws9 7)) hx hb htx hown hK hP 7 (by decide) rfl (htx _ kw_5_94) rfl dM_whole_71 ?_
      refine lv_icmp_ge (tgt := 107) hx hb dM_whole_74 (by decide) (fun hc => ?_) (fun hc => ?_)
      · rw [if_pos hc] at hf
        refine lv_aload_n hx hb dM_whole_107 rfl (lv_at hl 4 rfl) ?_
        refine lv_aload hx hb dM_whole_108 (lv_at hl 2 rfl) ?_
        refine xm_put (v := .ref tq0) (W' := ((aM, Sum.inr (5, (xMf adL rd gdL ws9).set 5 (.ref tq0))) :: (xMa cT adL rd vadL ws9 ++ ([(tq0, .inl (cT 4, tn0, .inr (.inr (.inr (.inr (xcf vadL tf0)))))), (tq1, .inl (cT 4, tn1, .inr (.inr (.inr (.inr (xcf vadL tf1))))))] ++ (xMg cT gdL ws9 ++ xMt vadL ws9))))) (ty := (.array (.object "ValueBenchModel$V"))) hx hb htx hown hK hP hD hS 5 (by decide) rfl (htx _ kw_5_92) rfl rfl (by decide +kernel) rfl rfl dM_whole_110 (fun H locs hP hD hS => ?_)
        obtain ⟨hP, hD⟩ := xm_part (X := ((aM, Sum.inr (5, (xMf adL rd gdL ws9).set 5 (.ref tq0))) :: (xMa cT adL rd vadL ws9 ++ [(tq0, .inl (cT 4, tn0, .inr (.inr (.inr (.inr (xcf vadL tf0)))))), (tq1, .inl (cT 4, tn1, .inr (.inr (.inr (.inr (xcf vadL tf1))))))]))) (cx := xMe cT aM (va_up adL 5 tq0) rd gdL vadL (xsH ws9 5 tn0 tf0) ++ [(tq1, .inl (cT 4, tn1, .inr (.inr (.inr (.inr (xcf vadL tf1))))))]) (G := xMg cT gdL ws9 ++ xMt vadL ws9) (W2 := (xMw cT aM (va_up adL 5 tq0) rd gdL vadL (xsH ws9 5 tn0 tf0) [(tq1, .inl (cT 4, tn1, .inr (.inr (.inr (.inr (xcf vadL tf1))))))])) hP hD rfl [0, 1, 2, 22, 4, 5, 6, 7, 8, 9, 10, 11, 12, 13, 14, 15, 16, 17, 18, 19, 20, 21, 23] rfl (by decide) rfl
        have hl : lv_has ls 8 [(6, .int y6), (5, .ref tq1), (3, xv vadL y3), (0, .ref aM), (1, .int y1), (2, .int y2)] := lv_sub hl [0, 1, 3, 4, 5, 6] rfl
        generalize (va_up adL 5 tq0) = ad1 at hP hD
        refine lv_aload_n hx hb dM_whole_113 rfl (lv_at hl 3 rfl) ?_
        refine lv_aload hx hb dM_whole_114 (lv_at hl 1 rfl) ?_
        refine xm_put (v := .ref tq1) (W' := ((aM, Sum.inr (5, (xMf ad1 rd gdL (xsH ws9 5 tn0 tf0)).set 6 (.ref tq1))) :: (xMa cT ad1 rd vadL (xsH ws9 5 tn0 tf0) ++ ([(tq1, .inl (cT 4, tn1, .inr (.inr (.inr (.inr (xcf vadL tf1))))))] ++ (xMg cT gdL (xsH ws9 5 tn0 tf0) ++ xMt vadL (xsH ws9 5 tn0 tf0)))))) (ty := (.array (.object "ValueBenchModel$V"))) hx hb htx hown hK hP hD hS 6 (by decide) rfl (htx _ kw_5_93) rfl rfl (by decide +kernel) rfl rfl dM_whole_116 (fun H locs hP hD hS => ?_)
        obtain ⟨hP, hD⟩ := xm_part (X := ((aM, Sum.inr (5, (xMf ad1 rd gdL (xsH ws9 5 tn0 tf0)).set 6 (.ref tq1))) :: (xMa cT ad1 rd vadL (xsH ws9 5 tn0 tf0) ++ [(tq1, .inl (cT 4, tn1, .inr (.inr (.inr (.inr (xcf vadL tf1))))))]))) (cx := xMe cT aM (va_up ad1 6 tq1) rd gdL vadL (xsH (xsH ws9 5 tn0 tf0) 6 tn1 tf1) ++ []) (G := xMg cT gdL (xsH ws9 5 tn0 tf0) ++ xMt vadL (xsH ws9 5 tn0 tf0)) (W2 := (xMw cT aM (va_up ad1 6 tq1) rd gdL vadL (xsH (xsH ws9 5 tn0 tf0) 6 tn1 tf1) [])) hP hD rfl [0, 1, 2, 3, 22, 5, 6, 7, 8, 9, 10, 11, 12, 13, 14, 15, 16, 17, 18, 19, 20, 21] rfl (by decide) rfl
        have hl : lv_has ls 8 [(6, .int y6), (3, xv vadL y3), (0, .ref aM), (1, .int y1), (2, .int y2)] := lv_sub hl [0, 2, 3, 4, 5] rfl
        generalize (va_up ad1 6 tq1) = ad3 at hP hD
        refine lv_goto (tgt := 24) hx hb dM_whole_119 (by decide) ?_
        exact ih (1, y3, y1, y2, y6, 0, 0, 0, (fun _ => 0), 0, (fun _ => 0), (xsH (xsH ws9 5 tn0 tf0) 6 tn1 tf1), wc, wn) _ _ ls (Or.inl ⟨ad3, gdL, vadL, rfl, hf, hP, hD, hS, lv_sub hl [1, 2, 3, 4] rfl, hE, hN⟩)
      · rw [if_neg hc] at hf
        refine lv_aload hx hb dM_whole_77 (lv_at hl 2 rfl) ?_
        refine lv_iload hx hb dM_whole_79 (lv_at hl 0 rfl) ?_
        refine lv_aload_n hx hb dM_whole_81 rfl (lv_at hl 4 rfl) ?_
        refine xm_get (v := .ref (adL 5)) hx hb htx hown hK hP 5 (by decide) rfl (htx _ kw_5_92) rfl dM_whole_82 ?_
        refine lv_iload hx hb dM_whole_85 (lv_at hl 0 rfl) ?_
        obtain ⟨hg1, hf⟩ := xifn hf
        refine va_aldq hx hb hK hP 3 4 rfl rfl hg1 dM_whole_87 ?_
        refine W.eq (g2 := F0 m 88 ls [xv vadL ((xvc ws9 5) y6.toNatClampNeg), .int y6, .ref tq0]) rfl ?_
        obtain ⟨hg2, hf⟩ := xifn hf
        obtain ⟨hg3, hf⟩ := xifn hf
        refine xm_ast (x := ((xvc ws9 5) y6.toNatClampNeg)) (W' := (xMw cT aM adL rd gdL vadL ws9 [(tq0, .inl (cT 4, tn0, .inr (.inr (.inr (.inr (xcf vadL (va_up tf0 y6.toNatClampNeg ((xvc ws9 5) y6.toNatClampNeg)))))))), (tq1, .inl (cT 4, tn1, .inr (.inr (.inr (.inr (xcf vadL tf1))))))])) hx hb hK hP hD hS 22 rfl hg2 hg3 dM_whole_88 rfl (fun H locs hP hD hS => ?_)
        refine lv_aload hx hb dM_whole_89 (lv_at hl 1 rfl) ?_
        refine lv_iload hx hb dM_whole_91 (lv_at hl 0 rfl) ?_
        refine lv_aload_n hx hb dM_whole_93 rfl (lv_at hl 4 rfl) ?_
        refine xm_get (v := .ref (adL 6)) hx hb htx hown hK hP 6 (by decide) rfl (htx _ kw_5_93) rfl dM_whole_94 ?_
        refine lv_iload hx hb dM_whole_97 (lv_at hl 0 rfl) ?_
        obtain ⟨hg4, hf⟩ := xifn hf
        refine va_aldq hx hb hK hP 4 4 rfl rfl hg4 dM_whole_99 ?_
        refine W.eq (g2 := F0 m 100 ls [xv vadL ((xvc ws9 6) y6.toNatClampNeg), .int y6, .ref tq1]) rfl ?_
        obtain ⟨hg5, hf⟩ := xifn hf
        obtain ⟨hg6, hf⟩ := xifn hf
        refine xm_ast (x := ((xvc ws9 6) y6.toNatClampNeg)) (W' := (xMw cT aM adL rd gdL vadL ws9 [(tq0, .inl (cT 4, tn0, .inr (.inr (.inr (.inr (xcf vadL (va_up tf0 y6.toNatClampNeg ((xvc ws9 5) y6.toNatClampNeg)))))))), (tq1, .inl (cT 4, tn1, .inr (.inr (.inr (.inr (xcf vadL (va_up tf1 y6.toNatClampNeg ((xvc ws9 6) y6.toNatClampNeg))))))))])) hx hb hK hP hD hS 23 rfl hg5 hg6 dM_whole_100 rfl (fun H locs hP hD hS => ?_)
        refine lv_iinc (v := (y6 + 1)) (lv' := [(6, .int (y6 + 1)), (5, .ref tq1), (4, .ref tq0), (3, xv vadL y3), (0, .ref aM), (1, .int y1), (2, .int y2)]) hx hb dM_whole_101 hl (k := 0) rfl rfl (by decide) rfl (fun ls hl => ?_)
        refine lv_goto (tgt := 68) hx hb dM_whole_104 (by decide) ?_
        exact ih (2, y3, y1, y2, (y6 + 1), 0, 0, tn0, (va_up tf0 y6.toNatClampNeg ((xvc ws9 5) y6.toNatClampNeg)), tn1, (va_up tf1 y6.toNatClampNeg ((xvc ws9 6) y6.toNatClampNeg)), ws9, wc, wn) _ _ ls (Or.inr (Or.inl ⟨adL, gdL, vadL, tq0, tq1, rfl, hf, hP, hD, hS, lv_sub hl [0, 1, 2, 3, 4, 5, 6] rfl, hE, hN⟩))
    · subst hj
      have hf : fM_whole_b (n + 1) 3 y3 y1 y2 y6 y7 y4 tn0 tf0 tn1 tf1 ws9 wc wn = some out := hf
      rw [fM_whole_b, if_neg (by decide), if_neg (by decide)] at hf
      obtain ⟨hP, hD⟩ : xPD D xcl A (xMw cT aM adL rd gdL vadL ws9 []) H := ⟨hP, hD⟩
      have hl : lv_has ls 8 [(7, .int y7), (6, .int y6), (4, .long y4), (3, xv vadL y3), (0, .ref aM), (1, .int y1), (2, .int y2)] := hl
      refine W.eq (g2 := F0 m 131 ls []) rfl ?_
      show W p l e _ s m _ below meth c H locs wc wn _ _
      obtain ⟨hm0, hf⟩ := xmoE hf
      refine lv_iload hx hb dM_whole_131 (lv_at hl 0 rfl) ?_
      refine lv_aload_n hx hb dM_whole_133 rfl (lv_at hl 4 rfl) ?_
      refine xm_get (v := .int (xsi ws9 12)) hx hb htx hown hK hP 12 (by decide) rfl (htx _ kw_5_99) rfl dM_whole_134 ?_
      refine lv_icmp_ge (tgt := 242) hx hb dM_whole_137 (by decide) (fun hc => ?_) (fun hc => ?_)
      · rw [if_pos hc] at hf
        refine lv_aload_n hx hb dM_whole_242 rfl (lv_at hl 4 rfl) ?_
        refine lv_iload_n hx hb dM_whole_243 rfl (lv_at hl 6 rfl) ?_
        refine xm_put (v := .int y2) (W' := (xMw cT aM adL rd gdL vadL (xsI ws9 12 y2) [])) (ty := .int) hx hb htx hown hK hP hD hS 12 (by decide) rfl (htx _ kw_5_99) rfl rfl (by decide +kernel) rfl rfl dM_whole_244 (fun H locs hP hD hS => ?_)
        refine xm_aload_n hx hb (xvor _ _) dM_whole_247 rfl (lv_at hl 3 rfl) ?_
        refine lv_iload hx hb dM_whole_248 (lv_at hl 1 rfl) ?_
        refine lv_iconst (v := 1) hx hb dM_whole_250 (by decide) ?_
        refine lv_iadd hx hb dM_whole_251 ?_
        obtain ⟨hg1, hf⟩ := xifn hf
        refine xm_vput (v := .int (y6 + (1 : Int32))) (ty := .int) hx hb htx hown hK hP hD hS 4 (by decide) hg1 (xsP (xsI ws9 12 y2) 4 (y3 - 1) (y6 + (1 : Int32))) rfl rfl rfl (xVf_P 4 (by decide)) (xVf_P2 4 (by decide)) ((hZ.1 (106, "depth", "I") (List.mem_of_getElem? (i := 4) rfl)).use rfl) rfl rfl (by decide +kernel) rfl rfl dM_whole_252 (fun H locs hP hD hS => ?_)
        refine xm_aload_n hx hb (xvor _ _) dM_whole_255 rfl (lv_at hl 3 rfl) ?_
        refine xm_vget (v := .int ((upd (xpi ws9 4) (y3 - 1) (y6 + (1 : Int32))) (y3 - 1))) hx hb htx hown hK hP 4 (by decide) hg1 rfl ((hZ.1 (106, "depth", "I") (List.mem_of_getElem? (i := 4) rfl)).use rfl) rfl dM_whole_256 ?_
        refine lv_bipush (v := 60) hx hb dM_whole_259 (by decide) ?_
        refine lv_icmp_gt (tgt := 273) hx hb dM_whole_261 (by decide) (fun hc => ?_) (fun hc => ?_)
        · rw [if_pos hc] at hf
          refine lv_aload_n hx hb dM_whole_273 rfl (lv_at hl 4 rfl) ?_
          obtain ⟨o2, hq3, hf⟩ := xbind hf
          have hl := lv_sub (l' := [(7, .int y7), (6, .int y6), (4, .long y4), (0, .ref aM), (1, .int y1), (2, .int y2)]) hl [0, 1, 2, 4, 5, 6] rfl
          by_cases hk4 : o2.1 = 1
          · rw [if_pos hk4] at hf
            obtain ⟨hm5, hf⟩ := xmoE hf
            have hFc := xm_free hD hS hA
            refine xx_thr (vx_runV (C := "ValueBenchModel") (As := []) (rest := []) ⟨hx, hb, hml, hown, htx⟩ (gM_limit_1 l hl9 D cT aK aV H.size n aM adL rd gdL vadL (xsP (xsI ws9 12 y2) 4 (y3 - 1) (y6 + (1 : Int32))) o2 hq3 hk4) ⟨callB_of 0 htx (xw_goodC kw_6_66) rfl rfl rfl (htx _ kw_1_5) (htx _ kw_6_63) ⟨by decide, by decide, by decide +kernel⟩ ⟨Nat.le_of_ble_eq_true rfl, Nat.le_of_ble_eq_true rfl⟩, (htx _ kw_6_65), (htx _ kp_M_limit)⟩ ⟨xPre_blind, va_recv hK hP (ci := 5) rfl (q0 := 0) rfl, (fun U hU hW => ⟨rfl, xPre_of hZ hS hFc hP hD hK U hU hW⟩)⟩ rfl rfl hl.1 rfl (xm_room (Nat.le_of_ble_eq_true rfl)) dM_whole_274 ⟨hm5.1, hm5.2⟩) hS hFc (fun q _ h => hFc q h) (fun E ce q9 u9 t H1 locs ht hvm hr9 hB hz1 hk1 hS hce hcv hcl => ?_)
            obtain ⟨rfl, hP1, hK1, hD1⟩ := hB
            rw [ht] at hP1
            obtain ⟨ad7, gd8, vad9⟩ := u9
            obtain ⟨hv10, hn11⟩ := hr9
            have hP : va_P D xcl (xMw cT aM ad7 rd gd8 vad9 (xsP (xsI ws9 12 y2) 4 (y3 - 1) (y6 + (1 : Int32))) []) H1 := hP1
            have hD : va_D A (xMw cT aM ad7 rd gd8 vad9 (xsP (xsI ws9 12 y2) 4 (y3 - 1) (y6 + (1 : Int32))) []) := hD1.weaken (fun k q _ h => hFc q.1 h)
            generalize H1 = H at hP hS hce ⊢
            have hE9 : ∀ p, p < xct st → vad9 p = vad p := fun p h => (hv10 p (Nat.lt_of_lt_of_le h hN)).trans (hE p h)
            have hE := hE9
            have hN : xct st ≤ xct (xsP (xsI ws9 12 y2) 4 (y3 - 1) (y6 + (1 : Int32))) := Nat.le_trans hN hn11
            obtain rfl := Option.some.inj hf
            exact vx_out (E := "java/lang/IndexOutOfBoundsException") (fun x h => (hne x h).elim) hlocks hce hcv hcl (fun t ht ha => ⟨(ad7, gd8, vad9), ⟨hE, hN⟩, ⟨rfl, by rw [ht]; exact hP, va_K.moved ha hK, hD⟩, hS.F ht⟩) hS.2.2 (Nat.le_refl _) (Nat.le_refl _)
          rw [if_neg hk4] at hf
          exact nomatch hf
        · rw [if_neg hc] at hf
          refine lv_lload hx hb dM_whole_264 (lv_at hl 2 rfl) ?_
          refine lv_ldc2 hx hb hown (htx _ kw_6_108) dM_whole_266 ?_
          refine W.lcmp hx hb dM_whole_269 ?_
          refine lv_if_le (tgt := 278) hx hb dM_whole_270 (by decide) (fun hc => ?_) (fun hc => ?_)
          · rw [if_pos hc] at hf
            refine xm_aload_n hx hb (xvor _ _) dM_whole_278 rfl (lv_at hl 3 rfl) ?_
            refine lv_lload hx hb dM_whole_279 (lv_at hl 2 rfl) ?_
            refine lv_l2i hx hb dM_whole_281 rfl ?_
            refine xm_vput (v := .int y4.toInt32) (ty := .int) hx hb htx hown hK hP hD hS 5 (by decide) hg1 (xsP (xsP (xsI ws9 12 y2) 4 (y3 - 1) (y6 + (1 : Int32))) 5 (y3 - 1) y4.toInt32) rfl rfl rfl (xVf_P 5 (by decide)) (xVf_P2 5 (by decide)) ((hZ.1 (109, "weight", "I") (List.mem_of_getElem? (i := 5) rfl)).use rfl) rfl rfl (by decide +kernel) rfl rfl dM_whole_282 (fun H locs hP hD hS => ?_)
            refine xm_aload_n hx hb (xvor _ _) dM_whole_285 rfl (lv_at hl 3 rfl) ?_
            obtain rfl := Option.some.inj hf
            exact absurd (show (0 : Nat) = 1 from hkd) (by decide)
          · rw [if_neg hc] at hf
            refine lv_aload_n hx hb dM_whole_273 rfl (lv_at hl 4 rfl) ?_
            obtain ⟨o2, hq3, hf⟩ := xbind hf
            have hl := lv_sub (l' := [(7, .int y7), (6, .int y6), (4, .long y4), (0, .ref aM), (1, .int y1), (2, .int y2)]) hl [0, 1, 2, 4, 5, 6] rfl
            by_cases hk4 : o2.1 = 1
            · rw [if_pos hk4] at hf
              obtain ⟨hm5, hf⟩ := xmoE hf
              have hFc := xm_free hD hS hA
              refine xx_thr (vx_runV (C := "ValueBenchModel") (As := []) (rest := []) ⟨hx, hb, hml, hown, htx⟩ (gM_limit_1 l hl9 D cT aK aV H.size n aM adL rd gdL vadL (xsP (xsI ws9 12 y2) 4 (y3 - 1) (y6 + (1 : Int32))) o2 hq3 hk4) ⟨callB_of 0 htx (xw_goodC kw_6_66) rfl rfl rfl (htx _ kw_1_5) (htx _ kw_6_63) ⟨by decide, by decide, by decide +kernel⟩ ⟨Nat.le_of_ble_eq_true rfl, Nat.le_of_ble_eq_true rfl⟩, (htx _ kw_6_65), (htx _ kp_M_limit)⟩ ⟨xPre_blind, va_recv hK hP (ci := 5) rfl (q0 := 0) rfl, (fun U hU hW => ⟨rfl, xPre_of hZ hS hFc hP hD hK U hU hW⟩)⟩ rfl rfl hl.1 rfl (xm_room (Nat.le_of_ble_eq_true rfl)) dM_whole_274 ⟨hm5.1, hm5.2⟩) hS hFc (fun q _ h => hFc q h) (fun E ce q9 u9 t H1 locs ht hvm hr9 hB hz1 hk1 hS hce hcv hcl => ?_)
              obtain ⟨rfl, hP1, hK1, hD1⟩ := hB
              rw [ht] at hP1
              obtain ⟨ad7, gd8, vad9⟩ := u9
              obtain ⟨hv10, hn11⟩ := hr9
              have hP : va_P D xcl (xMw cT aM ad7 rd gd8 vad9 (xsP (xsI ws9 12 y2) 4 (y3 - 1) (y6 + (1 : Int32))) []) H1 := hP1
              have hD : va_D A (xMw cT aM ad7 rd gd8 vad9 (xsP (xsI ws9 12 y2) 4 (y3 - 1) (y6 + (1 : Int32))) []) := hD1.weaken (fun k q _ h => hFc q.1 h)
              generalize H1 = H at hP hS hce ⊢
              have hE9 : ∀ p, p < xct st → vad9 p = vad p := fun p h => (hv10 p (Nat.lt_of_lt_of_le h hN)).trans (hE p h)
              have hE := hE9
              have hN : xct st ≤ xct (xsP (xsI ws9 12 y2) 4 (y3 - 1) (y6 + (1 : Int32))) := Nat.le_trans hN hn11
              obtain rfl := Option.some.inj hf
              exact vx_out (E := "java/lang/IndexOutOfBoundsException") (fun x h => (hne x h).elim) hlocks hce hcv hcl (fun t ht ha => ⟨(ad7, gd8, vad9), ⟨hE, hN⟩, ⟨rfl, by rw [ht]; exact hP, va_K.moved ha hK, hD⟩, hS.F ht⟩) hS.2.2 (Nat.le_refl _) (Nat.le_refl _)
            rw [if_neg hk4] at hf
            exact nomatch hf
      · rw [if_neg hc] at hf
        refine lv_aload_n hx hb dM_whole_140 rfl (lv_at hl 4 rfl) ?_
        refine xm_get (v := .ref (adL 5)) hx hb htx hown hK hP 5 (by decide) rfl (htx _ kw_5_92) rfl dM_whole_141 ?_
        refine lv_aload_n hx hb dM_whole_144 rfl (lv_at hl 4 rfl) ?_
        refine xm_get (v := .int (xsi ws9 7)) hx hb htx hown hK hP 7 (by decide) rfl (htx _ kw_5_94) rfl dM_whole_145 ?_
        refine lv_aload_n hx hb dM_whole_148 rfl (lv_at hl 4 rfl) ?_
        refine xm_get (v := .ref (adL 10)) hx hb htx hown hK hP 10 (by decide) rfl (htx _ kw_5_97) rfl dM_whole_149 ?_
        refine lv_iload hx hb dM_whole_152 (lv_at hl 0 rfl) ?_
        obtain ⟨hg1, hf⟩ := xifn hf
        refine va_aldq hx hb hK hP 5 4 rfl rfl hg1 dM_whole_154 ?_
        refine W.eq (g2 := F0 m 155 ls [xv vadL ((xvc ws9 10) y7.toNatClampNeg), .int (xsi ws9 7), .ref (adL 5)]) rfl ?_
        obtain ⟨hg2, hf⟩ := xifn hf
        obtain ⟨hg3, hf⟩ := xifn hf
        refine xm_ast (x := ((xvc ws9 10) y7.toNatClampNeg)) (W' := (xMw cT aM adL rd gdL vadL (xsC ws9 5 ((xsi ws9 7).toNatClampNeg) ((xvc ws9 10) y7.toNatClampNeg)) [])) hx hb hK hP hD hS 3 rfl hg2 hg3 dM_whole_155 rfl (fun H locs hP hD hS => ?_)
        refine lv_aload_n hx hb dM_whole_156 rfl (lv_at hl 4 rfl) ?_
        refine xm_get (v := .ref (adL 6)) hx hb htx hown hK hP 6 (by decide) rfl (htx _ kw_5_93) rfl dM_whole_157 ?_
        refine lv_aload_n hx hb dM_whole_160 rfl (lv_at hl 4 rfl) ?_
        refine xm_get (v := .int (xsi ws9 7)) hx hb htx hown hK hP 7 (by decide) rfl (htx _ kw_5_94) rfl dM_whole_161 ?_
        refine lv_aload_n hx hb dM_whole_164 rfl (lv_at hl 4 rfl) ?_
        refine xm_get (v := .ref (adL 11)) hx hb htx hown hK hP 11 (by decide) rfl (htx _ kw_5_98) rfl dM_whole_165 ?_
        refine lv_iload hx hb dM_whole_168 (lv_at hl 0 rfl) ?_
        obtain ⟨hg4, hf⟩ := xifn hf
        refine va_aldq hx hb hK hP 6 4 rfl rfl hg4 dM_whole_170 ?_
        refine W.eq (g2 := F0 m 171 ls [xv vadL ((xvc ws9 11) y7.toNatClampNeg), .int (xsi ws9 7), .ref (adL 6)]) rfl ?_
        obtain ⟨hg5, hf⟩ := xifn hf
        obtain ⟨hg6, hf⟩ := xifn hf
        refine xm_ast (x := ((xvc ws9 11) y7.toNatClampNeg)) (W' := (xMw cT aM adL rd gdL vadL (xsC (xsC ws9 5 ((xsi ws9 7).toNatClampNeg) ((xvc ws9 10) y7.toNatClampNeg)) 6 ((xsi ws9 7).toNatClampNeg) ((xvc ws9 11) y7.toNatClampNeg)) [])) hx hb hK hP hD hS 4 rfl hg5 hg6 dM_whole_171 rfl (fun H locs hP hD hS => ?_)
        refine lv_aload_n hx hb dM_whole_172 rfl (lv_at hl 4 rfl) ?_
        refine lv_dup hx hb dM_whole_173 rfl ?_
        refine xm_get (v := .int (xsi ws9 7)) hx hb htx hown hK hP 7 (by decide) rfl (htx _ kw_5_94) rfl dM_whole_174 ?_
        refine lv_iconst (v := 1) hx hb dM_whole_177 (by decide) ?_
        refine lv_iadd hx hb dM_whole_178 ?_
        refine xm_put (v := .int ((xsi ws9 7) + (1 : Int32))) (W' := (xMw cT aM adL rd gdL vadL (xsI (xsC (xsC ws9 5 ((xsi ws9 7).toNatClampNeg) ((xvc ws9 10) y7.toNatClampNeg)) 6 ((xsi ws9 7).toNatClampNeg) ((xvc ws9 11) y7.toNatClampNeg)) 7 ((xsi ws9 7) + (1 : Int32))) [])) (ty := .int) hx hb htx hown hK hP hD hS 7 (by decide) rfl (htx _ kw_5_94) rfl rfl (by decide +kernel) rfl rfl dM_whole_179 (fun H locs hP hD hS => ?_)
        refine lv_lload hx hb dM_whole_182 (lv_at hl 2 rfl) ?_
        refine lv_aload_n hx hb dM_whole_184 rfl (lv_at hl 4 rfl) ?_
        refine xm_get (v := .ref (adL 10)) hx hb htx hown hK hP 10 (by decide) rfl (htx _ kw_5_97) rfl dM_whole_185 ?_
        refine lv_iload hx hb dM_whole_188 (lv_at hl 0 rfl) ?_
        obtain ⟨hg7, hf⟩ := xifn hf
        refine va_aldq hx hb hK hP 5 4 rfl rfl hg7 dM_whole_190 ?_
        refine W.eq (g2 := F0 m 191 ls [xv vadL ((xvc ws9 10) y7.toNatClampNeg), .long y4]) rfl ?_
        obtain ⟨hg8, hf⟩ := xifn hf
        refine xm_vget (v := .int ((xpi ws9 5) (((xvc ws9 10) y7.toNatClampNeg) - 1))) hx hb htx hown hK hP 5 (by decide) hg8 rfl ((hZ.1 (109, "weight", "I") (List.mem_of_getElem? (i := 5) rfl)).use rfl) rfl dM_whole_191 ?_
        refine lv_iload_n hx hb dM_whole_194 rfl (lv_at hl 5 rfl) ?_
        refine lv_bipush (v := 6) hx hb dM_whole_195 (by decide) ?_
        refine lv_icmp_ne (tgt := 213) hx hb dM_whole_197 (by decide) (fun hc => ?_) (fun hc => ?_)
        · rw [if_neg hc] at hf
          refine lv_iconst (v := 0) hx hb dM_whole_213 (by decide) ?_
          refine lv_iadd hx hb dM_whole_214 ?_
          refine lv_i2l hx hb dM_whole_215 rfl ?_
          refine lv_ladd hx hb dM_whole_216 ?_
          refine lv_lstore (lv' := [(4, .long (y4 + (((xpi ws9 5) (((xvc ws9 10) y7.toNatClampNeg) - 1)) + (0 : Int32)).toInt64)), (7, .int y7), (6, .int y6), (3, xv vadL y3), (0, .ref aM), (1, .int y1), (2, .int y2)]) hx hb dM_whole_217 hl (by decide) (by simp only [List.filter, xvcat, xrscat, xcI, xcL, xcR, xcN]; rfl) (fun ls hl => ?_)
          refine lv_iload hx hb dM_whole_219 (lv_at hl 2 rfl) ?_
          refine lv_aload_n hx hb dM_whole_221 rfl (lv_at hl 4 rfl) ?_
          refine xm_get (v := .ref (adL 10)) hx hb htx hown hK hP 10 (by decide) rfl (htx _ kw_5_97) rfl dM_whole_222 ?_
          refine lv_iload hx hb dM_whole_225 (lv_at hl 1 rfl) ?_
          obtain ⟨hg9, hf⟩ := xifn hf
          refine va_aldq hx hb hK hP 5 4 rfl rfl hg9 dM_whole_227 ?_
          refine W.eq (g2 := F0 m 228 ls [xv vadL ((xvc ws9 10) y7.toNatClampNeg), .int y6]) rfl ?_
          refine xm_vget (v := .int ((xpi ws9 4) (((xvc ws9 10) y7.toNatClampNeg) - 1))) hx hb htx hown hK hP 4 (by decide) hg8 rfl ((hZ.1 (106, "depth", "I") (List.mem_of_getElem? (i := 4) rfl)).use rfl) rfl dM_whole_228 ?_
          refine va_mmax hx hb (hml.trans hl.1.symm) hown (htx _ kw_6_107) (htx _ kw_2_6) (htx _ kw_1_15) (htx _ kw_2_7) (Nat.le_of_ble_eq_true rfl) (Nat.le_of_ble_eq_true rfl) (hm0.1) (hm0.2) dM_whole_231 ?_
          refine W.eq (g2 := F0 m 234 ls [.int (if y6 < ((xpi ws9 4) (((xvc ws9 10) y7.toNatClampNeg) - 1)) then ((xpi ws9 4) (((xvc ws9 10) y7.toNatClampNeg) - 1)) else y6)]) rfl ?_
          refine lv_istore (lv' := [(6, .int (if y6 < ((xpi ws9 4) (((xvc ws9 10) y7.toNatClampNeg) - 1)) then ((xpi ws9 4) (((xvc ws9 10) y7.toNatClampNeg) - 1)) else y6)), (4, .long (y4 + (((xpi ws9 5) (((xvc ws9 10) y7.toNatClampNeg) - 1)) + (0 : Int32)).toInt64)), (7, .int y7), (3, xv vadL y3), (0, .ref aM), (1, .int y1), (2, .int y2)]) hx hb dM_whole_234 hl (by decide) rfl (fun ls hl => ?_)
          refine lv_iinc (v := (y7 + 1)) (lv' := [(7, .int (y7 + 1)), (6, .int (if y6 < ((xpi ws9 4) (((xvc ws9 10) y7.toNatClampNeg) - 1)) then ((xpi ws9 4) (((xvc ws9 10) y7.toNatClampNeg) - 1)) else y6)), (4, .long (y4 + (((xpi ws9 5) (((xvc ws9 10) y7.toNatClampNeg) - 1)) + (0 : Int32)).toInt64)), (3, xv vadL y3), (0, .ref aM), (1, .int y1), (2, .int y2)]) hx hb dM_whole_236 hl (k := 2) rfl rfl (by decide) rfl (fun ls hl => ?_)
          refine lv_goto (tgt := 131) hx hb dM_whole_239 (by decide) ?_
          exact ih (3, y3, y1, y2, (if y6 < ((xpi ws9 4) (((xvc ws9 10) y7.toNatClampNeg) - 1)) then ((xpi ws9 4) (((xvc ws9 10) y7.toNatClampNeg) - 1)) else y6), (y7 + 1), (y4 + (((xpi ws9 5) (((xvc ws9 10) y7.toNatClampNeg) - 1)) + (0 : Int32)).toInt64), 0, (fun _ => 0), 0, (fun _ => 0), (xsI (xsC (xsC ws9 5 ((xsi ws9 7).toNatClampNeg) ((xvc ws9 10) y7.toNatClampNeg)) 6 ((xsi ws9 7).toNatClampNeg) ((xvc ws9 11) y7.toNatClampNeg)) 7 ((xsi ws9 7) + (1 : Int32))), wc, wn) _ _ ls (Or.inr (Or.inr (⟨adL, gdL, vadL, rfl, hf, hP, hD, hS, lv_sub hl [0, 1, 2, 3, 4, 5, 6] rfl, hE, hN⟩)))
        · rw [if_pos hc] at hf
          refine lv_aload_n hx hb dM_whole_200 rfl (lv_at hl 4 rfl) ?_
          refine xm_get (v := .ref (adL 11)) hx hb htx hown hK hP 11 (by decide) rfl (htx _ kw_5_98) rfl dM_whole_201 ?_
          refine lv_iload hx hb dM_whole_204 (lv_at hl 0 rfl) ?_
          obtain ⟨hg9, hf⟩ := xifn hf
          refine va_aldq hx hb hK hP 6 4 rfl rfl hg9 dM_whole_206 ?_
          refine W.eq (g2 := F0 m 207 ls [xv vadL ((xvc ws9 11) y7.toNatClampNeg), .int ((xpi ws9 5) (((xvc ws9 10) y7.toNatClampNeg) - 1)), .long y4]) rfl ?_
          obtain ⟨hg10, hf⟩ := xifn hf
          refine xm_vget (v := .int ((xpi ws9 5) (((xvc ws9 11) y7.toNatClampNeg) - 1))) hx hb htx hown hK hP 5 (by decide) hg10 rfl ((hZ.1 (109, "weight", "I") (List.mem_of_getElem? (i := 5) rfl)).use rfl) rfl dM_whole_207 ?_
          refine lv_goto (tgt := 214) hx hb dM_whole_210 (by decide) ?_
          refine lv_iadd hx hb dM_whole_214 ?_
          refine lv_i2l hx hb dM_whole_215 rfl ?_
          refine lv_ladd hx hb dM_whole_216 ?_
          refine lv_lstore (lv' := [(4, .long (y4 + (((xpi ws9 5) (((xvc ws9 10) y7.toNatClampNeg) - 1)) + ((xpi ws9 5) (((xvc ws9 11) y7.toNatClampNeg) - 1))).toInt64)), (7, .int y7), (6, .int y6), (3, xv vadL y3), (0, .ref aM), (1, .int y1), (2, .int y2)]) hx hb dM_whole_217 hl (by decide) (by simp only [List.filter, xvcat, xrscat, xcI, xcL, xcR, xcN]; rfl) (fun ls hl => ?_)
          refine lv_iload hx hb dM_whole_219 (lv_at hl 2 rfl) ?_
          refine lv_aload_n hx hb dM_whole_221 rfl (lv_at hl 4 rfl) ?_
          refine xm_get (v := .ref (adL 10)) hx hb htx hown hK hP 10 (by decide) rfl (htx _ kw_5_97) rfl dM_whole_222 ?_
          refine lv_iload hx hb dM_whole_225 (lv_at hl 1 rfl) ?_
          obtain ⟨hg11, hf⟩ := xifn hf
          refine va_aldq hx hb hK hP 5 4 rfl rfl hg11 dM_whole_227 ?_
          refine W.eq (g2 := F0 m 228 ls [xv vadL ((xvc ws9 10) y7.toNatClampNeg), .int y6]) rfl ?_
          refine xm_vget (v := .int ((xpi ws9 4) (((xvc ws9 10) y7.toNatClampNeg) - 1))) hx hb htx hown hK hP 4 (by decide) hg8 rfl ((hZ.1 (106, "depth", "I") (List.mem_of_getElem? (i := 4) rfl)).use rfl) rfl dM_whole_228 ?_
          refine va_mmax hx hb (hml.trans hl.1.symm) hown (htx _ kw_6_107) (htx _ kw_2_6) (htx _ kw_1_15) (htx _ kw_2_7) (Nat.le_of_ble_eq_true rfl) (Nat.le_of_ble_eq_true rfl) (hm0.1) (hm0.2) dM_whole_231 ?_
          refine W.eq (g2 := F0 m 234 ls [.int (if y6 < ((xpi ws9 4) (((xvc ws9 10) y7.toNatClampNeg) - 1)) then ((xpi ws9 4) (((xvc ws9 10) y7.toNatClampNeg) - 1)) else y6)]) rfl ?_
          refine lv_istore (lv' := [(6, .int (if y6 < ((xpi ws9 4) (((xvc ws9 10) y7.toNatClampNeg) - 1)) then ((xpi ws9 4) (((xvc ws9 10) y7.toNatClampNeg) - 1)) else y6)), (4, .long (y4 + (((xpi ws9 5) (((xvc ws9 10) y7.toNatClampNeg) - 1)) + ((xpi ws9 5) (((xvc ws9 11) y7.toNatClampNeg) - 1))).toInt64)), (7, .int y7), (3, xv vadL y3), (0, .ref aM), (1, .int y1), (2, .int y2)]) hx hb dM_whole_234 hl (by decide) rfl (fun ls hl => ?_)
          refine lv_iinc (v := (y7 + 1)) (lv' := [(7, .int (y7 + 1)), (6, .int (if y6 < ((xpi ws9 4) (((xvc ws9 10) y7.toNatClampNeg) - 1)) then ((xpi ws9 4) (((xvc ws9 10) y7.toNatClampNeg) - 1)) else y6)), (4, .long (y4 + (((xpi ws9 5) (((xvc ws9 10) y7.toNatClampNeg) - 1)) + ((xpi ws9 5) (((xvc ws9 11) y7.toNatClampNeg) - 1))).toInt64)), (3, xv vadL y3), (0, .ref aM), (1, .int y1), (2, .int y2)]) hx hb dM_whole_236 hl (k := 2) rfl rfl (by decide) rfl (fun ls hl => ?_)
          refine lv_goto (tgt := 131) hx hb dM_whole_239 (by decide) ?_
          exact ih (3, y3, y1, y2, (if y6 < ((xpi ws9 4) (((xvc ws9 10) y7.toNatClampNeg) - 1)) then ((xpi ws9 4) (((xvc ws9 10) y7.toNatClampNeg) - 1)) else y6), (y7 + 1), (y4 + (((xpi ws9 5) (((xvc ws9 10) y7.toNatClampNeg) - 1)) + ((xpi ws9 5) (((xvc ws9 11) y7.toNatClampNeg) - 1))).toInt64), 0, (fun _ => 0), 0, (fun _ => 0), (xsI (xsC (xsC ws9 5 ((xsi ws9 7).toNatClampNeg) ((xvc ws9 10) y7.toNatClampNeg)) 6 ((xsi ws9 7).toNatClampNeg) ((xvc ws9 11) y7.toNatClampNeg)) 7 ((xsi ws9 7) + (1 : Int32))), wc, wn) _ _ ls (Or.inr (Or.inr (⟨adL, gdL, vadL, rfl, hf, hP, hD, hS, lv_sub hl [0, 1, 2, 3, 4, 5, 6] rfl, hE, hN⟩)))
  refine lv_aload_n hx hb dM_whole_0 rfl (lv_at hl 0 rfl) ?_
  refine lv_iload_n hx hb dM_whole_1 rfl (lv_at hl 1 rfl) ?_
  obtain ⟨o1, hq2, hf⟩ := xbind hf
  obtain ⟨hm3, hf⟩ := xmoE hf
  have hFc := xm_free hD hS hA
  refine va_callq (va_runV (C := "ValueBenchModel") (As := [.int x0]) (rest := []) ⟨hx, hb, hml, hown, htx⟩ (gM_fresh l hl9 D cT aK aV s.heap.size n aM ad rd gd vad st x0 o1 hq2) ⟨callB_of 1 htx (xw_goodC kw_6_16) rfl rfl rfl (htx _ kw_1_5) (htx _ kw_6_13) ⟨by decide, by decide, by decide +kernel⟩ ⟨Nat.le_of_ble_eq_true rfl, Nat.le_of_ble_eq_true rfl⟩, (htx _ kw_6_15), (htx _ kp_M_fresh)⟩ ⟨xPre_blind, va_recv hK hP (ci := 5) rfl (q0 := 0) rfl, (fun U hU hW => ⟨rfl, xPre_of hZ hS hFc hP hD hK U hU hW⟩)⟩ rfl rfl hl.1 rfl (xm_room (Nat.le_of_ble_eq_true rfl)) dM_whole_2 ⟨hm3.1, hm3.2⟩) hS (fun q _ h => hFc q h) hFc (fun r4 u9 t H1 locs ht hvm hr9 hB hz1 hk1 hS => ?_)
  obtain ⟨hP1, hK1, hD1⟩ := hB
  rw [ht] at hP1
  obtain ⟨ad5, gd6, vad7⟩ := u9
  obtain ⟨hr9, hv8, hn9⟩ := hr9
  have hP : va_P D xcl (xMw cT aM ad5 rd gd6 vad7 o1.2.2.2 []) H1 := hP1
  have hD : va_D A (xMw cT aM ad5 rd gd6 vad7 o1.2.2.2 []) := hD1.weaken (fun k q _ h => hFc q.1 h)
  generalize H1 = H at hP hS ⊢
  have hE9 : ∀ p, p < xct st → vad7 p = vad p := fun p h => (hv8 p (Nat.lt_of_lt_of_le h hN)).trans (hE p h)
  have hE := hE9
  have hN : xct st ≤ xct o1.2.2.2 := Nat.le_trans hN hn9
  rw [hr9]
  refine W.eq (g2 := F0 m 5 ls [xv vad7 o1.2.2.1]) (by first | rfl | (skip; rfl)) ?_
  refine xm_astore_n (lv' := [(3, xv vad7 o1.2.2.1), (0, .ref aM), (1, .int x0), (2, .int x1)]) hx hb (xvor _ _) dM_whole_5 rfl hl (by decide) rfl (fun ls hl => ?_)
  refine xm_aload_n hx hb (xvor _ _) dM_whole_6 rfl (lv_at hl 0 rfl) ?_
  refine lv_aload_n hx hb dM_whole_7 rfl (lv_at hl 1 rfl) ?_
  refine xm_get (v := .int (xsi o1.2.2.2 7)) hx hb htx hown hK hP 7 (by decide) rfl (htx _ kw_5_94) rfl dM_whole_8 ?_
  obtain ⟨hg10, hf⟩ := xifn hf
  refine xm_vput (v := .int (xsi o1.2.2.2 7)) (ty := .int) hx hb htx hown hK hP hD hS 2 (by decide) hg10 (xsP o1.2.2.2 2 (o1.2.2.1 - 1) (xsi o1.2.2.2 7)) rfl rfl rfl (xVf_P 2 (by decide)) (xVf_P2 2 (by decide)) ((hZ.1 (100, "off", "I") (List.mem_of_getElem? (i := 2) rfl)).use rfl) rfl rfl (by decide +kernel) rfl rfl dM_whole_11 (fun H locs hP hD hS => ?_)
  refine xm_aload_n hx hb (xvor _ _) dM_whole_14 rfl (lv_at hl 0 rfl) ?_
  refine lv_aload_n hx hb dM_whole_15 rfl (lv_at hl 1 rfl) ?_
  refine xm_get (v := .int (xsi o1.2.2.2 12)) hx hb htx hown hK hP 12 (by decide) rfl (htx _ kw_5_99) rfl dM_whole_16 ?_
  refine lv_iload_n hx hb dM_whole_19 rfl (lv_at hl 3 rfl) ?_
  refine lv_isub hx hb dM_whole_20 ?_
  refine xm_vput (v := .int ((xsi o1.2.2.2 12) - x1)) (ty := .int) hx hb htx hown hK hP hD hS 3 (by decide) hg10 (xsP (xsP o1.2.2.2 2 (o1.2.2.1 - 1) (xsi o1.2.2.2 7)) 3 (o1.2.2.1 - 1) ((xsi o1.2.2.2 12) - x1)) rfl rfl rfl (xVf_P 3 (by decide)) (xVf_P2 3 (by decide)) ((hZ.1 (103, "count", "I") (List.mem_of_getElem? (i := 3) rfl)).use rfl) rfl rfl (by decide +kernel) rfl rfl dM_whole_21 (fun H locs hP hD hS => ?_)
  exact key n (1, o1.2.2.1, x0, x1, 0, 0, 0, 0, (fun _ => 0), 0, (fun _ => 0), (xsP (xsP o1.2.2.2 2 (o1.2.2.1 - 1) (xsi o1.2.2.2 7)) 3 (o1.2.2.1 - 1) ((xsi o1.2.2.2 12) - x1)), (0 + o1.1), (0 + o1.2.1)) _ _ ls (Or.inl ⟨ad5, gd6, vad7, rfl, hf, hP, hD, hS, lv_sub hl [0, 1, 2, 3] rfl, hE, hN⟩)
set_option maxHeartbeats 400000000 in
set_option maxRecDepth 100000 in
theorem gM_added (l : Launch) (hl9 : l.stackTraces = false) (D : va_G) (cT : Nat → ClassId) (aK aV : Nat → Nat) (sz n : Nat) (aM : Nat) (ad rd gd vad : Nat → Nat) (st : xS) (c0 : Nat) (c1 : Nat) (out : Nat × Nat × Nat × Nat × xS) (hf : fM_added n st c0 c1 = some out) (hkd : out.1 = 0) : xMet l yM_added wyM_added 8 out.2.1 out.2.2.1 147 D cT aK aV sz [.ref aM, xv vad c0, xv vad c1] (xMw cT aM ad rd gd vad st []) (fun A => va_Qq (fun (r : Option Nat) (u : xU) => r = xca u.2.2 out.2.2.2.1 ∧ xE vad st out.2.2.2.2 u) (fun u t => xB D xcl cT A (xMw cT aM u.1 rd u.2.1 u.2.2 out.2.2.2.2 []) t) A) := by
  refine Met.ofW (cc := prog_13_method_49_code) (maxL := 6) (ret := (some (.object "ValueBenchModel$V"))) (by decide) rfl ?_
  intro p e s m args below meth c s₁ B hml hv
  obtain ⟨rfl, hsz, hZ, hP, hK, hD0⟩ := hv
  have hx := B.exec
  have hb := B.bytes
  have hr := B.returns
  have hts := atoms_spec (ws := wyM_added) B.pre
  have htx := fun w h => hts w (List.mem_cons_of_mem _ h)
  have hown : s.vm.findClass "ValueBenchModel" = some m.cls := findClass_of_methodNamed B.named
  have hlocks := B.notSynchronized
  subst hsz
  have hD := hD0.self (sz := s.heap.size)
  generalize hAe : va_A (xMw cT aM ad rd gd vad st []) s.heap.size = A at hD hZ ⊢
  have hA : ∀ q : Nat, s.heap.size ≤ q → A q := fun q h => by rw [← hAe]; exact Or.inr h
  have hS : va_S A s.heap s.heap [] := va_S.rf
  have hl := lv_entry ([.ref aM, xv vad c0, xv vad c1]) (n := 6) (by simp [lg_sl, xvcat, xrscat, xcI, xcL, xcR, xcN])
  rw [show lv_args 0 [.ref aM, xv vad c0, xv vad c1] = [(0, .ref aM), (1, xv vad c0), (2, xv vad c1)] from by simp [lv_args, xvcat, xrscat, xcI, xcL, xcR, xcN]] at hl
  rw [lg_entry_eq]
  generalize (lg_sl ([.ref aM, xv vad c0, xv vad c1]) ++ List.replicate (6 - (lg_sl ([.ref aM, xv vad c0, xv vad c1])).length) Slot.unset).toArray = ls at hl ⊢
  have hl : lv_has ls 6 [(0, .ref aM), (1, xv vad c0), (2, xv vad c1)] := hl
  have hE : ∀ p, p < xct st → vad p = vad p := fun _ _ => rfl
  have hN : xct st ≤ xct st := Nat.le_refl _
  unfold fM_added at hf
  refine xloopM (σ := Nat × Int32 × Int32 × Nat × Nat × xS × Nat × Nat) (fun n x H locs ls => (∃ (adL gdL vadL : Nat → Nat), x.1 = 1 ∧ fM_added_b n x.1 x.2.1 x.2.2.1 x.2.2.2.1 x.2.2.2.2.1 x.2.2.2.2.2.1 x.2.2.2.2.2.2.1 x.2.2.2.2.2.2.2 = some out ∧ va_P D xcl (xMw cT aM adL rd gdL vadL x.2.2.2.2.2.1 []) H ∧ va_D A (xMw cT aM adL rd gdL vadL x.2.2.2.2.2.1 []) ∧ va_S A s.heap H locs ∧ lv_has ls 6 [(4, .int x.2.1), (3, .int x.2.2.1), (0, .ref aM), (1, xv vadL x.2.2.2.1), (2, xv vadL x.2.2.2.2.1)] ∧ (∀ p, p < xct st → vadL p = vad p) ∧ xct st ≤ xct x.2.2.2.2.2.1) ∨ (∃ (adL gdL vadL : Nat → Nat), x.1 = 2 ∧ fM_added_b n x.1 x.2.1 x.2.2.1 x.2.2.2.1 x.2.2.2.2.1 x.2.2.2.2.2.1 x.2.2.2.2.2.2.1 x.2.2.2.2.2.2.2 = some out ∧ va_P D xcl (xMw cT aM adL rd gdL vadL x.2.2.2.2.2.1 []) H ∧ va_D A (xMw cT aM adL rd gdL vadL x.2.2.2.2.2.1 []) ∧ va_S A s.heap H locs ∧ lv_has ls 6 [(4, .int x.2.1), (3, .int x.2.2.1), (0, .ref aM), (1, xv vadL x.2.2.2.1), (2, xv vadL x.2.2.2.2.1)] ∧ (∀ p, p < xct st → vadL p = vad p) ∧ xct st ≤ xct x.2.2.2.2.2.1)) (fun x => if x.1 = 1 then 102 else 193) (fun x => x.2.2.2.2.2.2.1) (fun x => x.2.2.2.2.2.2.2) (fun x H locs ls h => by rcases h with h | h; (obtain ⟨_, _, _, h⟩ := h; exact absurd h.2.1 (by rw [fM_added_b]; exact fun h => nomatch h)); (obtain ⟨_, _, _, h⟩ := h; exact absurd h.2.1 (by rw [fM_added_b]; exact fun h => nomatch h))) (fun n ih x H locs ls hv => ?_) (fun key => ?_)
  · obtain ⟨lb, y4, y3, y1, y2, ws9, wc, wn⟩ := x
    rcases hv with ⟨adL, gdL, vadL, hj, hf, hP, hD, hS, hl, hE, hN⟩ | ⟨adL, gdL, vadL, hj, hf, hP, hD, hS, hl, hE, hN⟩
    · subst hj
      have hf : fM_added_b (n + 1) 1 y4 y3 y1 y2 ws9 wc wn = some out := hf
      rw [fM_added_b, if_pos rfl] at hf
      obtain ⟨hP, hD⟩ : xPD D xcl A (xMw cT aM adL rd gdL vadL ws9 []) H := ⟨hP, hD⟩
      have hl : lv_has ls 6 [(4, .int y4), (3, .int y3), (0, .ref aM), (1, xv vadL y1), (2, xv vadL y2)] := hl
      refine W.eq (g2 := F0 m 102 ls []) rfl ?_
      show W p l e _ s m _ below meth c H locs wc wn _ _
      obtain ⟨hm0, hf⟩ := xmoE hf
      refine lv_iload hx hb dM_added_102 (lv_at hl 0 rfl) ?_
      refine xm_aload_n hx hb (xvor _ _) dM_added_104 rfl (lv_at hl 3 rfl) ?_
      obtain ⟨hg1, hf⟩ := xifn hf
      refine xm_vget (v := .int ((xpi ws9 3) (y1 - 1))) hx hb htx hown hK hP 3 (by decide) hg1 rfl ((hZ.1 (103, "count", "I") (List.mem_of_getElem? (i := 3) rfl)).use rfl) rfl dM_added_105 ?_
      refine lv_icmp_ge (tgt := 190) hx hb dM_added_108 (by decide) (fun hc => ?_) (fun hc => ?_)
      · rw [if_pos hc] at hf
        refine lv_iconst (v := 0) hx hb dM_added_190 (by decide) ?_
        refine lv_istore (lv' := [(4, .int 0), (3, .int y3), (0, .ref aM), (1, xv vadL y1), (2, xv vadL y2)]) hx hb dM_added_191 hl (by decide) rfl (fun ls hl => ?_)
        exact ih (2, (0 : Int32), y3, y1, y2, ws9, wc, wn) _ _ ls (Or.inr (⟨adL, gdL, vadL, rfl, hf, hP, hD, hS, lv_sub hl [0, 1, 2, 3, 4] rfl, hE, hN⟩))
      · rw [if_neg hc] at hf
        refine xm_aload_n hx hb (xvor _ _) dM_added_111 rfl (lv_at hl 3 rfl) ?_
        refine xm_vget (v := .int ((xpi ws9 0) (y1 - 1))) hx hb htx hown hK hP 0 (by decide) hg1 rfl ((hZ.1 (93, "kind", "I") (List.mem_of_getElem? (i := 0) rfl)).use rfl) rfl dM_added_112 ?_
        refine lv_bipush (v := 6) hx hb dM_added_115 (by decide) ?_
        refine lv_icmp_ne (tgt := 135) hx hb dM_added_117 (by decide) (fun hc => ?_) (fun hc => ?_)
        · rw [if_neg hc] at hf
          refine lv_iconst (v := (-1)) hx hb dM_added_135 (by decide) ?_
          refine lv_istore (lv' := [(5, .int (-1)), (4, .int y4), (3, .int y3), (0, .ref aM), (1, xv vadL y1), (2, xv vadL y2)]) hx hb dM_added_136 hl (by decide) rfl (fun ls hl => ?_)
          refine lv_aload_n hx hb dM_added_138 rfl (lv_at hl 3 rfl) ?_
          refine xm_aload_n hx hb (xvor _ _) dM_added_139 rfl (lv_at hl 4 rfl) ?_
          refine xm_vget (v := .int ((xpi ws9 0) (y1 - 1))) hx hb htx hown hK hP 0 (by decide) hg1 rfl ((hZ.1 (93, "kind", "I") (List.mem_of_getElem? (i := 0) rfl)).use rfl) rfl dM_added_140 ?_
          refine lv_bipush (v := 6) hx hb dM_added_143 (by decide) ?_
          refine lv_icmp_ne (tgt := 158) hx hb dM_added_145 (by decide) (fun hc => ?_) (fun hc => ?_)
          · rw [if_neg hc] at hf
            refine lv_null hx hb dM_added_158 ?_
            refine lv_iload hx hb dM_added_159 (lv_at hl 0 rfl) ?_
            refine lv_if_ge (tgt := 174) hx hb dM_added_161 (by decide) (fun h => ((by revert h; decide : False)).elim) (fun _ => ?_)
            refine lv_aload_n hx hb dM_added_164 rfl (lv_at hl 3 rfl) ?_
            refine xm_aload_n hx hb (xvor _ _) dM_added_165 rfl (lv_at hl 4 rfl) ?_
            refine lv_iload hx hb dM_added_166 (lv_at hl 1 rfl) ?_
            obtain ⟨o2, hq3, hf⟩ := xbind hf
            have hFc := xm_free hD hS hA
            refine va_callq (va_runV (C := "ValueBenchModel") (As := [xv vadL y1, .int y4]) (rest := [.null, .ref aM]) ⟨hx, hb, hml, hown, htx⟩ (gM_kid l hl9 D cT aK aV H.size n aM adL rd gdL vadL ws9 y1 y4 o2 hq3) ⟨callB_of 2 htx (xw_goodC kw_6_158) rfl rfl rfl (htx _ kw_1_5) (htx _ kw_6_155) ⟨by decide, by decide, by decide +kernel⟩ ⟨Nat.le_of_ble_eq_true rfl, Nat.le_of_ble_eq_true rfl⟩, (htx _ kw_6_157), (htx _ kp_M_kid)⟩ ⟨xPre_blind, va_recv hK hP (ci := 5) rfl (q0 := 0) rfl, (fun U hU hW => ⟨rfl, xPre_of hZ hS hFc hP hD hK U hU hW⟩)⟩ rfl rfl hl.1 rfl (xm_room (Nat.le_of_ble_eq_true rfl)) dM_added_168 ⟨hm0.1, hm0.2⟩) hS (fun q _ h => hFc q h) hFc (fun r4 u9 t H1 locs ht hvm hr9 hB hz1 hk1 hS => ?_)
            obtain ⟨hP1, hK1, hD1⟩ := hB
            rw [ht] at hP1
            have hP : va_P D xcl (xMw cT aM adL rd gdL vadL ws9 []) H1 := hP1
            have hD : va_D A (xMw cT aM adL rd gdL vadL ws9 []) := hD1.weaken (fun k q _ h => hFc q.1 h)
            generalize H1 = H at hP hS ⊢
            rw [hr9]
            refine W.eq (g2 := F0 m 171 ls [xv vadL o2, .null, .ref aM]) (by first | rfl | (skip; rfl)) ?_
            refine lv_goto (tgt := 181) hx hb dM_added_171 (by decide) ?_
            obtain ⟨o5, hq6, hf⟩ := xbind hf
            obtain ⟨hg7, hf⟩ := xifn hf
            obtain ⟨hm8, hf⟩ := xmoE hf
            have hFc := xm_free hD hS hA
            refine va_callv (va_runV (C := "ValueBenchModel") (As := [.null, xv vadL o2]) (rest := []) ⟨hx, hb, hml, hown, htx⟩ (gM_wait l hl9 D cT aK aV H.size n aM adL rd gdL vadL ws9 0 o2 o5 hq6) ⟨callB_of 2 htx (xw_goodC kw_6_112) rfl rfl rfl (htx _ kw_1_5) (htx _ kw_6_109) ⟨by decide, by decide, by decide +kernel⟩ ⟨Nat.le_of_ble_eq_true rfl, Nat.le_of_ble_eq_true rfl⟩, (htx _ kw_6_111), (htx _ kp_M_wait)⟩ ⟨xPre_blind, va_recv hK hP (ci := 5) rfl (q0 := 0) rfl, (fun U hU hW => ⟨rfl, xPre_of hZ hS hFc hP hD hK U hU hW⟩)⟩ rfl rfl hl.1 rfl (xm_room (Nat.le_of_ble_eq_true rfl)) dM_added_181 ⟨hm8.1, hm8.2⟩) hS (fun q _ h => hFc q h) hFc (fun u9 t H1 locs ht hvm hr9 hB hz1 hk1 hS => ?_)
            obtain ⟨hP1, hK1, hD1⟩ := hB
            rw [ht] at hP1
            obtain ⟨ad10, gd11, vad12⟩ := u9
            obtain ⟨hv13, hn14⟩ := hr9
            have hP : va_P D xcl (xMw cT aM ad10 rd gd11 vad12 o5.2.2 []) H1 := hP1
            have hD : va_D A (xMw cT aM ad10 rd gd11 vad12 o5.2.2 []) := hD1.weaken (fun k q _ h => hFc q.1 h)
            generalize H1 = H at hP hS ⊢
            have hE9 : ∀ p, p < xct st → vad12 p = vad p := fun p h => (hv13 p (Nat.lt_of_lt_of_le h hN)).trans (hE p h)
            have hE := hE9
            have hN : xct st ≤ xct o5.2.2 := Nat.le_trans hN hn14
            have ev15 : xv vadL y1 = xv vad12 y1 := xvE hv13 (fun h => hg1 (Or.inr h))
            have ev16 : xv vadL y2 = xv vad12 y2 := xvE hv13 hg7
            have hl : lv_has ls 6 [(5, .int (-1)), (4, .int y4), (3, .int y3), (0, .ref aM), (1, xv vad12 y1), (2, xv vad12 y2)] := by first | exact hl | ((try (rw [← ev15])); (try (rw [← ev16])); exact hl)
            refine W.eq (g2 := F0 m 184 ls []) (by first | rfl | ((try (rw [ev15])); (try (rw [ev16])); rfl)) ?_
            refine lv_iinc (v := (y4 + 1)) (lv' := [(4, .int (y4 + 1)), (5, .int (-1)), (3, .int y3), (0, .ref aM), (1, xv vad12 y1), (2, xv vad12 y2)]) hx hb dM_added_184 hl (k := 1) rfl rfl (by decide) rfl (fun ls hl => ?_)
            refine lv_goto (tgt := 102) hx hb dM_added_187 (by decide) ?_
            exact ih (1, (y4 + 1), y3, y1, y2, o5.2.2, (wc + o5.1), (wn + o5.2.1)) _ _ ls (Or.inl ⟨ad10, gd11, vad12, rfl, hf, hP, hD, hS, lv_sub hl [0, 2, 3, 4, 5] rfl, hE, hN⟩)
          · rw [if_pos hc] at hf
            refine lv_aload_n hx hb dM_added_148 rfl (lv_at hl 3 rfl) ?_
            refine xm_aload_n hx hb (xvor _ _) dM_added_149 rfl (lv_at hl 4 rfl) ?_
            refine lv_iload hx hb dM_added_150 (lv_at hl 1 rfl) ?_
            obtain ⟨o2, hq3, hf⟩ := xbind hf
            have hFc := xm_free hD hS hA
            refine va_callq (va_runV (C := "ValueBenchModel") (As := [xv vadL y1, .int y4]) (rest := [.ref aM]) ⟨hx, hb, hml, hown, htx⟩ (gM_name l hl9 D cT aK aV H.size n aM adL rd gdL vadL ws9 y1 y4 o2 hq3) ⟨callB_of 2 htx (xw_goodC kw_6_154) rfl rfl rfl (htx _ kw_1_5) (htx _ kw_6_151) ⟨by decide, by decide, by decide +kernel⟩ ⟨Nat.le_of_ble_eq_true rfl, Nat.le_of_ble_eq_true rfl⟩, (htx _ kw_6_153), (htx _ kp_M_name)⟩ ⟨xPre_blind, va_recv hK hP (ci := 5) rfl (q0 := 0) rfl, (fun U hU hW => ⟨rfl, xPre_of hZ hS hFc hP hD hK U hU hW⟩)⟩ rfl rfl hl.1 rfl (xm_room (Nat.le_of_ble_eq_true rfl)) dM_added_152 ⟨hm0.1, hm0.2⟩) hS (fun q _ h => hFc q h) hFc (fun r4 u9 t H1 locs ht hvm hr9 hB hz1 hk1 hS => ?_)
            obtain ⟨hP1, hK1, hD1⟩ := hB
            rw [ht] at hP1
            have hP : va_P D xcl (xMw cT aM adL rd gdL vadL ws9 []) H1 := hP1
            have hD : va_D A (xMw cT aM adL rd gdL vadL ws9 []) := hD1.weaken (fun k q _ h => hFc q.1 h)
            generalize H1 = H at hP hS ⊢
            rw [hr9]
            refine W.eq (g2 := F0 m 155 ls [xv vadL o2, .ref aM]) (by first | rfl | (skip; rfl)) ?_
            refine lv_goto (tgt := 159) hx hb dM_added_155 (by decide) ?_
            refine lv_iload hx hb dM_added_159 (lv_at hl 0 rfl) ?_
            refine lv_if_ge (tgt := 174) hx hb dM_added_161 (by decide) (fun h => ((by revert h; decide : False)).elim) (fun _ => ?_)
            refine lv_aload_n hx hb dM_added_164 rfl (lv_at hl 3 rfl) ?_
            refine xm_aload_n hx hb (xvor _ _) dM_added_165 rfl (lv_at hl 4 rfl) ?_
            refine lv_iload hx hb dM_added_166 (lv_at hl 1 rfl) ?_
            obtain ⟨o5, hq6, hf⟩ := xbind hf
            have hFc := xm_free hD hS hA
            refine va_callq (va_runV (C := "ValueBenchModel") (As := [xv vadL y1, .int y4]) (rest := [xv vadL o2, .ref aM]) ⟨hx, hb, hml, hown, htx⟩ (gM_kid l hl9 D cT aK aV H.size n aM adL rd gdL vadL ws9 y1 y4 o5 hq6) ⟨callB_of 2 htx (xw_goodC kw_6_158) rfl rfl rfl (htx _ kw_1_5) (htx _ kw_6_155) ⟨by decide, by decide, by decide +kernel⟩ ⟨Nat.le_of_ble_eq_true rfl, Nat.le_of_ble_eq_true rfl⟩, (htx _ kw_6_157), (htx _ kp_M_kid)⟩ ⟨xPre_blind, va_recv hK hP (ci := 5) rfl (q0 := 0) rfl, (fun U hU hW => ⟨rfl, xPre_of hZ hS hFc hP hD hK U hU hW⟩)⟩ rfl rfl hl.1 rfl (xm_room (by simp [xvcat, xrscat, xcI, xcL, xcR, xcN])) dM_added_168 ⟨hm0.1, hm0.2⟩) hS (fun q _ h => hFc q h) hFc (fun r7 u9 t H1 locs ht hvm hr9 hB hz1 hk1 hS => ?_)
            obtain ⟨hP1, hK1, hD1⟩ := hB
            rw [ht] at hP1
            have hP : va_P D xcl (xMw cT aM adL rd gdL vadL ws9 []) H1 := hP1
            have hD : va_D A (xMw cT aM adL rd gdL vadL ws9 []) := hD1.weaken (fun k q _ h => hFc q.1 h)
            generalize H1 = H at hP hS ⊢
            rw [hr9]
            refine W.eq (g2 := F0 m 171 ls [xv vadL o5, xv vadL o2, .ref aM]) (by first | rfl | (skip; rfl)) ?_
            refine lv_goto (tgt := 181) hx hb dM_added_171 (by decide) ?_
            obtain ⟨o8, hq9, hf⟩ := xbind hf
            obtain ⟨hg10, hf⟩ := xifn hf
            obtain ⟨hm11, hf⟩ := xmoE hf
            have hFc := xm_free hD hS hA
            refine va_callv (va_runV (C := "ValueBenchModel") (As := [xv vadL o2, xv vadL o5]) (rest := []) ⟨hx, hb, hml, hown, htx⟩ (gM_wait l hl9 D cT aK aV H.size n aM adL rd gdL vadL ws9 o2 o5 o8 hq9) ⟨callB_of 2 htx (xw_goodC kw_6_112) rfl rfl rfl (htx _ kw_1_5) (htx _ kw_6_109) ⟨by decide, by decide, by decide +kernel⟩ ⟨Nat.le_of_ble_eq_true rfl, Nat.le_of_ble_eq_true rfl⟩, (htx _ kw_6_111), (htx _ kp_M_wait)⟩ ⟨xPre_blind, va_recv hK hP (ci := 5) rfl (q0 := 0) rfl, (fun U hU hW => ⟨rfl, xPre_of hZ hS hFc hP hD hK U hU hW⟩)⟩ rfl rfl hl.1 rfl (xm_room (Nat.le_of_ble_eq_true rfl)) dM_added_181 ⟨hm11.1, hm11.2⟩) hS (fun q _ h => hFc q h) hFc (fun u9 t H1 locs ht hvm hr9 hB hz1 hk1 hS => ?_)
            obtain ⟨hP1, hK1, hD1⟩ := hB
            rw [ht] at hP1
            obtain ⟨ad13, gd14, vad15⟩ := u9
            obtain ⟨hv16, hn17⟩ := hr9
            have hP : va_P D xcl (xMw cT aM ad13 rd gd14 vad15 o8.2.2 []) H1 := hP1
            have hD : va_D A (xMw cT aM ad13 rd gd14 vad15 o8.2.2 []) := hD1.weaken (fun k q _ h => hFc q.1 h)
            generalize H1 = H at hP hS ⊢
            have hE9 : ∀ p, p < xct st → vad15 p = vad p := fun p h => (hv16 p (Nat.lt_of_lt_of_le h hN)).trans (hE p h)
            have hE := hE9
            have hN : xct st ≤ xct o8.2.2 := Nat.le_trans hN hn17
            have ev18 : xv vadL y1 = xv vad15 y1 := xvE hv16 (fun h => hg1 (Or.inr h))
            have ev19 : xv vadL y2 = xv vad15 y2 := xvE hv16 hg10
            have hl : lv_has ls 6 [(5, .int (-1)), (4, .int y4), (3, .int y3), (0, .ref aM), (1, xv vad15 y1), (2, xv vad15 y2)] := by first | exact hl | ((try (rw [← ev18])); (try (rw [← ev19])); exact hl)
            refine W.eq (g2 := F0 m 184 ls []) (by first | rfl | ((try (rw [ev18])); (try (rw [ev19])); rfl)) ?_
            refine lv_iinc (v := (y4 + 1)) (lv' := [(4, .int (y4 + 1)), (5, .int (-1)), (3, .int y3), (0, .ref aM), (1, xv vad15 y1), (2, xv vad15 y2)]) hx hb dM_added_184 hl (k := 1) rfl rfl (by decide) rfl (fun ls hl => ?_)
            refine lv_goto (tgt := 102) hx hb dM_added_187 (by decide) ?_
            exact ih (1, (y4 + 1), y3, y1, y2, o8.2.2, (wc + o8.1), (wn + o8.2.1)) _ _ ls (Or.inl ⟨ad13, gd14, vad15, rfl, hf, hP, hD, hS, lv_sub hl [0, 2, 3, 4, 5] rfl, hE, hN⟩)
        · rw [if_pos hc] at hf
          refine lv_aload_n hx hb dM_added_120 rfl (lv_at hl 2 rfl) ?_
          refine xm_aload_n hx hb (xvor _ _) dM_added_121 rfl (lv_at hl 4 rfl) ?_
          refine lv_aload_n hx hb dM_added_122 rfl (lv_at hl 2 rfl) ?_
          refine xm_aload_n hx hb (xvor _ _) dM_added_123 rfl (lv_at hl 3 rfl) ?_
          refine lv_iload hx hb dM_added_124 (lv_at hl 0 rfl) ?_
          obtain ⟨o2, hq3, hf⟩ := xbind hf
          have hFc := xm_free hD hS hA
          refine va_callq (va_runV (C := "ValueBenchModel") (As := [xv vadL y1, .int y4]) (rest := [xv vadL y2, .ref aM]) ⟨hx, hb, hml, hown, htx⟩ (gM_name l hl9 D cT aK aV H.size n aM adL rd gdL vadL ws9 y1 y4 o2 hq3) ⟨callB_of 2 htx (xw_goodC kw_6_154) rfl rfl rfl (htx _ kw_1_5) (htx _ kw_6_151) ⟨by decide, by decide, by decide +kernel⟩ ⟨Nat.le_of_ble_eq_true rfl, Nat.le_of_ble_eq_true rfl⟩, (htx _ kw_6_153), (htx _ kp_M_name)⟩ ⟨xPre_blind, va_recv hK hP (ci := 5) rfl (q0 := 0) rfl, (fun U hU hW => ⟨rfl, xPre_of hZ hS hFc hP hD hK U hU hW⟩)⟩ rfl rfl hl.1 rfl (xm_room (by simp [xvcat, xrscat, xcI, xcL, xcR, xcN])) dM_added_126 ⟨hm0.1, hm0.2⟩) hS (fun q _ h => hFc q h) hFc (fun r4 u9 t H1 locs ht hvm hr9 hB hz1 hk1 hS => ?_)
          obtain ⟨hP1, hK1, hD1⟩ := hB
          rw [ht] at hP1
          have hP : va_P D xcl (xMw cT aM adL rd gdL vadL ws9 []) H1 := hP1
          have hD : va_D A (xMw cT aM adL rd gdL vadL ws9 []) := hD1.weaken (fun k q _ h => hFc q.1 h)
          generalize H1 = H at hP hS ⊢
          rw [hr9]
          refine W.eq (g2 := F0 m 129 ls [xv vadL o2, xv vadL y2, .ref aM]) (by first | rfl | (skip; rfl)) ?_
          obtain ⟨o5, hq6, hf⟩ := xbind hf
          have hFc := xm_free hD hS hA
          refine va_calli (va_runV (C := "ValueBenchModel") (As := [xv vadL y2, xv vadL o2]) (rest := []) ⟨hx, hb, hml, hown, htx⟩ (gM_place l hl9 D cT aK aV H.size n aM adL rd gdL vadL ws9 y2 o2 o5 hq6) ⟨callB_of 2 htx (xw_goodC kw_6_178) rfl rfl rfl (htx _ kw_1_5) (htx _ kw_6_175) ⟨by decide, by decide, by decide +kernel⟩ ⟨Nat.le_of_ble_eq_true rfl, Nat.le_of_ble_eq_true rfl⟩, (htx _ kw_6_177), (htx _ kp_M_place)⟩ ⟨xPre_blind, va_recv hK hP (ci := 5) rfl (q0 := 0) rfl, (fun U hU hW => ⟨rfl, xPre_of hZ hS hFc hP hD hK U hU hW⟩)⟩ rfl rfl hl.1 rfl (xm_room (Nat.le_of_ble_eq_true rfl)) dM_added_129 ⟨hm0.1, hm0.2⟩) hS (fun q _ h => hFc q h) hFc (fun r7 u9 t H1 locs ht hvm hr9 hB hz1 hk1 hS => ?_)
          obtain ⟨hP1, hK1, hD1⟩ := hB
          rw [ht] at hP1
          have hP : va_P D xcl (xMw cT aM adL rd gdL vadL ws9 []) H1 := hP1
          have hD : va_D A (xMw cT aM adL rd gdL vadL ws9 []) := hD1.weaken (fun k q _ h => hFc q.1 h)
          generalize H1 = H at hP hS ⊢
          rw [hr9]
          refine W.eq (g2 := F0 m 132 ls [.int o5]) (by first | rfl | (skip; rfl)) ?_
          refine lv_goto (tgt := 136) hx hb dM_added_132 (by decide) ?_
          refine lv_istore (lv' := [(5, .int o5), (4, .int y4), (3, .int y3), (0, .ref aM), (1, xv vadL y1), (2, xv vadL y2)]) hx hb dM_added_136 hl (by decide) rfl (fun ls hl => ?_)
          refine lv_aload_n hx hb dM_added_138 rfl (lv_at hl 3 rfl) ?_
          refine xm_aload_n hx hb (xvor _ _) dM_added_139 rfl (lv_at hl 4 rfl) ?_
          refine xm_vget (v := .int ((xpi ws9 0) (y1 - 1))) hx hb htx hown hK hP 0 (by decide) hg1 rfl ((hZ.1 (93, "kind", "I") (List.mem_of_getElem? (i := 0) rfl)).use rfl) rfl dM_added_140 ?_
          refine lv_bipush (v := 6) hx hb dM_added_143 (by decide) ?_
          refine lv_icmp_ne (tgt := 158) hx hb dM_added_145 (by decide) (fun hc => ?_) (fun hc => ?_)
          · rw [if_neg hc] at hf
            refine lv_null hx hb dM_added_158 ?_
            refine lv_iload hx hb dM_added_159 (lv_at hl 0 rfl) ?_
            refine lv_if_ge (tgt := 174) hx hb dM_added_161 (by decide) (fun hc => ?_) (fun hc => ?_)
            · rw [if_pos hc] at hf
              refine lv_aload_n hx hb dM_added_174 rfl (lv_at hl 3 rfl) ?_
              refine xm_aload_n hx hb (xvor _ _) dM_added_175 rfl (lv_at hl 5 rfl) ?_
              refine lv_iload hx hb dM_added_176 (lv_at hl 0 rfl) ?_
              obtain ⟨o8, hq9, hf⟩ := xbind hf
              have hFc := xm_free hD hS hA
              refine va_callq (va_runV (C := "ValueBenchModel") (As := [xv vadL y2, .int o5]) (rest := [.null, .ref aM]) ⟨hx, hb, hml, hown, htx⟩ (gM_kid l hl9 D cT aK aV H.size n aM adL rd gdL vadL ws9 y2 o5 o8 hq9) ⟨callB_of 2 htx (xw_goodC kw_6_158) rfl rfl rfl (htx _ kw_1_5) (htx _ kw_6_155) ⟨by decide, by decide, by decide +kernel⟩ ⟨Nat.le_of_ble_eq_true rfl, Nat.le_of_ble_eq_true rfl⟩, (htx _ kw_6_157), (htx _ kp_M_kid)⟩ ⟨xPre_blind, va_recv hK hP (ci := 5) rfl (q0 := 0) rfl, (fun U hU hW => ⟨rfl, xPre_of hZ hS hFc hP hD hK U hU hW⟩)⟩ rfl rfl hl.1 rfl (xm_room (Nat.le_of_ble_eq_true rfl)) dM_added_178 ⟨hm0.1, hm0.2⟩) hS (fun q _ h => hFc q h) hFc (fun r10 u9 t H1 locs ht hvm hr9 hB hz1 hk1 hS => ?_)
              obtain ⟨hP1, hK1, hD1⟩ := hB
              rw [ht] at hP1
              have hP : va_P D xcl (xMw cT aM adL rd gdL vadL ws9 []) H1 := hP1
              have hD : va_D A (xMw cT aM adL rd gdL vadL ws9 []) := hD1.weaken (fun k q _ h => hFc q.1 h)
              generalize H1 = H at hP hS ⊢
              rw [hr9]
              refine W.eq (g2 := F0 m 181 ls [xv vadL o8, .null, .ref aM]) (by first | rfl | (skip; rfl)) ?_
              obtain ⟨o11, hq12, hf⟩ := xbind hf
              obtain ⟨hg13, hf⟩ := xifn hf
              obtain ⟨hm14, hf⟩ := xmoE hf
              have hFc := xm_free hD hS hA
              refine va_callv (va_runV (C := "ValueBenchModel") (As := [.null, xv vadL o8]) (rest := []) ⟨hx, hb, hml, hown, htx⟩ (gM_wait l hl9 D cT aK aV H.size n aM adL rd gdL vadL ws9 0 o8 o11 hq12) ⟨callB_of 2 htx (xw_goodC kw_6_112) rfl rfl rfl (htx _ kw_1_5) (htx _ kw_6_109) ⟨by decide, by decide, by decide +kernel⟩ ⟨Nat.le_of_ble_eq_true rfl, Nat.le_of_ble_eq_true rfl⟩, (htx _ kw_6_111), (htx _ kp_M_wait)⟩ ⟨xPre_blind, va_recv hK hP (ci := 5) rfl (q0 := 0) rfl, (fun U hU hW => ⟨rfl, xPre_of hZ hS hFc hP hD hK U hU hW⟩)⟩ rfl rfl hl.1 rfl (xm_room (Nat.le_of_ble_eq_true rfl)) dM_added_181 ⟨hm14.1, hm14.2⟩) hS (fun q _ h => hFc q h) hFc (fun u9 t H1 locs ht hvm hr9 hB hz1 hk1 hS => ?_)
              obtain ⟨hP1, hK1, hD1⟩ := hB
              rw [ht] at hP1
              obtain ⟨ad16, gd17, vad18⟩ := u9
              obtain ⟨hv19, hn20⟩ := hr9
              have hP : va_P D xcl (xMw cT aM ad16 rd gd17 vad18 o11.2.2 []) H1 := hP1
              have hD : va_D A (xMw cT aM ad16 rd gd17 vad18 o11.2.2 []) := hD1.weaken (fun k q _ h => hFc q.1 h)
              generalize H1 = H at hP hS ⊢
              have hE9 : ∀ p, p < xct st → vad18 p = vad p := fun p h => (hv19 p (Nat.lt_of_lt_of_le h hN)).trans (hE p h)
              have hE := hE9
              have hN : xct st ≤ xct o11.2.2 := Nat.le_trans hN hn20
              have ev21 : xv vadL y1 = xv vad18 y1 := xvE hv19 (fun h => hg1 (Or.inr h))
              have ev22 : xv vadL y2 = xv vad18 y2 := xvE hv19 hg13
              have hl : lv_has ls 6 [(5, .int o5), (4, .int y4), (3, .int y3), (0, .ref aM), (1, xv vad18 y1), (2, xv vad18 y2)] := by first | exact hl | ((try (rw [← ev21])); (try (rw [← ev22])); exact hl)
              refine W.eq (g2 := F0 m 184 ls []) (by first | rfl | ((try (rw [ev21])); (try (rw [ev22])); rfl)) ?_
              refine lv_iinc (v := (y4 + 1)) (lv' := [(4, .int (y4 + 1)), (5, .int o5), (3, .int y3), (0, .ref aM), (1, xv vad18 y1), (2, xv vad18 y2)]) hx hb dM_added_184 hl (k := 1) rfl rfl (by decide) rfl (fun ls hl => ?_)
              refine lv_goto (tgt := 102) hx hb dM_added_187 (by decide) ?_
              exact ih (1, (y4 + 1), y3, y1, y2, o11.2.2, (wc + o11.1), (wn + o11.2.1)) _ _ ls (Or.inl ⟨ad16, gd17, vad18, rfl, hf, hP, hD, hS, lv_sub hl [0, 2, 3, 4, 5] rfl, hE, hN⟩)
            · rw [if_neg hc] at hf
              refine lv_aload_n hx hb dM_added_164 rfl (lv_at hl 3 rfl) ?_
              refine xm_aload_n hx hb (xvor _ _) dM_added_165 rfl (lv_at hl 4 rfl) ?_
              refine lv_iload hx hb dM_added_166 (lv_at hl 1 rfl) ?_
              obtain ⟨o8, hq9, hf⟩ := xbind hf
              have hFc := xm_free hD hS hA
              refine va_callq (va_runV (C := "ValueBenchModel") (As := [xv vadL y1, .int y4]) (rest := [.null, .ref aM]) ⟨hx, hb, hml, hown, htx⟩ (gM_kid l hl9 D cT aK aV H.size n aM adL rd gdL vadL ws9 y1 y4 o8 hq9) ⟨callB_of 2 htx (xw_goodC kw_6_158) rfl rfl rfl (htx _ kw_1_5) (htx _ kw_6_155) ⟨by decide, by decide, by decide +kernel⟩ ⟨Nat.le_of_ble_eq_true rfl, Nat.le_of_ble_eq_true rfl⟩, (htx _ kw_6_157), (htx _ kp_M_kid)⟩ ⟨xPre_blind, va_recv hK hP (ci := 5) rfl (q0 := 0) rfl, (fun U hU hW => ⟨rfl, xPre_of hZ hS hFc hP hD hK U hU hW⟩)⟩ rfl rfl hl.1 rfl (xm_room (Nat.le_of_ble_eq_true rfl)) dM_added_168 ⟨hm0.1, hm0.2⟩) hS (fun q _ h => hFc q h) hFc (fun r10 u9 t H1 locs ht hvm hr9 hB hz1 hk1 hS => ?_)
              obtain ⟨hP1, hK1, hD1⟩ := hB
              rw [ht] at hP1
              have hP : va_P D xcl (xMw cT aM adL rd gdL vadL ws9 []) H1 := hP1
              have hD : va_D A (xMw cT aM adL rd gdL vadL ws9 []) := hD1.weaken (fun k q _ h => hFc q.1 h)
              generalize H1 = H at hP hS ⊢
              rw [hr9]
              refine W.eq (g2 := F0 m 171 ls [xv vadL o8, .null, .ref aM]) (by first | rfl | (skip; rfl)) ?_
              refine lv_goto (tgt := 181) hx hb dM_added_171 (by decide) ?_
              obtain ⟨o11, hq12, hf⟩ := xbind hf
              obtain ⟨hg13, hf⟩ := xifn hf
              obtain ⟨hm14, hf⟩ := xmoE hf
              have hFc := xm_free hD hS hA
              refine va_callv (va_runV (C := "ValueBenchModel") (As := [.null, xv vadL o8]) (rest := []) ⟨hx, hb, hml, hown, htx⟩ (gM_wait l hl9 D cT aK aV H.size n aM adL rd gdL vadL ws9 0 o8 o11 hq12) ⟨callB_of 2 htx (xw_goodC kw_6_112) rfl rfl rfl (htx _ kw_1_5) (htx _ kw_6_109) ⟨by decide, by decide, by decide +kernel⟩ ⟨Nat.le_of_ble_eq_true rfl, Nat.le_of_ble_eq_true rfl⟩, (htx _ kw_6_111), (htx _ kp_M_wait)⟩ ⟨xPre_blind, va_recv hK hP (ci := 5) rfl (q0 := 0) rfl, (fun U hU hW => ⟨rfl, xPre_of hZ hS hFc hP hD hK U hU hW⟩)⟩ rfl rfl hl.1 rfl (xm_room (Nat.le_of_ble_eq_true rfl)) dM_added_181 ⟨hm14.1, hm14.2⟩) hS (fun q _ h => hFc q h) hFc (fun u9 t H1 locs ht hvm hr9 hB hz1 hk1 hS => ?_)
              obtain ⟨hP1, hK1, hD1⟩ := hB
              rw [ht] at hP1
              obtain ⟨ad16, gd17, vad18⟩ := u9
              obtain ⟨hv19, hn20⟩ := hr9
              have hP : va_P D xcl (xMw cT aM ad16 rd gd17 vad18 o11.2.2 []) H1 := hP1
              have hD : va_D A (xMw cT aM ad16 rd gd17 vad18 o11.2.2 []) := hD1.weaken (fun k q _ h => hFc q.1 h)
              generalize H1 = H at hP hS ⊢
              have hE9 : ∀ p, p < xct st → vad18 p = vad p := fun p h => (hv19 p (Nat.lt_of_lt_of_le h hN)).trans (hE p h)
              have hE := hE9
              have hN : xct st ≤ xct o11.2.2 := Nat.le_trans hN hn20
              have ev21 : xv vadL y1 = xv vad18 y1 := xvE hv19 (fun h => hg1 (Or.inr h))
              have ev22 : xv vadL y2 = xv vad18 y2 := xvE hv19 hg13
              have hl : lv_has ls 6 [(5, .int o5), (4, .int y4), (3, .int y3), (0, .ref aM), (1, xv vad18 y1), (2, xv vad18 y2)] := by first | exact hl | ((try (rw [← ev21])); (try (rw [← ev22])); exact hl)
              refine W.eq (g2 := F0 m 184 ls []) (by first | rfl | ((try (rw [ev21])); (try (rw [ev22])); rfl)) ?_
              refine lv_iinc (v := (y4 + 1)) (lv' := [(4, .int (y4 + 1)), (5, .int o5), (3, .int y3), (0, .ref aM), (1, xv vad18 y1), (2, xv vad18 y2)]) hx hb dM_added_184 hl (k := 1) rfl rfl (by decide) rfl (fun ls hl => ?_)
              refine lv_goto (tgt := 102) hx hb dM_added_187 (by decide) ?_
              exact ih (1, (y4 + 1), y3, y1, y2, o11.2.2, (wc + o11.1), (wn + o11.2.1)) _ _ ls (Or.inl ⟨ad16, gd17, vad18, rfl, hf, hP, hD, hS, lv_sub hl [0, 2, 3, 4, 5] rfl, hE, hN⟩)
          · rw [if_pos hc] at hf
            refine lv_aload_n hx hb dM_added_148 rfl (lv_at hl 3 rfl) ?_
            refine xm_aload_n hx hb (xvor _ _) dM_added_149 rfl (lv_at hl 4 rfl) ?_
            refine lv_iload hx hb dM_added_150 (lv_at hl 1 rfl) ?_
            obtain ⟨o8, hq9, hf⟩ := xbind hf
            have hFc := xm_free hD hS hA
            refine va_callq (va_runV (C := "ValueBenchModel") (As := [xv vadL y1, .int y4]) (rest := [.ref aM]) ⟨hx, hb, hml, hown, htx⟩ (gM_name l hl9 D cT aK aV H.size n aM adL rd gdL vadL ws9 y1 y4 o8 hq9) ⟨callB_of 2 htx (xw_goodC kw_6_154) rfl rfl rfl (htx _ kw_1_5) (htx _ kw_6_151) ⟨by decide, by decide, by decide +kernel⟩ ⟨Nat.le_of_ble_eq_true rfl, Nat.le_of_ble_eq_true rfl⟩, (htx _ kw_6_153), (htx _ kp_M_name)⟩ ⟨xPre_blind, va_recv hK hP (ci := 5) rfl (q0 := 0) rfl, (fun U hU hW => ⟨rfl, xPre_of hZ hS hFc hP hD hK U hU hW⟩)⟩ rfl rfl hl.1 rfl (xm_room (Nat.le_of_ble_eq_true rfl)) dM_added_152 ⟨hm0.1, hm0.2⟩) hS (fun q _ h => hFc q h) hFc (fun r10 u9 t H1 locs ht hvm hr9 hB hz1 hk1 hS => ?_)
            obtain ⟨hP1, hK1, hD1⟩ := hB
            rw [ht] at hP1
            have hP : va_P D xcl (xMw cT aM adL rd gdL vadL ws9 []) H1 := hP1
            have hD : va_D A (xMw cT aM adL rd gdL vadL ws9 []) := hD1.weaken (fun k q _ h => hFc q.1 h)
            generalize H1 = H at hP hS ⊢
            rw [hr9]
            refine W.eq (g2 := F0 m 155 ls [xv vadL o8, .ref aM]) (by first | rfl | (skip; rfl)) ?_
            refine lv_goto (tgt := 159) hx hb dM_added_155 (by decide) ?_
            refine lv_iload hx hb dM_added_159 (lv_at hl 0 rfl) ?_
            refine lv_if_ge (tgt := 174) hx hb dM_added_161 (by decide) (fun hc => ?_) (fun hc => ?_)
            · rw [if_pos hc] at hf
              refine lv_aload_n hx hb dM_added_174 rfl (lv_at hl 3 rfl) ?_
              refine xm_aload_n hx hb (xvor _ _) dM_added_175 rfl (lv_at hl 5 rfl) ?_
              refine lv_iload hx hb dM_added_176 (lv_at hl 0 rfl) ?_
              obtain ⟨o11, hq12, hf⟩ := xbind hf
              have hFc := xm_free hD hS hA
              refine va_callq (va_runV (C := "ValueBenchModel") (As := [xv vadL y2, .int o5]) (rest := [xv vadL o8, .ref aM]) ⟨hx, hb, hml, hown, htx⟩ (gM_kid l hl9 D cT aK aV H.size n aM adL rd gdL vadL ws9 y2 o5 o11 hq12) ⟨callB_of 2 htx (xw_goodC kw_6_158) rfl rfl rfl (htx _ kw_1_5) (htx _ kw_6_155) ⟨by decide, by decide, by decide +kernel⟩ ⟨Nat.le_of_ble_eq_true rfl, Nat.le_of_ble_eq_true rfl⟩, (htx _ kw_6_157), (htx _ kp_M_kid)⟩ ⟨xPre_blind, va_recv hK hP (ci := 5) rfl (q0 := 0) rfl, (fun U hU hW => ⟨rfl, xPre_of hZ hS hFc hP hD hK U hU hW⟩)⟩ rfl rfl hl.1 rfl (xm_room (by simp [xvcat, xrscat, xcI, xcL, xcR, xcN])) dM_added_178 ⟨hm0.1, hm0.2⟩) hS (fun q _ h => hFc q h) hFc (fun r13 u9 t H1 locs ht hvm hr9 hB hz1 hk1 hS => ?_)
              obtain ⟨hP1, hK1, hD1⟩ := hB
              rw [ht] at hP1
              have hP : va_P D xcl (xMw cT aM adL rd gdL vadL ws9 []) H1 := hP1
              have hD : va_D A (xMw cT aM adL rd gdL vadL ws9 []) := hD1.weaken (fun k q _ h => hFc q.1 h)
              generalize H1 = H at hP hS ⊢
              rw [hr9]
              refine W.eq (g2 := F0 m 181 ls [xv vadL o11, xv vadL o8, .ref aM]) (by first | rfl | (skip; rfl)) ?_
              obtain ⟨o14, hq15, hf⟩ := xbind hf
              obtain ⟨hg16, hf⟩ := xifn hf
              obtain ⟨hm17, hf⟩ := xmoE hf
              have hFc := xm_free hD hS hA
              refine va_callv (va_runV (C := "ValueBenchModel") (As := [xv vadL o8, xv vadL o11]) (rest := []) ⟨hx, hb, hml, hown, htx⟩ (gM_wait l hl9 D cT aK aV H.size n aM adL rd gdL vadL ws9 o8 o11 o14 hq15) ⟨callB_of 2 htx (xw_goodC kw_6_112) rfl rfl rfl (htx _ kw_1_5) (htx _ kw_6_109) ⟨by decide, by decide, by decide +kernel⟩ ⟨Nat.le_of_ble_eq_true rfl, Nat.le_of_ble_eq_true rfl⟩, (htx _ kw_6_111), (htx _ kp_M_wait)⟩ ⟨xPre_blind, va_recv hK hP (ci := 5) rfl (q0 := 0) rfl, (fun U hU hW => ⟨rfl, xPre_of hZ hS hFc hP hD hK U hU hW⟩)⟩ rfl rfl hl.1 rfl (xm_room (Nat.le_of_ble_eq_true rfl)) dM_added_181 ⟨hm17.1, hm17.2⟩) hS (fun q _ h => hFc q h) hFc (fun u9 t H1 locs ht hvm hr9 hB hz1 hk1 hS => ?_)
              obtain ⟨hP1, hK1, hD1⟩ := hB
              rw [ht] at hP1
              obtain ⟨ad19, gd20, vad21⟩ := u9
              obtain ⟨hv22, hn23⟩ := hr9
              have hP : va_P D xcl (xMw cT aM ad19 rd gd20 vad21 o14.2.2 []) H1 := hP1
              have hD : va_D A (xMw cT aM ad19 rd gd20 vad21 o14.2.2 []) := hD1.weaken (fun k q _ h => hFc q.1 h)
              generalize H1 = H at hP hS ⊢
              have hE9 : ∀ p, p < xct st → vad21 p = vad p := fun p h => (hv22 p (Nat.lt_of_lt_of_le h hN)).trans (hE p h)
              have hE := hE9
              have hN : xct st ≤ xct o14.2.2 := Nat.le_trans hN hn23
              have ev24 : xv vadL y1 = xv vad21 y1 := xvE hv22 (fun h => hg1 (Or.inr h))
              have ev25 : xv vadL y2 = xv vad21 y2 := xvE hv22 hg16
              have hl : lv_has ls 6 [(5, .int o5), (4, .int y4), (3, .int y3), (0, .ref aM), (1, xv vad21 y1), (2, xv vad21 y2)] := by first | exact hl | ((try (rw [← ev24])); (try (rw [← ev25])); exact hl)
              refine W.eq (g2 := F0 m 184 ls []) (by first | rfl | ((try (rw [ev24])); (try (rw [ev25])); rfl)) ?_
              refine lv_iinc (v := (y4 + 1)) (lv' := [(4, .int (y4 + 1)), (5, .int o5), (3, .int y3), (0, .ref aM), (1, xv vad21 y1), (2, xv vad21 y2)]) hx hb dM_added_184 hl (k := 1) rfl rfl (by decide) rfl (fun ls hl => ?_)
              refine lv_goto (tgt := 102) hx hb dM_added_187 (by decide) ?_
              exact ih (1, (y4 + 1), y3, y1, y2, o14.2.2, (wc + o14.1), (wn + o14.2.1)) _ _ ls (Or.inl ⟨ad19, gd20, vad21, rfl, hf, hP, hD, hS, lv_sub hl [0, 2, 3, 4, 5] rfl, hE, hN⟩)
            · rw [if_neg hc] at hf
              refine lv_aload_n hx hb dM_added_164 rfl (lv_at hl 3 rfl) ?_
              refine xm_aload_n hx hb (xvor _ _) dM_added_165 rfl (lv_at hl 4 rfl) ?_
              refine lv_iload hx hb dM_added_166 (lv_at hl 1 rfl) ?_
              obtain ⟨o11, hq12, hf⟩ := xbind hf
              have hFc := xm_free hD hS hA
              refine va_callq (va_runV (C := "ValueBenchModel") (As := [xv vadL y1, .int y4]) (rest := [xv vadL o8, .ref aM]) ⟨hx, hb, hml, hown, htx⟩ (gM_kid l hl9 D cT aK aV H.size n aM adL rd gdL vadL ws9 y1 y4 o11 hq12) ⟨callB_of 2 htx (xw_goodC kw_6_158) rfl rfl rfl (htx _ kw_1_5) (htx _ kw_6_155) ⟨by decide, by decide, by decide +kernel⟩ ⟨Nat.le_of_ble_eq_true rfl, Nat.le_of_ble_eq_true rfl⟩, (htx _ kw_6_157), (htx _ kp_M_kid)⟩ ⟨xPre_blind, va_recv hK hP (ci := 5) rfl (q0 := 0) rfl, (fun U hU hW => ⟨rfl, xPre_of hZ hS hFc hP hD hK U hU hW⟩)⟩ rfl rfl hl.1 rfl (xm_room (by simp [xvcat, xrscat, xcI, xcL, xcR, xcN])) dM_added_168 ⟨hm0.1, hm0.2⟩) hS (fun q _ h => hFc q h) hFc (fun r13 u9 t H1 locs ht hvm hr9 hB hz1 hk1 hS => ?_)
              obtain ⟨hP1, hK1, hD1⟩ := hB
              rw [ht] at hP1
              have hP : va_P D xcl (xMw cT aM adL rd gdL vadL ws9 []) H1 := hP1
              have hD : va_D A (xMw cT aM adL rd gdL vadL ws9 []) := hD1.weaken (fun k q _ h => hFc q.1 h)
              generalize H1 = H at hP hS ⊢
              rw [hr9]
              refine W.eq (g2 := F0 m 171 ls [xv vadL o11, xv vadL o8, .ref aM]) (by first | rfl | (skip; rfl)) ?_
              refine lv_goto (tgt := 181) hx hb dM_added_171 (by decide) ?_
              obtain ⟨o14, hq15, hf⟩ := xbind hf
              obtain ⟨hg16, hf⟩ := xifn hf
              obtain ⟨hm17, hf⟩ := xmoE hf
              have hFc := xm_free hD hS hA
              refine va_callv (va_runV (C := "ValueBenchModel") (As := [xv vadL o8, xv vadL o11]) (rest := []) ⟨hx, hb, hml, hown, htx⟩ (gM_wait l hl9 D cT aK aV H.size n aM adL rd gdL vadL ws9 o8 o11 o14 hq15) ⟨callB_of 2 htx (xw_goodC kw_6_112) rfl rfl rfl (htx _ kw_1_5) (htx _ kw_6_109) ⟨by decide, by decide, by decide +kernel⟩ ⟨Nat.le_of_ble_eq_true rfl, Nat.le_of_ble_eq_true rfl⟩, (htx _ kw_6_111), (htx _ kp_M_wait)⟩ ⟨xPre_blind, va_recv hK hP (ci := 5) rfl (q0 := 0) rfl, (fun U hU hW => ⟨rfl, xPre_of hZ hS hFc hP hD hK U hU hW⟩)⟩ rfl rfl hl.1 rfl (xm_room (Nat.le_of_ble_eq_true rfl)) dM_added_181 ⟨hm17.1, hm17.2⟩) hS (fun q _ h => hFc q h) hFc (fun u9 t H1 locs ht hvm hr9 hB hz1 hk1 hS => ?_)
              obtain ⟨hP1, hK1, hD1⟩ := hB
              rw [ht] at hP1
              obtain ⟨ad19, gd20, vad21⟩ := u9
              obtain ⟨hv22, hn23⟩ := hr9
              have hP : va_P D xcl (xMw cT aM ad19 rd gd20 vad21 o14.2.2 []) H1 := hP1
              have hD : va_D A (xMw cT aM ad19 rd gd20 vad21 o14.2.2 []) := hD1.weaken (fun k q _ h => hFc q.1 h)
              generalize H1 = H at hP hS ⊢
              have hE9 : ∀ p, p < xct st → vad21 p = vad p := fun p h => (hv22 p (Nat.lt_of_lt_of_le h hN)).trans (hE p h)
              have hE := hE9
              have hN : xct st ≤ xct o14.2.2 := Nat.le_trans hN hn23
              have ev24 : xv vadL y1 = xv vad21 y1 := xvE hv22 (fun h => hg1 (Or.inr h))
              have ev25 : xv vadL y2 = xv vad21 y2 := xvE hv22 hg16
              have hl : lv_has ls 6 [(5, .int o5), (4, .int y4), (3, .int y3), (0, .ref aM), (1, xv vad21 y1), (2, xv vad21 y2)] := by first | exact hl | ((try (rw [← ev24])); (try (rw [← ev25])); exact hl)
              refine W.eq (g2 := F0 m 184 ls []) (by first | rfl | ((try (rw [ev24])); (try (rw [ev25])); rfl)) ?_
              refine lv_iinc (v := (y4 + 1)) (lv' := [(4, .int (y4 + 1)), (5, .int o5), (3, .int y3), (0, .ref aM), (1, xv vad21 y1), (2, xv vad21 y2)]) hx hb dM_added_184 hl (k := 1) rfl rfl (by decide) rfl (fun ls hl => ?_)
              refine lv_goto (tgt := 102) hx hb dM_added_187 (by decide) ?_
              exact ih (1, (y4 + 1), y3, y1, y2, o14.2.2, (wc + o14.1), (wn + o14.2.1)) _ _ ls (Or.inl ⟨ad19, gd20, vad21, rfl, hf, hP, hD, hS, lv_sub hl [0, 2, 3, 4, 5] rfl, hE, hN⟩)
    · subst hj
      have hf : fM_added_b (n + 1) 2 y4 y3 y1 y2 ws9 wc wn = some out := hf
      rw [fM_added_b, if_neg (by decide)] at hf
      obtain ⟨hP, hD⟩ : xPD D xcl A (xMw cT aM adL rd gdL vadL ws9 []) H := ⟨hP, hD⟩
      have hl : lv_has ls 6 [(4, .int y4), (3, .int y3), (0, .ref aM), (1, xv vadL y1), (2, xv vadL y2)] := hl
      refine W.eq (g2 := F0 m 193 ls []) rfl ?_
      show W p l e _ s m _ below meth c H locs wc wn _ _
      obtain ⟨hm0, hf⟩ := xmoE hf
      refine lv_iload hx hb dM_added_193 (lv_at hl 0 rfl) ?_
      refine xm_aload_n hx hb (xvor _ _) dM_added_195 rfl (lv_at hl 4 rfl) ?_
      obtain ⟨hg1, hf⟩ := xifn hf
      refine xm_vget (v := .int ((xpi ws9 3) (y2 - 1))) hx hb htx hown hK hP 3 (by decide) hg1 rfl ((hZ.1 (103, "count", "I") (List.mem_of_getElem? (i := 3) rfl)).use rfl) rfl dM_added_196 ?_
      refine lv_icmp_ge (tgt := 262) hx hb dM_added_199 (by decide) (fun hc => ?_) (fun hc => ?_)
      · rw [if_pos hc] at hf
        refine lv_aload_n hx hb dM_added_262 rfl (lv_at hl 2 rfl) ?_
        refine xm_aload_n hx hb (xvor _ _) dM_added_263 rfl (lv_at hl 3 rfl) ?_
        obtain ⟨hg2, hf⟩ := xifn hf
        refine xm_vget (v := .int ((xpi ws9 0) (y1 - 1))) hx hb htx hown hK hP 0 (by decide) hg2 rfl ((hZ.1 (93, "kind", "I") (List.mem_of_getElem? (i := 0) rfl)).use rfl) rfl dM_added_264 ?_
        refine lv_iload_n hx hb dM_added_267 rfl (lv_at hl 1 rfl) ?_
        obtain ⟨o3, hq4, hf⟩ := xbind hf
        have hl := lv_sub (l' := [(4, .int y4), (3, .int y3), (0, .ref aM)]) hl [0, 1, 2] rfl
        by_cases hk5 : o3.1 = 0
        · rw [if_pos hk5] at hf
          obtain ⟨hm6, hf⟩ := xmoE hf
          have hFc := xm_free hD hS hA
          refine va_callq (va_runV (C := "ValueBenchModel") (As := [.int ((xpi ws9 0) (y1 - 1)), .int y3]) (rest := []) ⟨hx, hb, hml, hown, htx⟩ (gM_whole l hl9 D cT aK aV H.size n aM adL rd gdL vadL ws9 ((xpi ws9 0) (y1 - 1)) y3 o3 hq4 hk5) ⟨callB_of 2 htx (xw_goodC kw_6_106) rfl rfl rfl (htx _ kw_1_5) (htx _ kw_6_103) ⟨by decide, by decide, by decide +kernel⟩ ⟨Nat.le_of_ble_eq_true rfl, Nat.le_of_ble_eq_true rfl⟩, (htx _ kw_6_105), (htx _ kp_M_whole)⟩ ⟨xPre_blind, va_recv hK hP (ci := 5) rfl (q0 := 0) rfl, (fun U hU hW => ⟨rfl, xPre_of hZ hS hFc hP hD hK U hU hW⟩)⟩ rfl rfl hl.1 rfl (xm_room (Nat.le_of_ble_eq_true rfl)) dM_added_268 ⟨hm6.1, hm6.2⟩) hS (fun q _ h => hFc q h) hFc (fun r7 u9 t H1 locs ht hvm hr9 hB hz1 hk1 hS => ?_)
          obtain ⟨hP1, hK1, hD1⟩ := hB
          rw [ht] at hP1
          obtain ⟨ad8, gd9, vad10⟩ := u9
          obtain ⟨hr9, hv11, hn12⟩ := hr9
          have hP : va_P D xcl (xMw cT aM ad8 rd gd9 vad10 o3.2.2.2.2 []) H1 := hP1
          have hD : va_D A (xMw cT aM ad8 rd gd9 vad10 o3.2.2.2.2 []) := hD1.weaken (fun k q _ h => hFc q.1 h)
          generalize H1 = H at hP hS ⊢
          have hE9 : ∀ p, p < xct st → vad10 p = vad p := fun p h => (hv11 p (Nat.lt_of_lt_of_le h hN)).trans (hE p h)
          have hE := hE9
          have hN : xct st ≤ xct o3.2.2.2.2 := Nat.le_trans hN hn12
          rw [hr9]
          refine W.eq (g2 := F0 m 271 ls [xv vad10 o3.2.2.2.1]) (by first | rfl | (skip; rfl)) ?_
          obtain rfl := Option.some.inj hf
          exact W.aret (v := xv vad10 o3.2.2.2.1) hx hb hr (Or.inl ⟨_, rfl⟩) (xvor _ _) (fun t ht hW => ⟨⟨xca vad10 o3.2.2.2.1, (ad8, gd9, vad10), rfl, ⟨rfl, hE, hN⟩, by rw [ht]; exact hP, va_K.moved hW.alike hK, hD⟩, hS.F ht⟩) hS.2.2 dM_added_271
        rw [if_neg hk5] at hf
        by_cases hk13 : o3.1 = 1
        · rw [if_pos hk13] at hf
          obtain ⟨hm14, hf⟩ := xmoE hf
          obtain rfl := Option.some.inj hf
          exact absurd (show (2 : Nat) = 0 from hkd) (by decide)
        rw [if_neg hk13] at hf
        exact nomatch hf
      · rw [if_neg hc] at hf
        refine xm_aload_n hx hb (xvor _ _) dM_added_202 rfl (lv_at hl 3 rfl) ?_
        obtain ⟨hg2, hf⟩ := xifn hf
        refine xm_vget (v := .int ((xpi ws9 0) (y1 - 1))) hx hb htx hown hK hP 0 (by decide) hg2 rfl ((hZ.1 (93, "kind", "I") (List.mem_of_getElem? (i := 0) rfl)).use rfl) rfl dM_added_203 ?_
        refine lv_iconst (v := 5) hx hb dM_added_206 (by decide) ?_
        refine lv_icmp_eq (tgt := 225) hx hb dM_added_207 (by decide) (fun hc => ?_) (fun hc => ?_)
        · rw [if_pos hc] at hf
          refine lv_aload_n hx hb dM_added_225 rfl (lv_at hl 2 rfl) ?_
          refine xm_aload_n hx hb (xvor _ _) dM_added_226 rfl (lv_at hl 3 rfl) ?_
          refine xm_vget (v := .int ((xpi ws9 0) (y1 - 1))) hx hb htx hown hK hP 0 (by decide) hg2 rfl ((hZ.1 (93, "kind", "I") (List.mem_of_getElem? (i := 0) rfl)).use rfl) rfl dM_added_227 ?_
          refine lv_bipush (v := 6) hx hb dM_added_230 (by decide) ?_
          refine lv_icmp_ne (tgt := 245) hx hb dM_added_232 (by decide) (fun hc => ?_) (fun hc => ?_)
          · rw [if_neg hc] at hf
            refine lv_null hx hb dM_added_245 ?_
            refine lv_aload_n hx hb dM_added_246 rfl (lv_at hl 2 rfl) ?_
            refine xm_aload_n hx hb (xvor _ _) dM_added_247 rfl (lv_at hl 4 rfl) ?_
            refine lv_iload hx hb dM_added_248 (lv_at hl 0 rfl) ?_
            obtain ⟨o3, hq4, hf⟩ := xbind hf
            have hFc := xm_free hD hS hA
            refine va_callq (va_runV (C := "ValueBenchModel") (As := [xv vadL y2, .int y4]) (rest := [.null, .ref aM]) ⟨hx, hb, hml, hown, htx⟩ (gM_kid l hl9 D cT aK aV H.size n aM adL rd gdL vadL ws9 y2 y4 o3 hq4) ⟨callB_of 2 htx (xw_goodC kw_6_158) rfl rfl rfl (htx _ kw_1_5) (htx _ kw_6_155) ⟨by decide, by decide, by decide +kernel⟩ ⟨Nat.le_of_ble_eq_true rfl, Nat.le_of_ble_eq_true rfl⟩, (htx _ kw_6_157), (htx _ kp_M_kid)⟩ ⟨xPre_blind, va_recv hK hP (ci := 5) rfl (q0 := 0) rfl, (fun U hU hW => ⟨rfl, xPre_of hZ hS hFc hP hD hK U hU hW⟩)⟩ rfl rfl hl.1 rfl (xm_room (Nat.le_of_ble_eq_true rfl)) dM_added_250 ⟨hm0.1, hm0.2⟩) hS (fun q _ h => hFc q h) hFc (fun r5 u9 t H1 locs ht hvm hr9 hB hz1 hk1 hS => ?_)
            obtain ⟨hP1, hK1, hD1⟩ := hB
            rw [ht] at hP1
            have hP : va_P D xcl (xMw cT aM adL rd gdL vadL ws9 []) H1 := hP1
            have hD : va_D A (xMw cT aM adL rd gdL vadL ws9 []) := hD1.weaken (fun k q _ h => hFc q.1 h)
            generalize H1 = H at hP hS ⊢
            rw [hr9]
            refine W.eq (g2 := F0 m 253 ls [xv vadL o3, .null, .ref aM]) (by first | rfl | (skip; rfl)) ?_
            obtain ⟨o6, hq7, hf⟩ := xbind hf
            obtain ⟨hm8, hf⟩ := xmoE hf
            have hFc := xm_free hD hS hA
            refine va_callv (va_runV (C := "ValueBenchModel") (As := [.null, xv vadL o3]) (rest := []) ⟨hx, hb, hml, hown, htx⟩ (gM_wait l hl9 D cT aK aV H.size n aM adL rd gdL vadL ws9 0 o3 o6 hq7) ⟨callB_of 2 htx (xw_goodC kw_6_112) rfl rfl rfl (htx _ kw_1_5) (htx _ kw_6_109) ⟨by decide, by decide, by decide +kernel⟩ ⟨Nat.le_of_ble_eq_true rfl, Nat.le_of_ble_eq_true rfl⟩, (htx _ kw_6_111), (htx _ kp_M_wait)⟩ ⟨xPre_blind, va_recv hK hP (ci := 5) rfl (q0 := 0) rfl, (fun U hU hW => ⟨rfl, xPre_of hZ hS hFc hP hD hK U hU hW⟩)⟩ rfl rfl hl.1 rfl (xm_room (Nat.le_of_ble_eq_true rfl)) dM_added_253 ⟨hm8.1, hm8.2⟩) hS (fun q _ h => hFc q h) hFc (fun u9 t H1 locs ht hvm hr9 hB hz1 hk1 hS => ?_)
            obtain ⟨hP1, hK1, hD1⟩ := hB
            rw [ht] at hP1
            obtain ⟨ad10, gd11, vad12⟩ := u9
            obtain ⟨hv13, hn14⟩ := hr9
            have hP : va_P D xcl (xMw cT aM ad10 rd gd11 vad12 o6.2.2 []) H1 := hP1
            have hD : va_D A (xMw cT aM ad10 rd gd11 vad12 o6.2.2 []) := hD1.weaken (fun k q _ h => hFc q.1 h)
            generalize H1 = H at hP hS ⊢
            have hE9 : ∀ p, p < xct st → vad12 p = vad p := fun p h => (hv13 p (Nat.lt_of_lt_of_le h hN)).trans (hE p h)
            have hE := hE9
            have hN : xct st ≤ xct o6.2.2 := Nat.le_trans hN hn14
            have ev15 : xv vadL y1 = xv vad12 y1 := xvE hv13 (fun h => hg2 (Or.inr h))
            have ev16 : xv vadL y2 = xv vad12 y2 := xvE hv13 (fun h => hg1 (Or.inr h))
            have hl : lv_has ls 6 [(4, .int y4), (3, .int y3), (0, .ref aM), (1, xv vad12 y1), (2, xv vad12 y2)] := by first | exact hl | ((try (rw [← ev15])); (try (rw [← ev16])); exact hl)
            refine W.eq (g2 := F0 m 256 ls []) (by first | rfl | ((try (rw [ev15])); (try (rw [ev16])); rfl)) ?_
            refine lv_iinc (v := (y4 + 1)) (lv' := [(4, .int (y4 + 1)), (3, .int y3), (0, .ref aM), (1, xv vad12 y1), (2, xv vad12 y2)]) hx hb dM_added_256 hl (k := 0) rfl rfl (by decide) rfl (fun ls hl => ?_)
            refine lv_goto (tgt := 193) hx hb dM_added_259 (by decide) ?_
            exact ih (2, (y4 + 1), y3, y1, y2, o6.2.2, (wc + o6.1), (wn + o6.2.1)) _ _ ls (Or.inr (⟨ad10, gd11, vad12, rfl, hf, hP, hD, hS, lv_sub hl [0, 1, 2, 3, 4] rfl, hE, hN⟩))
          · rw [if_pos hc] at hf
            refine lv_aload_n hx hb dM_added_235 rfl (lv_at hl 2 rfl) ?_
            refine xm_aload_n hx hb (xvor _ _) dM_added_236 rfl (lv_at hl 4 rfl) ?_
            refine lv_iload hx hb dM_added_237 (lv_at hl 0 rfl) ?_
            obtain ⟨o3, hq4, hf⟩ := xbind hf
            have hFc := xm_free hD hS hA
            refine va_callq (va_runV (C := "ValueBenchModel") (As := [xv vadL y2, .int y4]) (rest := [.ref aM]) ⟨hx, hb, hml, hown, htx⟩ (gM_name l hl9 D cT aK aV H.size n aM adL rd gdL vadL ws9 y2 y4 o3 hq4) ⟨callB_of 2 htx (xw_goodC kw_6_154) rfl rfl rfl (htx _ kw_1_5) (htx _ kw_6_151) ⟨by decide, by decide, by decide +kernel⟩ ⟨Nat.le_of_ble_eq_true rfl, Nat.le_of_ble_eq_true rfl⟩, (htx _ kw_6_153), (htx _ kp_M_name)⟩ ⟨xPre_blind, va_recv hK hP (ci := 5) rfl (q0 := 0) rfl, (fun U hU hW => ⟨rfl, xPre_of hZ hS hFc hP hD hK U hU hW⟩)⟩ rfl rfl hl.1 rfl (xm_room (Nat.le_of_ble_eq_true rfl)) dM_added_239 ⟨hm0.1, hm0.2⟩) hS (fun q _ h => hFc q h) hFc (fun r5 u9 t H1 locs ht hvm hr9 hB hz1 hk1 hS => ?_)
            obtain ⟨hP1, hK1, hD1⟩ := hB
            rw [ht] at hP1
            have hP : va_P D xcl (xMw cT aM adL rd gdL vadL ws9 []) H1 := hP1
            have hD : va_D A (xMw cT aM adL rd gdL vadL ws9 []) := hD1.weaken (fun k q _ h => hFc q.1 h)
            generalize H1 = H at hP hS ⊢
            rw [hr9]
            refine W.eq (g2 := F0 m 242 ls [xv vadL o3, .ref aM]) (by first | rfl | (skip; rfl)) ?_
            refine lv_goto (tgt := 246) hx hb dM_added_242 (by decide) ?_
            refine lv_aload_n hx hb dM_added_246 rfl (lv_at hl 2 rfl) ?_
            refine xm_aload_n hx hb (xvor _ _) dM_added_247 rfl (lv_at hl 4 rfl) ?_
            refine lv_iload hx hb dM_added_248 (lv_at hl 0 rfl) ?_
            obtain ⟨o6, hq7, hf⟩ := xbind hf
            have hFc := xm_free hD hS hA
            refine va_callq (va_runV (C := "ValueBenchModel") (As := [xv vadL y2, .int y4]) (rest := [xv vadL o3, .ref aM]) ⟨hx, hb, hml, hown, htx⟩ (gM_kid l hl9 D cT aK aV H.size n aM adL rd gdL vadL ws9 y2 y4 o6 hq7) ⟨callB_of 2 htx (xw_goodC kw_6_158) rfl rfl rfl (htx _ kw_1_5) (htx _ kw_6_155) ⟨by decide, by decide, by decide +kernel⟩ ⟨Nat.le_of_ble_eq_true rfl, Nat.le_of_ble_eq_true rfl⟩, (htx _ kw_6_157), (htx _ kp_M_kid)⟩ ⟨xPre_blind, va_recv hK hP (ci := 5) rfl (q0 := 0) rfl, (fun U hU hW => ⟨rfl, xPre_of hZ hS hFc hP hD hK U hU hW⟩)⟩ rfl rfl hl.1 rfl (xm_room (by simp [xvcat, xrscat, xcI, xcL, xcR, xcN])) dM_added_250 ⟨hm0.1, hm0.2⟩) hS (fun q _ h => hFc q h) hFc (fun r8 u9 t H1 locs ht hvm hr9 hB hz1 hk1 hS => ?_)
            obtain ⟨hP1, hK1, hD1⟩ := hB
            rw [ht] at hP1
            have hP : va_P D xcl (xMw cT aM adL rd gdL vadL ws9 []) H1 := hP1
            have hD : va_D A (xMw cT aM adL rd gdL vadL ws9 []) := hD1.weaken (fun k q _ h => hFc q.1 h)
            generalize H1 = H at hP hS ⊢
            rw [hr9]
            refine W.eq (g2 := F0 m 253 ls [xv vadL o6, xv vadL o3, .ref aM]) (by first | rfl | (skip; rfl)) ?_
            obtain ⟨o9, hq10, hf⟩ := xbind hf
            obtain ⟨hm11, hf⟩ := xmoE hf
            have hFc := xm_free hD hS hA
            refine va_callv (va_runV (C := "ValueBenchModel") (As := [xv vadL o3, xv vadL o6]) (rest := []) ⟨hx, hb, hml, hown, htx⟩ (gM_wait l hl9 D cT aK aV H.size n aM adL rd gdL vadL ws9 o3 o6 o9 hq10) ⟨callB_of 2 htx (xw_goodC kw_6_112) rfl rfl rfl (htx _ kw_1_5) (htx _ kw_6_109) ⟨by decide, by decide, by decide +kernel⟩ ⟨Nat.le_of_ble_eq_true rfl, Nat.le_of_ble_eq_true rfl⟩, (htx _ kw_6_111), (htx _ kp_M_wait)⟩ ⟨xPre_blind, va_recv hK hP (ci := 5) rfl (q0 := 0) rfl, (fun U hU hW => ⟨rfl, xPre_of hZ hS hFc hP hD hK U hU hW⟩)⟩ rfl rfl hl.1 rfl (xm_room (Nat.le_of_ble_eq_true rfl)) dM_added_253 ⟨hm11.1, hm11.2⟩) hS (fun q _ h => hFc q h) hFc (fun u9 t H1 locs ht hvm hr9 hB hz1 hk1 hS => ?_)
            obtain ⟨hP1, hK1, hD1⟩ := hB
            rw [ht] at hP1
            obtain ⟨ad13, gd14, vad15⟩ := u9
            obtain ⟨hv16, hn17⟩ := hr9
            have hP : va_P D xcl (xMw cT aM ad13 rd gd14 vad15 o9.2.2 []) H1 := hP1
            have hD : va_D A (xMw cT aM ad13 rd gd14 vad15 o9.2.2 []) := hD1.weaken (fun k q _ h => hFc q.1 h)
            generalize H1 = H at hP hS ⊢
            have hE9 : ∀ p, p < xct st → vad15 p = vad p := fun p h => (hv16 p (Nat.lt_of_lt_of_le h hN)).trans (hE p h)
            have hE := hE9
            have hN : xct st ≤ xct o9.2.2 := Nat.le_trans hN hn17
            have ev18 : xv vadL y1 = xv vad15 y1 := xvE hv16 (fun h => hg2 (Or.inr h))
            have ev19 : xv vadL y2 = xv vad15 y2 := xvE hv16 (fun h => hg1 (Or.inr h))
            have hl : lv_has ls 6 [(4, .int y4), (3, .int y3), (0, .ref aM), (1, xv vad15 y1), (2, xv vad15 y2)] := by first | exact hl | ((try (rw [← ev18])); (try (rw [← ev19])); exact hl)
            refine W.eq (g2 := F0 m 256 ls []) (by first | rfl | ((try (rw [ev18])); (try (rw [ev19])); rfl)) ?_
            refine lv_iinc (v := (y4 + 1)) (lv' := [(4, .int (y4 + 1)), (3, .int y3), (0, .ref aM), (1, xv vad15 y1), (2, xv vad15 y2)]) hx hb dM_added_256 hl (k := 0) rfl rfl (by decide) rfl (fun ls hl => ?_)
            refine lv_goto (tgt := 193) hx hb dM_added_259 (by decide) ?_
            exact ih (2, (y4 + 1), y3, y1, y2, o9.2.2, (wc + o9.1), (wn + o9.2.1)) _ _ ls (Or.inr (⟨ad13, gd14, vad15, rfl, hf, hP, hD, hS, lv_sub hl [0, 1, 2, 3, 4] rfl, hE, hN⟩))
        · rw [if_neg hc] at hf
          refine lv_aload_n hx hb dM_added_210 rfl (lv_at hl 2 rfl) ?_
          refine xm_aload_n hx hb (xvor _ _) dM_added_211 rfl (lv_at hl 3 rfl) ?_
          refine lv_aload_n hx hb dM_added_212 rfl (lv_at hl 2 rfl) ?_
          refine xm_aload_n hx hb (xvor _ _) dM_added_213 rfl (lv_at hl 4 rfl) ?_
          refine lv_iload hx hb dM_added_214 (lv_at hl 0 rfl) ?_
          obtain ⟨o3, hq4, hf⟩ := xbind hf
          have hFc := xm_free hD hS hA
          refine va_callq (va_runV (C := "ValueBenchModel") (As := [xv vadL y2, .int y4]) (rest := [xv vadL y1, .ref aM]) ⟨hx, hb, hml, hown, htx⟩ (gM_name l hl9 D cT aK aV H.size n aM adL rd gdL vadL ws9 y2 y4 o3 hq4) ⟨callB_of 2 htx (xw_goodC kw_6_154) rfl rfl rfl (htx _ kw_1_5) (htx _ kw_6_151) ⟨by decide, by decide, by decide +kernel⟩ ⟨Nat.le_of_ble_eq_true rfl, Nat.le_of_ble_eq_true rfl⟩, (htx _ kw_6_153), (htx _ kp_M_name)⟩ ⟨xPre_blind, va_recv hK hP (ci := 5) rfl (q0 := 0) rfl, (fun U hU hW => ⟨rfl, xPre_of hZ hS hFc hP hD hK U hU hW⟩)⟩ rfl rfl hl.1 rfl (xm_room (by simp [xvcat, xrscat, xcI, xcL, xcR, xcN])) dM_added_216 ⟨hm0.1, hm0.2⟩) hS (fun q _ h => hFc q h) hFc (fun r5 u9 t H1 locs ht hvm hr9 hB hz1 hk1 hS => ?_)
          obtain ⟨hP1, hK1, hD1⟩ := hB
          rw [ht] at hP1
          have hP : va_P D xcl (xMw cT aM adL rd gdL vadL ws9 []) H1 := hP1
          have hD : va_D A (xMw cT aM adL rd gdL vadL ws9 []) := hD1.weaken (fun k q _ h => hFc q.1 h)
          generalize H1 = H at hP hS ⊢
          rw [hr9]
          refine W.eq (g2 := F0 m 219 ls [xv vadL o3, xv vadL y1, .ref aM]) (by first | rfl | (skip; rfl)) ?_
          obtain ⟨o6, hq7, hf⟩ := xbind hf
          have hFc := xm_free hD hS hA
          refine va_calli (va_runV (C := "ValueBenchModel") (As := [xv vadL y1, xv vadL o3]) (rest := []) ⟨hx, hb, hml, hown, htx⟩ (gM_place l hl9 D cT aK aV H.size n aM adL rd gdL vadL ws9 y1 o3 o6 hq7) ⟨callB_of 2 htx (xw_goodC kw_6_178) rfl rfl rfl (htx _ kw_1_5) (htx _ kw_6_175) ⟨by decide, by decide, by decide +kernel⟩ ⟨Nat.le_of_ble_eq_true rfl, Nat.le_of_ble_eq_true rfl⟩, (htx _ kw_6_177), (htx _ kp_M_place)⟩ ⟨xPre_blind, va_recv hK hP (ci := 5) rfl (q0 := 0) rfl, (fun U hU hW => ⟨rfl, xPre_of hZ hS hFc hP hD hK U hU hW⟩)⟩ rfl rfl hl.1 rfl (xm_room (Nat.le_of_ble_eq_true rfl)) dM_added_219 ⟨hm0.1, hm0.2⟩) hS (fun q _ h => hFc q h) hFc (fun r8 u9 t H1 locs ht hvm hr9 hB hz1 hk1 hS => ?_)
          obtain ⟨hP1, hK1, hD1⟩ := hB
          rw [ht] at hP1
          have hP : va_P D xcl (xMw cT aM adL rd gdL vadL ws9 []) H1 := hP1
          have hD : va_D A (xMw cT aM adL rd gdL vadL ws9 []) := hD1.weaken (fun k q _ h => hFc q.1 h)
          generalize H1 = H at hP hS ⊢
          rw [hr9]
          refine W.eq (g2 := F0 m 222 ls [.int o6]) (by first | rfl | (skip; rfl)) ?_
          refine lv_if_ge (tgt := 256) hx hb dM_added_222 (by decide) (fun hc => ?_) (fun hc => ?_)
          · rw [if_pos hc] at hf
            refine lv_iinc (v := (y4 + 1)) (lv' := [(4, .int (y4 + 1)), (3, .int y3), (0, .ref aM), (1, xv vadL y1), (2, xv vadL y2)]) hx hb dM_added_256 hl (k := 0) rfl rfl (by decide) rfl (fun ls hl => ?_)
            refine lv_goto (tgt := 193) hx hb dM_added_259 (by decide) ?_
            exact ih (2, (y4 + 1), y3, y1, y2, ws9, wc, wn) _ _ ls (Or.inr (⟨adL, gdL, vadL, rfl, hf, hP, hD, hS, lv_sub hl [0, 1, 2, 3, 4] rfl, hE, hN⟩))
          · rw [if_neg hc] at hf
            refine lv_aload_n hx hb dM_added_225 rfl (lv_at hl 2 rfl) ?_
            refine xm_aload_n hx hb (xvor _ _) dM_added_226 rfl (lv_at hl 3 rfl) ?_
            refine xm_vget (v := .int ((xpi ws9 0) (y1 - 1))) hx hb htx hown hK hP 0 (by decide) hg2 rfl ((hZ.1 (93, "kind", "I") (List.mem_of_getElem? (i := 0) rfl)).use rfl) rfl dM_added_227 ?_
            refine lv_bipush (v := 6) hx hb dM_added_230 (by decide) ?_
            refine lv_icmp_ne (tgt := 245) hx hb dM_added_232 (by decide) (fun hc => ?_) (fun hc => ?_)
            · rw [if_neg hc] at hf
              refine lv_null hx hb dM_added_245 ?_
              refine lv_aload_n hx hb dM_added_246 rfl (lv_at hl 2 rfl) ?_
              refine xm_aload_n hx hb (xvor _ _) dM_added_247 rfl (lv_at hl 4 rfl) ?_
              refine lv_iload hx hb dM_added_248 (lv_at hl 0 rfl) ?_
              obtain ⟨o9, hq10, hf⟩ := xbind hf
              have hFc := xm_free hD hS hA
              refine va_callq (va_runV (C := "ValueBenchModel") (As := [xv vadL y2, .int y4]) (rest := [.null, .ref aM]) ⟨hx, hb, hml, hown, htx⟩ (gM_kid l hl9 D cT aK aV H.size n aM adL rd gdL vadL ws9 y2 y4 o9 hq10) ⟨callB_of 2 htx (xw_goodC kw_6_158) rfl rfl rfl (htx _ kw_1_5) (htx _ kw_6_155) ⟨by decide, by decide, by decide +kernel⟩ ⟨Nat.le_of_ble_eq_true rfl, Nat.le_of_ble_eq_true rfl⟩, (htx _ kw_6_157), (htx _ kp_M_kid)⟩ ⟨xPre_blind, va_recv hK hP (ci := 5) rfl (q0 := 0) rfl, (fun U hU hW => ⟨rfl, xPre_of hZ hS hFc hP hD hK U hU hW⟩)⟩ rfl rfl hl.1 rfl (xm_room (Nat.le_of_ble_eq_true rfl)) dM_added_250 ⟨hm0.1, hm0.2⟩) hS (fun q _ h => hFc q h) hFc (fun r11 u9 t H1 locs ht hvm hr9 hB hz1 hk1 hS => ?_)
              obtain ⟨hP1, hK1, hD1⟩ := hB
              rw [ht] at hP1
              have hP : va_P D xcl (xMw cT aM adL rd gdL vadL ws9 []) H1 := hP1
              have hD : va_D A (xMw cT aM adL rd gdL vadL ws9 []) := hD1.weaken (fun k q _ h => hFc q.1 h)
              generalize H1 = H at hP hS ⊢
              rw [hr9]
              refine W.eq (g2 := F0 m 253 ls [xv vadL o9, .null, .ref aM]) (by first | rfl | (skip; rfl)) ?_
              obtain ⟨o12, hq13, hf⟩ := xbind hf
              obtain ⟨hm14, hf⟩ := xmoE hf
              have hFc := xm_free hD hS hA
              refine va_callv (va_runV (C := "ValueBenchModel") (As := [.null, xv vadL o9]) (rest := []) ⟨hx, hb, hml, hown, htx⟩ (gM_wait l hl9 D cT aK aV H.size n aM adL rd gdL vadL ws9 0 o9 o12 hq13) ⟨callB_of 2 htx (xw_goodC kw_6_112) rfl rfl rfl (htx _ kw_1_5) (htx _ kw_6_109) ⟨by decide, by decide, by decide +kernel⟩ ⟨Nat.le_of_ble_eq_true rfl, Nat.le_of_ble_eq_true rfl⟩, (htx _ kw_6_111), (htx _ kp_M_wait)⟩ ⟨xPre_blind, va_recv hK hP (ci := 5) rfl (q0 := 0) rfl, (fun U hU hW => ⟨rfl, xPre_of hZ hS hFc hP hD hK U hU hW⟩)⟩ rfl rfl hl.1 rfl (xm_room (Nat.le_of_ble_eq_true rfl)) dM_added_253 ⟨hm14.1, hm14.2⟩) hS (fun q _ h => hFc q h) hFc (fun u9 t H1 locs ht hvm hr9 hB hz1 hk1 hS => ?_)
              obtain ⟨hP1, hK1, hD1⟩ := hB
              rw [ht] at hP1
              obtain ⟨ad16, gd17, vad18⟩ := u9
              obtain ⟨hv19, hn20⟩ := hr9
              have hP : va_P D xcl (xMw cT aM ad16 rd gd17 vad18 o12.2.2 []) H1 := hP1
              have hD : va_D A (xMw cT aM ad16 rd gd17 vad18 o12.2.2 []) := hD1.weaken (fun k q _ h => hFc q.1 h)
              generalize H1 = H at hP hS ⊢
              have hE9 : ∀ p, p < xct st → vad18 p = vad p := fun p h => (hv19 p (Nat.lt_of_lt_of_le h hN)).trans (hE p h)
              have hE := hE9
              have hN : xct st ≤ xct o12.2.2 := Nat.le_trans hN hn20
              have ev21 : xv vadL y1 = xv vad18 y1 := xvE hv19 (fun h => hg2 (Or.inr h))
              have ev22 : xv vadL y2 = xv vad18 y2 := xvE hv19 (fun h => hg1 (Or.inr h))
              have hl : lv_has ls 6 [(4, .int y4), (3, .int y3), (0, .ref aM), (1, xv vad18 y1), (2, xv vad18 y2)] := by first | exact hl | ((try (rw [← ev21])); (try (rw [← ev22])); exact hl)
              refine W.eq (g2 := F0 m 256 ls []) (by first | rfl | ((try (rw [ev21])); (try (rw [ev22])); rfl)) ?_
              refine lv_iinc (v := (y4 + 1)) (lv' := [(4, .int (y4 + 1)), (3, .int y3), (0, .ref aM), (1, xv vad18 y1), (2, xv vad18 y2)]) hx hb dM_added_256 hl (k := 0) rfl rfl (by decide) rfl (fun ls hl => ?_)
              refine lv_goto (tgt := 193) hx hb dM_added_259 (by decide) ?_
              exact ih (2, (y4 + 1), y3, y1, y2, o12.2.2, (wc + o12.1), (wn + o12.2.1)) _ _ ls (Or.inr (⟨ad16, gd17, vad18, rfl, hf, hP, hD, hS, lv_sub hl [0, 1, 2, 3, 4] rfl, hE, hN⟩))
            · rw [if_pos hc] at hf
              refine lv_aload_n hx hb dM_added_235 rfl (lv_at hl 2 rfl) ?_
              refine xm_aload_n hx hb (xvor _ _) dM_added_236 rfl (lv_at hl 4 rfl) ?_
              refine lv_iload hx hb dM_added_237 (lv_at hl 0 rfl) ?_
              obtain ⟨o9, hq10, hf⟩ := xbind hf
              have hFc := xm_free hD hS hA
              refine va_callq (va_runV (C := "ValueBenchModel") (As := [xv vadL y2, .int y4]) (rest := [.ref aM]) ⟨hx, hb, hml, hown, htx⟩ (gM_name l hl9 D cT aK aV H.size n aM adL rd gdL vadL ws9 y2 y4 o9 hq10) ⟨callB_of 2 htx (xw_goodC kw_6_154) rfl rfl rfl (htx _ kw_1_5) (htx _ kw_6_151) ⟨by decide, by decide, by decide +kernel⟩ ⟨Nat.le_of_ble_eq_true rfl, Nat.le_of_ble_eq_true rfl⟩, (htx _ kw_6_153), (htx _ kp_M_name)⟩ ⟨xPre_blind, va_recv hK hP (ci := 5) rfl (q0 := 0) rfl, (fun U hU hW => ⟨rfl, xPre_of hZ hS hFc hP hD hK U hU hW⟩)⟩ rfl rfl hl.1 rfl (xm_room (Nat.le_of_ble_eq_true rfl)) dM_added_239 ⟨hm0.1, hm0.2⟩) hS (fun q _ h => hFc q h) hFc (fun r11 u9 t H1 locs ht hvm hr9 hB hz1 hk1 hS => ?_)
              obtain ⟨hP1, hK1, hD1⟩ := hB
              rw [ht] at hP1
              have hP : va_P D xcl (xMw cT aM adL rd gdL vadL ws9 []) H1 := hP1
              have hD : va_D A (xMw cT aM adL rd gdL vadL ws9 []) := hD1.weaken (fun k q _ h => hFc q.1 h)
              generalize H1 = H at hP hS ⊢
              rw [hr9]
              refine W.eq (g2 := F0 m 242 ls [xv vadL o9, .ref aM]) (by first | rfl | (skip; rfl)) ?_
              refine lv_goto (tgt := 246) hx hb dM_added_242 (by decide) ?_
              refine lv_aload_n hx hb dM_added_246 rfl (lv_at hl 2 rfl) ?_
              refine xm_aload_n hx hb (xvor _ _) dM_added_247 rfl (lv_at hl 4 rfl) ?_
              refine lv_iload hx hb dM_added_248 (lv_at hl 0 rfl) ?_
              obtain ⟨o12, hq13, hf⟩ := xbind hf
              have hFc := xm_free hD hS hA
              refine va_callq (va_runV (C := "ValueBenchModel") (As := [xv vadL y2, .int y4]) (rest := [xv vadL o9, .ref aM]) ⟨hx, hb, hml, hown, htx⟩ (gM_kid l hl9 D cT aK aV H.size n aM adL rd gdL vadL ws9 y2 y4 o12 hq13) ⟨callB_of 2 htx (xw_goodC kw_6_158) rfl rfl rfl (htx _ kw_1_5) (htx _ kw_6_155) ⟨by decide, by decide, by decide +kernel⟩ ⟨Nat.le_of_ble_eq_true rfl, Nat.le_of_ble_eq_true rfl⟩, (htx _ kw_6_157), (htx _ kp_M_kid)⟩ ⟨xPre_blind, va_recv hK hP (ci := 5) rfl (q0 := 0) rfl, (fun U hU hW => ⟨rfl, xPre_of hZ hS hFc hP hD hK U hU hW⟩)⟩ rfl rfl hl.1 rfl (xm_room (by simp [xvcat, xrscat, xcI, xcL, xcR, xcN])) dM_added_250 ⟨hm0.1, hm0.2⟩) hS (fun q _ h => hFc q h) hFc (fun r14 u9 t H1 locs ht hvm hr9 hB hz1 hk1 hS => ?_)
              obtain ⟨hP1, hK1, hD1⟩ := hB
              rw [ht] at hP1
              have hP : va_P D xcl (xMw cT aM adL rd gdL vadL ws9 []) H1 := hP1
              have hD : va_D A (xMw cT aM adL rd gdL vadL ws9 []) := hD1.weaken (fun k q _ h => hFc q.1 h)
              generalize H1 = H at hP hS ⊢
              rw [hr9]
              refine W.eq (g2 := F0 m 253 ls [xv vadL o12, xv vadL o9, .ref aM]) (by first | rfl | (skip; rfl)) ?_
              obtain ⟨o15, hq16, hf⟩ := xbind hf
              obtain ⟨hm17, hf⟩ := xmoE hf
              have hFc := xm_free hD hS hA
              refine va_callv (va_runV (C := "ValueBenchModel") (As := [xv vadL o9, xv vadL o12]) (rest := []) ⟨hx, hb, hml, hown, htx⟩ (gM_wait l hl9 D cT aK aV H.size n aM adL rd gdL vadL ws9 o9 o12 o15 hq16) ⟨callB_of 2 htx (xw_goodC kw_6_112) rfl rfl rfl (htx _ kw_1_5) (htx _ kw_6_109) ⟨by decide, by decide, by decide +kernel⟩ ⟨Nat.le_of_ble_eq_true rfl, Nat.le_of_ble_eq_true rfl⟩, (htx _ kw_6_111), (htx _ kp_M_wait)⟩ ⟨xPre_blind, va_recv hK hP (ci := 5) rfl (q0 := 0) rfl, (fun U hU hW => ⟨rfl, xPre_of hZ hS hFc hP hD hK U hU hW⟩)⟩ rfl rfl hl.1 rfl (xm_room (Nat.le_of_ble_eq_true rfl)) dM_added_253 ⟨hm17.1, hm17.2⟩) hS (fun q _ h => hFc q h) hFc (fun u9 t H1 locs ht hvm hr9 hB hz1 hk1 hS => ?_)
              obtain ⟨hP1, hK1, hD1⟩ := hB
              rw [ht] at hP1
              obtain ⟨ad19, gd20, vad21⟩ := u9
              obtain ⟨hv22, hn23⟩ := hr9
              have hP : va_P D xcl (xMw cT aM ad19 rd gd20 vad21 o15.2.2 []) H1 := hP1
              have hD : va_D A (xMw cT aM ad19 rd gd20 vad21 o15.2.2 []) := hD1.weaken (fun k q _ h => hFc q.1 h)
              generalize H1 = H at hP hS ⊢
              have hE9 : ∀ p, p < xct st → vad21 p = vad p := fun p h => (hv22 p (Nat.lt_of_lt_of_le h hN)).trans (hE p h)
              have hE := hE9
              have hN : xct st ≤ xct o15.2.2 := Nat.le_trans hN hn23
              have ev24 : xv vadL y1 = xv vad21 y1 := xvE hv22 (fun h => hg2 (Or.inr h))
              have ev25 : xv vadL y2 = xv vad21 y2 := xvE hv22 (fun h => hg1 (Or.inr h))
              have hl : lv_has ls 6 [(4, .int y4), (3, .int y3), (0, .ref aM), (1, xv vad21 y1), (2, xv vad21 y2)] := by first | exact hl | ((try (rw [← ev24])); (try (rw [← ev25])); exact hl)
              refine W.eq (g2 := F0 m 256 ls []) (by first | rfl | ((try (rw [ev24])); (try (rw [ev25])); rfl)) ?_
              refine lv_iinc (v := (y4 + 1)) (lv' := [(4, .int (y4 + 1)), (3, .int y3), (0, .ref aM), (1, xv vad21 y1), (2, xv vad21 y2)]) hx hb dM_added_256 hl (k := 0) rfl rfl (by decide) rfl (fun ls hl => ?_)
              refine lv_goto (tgt := 193) hx hb dM_added_259 (by decide) ?_
              exact ih (2, (y4 + 1), y3, y1, y2, o15.2.2, (wc + o15.1), (wn + o15.2.1)) _ _ ls (Or.inr (⟨ad19, gd20, vad21, rfl, hf, hP, hD, hS, lv_sub hl [0, 1, 2, 3, 4] rfl, hE, hN⟩))
  refine xm_aload_n hx hb (xvor _ _) dM_added_0 rfl (lv_at hl 1 rfl) ?_
  obtain ⟨hg1, hf⟩ := xifn hf
  refine xm_vget (v := .int ((xpi st 0) (c0 - 1))) hx hb htx hown hK hP 0 (by decide) hg1 rfl ((hZ.1 (93, "kind", "I") (List.mem_of_getElem? (i := 0) rfl)).use rfl) rfl dM_added_1 ?_
  refine lv_if_ne (tgt := 9) hx hb dM_added_4 (by decide) (fun hc => ?_) (fun hc => ?_)
  · rw [if_neg hc] at hf
    refine xm_aload_n hx hb (xvor _ _) dM_added_9 rfl (lv_at hl 2 rfl) ?_
    obtain ⟨hg2, hf⟩ := xifn hf
    refine xm_vget (v := .int ((xpi st 0) (c1 - 1))) hx hb htx hown hK hP 0 (by decide) hg2 rfl ((hZ.1 (93, "kind", "I") (List.mem_of_getElem? (i := 0) rfl)).use rfl) rfl dM_added_10 ?_
    refine lv_if_ne (tgt := 18) hx hb dM_added_13 (by decide) (fun hc => ?_) (fun hc => ?_)
    · rw [if_neg hc] at hf
      refine xm_aload_n hx hb (xvor _ _) dM_added_18 rfl (lv_at hl 1 rfl) ?_
      refine xm_vget (v := .int ((xpi st 0) (c0 - 1))) hx hb htx hown hK hP 0 (by decide) hg1 rfl ((hZ.1 (93, "kind", "I") (List.mem_of_getElem? (i := 0) rfl)).use rfl) rfl dM_added_19 ?_
      refine xm_aload_n hx hb (xvor _ _) dM_added_22 rfl (lv_at hl 2 rfl) ?_
      refine xm_vget (v := .int ((xpi st 0) (c1 - 1))) hx hb htx hown hK hP 0 (by decide) hg2 rfl ((hZ.1 (93, "kind", "I") (List.mem_of_getElem? (i := 0) rfl)).use rfl) rfl dM_added_23 ?_
      refine lv_icmp_ne (tgt := 37) hx hb dM_added_26 (by decide) (fun hc => ?_) (fun hc => ?_)
      · rw [if_neg hc] at hf
        refine lv_aload_n hx hb dM_added_37 rfl (lv_at hl 0 rfl) ?_
        refine lv_iconst (v := 1) hx hb dM_added_38 (by decide) ?_
        obtain ⟨o3, hq4, hf⟩ := xbind hf
        have hl := lv_sub (l' := [(0, .ref aM)]) hl [0] rfl
        by_cases hk5 : o3.1 = 1
        · rw [if_pos hk5] at hf
          obtain ⟨hm6, hf⟩ := xmoE hf
          obtain rfl := Option.some.inj hf
          exact absurd (show (1 : Nat) = 0 from hkd) (by decide)
        rw [if_neg hk5] at hf
        exact nomatch hf
      · rw [if_pos hc] at hf
        refine xm_aload_n hx hb (xvor _ _) dM_added_29 rfl (lv_at hl 1 rfl) ?_
        refine xm_vget (v := .int ((xpi st 0) (c0 - 1))) hx hb htx hown hK hP 0 (by decide) hg1 rfl ((hZ.1 (93, "kind", "I") (List.mem_of_getElem? (i := 0) rfl)).use rfl) rfl dM_added_30 ?_
        refine lv_iconst (v := 3) hx hb dM_added_33 (by decide) ?_
        refine lv_icmp_ge (tgt := 43) hx hb dM_added_34 (by decide) (fun hc => ?_) (fun hc => ?_)
        · rw [if_pos hc] at hf
          refine xm_aload_n hx hb (xvor _ _) dM_added_43 rfl (lv_at hl 1 rfl) ?_
          refine xm_vget (v := .int ((xpi st 0) (c0 - 1))) hx hb htx hown hK hP 0 (by decide) hg1 rfl ((hZ.1 (93, "kind", "I") (List.mem_of_getElem? (i := 0) rfl)).use rfl) rfl dM_added_44 ?_
          refine lv_iconst (v := 3) hx hb dM_added_47 (by decide) ?_
          refine lv_icmp_ne (tgt := 65) hx hb dM_added_48 (by decide) (fun hc => ?_) (fun hc => ?_)
          · rw [if_neg hc] at hf
            refine xm_aload_n hx hb (xvor _ _) dM_added_65 rfl (lv_at hl 1 rfl) ?_
            refine xm_vget (v := .int ((xpi st 0) (c0 - 1))) hx hb htx hown hK hP 0 (by decide) hg1 rfl ((hZ.1 (93, "kind", "I") (List.mem_of_getElem? (i := 0) rfl)).use rfl) rfl dM_added_66 ?_
            refine lv_iconst (v := 4) hx hb dM_added_69 (by decide) ?_
            refine lv_icmp_ne (tgt := 94) hx hb dM_added_70 (by decide) (fun hc => ?_) (fun hc => ?_)
            · rw [if_neg hc] at hf
              refine lv_aload_n hx hb dM_added_94 rfl (lv_at hl 0 rfl) ?_
              refine xm_get (v := .int (xsi st 12)) hx hb htx hown hK hP 12 (by decide) rfl (htx _ kw_5_99) rfl dM_added_95 ?_
              refine lv_istore_n (lv' := [(3, .int (xsi st 12)), (0, .ref aM), (1, xv vad c0), (2, xv vad c1)]) hx hb dM_added_98 rfl hl (by decide) (by simp only [List.filter, xvcat, xrscat, xcI, xcL, xcR, xcN]; rfl) (fun ls hl => ?_)
              refine lv_iconst (v := 0) hx hb dM_added_99 (by decide) ?_
              refine lv_istore (lv' := [(4, .int 0), (3, .int (xsi st 12)), (0, .ref aM), (1, xv vad c0), (2, xv vad c1)]) hx hb dM_added_100 hl (by decide) rfl (fun ls hl => ?_)
              exact key n (1, (0 : Int32), (xsi st 12), c0, c1, st, 0, 0) _ _ ls (Or.inl ⟨ad, gd, vad, rfl, hf, hP, hD, hS, lv_sub hl [0, 1, 2, 3, 4] rfl, hE, hN⟩)
            · rw [if_pos hc] at hf
              refine lv_aload_n hx hb dM_added_73 rfl (lv_at hl 0 rfl) ?_
              refine xm_get (v := .int (xsi st 4)) hx hb htx hown hK hP 4 (by decide) rfl (htx _ kw_5_91) rfl dM_added_74 ?_
              refine lv_istore_n (lv' := [(3, .int (xsi st 4)), (0, .ref aM), (1, xv vad c0), (2, xv vad c1)]) hx hb dM_added_77 rfl hl (by decide) (by simp only [List.filter, xvcat, xrscat, xcI, xcL, xcR, xcN]; rfl) (fun ls hl => ?_)
              refine lv_aload_n hx hb dM_added_78 rfl (lv_at hl 1 rfl) ?_
              refine xm_aload_n hx hb (xvor _ _) dM_added_79 rfl (lv_at hl 2 rfl) ?_
              obtain ⟨o3, hq4, hf⟩ := xbind hf
              have hl := lv_sub (l' := [(3, .int (xsi st 4)), (0, .ref aM), (2, xv vad c1)]) hl [0, 1, 3] rfl
              obtain ⟨hm5, hf⟩ := xmoE hf
              have hFc := xm_free hD hS hA
              refine va_callv (va_runV (C := "ValueBenchModel") (As := [xv vad c0]) (rest := []) ⟨hx, hb, hml, hown, htx⟩ (gM_letters l hl9 D cT aK aV s.heap.size n aM ad rd gd vad st c0 o3 hq4) ⟨callB_of 1 htx (xw_goodC kw_6_207) rfl rfl rfl (htx _ kw_1_5) (htx _ kw_6_204) ⟨by decide, by decide, by decide +kernel⟩ ⟨Nat.le_of_ble_eq_true rfl, Nat.le_of_ble_eq_true rfl⟩, (htx _ kw_6_206), (htx _ kp_M_letters)⟩ ⟨xPre_blind, va_recv hK hP (ci := 5) rfl (q0 := 0) rfl, (fun U hU hW => ⟨rfl, xPre_of hZ hS hFc hP hD hK U hU hW⟩)⟩ rfl rfl hl.1 rfl (xm_room (Nat.le_of_ble_eq_true rfl)) dM_added_80 ⟨hm5.1, hm5.2⟩) hS (fun q _ h => hFc q h) hFc (fun u9 t H1 locs ht hvm hr9 hB hz1 hk1 hS => ?_)
              obtain ⟨hP1, hK1, hD1⟩ := hB
              rw [ht] at hP1
              obtain ⟨ad7, gd8, vad9⟩ := u9
              obtain ⟨hv10, hn11⟩ := hr9
              have hP : va_P D xcl (xMw cT aM ad7 rd gd8 vad9 o3.2.2 []) H1 := hP1
              have hD : va_D A (xMw cT aM ad7 rd gd8 vad9 o3.2.2 []) := hD1.weaken (fun k q _ h => hFc q.1 h)
              generalize H1 = H at hP hS ⊢
              have hE9 : ∀ p, p < xct st → vad9 p = vad p := fun p h => (hv10 p (Nat.lt_of_lt_of_le h hN)).trans (hE p h)
              have hE := hE9
              have hN : xct st ≤ xct o3.2.2 := Nat.le_trans hN hn11
              have ev12 : xv vad c1 = xv vad9 c1 := xvE hv10 (fun h => hg2 (Or.inr h))
              have hl : lv_has ls 6 [(3, .int (xsi st 4)), (0, .ref aM), (2, xv vad9 c1)] := by first | exact hl | ((try (rw [← ev12])); exact hl)
              refine W.eq (g2 := F0 m 83 ls []) (by first | rfl | ((try (rw [ev12])); rfl)) ?_
              refine lv_aload_n hx hb dM_added_83 rfl (lv_at hl 1 rfl) ?_
              refine xm_aload_n hx hb (xvor _ _) dM_added_84 rfl (lv_at hl 2 rfl) ?_
              obtain ⟨o13, hq14, hf⟩ := xbind hf
              have hl := lv_sub (l' := [(3, .int (xsi st 4)), (0, .ref aM)]) hl [0, 1] rfl
              obtain ⟨hm15, hf⟩ := xmoE hf
              have hFc := xm_free hD hS hA
              refine va_callv (va_runV (C := "ValueBenchModel") (As := [xv vad9 c1]) (rest := []) ⟨hx, hb, hml, hown, htx⟩ (gM_letters l hl9 D cT aK aV H.size n aM ad7 rd gd8 vad9 o3.2.2 c1 o13 hq14) ⟨callB_of 1 htx (xw_goodC kw_6_207) rfl rfl rfl (htx _ kw_1_5) (htx _ kw_6_204) ⟨by decide, by decide, by decide +kernel⟩ ⟨Nat.le_of_ble_eq_true rfl, Nat.le_of_ble_eq_true rfl⟩, (htx _ kw_6_206), (htx _ kp_M_letters)⟩ ⟨xPre_blind, va_recv hK hP (ci := 5) rfl (q0 := 0) rfl, (fun U hU hW => ⟨rfl, xPre_of hZ hS hFc hP hD hK U hU hW⟩)⟩ rfl rfl hl.1 rfl (xm_room (Nat.le_of_ble_eq_true rfl)) dM_added_85 ⟨hm15.1, hm15.2⟩) hS (fun q _ h => hFc q h) hFc (fun u9 t H1 locs ht hvm hr9 hB hz1 hk1 hS => ?_)
              obtain ⟨hP1, hK1, hD1⟩ := hB
              rw [ht] at hP1
              obtain ⟨ad17, gd18, vad19⟩ := u9
              obtain ⟨hv20, hn21⟩ := hr9
              have hP : va_P D xcl (xMw cT aM ad17 rd gd18 vad19 o13.2.2 []) H1 := hP1
              have hD : va_D A (xMw cT aM ad17 rd gd18 vad19 o13.2.2 []) := hD1.weaken (fun k q _ h => hFc q.1 h)
              generalize H1 = H at hP hS ⊢
              have hE9 : ∀ p, p < xct st → vad19 p = vad p := fun p h => (hv20 p (Nat.lt_of_lt_of_le h hN)).trans (hE p h)
              have hE := hE9
              have hN : xct st ≤ xct o13.2.2 := Nat.le_trans hN hn21
              refine W.eq (g2 := F0 m 88 ls []) (by first | rfl | (skip; rfl)) ?_
              refine lv_aload_n hx hb dM_added_88 rfl (lv_at hl 1 rfl) ?_
              refine lv_iload_n hx hb dM_added_89 rfl (lv_at hl 0 rfl) ?_
              obtain ⟨o22, hq23, hf⟩ := xbind hf
              by_cases hk24 : o22.1 = 0
              · rw [if_pos hk24] at hf
                obtain ⟨hm25, hf⟩ := xmoE hf
                have hFc := xm_free hD hS hA
                refine va_callq (va_runV (C := "ValueBenchModel") (As := [.int (xsi st 4)]) (rest := []) ⟨hx, hb, hml, hown, htx⟩ (gM_string l hl9 D cT aK aV H.size n aM ad17 rd gd18 vad19 o13.2.2 (xsi st 4) o22 hq23 hk24) ⟨callB_of 1 htx (xw_goodC kw_6_61) rfl rfl rfl (htx _ kw_1_5) (htx _ kw_6_58) ⟨by decide, by decide, by decide +kernel⟩ ⟨Nat.le_of_ble_eq_true rfl, Nat.le_of_ble_eq_true rfl⟩, (htx _ kw_6_60), (htx _ kp_M_string)⟩ ⟨xPre_blind, va_recv hK hP (ci := 5) rfl (q0 := 0) rfl, (fun U hU hW => ⟨rfl, xPre_of hZ hS hFc hP hD hK U hU hW⟩)⟩ rfl rfl hl.1 rfl (xm_room (Nat.le_of_ble_eq_true rfl)) dM_added_90 ⟨hm25.1, hm25.2⟩) hS (fun q _ h => hFc q h) hFc (fun r26 u9 t H1 locs ht hvm hr9 hB hz1 hk1 hS => ?_)
                obtain ⟨hP1, hK1, hD1⟩ := hB
                rw [ht] at hP1
                obtain ⟨ad27, gd28, vad29⟩ := u9
                obtain ⟨hr9, hv30, hn31⟩ := hr9
                have hP : va_P D xcl (xMw cT aM ad27 rd gd28 vad29 o22.2.2.2.2 []) H1 := hP1
                have hD : va_D A (xMw cT aM ad27 rd gd28 vad29 o22.2.2.2.2 []) := hD1.weaken (fun k q _ h => hFc q.1 h)
                generalize H1 = H at hP hS ⊢
                have hE9 : ∀ p, p < xct st → vad29 p = vad p := fun p h => (hv30 p (Nat.lt_of_lt_of_le h hN)).trans (hE p h)
                have hE := hE9
                have hN : xct st ≤ xct o22.2.2.2.2 := Nat.le_trans hN hn31
                rw [hr9]
                refine W.eq (g2 := F0 m 93 ls [xv vad29 o22.2.2.2.1]) (by first | rfl | (skip; rfl)) ?_
                obtain rfl := Option.some.inj hf
                exact W.aret (v := xv vad29 o22.2.2.2.1) hx hb hr (Or.inl ⟨_, rfl⟩) (xvor _ _) (fun t ht hW => ⟨⟨xca vad29 o22.2.2.2.1, (ad27, gd28, vad29), rfl, ⟨rfl, hE, hN⟩, by rw [ht]; exact hP, va_K.moved hW.alike hK, hD⟩, hS.F ht⟩) hS.2.2 dM_added_93
              rw [if_neg hk24] at hf
              by_cases hk32 : o22.1 = 1
              · rw [if_pos hk32] at hf
                obtain ⟨hm33, hf⟩ := xmoE hf
                obtain rfl := Option.some.inj hf
                exact absurd (show (2 : Nat) = 0 from hkd) (by decide)
              rw [if_neg hk32] at hf
              exact nomatch hf
          · rw [if_pos hc] at hf
            refine lv_aload_n hx hb dM_added_51 rfl (lv_at hl 0 rfl) ?_
            refine xm_aload_n hx hb (xvor _ _) dM_added_52 rfl (lv_at hl 1 rfl) ?_
            refine xm_vget (v := .long ((xpl st) (c0 - 1))) hx hb htx hown hK hP 1 (by decide) hg1 rfl ((hZ.1 (96, "n", "J") (List.mem_of_getElem? (i := 1) rfl)).use rfl) rfl dM_added_53 ?_
            refine xm_aload_n hx hb (xvor _ _) dM_added_56 rfl (lv_at hl 2 rfl) ?_
            refine xm_vget (v := .long ((xpl st) (c1 - 1))) hx hb htx hown hK hP 1 (by decide) hg2 rfl ((hZ.1 (96, "n", "J") (List.mem_of_getElem? (i := 1) rfl)).use rfl) rfl dM_added_57 ?_
            refine lv_ladd hx hb dM_added_60 ?_
            obtain ⟨o3, hq4, hf⟩ := xbind hf
            have hl := lv_sub (l' := [(0, .ref aM)]) hl [0] rfl
            by_cases hk5 : o3.1 = 0
            · rw [if_pos hk5] at hf
              obtain ⟨hm6, hf⟩ := xmoE hf
              have hFc := xm_free hD hS hA
              refine va_callq (va_runV (C := "ValueBenchModel") (As := [.long (((xpl st) (c0 - 1)) + ((xpl st) (c1 - 1)))]) (rest := []) ⟨hx, hb, hml, hown, htx⟩ (gM_number l hl9 D cT aK aV s.heap.size n aM ad rd gd vad st (((xpl st) (c0 - 1)) + ((xpl st) (c1 - 1))) o3 hq4 hk5) ⟨callB_of 1 htx (xw_goodC kw_6_88) rfl rfl rfl (htx _ kw_1_5) (htx _ kw_6_85) ⟨by decide, by decide, by decide +kernel⟩ ⟨Nat.le_of_ble_eq_true rfl, Nat.le_of_ble_eq_true rfl⟩, (htx _ kw_6_87), (htx _ kp_M_number)⟩ ⟨xPre_blind, va_recv hK hP (ci := 5) rfl (q0 := 0) rfl, (fun U hU hW => ⟨rfl, xPre_of hZ hS hFc hP hD hK U hU hW⟩)⟩ rfl rfl hl.1 rfl (xm_room (Nat.le_of_ble_eq_true rfl)) dM_added_61 ⟨hm6.1, hm6.2⟩) hS (fun q _ h => hFc q h) hFc (fun r7 u9 t H1 locs ht hvm hr9 hB hz1 hk1 hS => ?_)
              obtain ⟨hP1, hK1, hD1⟩ := hB
              rw [ht] at hP1
              obtain ⟨ad8, gd9, vad10⟩ := u9
              obtain ⟨hr9, hv11, hn12⟩ := hr9
              have hP : va_P D xcl (xMw cT aM ad8 rd gd9 vad10 o3.2.2.2.2 []) H1 := hP1
              have hD : va_D A (xMw cT aM ad8 rd gd9 vad10 o3.2.2.2.2 []) := hD1.weaken (fun k q _ h => hFc q.1 h)
              generalize H1 = H at hP hS ⊢
              have hE9 : ∀ p, p < xct st → vad10 p = vad p := fun p h => (hv11 p (Nat.lt_of_lt_of_le h hN)).trans (hE p h)
              have hE := hE9
              have hN : xct st ≤ xct o3.2.2.2.2 := Nat.le_trans hN hn12
              rw [hr9]
              refine W.eq (g2 := F0 m 64 ls [xv vad10 o3.2.2.2.1]) (by first | rfl | (skip; rfl)) ?_
              obtain rfl := Option.some.inj hf
              exact W.aret (v := xv vad10 o3.2.2.2.1) hx hb hr (Or.inl ⟨_, rfl⟩) (xvor _ _) (fun t ht hW => ⟨⟨xca vad10 o3.2.2.2.1, (ad8, gd9, vad10), rfl, ⟨rfl, hE, hN⟩, by rw [ht]; exact hP, va_K.moved hW.alike hK, hD⟩, hS.F ht⟩) hS.2.2 dM_added_64
            rw [if_neg hk5] at hf
            by_cases hk13 : o3.1 = 1
            · rw [if_pos hk13] at hf
              obtain ⟨hm14, hf⟩ := xmoE hf
              obtain rfl := Option.some.inj hf
              exact absurd (show (1 : Nat) = 0 from hkd) (by decide)
            rw [if_neg hk13] at hf
            exact nomatch hf
        · rw [if_neg hc] at hf
          refine lv_aload_n hx hb dM_added_37 rfl (lv_at hl 0 rfl) ?_
          refine lv_iconst (v := 1) hx hb dM_added_38 (by decide) ?_
          obtain ⟨o3, hq4, hf⟩ := xbind hf
          have hl := lv_sub (l' := [(0, .ref aM)]) hl [0] rfl
          by_cases hk5 : o3.1 = 1
          · rw [if_pos hk5] at hf
            obtain ⟨hm6, hf⟩ := xmoE hf
            obtain rfl := Option.some.inj hf
            exact absurd (show (1 : Nat) = 0 from hkd) (by decide)
          rw [if_neg hk5] at hf
          exact nomatch hf
    · rw [if_pos hc] at hf
      refine xm_aload_n hx hb (xvor _ _) dM_added_16 rfl (lv_at hl 1 rfl) ?_
      obtain rfl := Option.some.inj hf
      exact W.aret (v := xv vad c0) hx hb hr (Or.inl ⟨_, rfl⟩) (xvor _ _) (fun t ht hW => ⟨⟨xca vad c0, (ad, gd, vad), rfl, ⟨rfl, hE, hN⟩, by rw [ht]; exact hP, va_K.moved hW.alike hK, hD⟩, hS.F ht⟩) hS.2.2 dM_added_17
  · rw [if_pos hc] at hf
    refine xm_aload_n hx hb (xvor _ _) dM_added_7 rfl (lv_at hl 2 rfl) ?_
    obtain rfl := Option.some.inj hf
    exact W.aret (v := xv vad c1) hx hb hr (Or.inl ⟨_, rfl⟩) (xvor _ _) (fun t ht hW => ⟨⟨xca vad c1, (ad, gd, vad), rfl, ⟨rfl, hE, hN⟩, by rw [ht]; exact hP, va_K.moved hW.alike hK, hD⟩, hS.F ht⟩) hS.2.2 dM_added_8
