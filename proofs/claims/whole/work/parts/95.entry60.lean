def xtm : Nat → Term := fun i => match i with
  | 0 => .string "ValueBench" 53
  | 1 => .string "ValueBench" 91
  | 2 => .string "ValueBench" 138
  | 3 => .string "ValueBench" 151
  | 4 => .string "ValueBench" 156
  | 5 => .string "ValueBench" 159
  | 6 => .string "ValueBench" 161
  | 7 => .string "ValueBench" 163
  | 8 => .string "ValueBench" 165
  | 9 => .string "ValueBench" 172
  | 10 => .string "ValueBench$Reader" 55
  | 11 => .string "ValueBench$Reader" 61
  | 12 => .string "ValueBench$Reader" 63
  | 13 => .string "ValueBench$Printer" 76
  | _ => .string "ValueBenchModel" 284
set_option maxRecDepth 100000 in
theorem xl_1 : ∀ i, i < 15 → Cond.exactly (xtm i) "java/lang/String" ∈ flatC (Jvm.Cond.and given_1 narrow_1) := by decide +kernel
set_option maxRecDepth 100000 in
theorem xl_2 : ∀ i, i < 15 → Cond.eq (.field (xtm i) "java/lang/String" "coder" "B") (.int 0) ∈ flatC (Jvm.Cond.and given_1 narrow_1) := by decide +kernel
set_option maxRecDepth 100000 in
theorem xl_3 : ∀ i, i < 15 → Cond.arrayOf (.field (xtm i) "java/lang/String" "value" "[B") .byte ∈ flatC (Jvm.Cond.and given_1 narrow_1) := by decide +kernel
set_option maxRecDepth 100000 in
theorem xl_4 : ∀ i, i < 15 → Cond.eq (.length (.field (xtm i) "java/lang/String" "value" "[B")) (.int (Int32.ofNat (xlen.getD i 0))) ∈ flatC (Jvm.Cond.and given_1 narrow_1) := by decide +kernel
def xl_P5 : List Nat := [55, 135, 377, 75, 269, 288, 309, 330, 354, 230, 101, 111, 123, 201, 497]
set_option maxRecDepth 100000 in
theorem xl_5i : ∀ i, i < 15 → ∀ j, j < xlen.getD i 0 → (flatC (Jvm.Cond.and given_1 narrow_1))[xl_P5.getD i 0 + j]? = some (Cond.eq (.elem (.field (xtm i) "java/lang/String" "value" "[B") (.int (Int32.ofNat j))) (.int ((xbyt.getD i []).getD j 0))) := by decide +kernel
theorem xl_5 : ∀ i, i < 15 → ∀ j, j < xlen.getD i 0 → Cond.eq (.elem (.field (xtm i) "java/lang/String" "value" "[B") (.int (Int32.ofNat j))) (.int ((xbyt.getD i []).getD j 0)) ∈ flatC (Jvm.Cond.and given_1 narrow_1) := fun i hi j hj => List.mem_of_getElem? (xl_5i i hi j hj)
def xl_L6 : List (Nat × Nat × Nat) := [(146, 0, 1), (398, 0, 2), (96, 0, 3), (273, 0, 4), (293, 0, 5), (313, 0, 6), (336, 0, 7), (358, 0, 8), (255, 0, 9), (105, 0, 10), (116, 0, 11), (127, 0, 12), (217, 0, 13), (500, 0, 14), (403, 1, 2), (278, 1, 4), (298, 1, 5), (318, 1, 6), (341, 1, 7), (363, 1, 8), (260, 1, 9), (222, 1, 13), (505, 1, 14), (516, 2, 14), (147, 3, 1)]
def xl_L6a : List (Nat × Nat × Nat) := [(399, 3, 2), (274, 3, 4), (294, 3, 5), (314, 3, 6), (337, 3, 7), (359, 3, 8), (256, 3, 9), (106, 3, 10), (117, 3, 11), (128, 3, 12), (218, 3, 13), (501, 3, 14), (409, 4, 2), (304, 4, 5), (324, 4, 6), (347, 4, 7), (369, 4, 8), (511, 4, 14), (410, 5, 2), (325, 5, 6), (348, 5, 7), (370, 5, 8), (512, 5, 14), (411, 6, 2), (349, 6, 7)]
def xl_L6b : List (Nat × Nat × Nat) := [(371, 6, 8), (513, 6, 14), (412, 7, 2), (372, 7, 8), (514, 7, 14), (413, 8, 2), (515, 8, 14), (408, 9, 2), (283, 9, 4), (303, 9, 5), (323, 9, 6), (346, 9, 7), (368, 9, 8), (510, 9, 14), (148, 10, 1), (400, 10, 2), (275, 10, 4), (295, 10, 5), (315, 10, 6), (338, 10, 7), (360, 10, 8), (257, 10, 9), (118, 10, 11), (129, 10, 12), (219, 10, 13)]
def xl_L6c : List (Nat × Nat × Nat) := [(502, 10, 14), (149, 11, 1), (401, 11, 2), (276, 11, 4), (296, 11, 5), (316, 11, 6), (339, 11, 7), (361, 11, 8), (258, 11, 9), (130, 11, 12), (220, 11, 13), (503, 11, 14), (150, 12, 1), (402, 12, 2), (277, 12, 4), (297, 12, 5), (317, 12, 6), (340, 12, 7), (362, 12, 8), (259, 12, 9), (221, 12, 13), (504, 12, 14), (407, 13, 2), (282, 13, 4), (302, 13, 5)]
def xl_L6d : List (Nat × Nat × Nat) := [(322, 13, 6), (345, 13, 7), (367, 13, 8), (264, 13, 9), (509, 13, 14)]
def xl_M6 : List (Nat × Nat × Nat) := xl_L6 ++ xl_L6a ++ xl_L6b ++ xl_L6c ++ xl_L6d
set_option maxRecDepth 100000 in
theorem xl_6i : ∀ q ∈ xl_M6, (flatC (Jvm.Cond.and given_1 narrow_1))[q.1]? = some (Cond.not (Cond.eq (xtm q.2.1) (xtm q.2.2))) := by decide +kernel
set_option maxRecDepth 100000 in
theorem xl_6p : ∀ i, i < 15 → ∀ j, j < 15 → (i == j || (xl_M6.any (fun q => q.2.1 == i && q.2.2 == j) || xl_M6.any (fun q => q.2.1 == j && q.2.2 == i))) = true := by decide +kernel
theorem xl_6 : ∀ i, i < 15 → ∀ j, j < 15 → i ≠ j → Cond.not (Cond.eq (xtm i) (xtm j)) ∈ flatC (Jvm.Cond.and given_1 narrow_1) ∨ Cond.not (Cond.eq (xtm j) (xtm i)) ∈ flatC (Jvm.Cond.and given_1 narrow_1) := by
  intro i hi j hj hij
  have h := xl_6p i hi j hj
  rw [Bool.or_eq_true, Bool.or_eq_true] at h
  rcases h with h | h | h
  · exact absurd (beq_iff_eq.mp h) hij
  · obtain ⟨q, hq, h2⟩ := List.any_eq_true.mp h
    rw [Bool.and_eq_true, beq_iff_eq, beq_iff_eq] at h2
    have h3 := List.mem_of_getElem? (xl_6i q hq)
    rw [h2.1, h2.2] at h3
    exact Or.inl h3
  · obtain ⟨q, hq, h2⟩ := List.any_eq_true.mp h
    rw [Bool.and_eq_true, beq_iff_eq, beq_iff_eq] at h2
    have h3 := List.mem_of_getElem? (xl_6i q hq)
    rw [h2.1, h2.2] at h3
    exact Or.inr h3
set_option maxRecDepth 100000 in
theorem xl_7 : ∀ q ∈ xstr, Cond.stringRef q.1 q.2.1 q.2.2.1 ∈ lw_tbl := by decide +kernel
set_option maxRecDepth 100000 in
theorem xl_8 : ∀ q ∈ xstr, q.2.2.2 < 15 ∧ (Term.string q.1 q.2.1 = xtm q.2.2.2 ∨ Cond.eq (xtm q.2.2.2) (.string q.1 q.2.1) ∈ flatC (Jvm.Cond.and given_1 narrow_1)) := by decide +kernel
set_option maxRecDepth 100000 in
theorem xl_9 : ∀ q ∈ xnc, Cond.not (.castable q.1 q.2) ∈ flatC (Jvm.Cond.and given_1 narrow_1) := by decide +kernel
set_option maxRecDepth 100000 in
theorem xl_10 : ∀ E ∈ xex, Cond.castable E E ∈ lw_tbl := by decide +kernel
set_option maxRecDepth 100000 in
theorem xl_11 : ∀ y ∈ xdc, Cond.declares y ∈ lw_tbl := by decide +kernel
set_option maxRecDepth 100000 in
theorem xl_12 : ∀ q ∈ xnF, Cond.fieldLinkNest "ValueBenchModel" q.1 "ValueBenchModel$V" q.2.1 q.2.2 "ValueBenchModel" ∈ lw_tbl := by decide +kernel
set_option maxRecDepth 100000 in
theorem xl_13 : ∀ q ∈ xnM, Cond.methodLinkNest q.1 q.2.1 q.2.2 q.1 ∈ lw_tbl := by decide +kernel
set_option maxRecDepth 100000 in
theorem xl_ru : Cond.isRef (.static "java/lang/Throwable" "UNASSIGNED_STACK" "[Ljava/lang/StackTraceElement;") ∈ flatC (Jvm.Cond.and given_1 narrow_1) := by decide +kernel
set_option maxRecDepth 100000 in
theorem xl_rs : Cond.isRef (.static "java/lang/Throwable" "SUPPRESSED_SENTINEL" "Ljava/util/List;") ∈ flatC (Jvm.Cond.and given_1 narrow_1) := by decide +kernel
set_option maxRecDepth 100000 in
theorem xl_ri : Cond.isRef (.static "jdk/internal/util/Preconditions" "SIOOBE_FORMATTER" "Ljava/util/function/BiFunction;") ∈ flatC (Jvm.Cond.and given_1 narrow_1) := by decide +kernel
set_option maxRecDepth 100000 in
theorem xl_rc : Cond.eq (.static "java/lang/String" "COMPACT_STRINGS" "Z") (.int 1) ∈ flatC (Jvm.Cond.and given_1 narrow_1) := by decide +kernel
set_option maxRecDepth 100000 in
theorem xl_lu : Cond.laysStatic "java/lang/Throwable" "UNASSIGNED_STACK" "[Ljava/lang/StackTraceElement;" ∈ lw_tbl := by decide +kernel
set_option maxRecDepth 100000 in
theorem xl_ls : Cond.laysStatic "java/lang/Throwable" "SUPPRESSED_SENTINEL" "Ljava/util/List;" ∈ lw_tbl := by decide +kernel
set_option maxRecDepth 100000 in
theorem xl_li : Cond.laysStatic "jdk/internal/util/Preconditions" "SIOOBE_FORMATTER" "Ljava/util/function/BiFunction;" ∈ lw_tbl := by decide +kernel
set_option maxRecDepth 100000 in
theorem xl_lc : Cond.laysStatic "java/lang/String" "COMPACT_STRINGS" "Z" ∈ lw_tbl := by decide +kernel
set_option maxRecDepth 100000 in
theorem xl_it : Cond.initialized "java/lang/Throwable" ∈ lw_tbl ∧ Cond.initialized "java/lang/String" ∈ lw_tbl ∧ Cond.initialized "jdk/internal/util/Preconditions" ∈ lw_tbl := by decide +kernel
set_option maxRecDepth 100000 in
theorem xl_ao : Cond.arrayOver (.object "ValueBench$Row") ∈ lw_tbl ∧ Cond.arrayOver (.object "ValueBenchModel$V") ∈ lw_tbl ∧ Cond.arrayOver (.array .byte) ∈ lw_tbl := by decide +kernel
set_option maxRecDepth 100000 in
theorem xl_ac : Cond.arrayClass .byte ∈ lw_tbl ∧ Cond.arrayClass .int ∈ lw_tbl ∧ Cond.arrayClass .long ∈ lw_tbl := by decide +kernel
set_option maxRecDepth 100000 in
theorem xl_in : Cond.instantiable "ValueBench" 8 ∈ lw_tbl ∧ Cond.instantiable "ValueBench$Text" 3 ∈ lw_tbl ∧ Cond.instantiable "ValueBench$Row" 3 ∈ lw_tbl ∧ Cond.instantiable "ValueBench$Sorter" 5 ∈ lw_tbl ∧ Cond.instantiable "ValueBench$Reader" 4 ∈ lw_tbl ∧ Cond.instantiable "ValueBenchModel" 32 ∈ lw_tbl ∧ Cond.instantiable "ValueBenchModel$V" 6 ∈ lw_tbl := by decide +kernel
set_option maxHeartbeats 4000000 in
set_option maxRecDepth 100000 in
theorem xl_K {args : Array Value} {s : State} (hts : ∀ w ∈ lw_tbl, w.before args s = true) : ∃ (D : va_G) (cT : Nat → ClassId), va_K D xcl (xty cT) s := by
  have htx : ∀ w ∈ xw, w.before args s = true := fun w h => hts w (xw_in w h)
  obtain ⟨n0, n1, n2, n3, n4, n5, n6⟩ := xl_in
  obtain ⟨c0, i0, k0⟩ := u_known htx inB (hts _ n0)
  obtain ⟨c1, i1, k1⟩ := u_known htx inT (hts _ n1)
  obtain ⟨c2, i2, k2⟩ := u_known htx inR (hts _ n2)
  obtain ⟨c3, i3, k3⟩ := u_known htx inS (hts _ n3)
  obtain ⟨c4, i4, k4⟩ := u_known htx inD (hts _ n4)
  obtain ⟨c5, i5, k5⟩ := u_known htx inM (hts _ n5)
  obtain ⟨c6, i6, k6⟩ := u_known htx inV (hts _ n6)
  obtain ⟨a0, b0, p0, f0, g0, e0⟩ := Cond.arrayClass_spec (hts _ xl_ac.1)
  obtain ⟨a1, b1, p1, f1, g1, e1⟩ := Cond.arrayClass_spec (hts _ xl_ac.2.1)
  obtain ⟨a2, b2, p2, f2, g2, e2⟩ := Cond.arrayClass_spec (hts _ xl_ac.2.2)
  obtain ⟨p3, a3, b3, h3, -, g3, e3, f3⟩ := Cond.arrayOver_spec (hts _ xl_ao.1)
  obtain ⟨p4, a4, b4, h4, -, g4, e4, f4⟩ := Cond.arrayOver_spec (hts _ xl_ao.2.1)
  obtain ⟨p5, a5, b5, h5, g5, e5, f5⟩ := Cond.arrayOver_specA (hts _ xl_ao.2.2)
  refine ⟨(fun k => [c0, c1, c2, c3, c4, c5, c6].getD k c0, fun k => [i0, i1, i2, i3, i4, i5, i6].getD k i0), fun k => [a0, a1, a2, a3, a4, a5].getD k a0, ⟨fun c q h => ?_, fun k q h => ?_⟩⟩
  · have hc : c < 7 := (List.getElem?_eq_some_iff.mp h).1
    rcases (by omega : c = 0 ∨ c = 1 ∨ c = 2 ∨ c = 3 ∨ c = 4 ∨ c = 5 ∨ c = 6) with rfl | rfl | rfl | rfl | rfl | rfl | rfl
    · cases h; exact k0
    · cases h; exact k1
    · cases h; exact k2
    · cases h; exact k3
    · cases h; exact k4
    · cases h; exact k5
    · cases h; exact k6
  · have hc : k < 6 := (List.getElem?_eq_some_iff.mp h).1
    rcases (by omega : k = 0 ∨ k = 1 ∨ k = 2 ∨ k = 3 ∨ k = 4 ∨ k = 5) with rfl | rfl | rfl | rfl | rfl | rfl
    · cases h; exact ⟨fun n z => ⟨fun k h => (by cases h), b0, g0, p0, e0⟩, f0⟩
    · cases h; exact ⟨fun n z => ⟨fun k h => (by cases h), b1, g1, p1, e1⟩, f1⟩
    · cases h; exact ⟨fun n z => ⟨fun k h => (by cases h), b2, g2, p2, e2⟩, f2⟩
    · cases h; exact ⟨fun n z => ⟨fun k h => (by cases h), b3, g3, p3, e3⟩, b3, p3, g3, e3, h3, f3⟩
    · cases h; exact ⟨fun n z => ⟨fun k h => (by cases h), b4, g4, p4, e4⟩, b4, p4, g4, e4, h4, f4⟩
    · cases h; exact ⟨fun n z => ⟨fun k h => (by cases h), b5, g5, p5, e5⟩, f5⟩
set_option maxHeartbeats 4000000 in
set_option maxRecDepth 100000 in
theorem xl_xa {args : Array Value} {s : State} (hts : ∀ w ∈ lw_tbl, w.before args s = true) (hg : (Jvm.Cond.and given_1 narrow_1).before args s = true) : ∃ aK aV : Nat → Nat, xa aK aV (fun q => s.heap.size ≤ q) s s.heap := by
  have hs := flat_of_before _ hg
  have hA : ∀ a : Nat, a < s.heap.size → ¬ (fun q => s.heap.size ≤ q) a := fun a h h2 => by have h3 : s.heap.size ≤ a := h2; omega
  obtain ⟨aK, aV, hS, hE⟩ := vk_Sof (args := args) (s := s) (N := 15) (tm := xtm) (len := xlen) (byt := xbyt) (A := fun q => s.heap.size ≤ q) (by decide) (fun i hi => hs _ (xl_1 i hi)) (fun i hi => hs _ (xl_2 i hi)) (fun i hi => hs _ (xl_3 i hi)) (fun i hi => hs _ (xl_4 i hi)) (fun i hi j hj => hs _ (xl_5 i hi j hj)) (fun i j hi hj hij => (xl_6 i hi j hj hij).imp (hs _) (hs _)) hA
  refine ⟨aK, aV, fun q hq => va_Nw.of rfl (hts _ (xl_12 q hq)), fun q hq => va_Nw.of rfl (hts _ (xl_13 q hq)), ⟨va_AO.of (hts _ xl_ao.1), va_AO.of (hts _ xl_ao.2.1)⟩, vx_Zqof (hts _ xl_lu) (hts _ xl_it.1) (hs _ xl_ru) hA, vx_Zqof (hts _ xl_ls) (hts _ xl_it.1) (hs _ xl_rs) hA, fun q hq => va_Nw.of rfl (hts _ (xl_10 q hq)), fun q hq => va_Nw.of rfl (hts _ (xl_11 q hq)), fun q hq => va_Nc.of (hs _ (xl_9 q hq)), fun q hq => ?_, hS, va_Zof (hts _ xl_lc) (hts _ xl_it.2.1) (va_eqt (hs _ xl_rc)) hA, va_Zqof (hts _ xl_li) (hts _ xl_it.2.2) (hs _ xl_ri) hA, hts _ xl_ao.2.2⟩
  obtain ⟨hi, hq2⟩ := xl_8 q hq
  refine vk_R.of (hts _ (xl_7 q hq)) ?_
  rcases hq2 with e | e
  · rw [e]; exact hE _ hi
  · exact va_eqR (hs _ e) (hE _ hi)
