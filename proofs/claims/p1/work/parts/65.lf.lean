set_option maxHeartbeats 400000000 in
set_option maxRecDepth 100000 in
theorem lf_one11_p2 {p : Program} {e : Env} {s : State} {m : MethodId} {below : List Frame} {meth : Method} {c : Code} (l : Launch) (hl9 : l.stackTraces = false) (D : va_G) (cT : Nat → ClassId) (aK aV : Nat → Nat) {A : Nat → Prop} {b : Nat} {xs : Nat → Int32} (C : xLw p s m meth c b D cT aK aV A) {H : Heap} {locs : List Loc} {ls : Array Slot} (a0 : Nat) (a1 : Nat) (a2 : Nat) (a3 : Nat) (a4 : Nat) (a5 : Nat) (a6 : Nat) (a7 : Nat) (a8 : Nat) (a9 : Nat) (a10 : Nat) (v11 : Value) (v12 : Value) (b13 : Nat) (b14 : Nat) (v15 : Value) (v16 : Value) (v17 : Value) (v18 : Value) (v19 : Value) (v20 : Value) (v21 : Value) (v22 : Value) (v23 : Value) (v24 : Value) (v25 : Value) (v26 : Value) (v27 : Value) (v28 : Value) (v29 : Value) (v30 : Value) (v31 : Value) (v32 : Value) (v33 : Value) (v34 : Value) (v35 : Value) (v36 : Value) (v37 : Value) (v38 : Value) (v39 : Value) (v40 : Value) (v41 : Value) (v42 : Value) (v43 : Value) (v44 : Value) (v45 : Value) (f46 : Nat → Int64) (v47 : Value) (v48 : Value) (v49 : Value) (f50 : Nat → Option Nat) (v52 : Value) (f53 : Nat → Int64) (f55 : Nat → Option Nat) (f57 : Nat → Int32) (f59 : Nat → Int32) (f64 : Nat → Option Nat) (h51 : f50 (xs 3).toNatClampNeg = some a5) (h54 : f53 0 = 0) (h56 : f55 (xs 3).toNatClampNeg = some a9) (h58 : f57 (xs 3).toNatClampNeg = 4) (h60 : f59 0 = 110) (h61 : f59 1 = 117) (h62 : f59 2 = 108) (h63 : f59 3 = 108) (h65 : f64 0 = none) (hto1 : ¬ (xs 1) < 0) (hto2 : ¬ 7 < (xs 1)) (hto3 : (xs 1) ≤ 7) (hto4 : vp_in (xs 1) 8) (hf : xs 2 = 11) (ha1 : ¬ (xs 3) < 0) (ha2 : ¬ 7 < (xs 3)) (ha3 : (xs 3) ≤ 7) (ha4 : vp_in (xs 3) 8) (hXs : va_X b 6 xs s s.heap) (hP : va_P D xcl [(a0, .inr (0, [v11, v12, .ref b13, .ref a4, .ref b14, .ref a3, v15, v16])), (a1, .inr (5, [v17, .ref a10, v18, v19, v20, v21, v22, v23, v24, v25, v26, v27, v28, v29, v30, v31, v32, v33, v34, v35, v36, v37, v38, v39, .ref a7, .ref a8, v40, v41, v42, v43, v44, v45])), (a2, .inl (cT 2, 1, .inr (.inl f46))), (a3, .inr (2, [v47, v48, v49])), (a4, .inl (cT 3, 8, .inr (.inr (.inr (.inr f50))))), (a5, .inr (2, [.ref a6, .int 1, v52])), (a6, .inl (cT 2, 4096, .inr (.inl f53))), (a7, .inl (cT 5, 8, .inr (.inr (.inr (.inr f55))))), (a8, .inl (cT 1, 8, .inl f57)), (a9, .inl (cT 0, 4096, .inl f59)), (a10, .inl (cT 4, 1024, .inr (.inr (.inr (.inr f64)))))] H) (hD : va_D A [(a0, .inr (0, [v11, v12, .ref b13, .ref a4, .ref b14, .ref a3, v15, v16])), (a1, .inr (5, [v17, .ref a10, v18, v19, v20, v21, v22, v23, v24, v25, v26, v27, v28, v29, v30, v31, v32, v33, v34, v35, v36, v37, v38, v39, .ref a7, .ref a8, v40, v41, v42, v43, v44, v45])), (a2, .inl (cT 2, 1, .inr (.inl f46))), (a3, .inr (2, [v47, v48, v49])), (a4, .inl (cT 3, 8, .inr (.inr (.inr (.inr f50))))), (a5, .inr (2, [.ref a6, .int 1, v52])), (a6, .inl (cT 2, 4096, .inr (.inl f53))), (a7, .inl (cT 5, 8, .inr (.inr (.inr (.inr f55))))), (a8, .inl (cT 1, 8, .inl f57)), (a9, .inl (cT 0, 4096, .inl f59)), (a10, .inl (cT 4, 1024, .inr (.inr (.inr (.inr f64)))))]) (hS : va_S A s.heap H locs) (hl : lv_has ls 8 [(4, .int 0), (3, .ref a2), (2, .ref a1), (1, .ref a0), (0, .ref b)]) : W p l e room_1 s m #[Value.ref b] below meth c H locs 54 107242 (lw_Z below #[Value.ref b] s) (F0 m 591 ls []) := by
  obtain ⟨hx, hb, hr, hml, hown, htx, hbl, hbA, hlocks, hK, hZ, hA, hA2⟩ := C
  refine lv_aload_n hx hb dL_law_591 rfl (lv_at hl 3 rfl) ?_
  refine lv_aload_n hx hb dL_law_592 rfl (lv_at hl 4 rfl) ?_
  refine lv_iload hx hb dL_law_593 (lv_at hl 0 rfl) ?_
  refine lv_iconst (v := 1) hx hb dL_law_595 (by decide) ?_
  refine lv_iadd hx hb dL_law_596 ?_
  refine W.eq (g2 := F0 m 597 ls [.int 1, .ref b, .ref a0]) rfl ?_
  refine va_sld hx hb hXs hbl hbA hS (i := 1) (show ¬ ((1 : Int32) < 0 ∨ 6 ≤ (1 : Int32).toNatClampNeg) by decide) dL_law_597 ?_
  refine W.eq (g2 := F0 m 598 ls [.int (xs 1), .ref a0]) rfl ?_
  refine lv_aload_n hx hb dL_law_598 rfl (lv_at hl 4 rfl) ?_
  refine lv_iload hx hb dL_law_599 (lv_at hl 0 rfl) ?_
  refine lv_iconst (v := 2) hx hb dL_law_601 (by decide) ?_
  refine lv_iadd hx hb dL_law_602 ?_
  refine W.eq (g2 := F0 m 603 ls [.int 2, .ref b, .int (xs 1), .ref a0]) rfl ?_
  refine va_sld hx hb hXs hbl hbA hS (i := 2) (show ¬ ((2 : Int32) < 0 ∨ 6 ≤ (2 : Int32).toNatClampNeg) by decide) dL_law_603 ?_
  refine W.eq (g2 := F0 m 604 ls [.int (xs 2), .int (xs 1), .ref a0]) rfl ?_
  rw [hf]
  refine W.eq (g2 := F0 m 604 ls [.int 11, .int (xs 1), .ref a0]) rfl ?_
  refine lv_aload_n hx hb dL_law_604 rfl (lv_at hl 4 rfl) ?_
  refine lv_iload hx hb dL_law_605 (lv_at hl 0 rfl) ?_
  refine lv_iconst (v := 3) hx hb dL_law_607 (by decide) ?_
  refine lv_iadd hx hb dL_law_608 ?_
  refine W.eq (g2 := F0 m 609 ls [.int 3, .ref b, .int 11, .int (xs 1), .ref a0]) rfl ?_
  refine va_sld hx hb hXs hbl hbA hS (i := 3) (show ¬ ((3 : Int32) < 0 ∨ 6 ≤ (3 : Int32).toNatClampNeg) by decide) dL_law_609 ?_
  refine W.eq (g2 := F0 m 610 ls [.int (xs 3), .int 11, .int (xs 1), .ref a0]) rfl ?_
  obtain ⟨hPc, hDc, hFc⟩ := xcut (wc := [(a0, .inr (0, [v11, v12, .ref b13, .ref a4, .ref b14, .ref a3, v15, v16])), (a3, .inr (2, [v47, v48, v49])), (a4, .inl (cT 3, 8, .inr (.inr (.inr (.inr f50))))), (a5, .inr (2, [.ref a6, .int 1, v52])), (a6, .inl (cT 2, 4096, .inr (.inl f53)))]) hP hD hS hA [0, 3, 4, 5, 6] rfl rfl (by decide)
  refine va_calli (vx_runSW (As := [.ref a0, .int (xs 1), .int 11, .int (xs 3)]) (rest := []) ⟨hx, hb, hml, hown, htx⟩ (cL_one_17 l hl9 D cT aK aV H.size a0 a3 a4 a5 a6 (xs 1) (xs 3) v11 v12 b13 b14 v15 v16 v47 v48 v49 f50 v52 f53 hto1 hto2 hto3 hto4 ha1 ha2 ha3 ha4 (by first | rfl | exact h51 | exact h54 | exact h56 | exact h58 | exact h60 | exact h61 | exact h62 | exact h63 | exact h65) (by first | rfl | exact h51 | exact h54 | exact h56 | exact h58 | exact h60 | exact h61 | exact h62 | exact h63 | exact h65)) (xcSW 4 htx (xw_goodC kw_4_21) rfl rfl rfl (htx _ kw_1_0) (htx _ kw_4_19) ⟨by decide, by decide, by decide +kernel⟩ ⟨Nat.le_of_ble_eq_true rfl, Nat.le_of_ble_eq_true rfl⟩ (htx _ kw_4_20)) ⟨xPre_blind, (fun U hU hW => ⟨rfl, xPre_of hZ hS hFc hPc hDc hK U hU hW⟩)⟩ rfl rfl hl.1 rfl (lv_room (Nat.le_of_ble_eq_true rfl)) dL_law_610 ⟨Nat.le_of_ble_eq_true rfl, Nat.le_of_ble_eq_true rfl⟩) hS (fun q _ h => hFc q h) hFc (fun r1 u9 t H1 locs ht hvm hr9 hB hz1 hk1 hS => ?_)
  obtain ⟨hP1, hK1, hD1⟩ := hB
  rw [ht] at hP1
  obtain ⟨hP, hD⟩ := xjoin (W := [(a1, .inr (5, [v17, .ref a10, v18, v19, v20, v21, v22, v23, v24, v25, v26, v27, v28, v29, v30, v31, v32, v33, v34, v35, v36, v37, v38, v39, .ref a7, .ref a8, v40, v41, v42, v43, v44, v45])), (a2, .inl (cT 2, 1, .inr (.inl f46))), (a7, .inl (cT 5, 8, .inr (.inr (.inr (.inr f55))))), (a8, .inl (cT 1, 8, .inl f57)), (a9, .inl (cT 0, 4096, .inl f59)), (a10, .inl (cT 4, 1024, .inr (.inr (.inr (.inr f64))))), (a0, .inr (0, [v11, v12, .ref b13, .ref a4, .ref b14, .ref a3, v15, .int 1])), (a3, .inr (2, [v47, .int 0, .int 0])), (a4, .inl (cT 3, 8, .inr (.inr (.inr (.inr f50))))), (a5, .inr (2, [.ref a6, .int 1, v52])), (a6, .inl (cT 2, 4096, .inr (.inl f53)))]) hP hD [0, 3, 4, 5, 6] [1, 2, 7, 8, 9, 10] 6 rfl rfl (by decide) (by decide) hk1 hFc hP1 hD1
  generalize H1 = H at hP hS ⊢
  rw [hr9]
  refine W.eq (g2 := F0 m 613 ls [.int 2]) rfl ?_
  refine lv_istore (lv' := [(5, .int 2), (4, .int 0), (3, .ref a2), (2, .ref a1), (1, .ref a0), (0, .ref b)]) hx hb dL_law_613 hl (by decide) rfl (fun ls hl => ?_)
  refine lv_aload_n hx hb dL_law_615 rfl (lv_at hl 3 rfl) ?_
  refine lv_aload_n hx hb dL_law_616 rfl (lv_at hl 5 rfl) ?_
  refine lv_iload hx hb dL_law_617 (lv_at hl 1 rfl) ?_
  refine lv_iconst (v := 1) hx hb dL_law_619 (by decide) ?_
  refine lv_iadd hx hb dL_law_620 ?_
  refine W.eq (g2 := F0 m 621 ls [.int 1, .ref b, .ref a1]) rfl ?_
  refine va_sld hx hb hXs hbl hbA hS (i := 1) (show ¬ ((1 : Int32) < 0 ∨ 6 ≤ (1 : Int32).toNatClampNeg) by decide) dL_law_621 ?_
  refine W.eq (g2 := F0 m 622 ls [.int (xs 1), .ref a1]) rfl ?_
  refine lv_aload_n hx hb dL_law_622 rfl (lv_at hl 5 rfl) ?_
  refine lv_iload hx hb dL_law_623 (lv_at hl 1 rfl) ?_
  refine lv_iconst (v := 2) hx hb dL_law_625 (by decide) ?_
  refine lv_iadd hx hb dL_law_626 ?_
  refine W.eq (g2 := F0 m 627 ls [.int 2, .ref b, .int (xs 1), .ref a1]) rfl ?_
  refine va_sld hx hb hXs hbl hbA hS (i := 2) (show ¬ ((2 : Int32) < 0 ∨ 6 ≤ (2 : Int32).toNatClampNeg) by decide) dL_law_627 ?_
  refine W.eq (g2 := F0 m 628 ls [.int (xs 2), .int (xs 1), .ref a1]) rfl ?_
  rw [hf]
  refine W.eq (g2 := F0 m 628 ls [.int 11, .int (xs 1), .ref a1]) rfl ?_
  refine lv_aload_n hx hb dL_law_628 rfl (lv_at hl 5 rfl) ?_
  refine lv_iload hx hb dL_law_629 (lv_at hl 1 rfl) ?_
  refine lv_iconst (v := 3) hx hb dL_law_631 (by decide) ?_
  refine lv_iadd hx hb dL_law_632 ?_
  refine W.eq (g2 := F0 m 633 ls [.int 3, .ref b, .int 11, .int (xs 1), .ref a1]) rfl ?_
  refine va_sld hx hb hXs hbl hbA hS (i := 3) (show ¬ ((3 : Int32) < 0 ∨ 6 ≤ (3 : Int32).toNatClampNeg) by decide) dL_law_633 ?_
  refine W.eq (g2 := F0 m 634 ls [.int (xs 3), .int 11, .int (xs 1), .ref a1]) rfl ?_
  obtain ⟨hPc, hDc, hFc⟩ := xcut (wc := [(a1, .inr (5, [v17, .ref a10, v18, v19, v20, v21, v22, v23, v24, v25, v26, v27, v28, v29, v30, v31, v32, v33, v34, v35, v36, v37, v38, v39, .ref a7, .ref a8, v40, v41, v42, v43, v44, v45])), (a7, .inl (cT 5, 8, .inr (.inr (.inr (.inr f55))))), (a8, .inl (cT 1, 8, .inl f57)), (a9, .inl (cT 0, 4096, .inl f59)), (a10, .inl (cT 4, 1024, .inr (.inr (.inr (.inr f64)))))]) hP hD hS hA [0, 2, 3, 4, 5] rfl rfl (by decide)
  refine va_callv (va_runV (C := "ValueBenchModel") (As := [.int (xs 1), .int 11, .int (xs 3)]) (rest := []) ⟨hx, hb, hml, hown, htx⟩ (cM_one0_22 l hl9 D cT aK aV H.size a1 a7 a8 a9 a10 (xs 1) (xs 3) v17 v18 v19 v20 v21 v22 v23 v24 v25 v26 v27 v28 v29 v30 v31 v32 v33 v34 v35 v36 v37 v38 v39 v40 v41 v42 v43 v44 v45 f55 f57 f59 f64 hto1 hto2 hto3 hto4 ha1 ha2 ha3 ha4 (by first | rfl | exact h51 | exact h54 | exact h56 | exact h58 | exact h60 | exact h61 | exact h62 | exact h63 | exact h65) (by first | rfl | exact h51 | exact h54 | exact h56 | exact h58 | exact h60 | exact h61 | exact h62 | exact h63 | exact h65) (by first | rfl | exact h51 | exact h54 | exact h56 | exact h58 | exact h60 | exact h61 | exact h62 | exact h63 | exact h65) (by first | rfl | exact h51 | exact h54 | exact h56 | exact h58 | exact h60 | exact h61 | exact h62 | exact h63 | exact h65) (by first | rfl | exact h51 | exact h54 | exact h56 | exact h58 | exact h60 | exact h61 | exact h62 | exact h63 | exact h65) (by first | rfl | exact h51 | exact h54 | exact h56 | exact h58 | exact h60 | exact h61 | exact h62 | exact h63 | exact h65) (by first | rfl | exact h51 | exact h54 | exact h56 | exact h58 | exact h60 | exact h61 | exact h62 | exact h63 | exact h65)) ⟨callB_of 3 htx (xw_goodC kw_7_123) rfl rfl rfl (htx _ kw_1_5) (htx _ kw_7_120) ⟨by decide, by decide, by decide +kernel⟩ ⟨Nat.le_of_ble_eq_true rfl, Nat.le_of_ble_eq_true rfl⟩, (htx _ kw_7_121), (htx _ kw_7_122)⟩ ⟨xPre_blind, va_recv hK hP (ci := 5) rfl (q0 := 0) rfl, (fun U hU hW => ⟨rfl, xPre_of hZ hS hFc hPc hDc hK U hU hW⟩)⟩ rfl rfl hl.1 rfl (lv_room (Nat.le_of_ble_eq_true rfl)) dL_law_634 ⟨Nat.le_of_ble_eq_true rfl, Nat.le_of_ble_eq_true rfl⟩) hS (fun q _ h => hFc q h) hFc (fun u9 t H1 locs ht hvm hr9 hB hz1 hk1 hS => ?_)
  obtain ⟨q2, hP1, hK1, hD1⟩ := hB
  rw [ht] at hP1
  obtain ⟨hP, hD⟩ := xjoin (W := [(a2, .inl (cT 2, 1, .inr (.inl f46))), (a0, .inr (0, [v11, v12, .ref b13, .ref a4, .ref b14, .ref a3, v15, .int 1])), (a3, .inr (2, [v47, .int 0, .int 0])), (a4, .inl (cT 3, 8, .inr (.inr (.inr (.inr f50))))), (a5, .inr (2, [.ref a6, .int 1, v52])), (a6, .inl (cT 2, 4096, .inr (.inl f53))), (a1, .inr (5, [.int 2, .ref a10, .int 1, v19, .int 0, v21, v22, .int 0, .int 1, .int 0, v26, v27, .int 0, v29, v30, .ref a9, .int 4, .int 4, .int 0, .int 100, v36, v37, .int 0, .int 1000000000, .ref a7, .ref a8, v40, v41, v42, v43, .int 1, v45])), (a7, .inl (cT 5, 8, .inr (.inr (.inr (.inr f55))))), (a8, .inl (cT 1, 8, .inl f57)), (a9, .inl (cT 0, 4096, .inl f59)), (a10, .inl (cT 4, 1024, .inr (.inr (.inr (.inr (va_up f64 0 (some q2))))))), (q2, .inr (6, [.int 0, .long 0, .int 0, .int 0, .int 0, .int 1]))]) hP hD [0, 2, 3, 4, 5] [1, 6, 7, 8, 9, 10] 6 rfl rfl (by decide) (by decide) hk1 hFc hP1 hD1
  generalize H1 = H at hP hS ⊢
  refine lv_aload_n hx hb dL_law_637 rfl (lv_at hl 3 rfl) ?_
  obtain ⟨hPc, hDc, hFc⟩ := xcut (wc := [(a1, .inr (5, [.int 2, .ref a10, .int 1, v19, .int 0, v21, v22, .int 0, .int 1, .int 0, v26, v27, .int 0, v29, v30, .ref a9, .int 4, .int 4, .int 0, .int 100, v36, v37, .int 0, .int 1000000000, .ref a7, .ref a8, v40, v41, v42, v43, .int 1, v45]))]) hP hD hS hA [6] rfl rfl (by decide)
  refine va_calli (va_runV (C := "ValueBenchModel") (As := []) (rest := []) ⟨hx, hb, hml, hown, htx⟩ (cM_thrown_2 l hl9 D cT aK aV H.size a1 (.ref a10) (.int 1) v19 (.int 0) v21 v22 (.int 0) (.int 1) (.int 0) v26 v27 (.int 0) v29 v30 (.ref a9) (.int 4) (.int 4) (.int 0) (.int 100) v36 v37 (.int 0) (.int 1000000000) (.ref a7) (.ref a8) v40 v41 v42 v43 (.int 1) v45) ⟨callB_of 0 htx (xw_goodC kw_5_187) rfl rfl rfl (htx _ kw_1_5) (htx _ kw_5_184) ⟨by decide, by decide, by decide +kernel⟩ ⟨Nat.le_of_ble_eq_true rfl, Nat.le_of_ble_eq_true rfl⟩, (htx _ kw_5_185), (htx _ kw_5_186)⟩ ⟨xPre_blind, va_recv hK hP (ci := 5) rfl (q0 := 6) rfl, (fun U hU hW => ⟨rfl, xPre_of hZ hS hFc hPc hDc hK U hU hW⟩)⟩ rfl rfl hl.1 rfl (lv_room (Nat.le_of_ble_eq_true rfl)) dL_law_638 ⟨Nat.le_of_ble_eq_true rfl, Nat.le_of_ble_eq_true rfl⟩) hS (fun q _ h => hFc q h) hFc (fun r3 u9 t H1 locs ht hvm hr9 hB hz1 hk1 hS => ?_)
  obtain ⟨hP1, hK1, hD1⟩ := hB
  rw [ht] at hP1
  obtain ⟨hP, hD⟩ := xjoin (W := [(a2, .inl (cT 2, 1, .inr (.inl f46))), (a0, .inr (0, [v11, v12, .ref b13, .ref a4, .ref b14, .ref a3, v15, .int 1])), (a3, .inr (2, [v47, .int 0, .int 0])), (a4, .inl (cT 3, 8, .inr (.inr (.inr (.inr f50))))), (a5, .inr (2, [.ref a6, .int 1, v52])), (a6, .inl (cT 2, 4096, .inr (.inl f53))), (a7, .inl (cT 5, 8, .inr (.inr (.inr (.inr f55))))), (a8, .inl (cT 1, 8, .inl f57)), (a9, .inl (cT 0, 4096, .inl f59)), (a10, .inl (cT 4, 1024, .inr (.inr (.inr (.inr (va_up f64 0 (some q2))))))), (q2, .inr (6, [.int 0, .long 0, .int 0, .int 0, .int 0, .int 1])), (a1, .inr (5, [.int 2, .ref a10, .int 1, v19, .int 0, v21, v22, .int 0, .int 1, .int 0, v26, v27, .int 0, v29, v30, .ref a9, .int 4, .int 4, .int 0, .int 100, v36, v37, .int 0, .int 1000000000, .ref a7, .ref a8, v40, v41, v42, v43, .int 1, v45]))]) hP hD [6] [0, 1, 2, 3, 4, 5, 7, 8, 9, 10, 11] 11 rfl rfl (by decide) (by decide) hk1 hFc hP1 hD1
  generalize H1 = H at hP hS ⊢
  rw [hr9]
  refine W.eq (g2 := F0 m 641 ls [.int 2]) rfl ?_
  refine lv_iload hx hb dL_law_641 (lv_at hl 0 rfl) ?_
  refine lv_icmp_eq (tgt := 648) hx hb dL_law_643 (by decide) (fun _ => ?_) (fun h => ((by revert h; decide : False)).elim)
  refine lv_goto (tgt := 906) hx hb dL_law_648 (by decide) ?_
  refine lv_iinc (v := 6) (lv' := [(4, .int 6), (5, .int 2), (3, .ref a2), (2, .ref a1), (1, .ref a0), (0, .ref b)]) hx hb dL_law_906 hl (k := 1) rfl (by decide) (by decide) rfl (fun ls hl => ?_)
  refine lv_goto (tgt := 23) hx hb dL_law_909 (by decide) ?_
  refine lv_iload hx hb dL_law_23 (lv_at hl 0 rfl) ?_
  refine lv_aload_n hx hb dL_law_25 rfl (lv_at hl 5 rfl) ?_
  refine va_slen hx hb hXs hbl hbA hS dL_law_26 ?_
  refine W.eq (g2 := F0 m 27 ls [.int 6, .int 6]) rfl ?_
  refine lv_bipush (v := 6) hx hb dL_law_27 (by decide) ?_
  refine lv_isub hx hb dL_law_29 ?_
  refine W.eq (g2 := F0 m 30 ls [.int 0, .int 6]) rfl ?_
  refine lv_icmp_gt (tgt := 912) hx hb dL_law_30 (by decide) (fun _ => ?_) (fun h => ((by revert h; decide : False)).elim)
  refine lv_iconst (v := 1) hx hb dL_law_912 (by decide) ?_
  exact va_forget (fun q h => hA2 _ (hS.2.2 q h)) (W.widen (k := 600002) (n := 7302232) (Nat.le_of_ble_eq_true rfl) (Nat.le_of_ble_eq_true rfl) (lw_ret hx hb hr hlocks dL_law_913))
set_option maxHeartbeats 400000000 in
set_option maxRecDepth 100000 in
theorem lf_one11_p0 {p : Program} {e : Env} {s : State} {m : MethodId} {below : List Frame} {meth : Method} {c : Code} (l : Launch) (hl9 : l.stackTraces = false) (D : va_G) (cT : Nat → ClassId) (aK aV : Nat → Nat) {A : Nat → Prop} {b : Nat} {xs : Nat → Int32} (C : xLw p s m meth c b D cT aK aV A) {H : Heap} {locs : List Loc} {ls : Array Slot} (a0 : Nat) (a1 : Nat) (a2 : Nat) (a3 : Nat) (a4 : Nat) (a5 : Nat) (a6 : Nat) (a7 : Nat) (a8 : Nat) (a9 : Nat) (a10 : Nat) (v11 : Value) (v12 : Value) (b13 : Nat) (b14 : Nat) (v15 : Value) (v16 : Value) (v17 : Value) (v18 : Value) (v19 : Value) (v20 : Value) (v21 : Value) (v22 : Value) (v23 : Value) (v24 : Value) (v25 : Value) (v26 : Value) (v27 : Value) (v28 : Value) (v29 : Value) (v30 : Value) (v31 : Value) (v32 : Value) (v33 : Value) (v34 : Value) (v35 : Value) (v36 : Value) (v37 : Value) (v38 : Value) (v39 : Value) (v40 : Value) (v41 : Value) (v42 : Value) (v43 : Value) (v44 : Value) (v45 : Value) (f46 : Nat → Int64) (v47 : Value) (v48 : Value) (v49 : Value) (f50 : Nat → Option Nat) (v52 : Value) (f53 : Nat → Int64) (f55 : Nat → Option Nat) (f57 : Nat → Int32) (f59 : Nat → Int32) (f64 : Nat → Option Nat) (h51 : f50 (xs 3).toNatClampNeg = some a5) (h54 : f53 0 = 0) (h56 : f55 (xs 3).toNatClampNeg = some a9) (h58 : f57 (xs 3).toNatClampNeg = 4) (h60 : f59 0 = 110) (h61 : f59 1 = 117) (h62 : f59 2 = 108) (h63 : f59 3 = 108) (h65 : f64 0 = none) (hto1 : ¬ (xs 1) < 0) (hto2 : ¬ 7 < (xs 1)) (hto3 : (xs 1) ≤ 7) (hto4 : vp_in (xs 1) 8) (hf : xs 2 = 11) (ha1 : ¬ (xs 3) < 0) (ha2 : ¬ 7 < (xs 3)) (ha3 : (xs 3) ≤ 7) (ha4 : vp_in (xs 3) 8) (hXs : va_X b 6 xs s s.heap) (hP : va_P D xcl [(a0, .inr (0, [v11, v12, .ref b13, .ref a4, .ref b14, .ref a3, v15, v16])), (a1, .inr (5, [v17, .ref a10, v18, v19, v20, v21, v22, v23, v24, v25, v26, v27, v28, v29, v30, v31, v32, v33, v34, v35, v36, v37, v38, v39, .ref a7, .ref a8, v40, v41, v42, v43, v44, v45])), (a2, .inl (cT 2, 1, .inr (.inl f46))), (a3, .inr (2, [v47, v48, v49])), (a4, .inl (cT 3, 8, .inr (.inr (.inr (.inr f50))))), (a5, .inr (2, [.ref a6, .int 1, v52])), (a6, .inl (cT 2, 4096, .inr (.inl f53))), (a7, .inl (cT 5, 8, .inr (.inr (.inr (.inr f55))))), (a8, .inl (cT 1, 8, .inl f57)), (a9, .inl (cT 0, 4096, .inl f59)), (a10, .inl (cT 4, 1024, .inr (.inr (.inr (.inr f64)))))] H) (hD : va_D A [(a0, .inr (0, [v11, v12, .ref b13, .ref a4, .ref b14, .ref a3, v15, v16])), (a1, .inr (5, [v17, .ref a10, v18, v19, v20, v21, v22, v23, v24, v25, v26, v27, v28, v29, v30, v31, v32, v33, v34, v35, v36, v37, v38, v39, .ref a7, .ref a8, v40, v41, v42, v43, v44, v45])), (a2, .inl (cT 2, 1, .inr (.inl f46))), (a3, .inr (2, [v47, v48, v49])), (a4, .inl (cT 3, 8, .inr (.inr (.inr (.inr f50))))), (a5, .inr (2, [.ref a6, .int 1, v52])), (a6, .inl (cT 2, 4096, .inr (.inl f53))), (a7, .inl (cT 5, 8, .inr (.inr (.inr (.inr f55))))), (a8, .inl (cT 1, 8, .inl f57)), (a9, .inl (cT 0, 4096, .inl f59)), (a10, .inl (cT 4, 1024, .inr (.inr (.inr (.inr f64)))))]) (hS : va_S A s.heap H locs) (hl : lv_has ls 8 [(4, .int 0), (3, .ref a2), (2, .ref a1), (1, .ref a0), (0, .ref b)]) : W p l e room_1 s m #[Value.ref b] below meth c H locs 54 107242 (lw_Z below #[Value.ref b] s) (F0 m 591 ls []) := by
  obtain ⟨hx, hb, hr, hml, hown, htx, hbl, hbA, hlocks, hK, hZ, hA, hA2⟩ := C
  refine lv_aload_n hx hb dL_law_591 rfl (lv_at hl 3 rfl) ?_
  refine lv_aload_n hx hb dL_law_592 rfl (lv_at hl 4 rfl) ?_
  refine lv_iload hx hb dL_law_593 (lv_at hl 0 rfl) ?_
  refine lv_iconst (v := 1) hx hb dL_law_595 (by decide) ?_
  refine lv_iadd hx hb dL_law_596 ?_
  refine W.eq (g2 := F0 m 597 ls [.int 1, .ref b, .ref a0]) rfl ?_
  refine va_sld hx hb hXs hbl hbA hS (i := 1) (show ¬ ((1 : Int32) < 0 ∨ 6 ≤ (1 : Int32).toNatClampNeg) by decide) dL_law_597 ?_
  refine W.eq (g2 := F0 m 598 ls [.int (xs 1), .ref a0]) rfl ?_
  refine lv_aload_n hx hb dL_law_598 rfl (lv_at hl 4 rfl) ?_
  refine lv_iload hx hb dL_law_599 (lv_at hl 0 rfl) ?_
  refine lv_iconst (v := 2) hx hb dL_law_601 (by decide) ?_
  refine lv_iadd hx hb dL_law_602 ?_
  refine W.eq (g2 := F0 m 603 ls [.int 2, .ref b, .int (xs 1), .ref a0]) rfl ?_
  refine va_sld hx hb hXs hbl hbA hS (i := 2) (show ¬ ((2 : Int32) < 0 ∨ 6 ≤ (2 : Int32).toNatClampNeg) by decide) dL_law_603 ?_
  refine W.eq (g2 := F0 m 604 ls [.int (xs 2), .int (xs 1), .ref a0]) rfl ?_
  rw [hf]
  refine W.eq (g2 := F0 m 604 ls [.int 11, .int (xs 1), .ref a0]) rfl ?_
  refine lv_aload_n hx hb dL_law_604 rfl (lv_at hl 4 rfl) ?_
  refine lv_iload hx hb dL_law_605 (lv_at hl 0 rfl) ?_
  refine lv_iconst (v := 3) hx hb dL_law_607 (by decide) ?_
  refine lv_iadd hx hb dL_law_608 ?_
  refine W.eq (g2 := F0 m 609 ls [.int 3, .ref b, .int 11, .int (xs 1), .ref a0]) rfl ?_
  refine va_sld hx hb hXs hbl hbA hS (i := 3) (show ¬ ((3 : Int32) < 0 ∨ 6 ≤ (3 : Int32).toNatClampNeg) by decide) dL_law_609 ?_
  refine W.eq (g2 := F0 m 610 ls [.int (xs 3), .int 11, .int (xs 1), .ref a0]) rfl ?_
  obtain ⟨hPc, hDc, hFc⟩ := xcut (wc := [(a0, .inr (0, [v11, v12, .ref b13, .ref a4, .ref b14, .ref a3, v15, v16])), (a3, .inr (2, [v47, v48, v49])), (a4, .inl (cT 3, 8, .inr (.inr (.inr (.inr f50))))), (a5, .inr (2, [.ref a6, .int 1, v52])), (a6, .inl (cT 2, 4096, .inr (.inl f53)))]) hP hD hS hA [0, 3, 4, 5, 6] rfl rfl (by decide)
  refine va_calli (vx_runSW (As := [.ref a0, .int (xs 1), .int 11, .int (xs 3)]) (rest := []) ⟨hx, hb, hml, hown, htx⟩ (cL_one_17 l hl9 D cT aK aV H.size a0 a3 a4 a5 a6 (xs 1) (xs 3) v11 v12 b13 b14 v15 v16 v47 v48 v49 f50 v52 f53 hto1 hto2 hto3 hto4 ha1 ha2 ha3 ha4 (by first | rfl | exact h51 | exact h54 | exact h56 | exact h58 | exact h60 | exact h61 | exact h62 | exact h63 | exact h65) (by first | rfl | exact h51 | exact h54 | exact h56 | exact h58 | exact h60 | exact h61 | exact h62 | exact h63 | exact h65)) (xcSW 4 htx (xw_goodC kw_4_21) rfl rfl rfl (htx _ kw_1_0) (htx _ kw_4_19) ⟨by decide, by decide, by decide +kernel⟩ ⟨Nat.le_of_ble_eq_true rfl, Nat.le_of_ble_eq_true rfl⟩ (htx _ kw_4_20)) ⟨xPre_blind, (fun U hU hW => ⟨rfl, xPre_of hZ hS hFc hPc hDc hK U hU hW⟩)⟩ rfl rfl hl.1 rfl (lv_room (Nat.le_of_ble_eq_true rfl)) dL_law_610 ⟨Nat.le_of_ble_eq_true rfl, Nat.le_of_ble_eq_true rfl⟩) hS (fun q _ h => hFc q h) hFc (fun r1 u9 t H1 locs ht hvm hr9 hB hz1 hk1 hS => ?_)
  obtain ⟨hP1, hK1, hD1⟩ := hB
  rw [ht] at hP1
  obtain ⟨hP, hD⟩ := xjoin (W := [(a1, .inr (5, [v17, .ref a10, v18, v19, v20, v21, v22, v23, v24, v25, v26, v27, v28, v29, v30, v31, v32, v33, v34, v35, v36, v37, v38, v39, .ref a7, .ref a8, v40, v41, v42, v43, v44, v45])), (a2, .inl (cT 2, 1, .inr (.inl f46))), (a7, .inl (cT 5, 8, .inr (.inr (.inr (.inr f55))))), (a8, .inl (cT 1, 8, .inl f57)), (a9, .inl (cT 0, 4096, .inl f59)), (a10, .inl (cT 4, 1024, .inr (.inr (.inr (.inr f64))))), (a0, .inr (0, [v11, v12, .ref b13, .ref a4, .ref b14, .ref a3, v15, .int 1])), (a3, .inr (2, [v47, .int 0, .int 0])), (a4, .inl (cT 3, 8, .inr (.inr (.inr (.inr f50))))), (a5, .inr (2, [.ref a6, .int 1, v52])), (a6, .inl (cT 2, 4096, .inr (.inl f53)))]) hP hD [0, 3, 4, 5, 6] [1, 2, 7, 8, 9, 10] 6 rfl rfl (by decide) (by decide) hk1 hFc hP1 hD1
  generalize H1 = H at hP hS ⊢
  rw [hr9]
  refine W.eq (g2 := F0 m 613 ls [.int 2]) rfl ?_
  refine lv_istore (lv' := [(5, .int 2), (4, .int 0), (3, .ref a2), (2, .ref a1), (1, .ref a0), (0, .ref b)]) hx hb dL_law_613 hl (by decide) rfl (fun ls hl => ?_)
  refine lv_aload_n hx hb dL_law_615 rfl (lv_at hl 3 rfl) ?_
  refine lv_aload_n hx hb dL_law_616 rfl (lv_at hl 5 rfl) ?_
  refine lv_iload hx hb dL_law_617 (lv_at hl 1 rfl) ?_
  refine lv_iconst (v := 1) hx hb dL_law_619 (by decide) ?_
  refine lv_iadd hx hb dL_law_620 ?_
  refine W.eq (g2 := F0 m 621 ls [.int 1, .ref b, .ref a1]) rfl ?_
  refine va_sld hx hb hXs hbl hbA hS (i := 1) (show ¬ ((1 : Int32) < 0 ∨ 6 ≤ (1 : Int32).toNatClampNeg) by decide) dL_law_621 ?_
  refine W.eq (g2 := F0 m 622 ls [.int (xs 1), .ref a1]) rfl ?_
  refine lv_aload_n hx hb dL_law_622 rfl (lv_at hl 5 rfl) ?_
  refine lv_iload hx hb dL_law_623 (lv_at hl 1 rfl) ?_
  refine lv_iconst (v := 2) hx hb dL_law_625 (by decide) ?_
  refine lv_iadd hx hb dL_law_626 ?_
  refine W.eq (g2 := F0 m 627 ls [.int 2, .ref b, .int (xs 1), .ref a1]) rfl ?_
  refine va_sld hx hb hXs hbl hbA hS (i := 2) (show ¬ ((2 : Int32) < 0 ∨ 6 ≤ (2 : Int32).toNatClampNeg) by decide) dL_law_627 ?_
  refine W.eq (g2 := F0 m 628 ls [.int (xs 2), .int (xs 1), .ref a1]) rfl ?_
  rw [hf]
  refine W.eq (g2 := F0 m 628 ls [.int 11, .int (xs 1), .ref a1]) rfl ?_
  refine lv_aload_n hx hb dL_law_628 rfl (lv_at hl 5 rfl) ?_
  refine lv_iload hx hb dL_law_629 (lv_at hl 1 rfl) ?_
  refine lv_iconst (v := 3) hx hb dL_law_631 (by decide) ?_
  refine lv_iadd hx hb dL_law_632 ?_
  refine W.eq (g2 := F0 m 633 ls [.int 3, .ref b, .int 11, .int (xs 1), .ref a1]) rfl ?_
  refine va_sld hx hb hXs hbl hbA hS (i := 3) (show ¬ ((3 : Int32) < 0 ∨ 6 ≤ (3 : Int32).toNatClampNeg) by decide) dL_law_633 ?_
  refine W.eq (g2 := F0 m 634 ls [.int (xs 3), .int 11, .int (xs 1), .ref a1]) rfl ?_
  obtain ⟨hPc, hDc, hFc⟩ := xcut (wc := [(a1, .inr (5, [v17, .ref a10, v18, v19, v20, v21, v22, v23, v24, v25, v26, v27, v28, v29, v30, v31, v32, v33, v34, v35, v36, v37, v38, v39, .ref a7, .ref a8, v40, v41, v42, v43, v44, v45])), (a7, .inl (cT 5, 8, .inr (.inr (.inr (.inr f55))))), (a8, .inl (cT 1, 8, .inl f57)), (a9, .inl (cT 0, 4096, .inl f59)), (a10, .inl (cT 4, 1024, .inr (.inr (.inr (.inr f64)))))]) hP hD hS hA [0, 2, 3, 4, 5] rfl rfl (by decide)
  refine va_callv (va_runV (C := "ValueBenchModel") (As := [.int (xs 1), .int 11, .int (xs 3)]) (rest := []) ⟨hx, hb, hml, hown, htx⟩ (cM_one0_22 l hl9 D cT aK aV H.size a1 a7 a8 a9 a10 (xs 1) (xs 3) v17 v18 v19 v20 v21 v22 v23 v24 v25 v26 v27 v28 v29 v30 v31 v32 v33 v34 v35 v36 v37 v38 v39 v40 v41 v42 v43 v44 v45 f55 f57 f59 f64 hto1 hto2 hto3 hto4 ha1 ha2 ha3 ha4 (by first | rfl | exact h51 | exact h54 | exact h56 | exact h58 | exact h60 | exact h61 | exact h62 | exact h63 | exact h65) (by first | rfl | exact h51 | exact h54 | exact h56 | exact h58 | exact h60 | exact h61 | exact h62 | exact h63 | exact h65) (by first | rfl | exact h51 | exact h54 | exact h56 | exact h58 | exact h60 | exact h61 | exact h62 | exact h63 | exact h65) (by first | rfl | exact h51 | exact h54 | exact h56 | exact h58 | exact h60 | exact h61 | exact h62 | exact h63 | exact h65) (by first | rfl | exact h51 | exact h54 | exact h56 | exact h58 | exact h60 | exact h61 | exact h62 | exact h63 | exact h65) (by first | rfl | exact h51 | exact h54 | exact h56 | exact h58 | exact h60 | exact h61 | exact h62 | exact h63 | exact h65) (by first | rfl | exact h51 | exact h54 | exact h56 | exact h58 | exact h60 | exact h61 | exact h62 | exact h63 | exact h65)) ⟨callB_of 3 htx (xw_goodC kw_7_123) rfl rfl rfl (htx _ kw_1_5) (htx _ kw_7_120) ⟨by decide, by decide, by decide +kernel⟩ ⟨Nat.le_of_ble_eq_true rfl, Nat.le_of_ble_eq_true rfl⟩, (htx _ kw_7_121), (htx _ kw_7_122)⟩ ⟨xPre_blind, va_recv hK hP (ci := 5) rfl (q0 := 0) rfl, (fun U hU hW => ⟨rfl, xPre_of hZ hS hFc hPc hDc hK U hU hW⟩)⟩ rfl rfl hl.1 rfl (lv_room (Nat.le_of_ble_eq_true rfl)) dL_law_634 ⟨Nat.le_of_ble_eq_true rfl, Nat.le_of_ble_eq_true rfl⟩) hS (fun q _ h => hFc q h) hFc (fun u9 t H1 locs ht hvm hr9 hB hz1 hk1 hS => ?_)
  obtain ⟨q2, hP1, hK1, hD1⟩ := hB
  rw [ht] at hP1
  obtain ⟨hP, hD⟩ := xjoin (W := [(a2, .inl (cT 2, 1, .inr (.inl f46))), (a0, .inr (0, [v11, v12, .ref b13, .ref a4, .ref b14, .ref a3, v15, .int 1])), (a3, .inr (2, [v47, .int 0, .int 0])), (a4, .inl (cT 3, 8, .inr (.inr (.inr (.inr f50))))), (a5, .inr (2, [.ref a6, .int 1, v52])), (a6, .inl (cT 2, 4096, .inr (.inl f53))), (a1, .inr (5, [.int 2, .ref a10, .int 1, v19, .int 0, v21, v22, .int 0, .int 1, .int 0, v26, v27, .int 0, v29, v30, .ref a9, .int 4, .int 4, .int 0, .int 100, v36, v37, .int 0, .int 1000000000, .ref a7, .ref a8, v40, v41, v42, v43, .int 1, v45])), (a7, .inl (cT 5, 8, .inr (.inr (.inr (.inr f55))))), (a8, .inl (cT 1, 8, .inl f57)), (a9, .inl (cT 0, 4096, .inl f59)), (a10, .inl (cT 4, 1024, .inr (.inr (.inr (.inr (va_up f64 0 (some q2))))))), (q2, .inr (6, [.int 0, .long 0, .int 0, .int 0, .int 0, .int 1]))]) hP hD [0, 2, 3, 4, 5] [1, 6, 7, 8, 9, 10] 6 rfl rfl (by decide) (by decide) hk1 hFc hP1 hD1
  generalize H1 = H at hP hS ⊢
  refine lv_aload_n hx hb dL_law_637 rfl (lv_at hl 3 rfl) ?_
  obtain ⟨hPc, hDc, hFc⟩ := xcut (wc := [(a1, .inr (5, [.int 2, .ref a10, .int 1, v19, .int 0, v21, v22, .int 0, .int 1, .int 0, v26, v27, .int 0, v29, v30, .ref a9, .int 4, .int 4, .int 0, .int 100, v36, v37, .int 0, .int 1000000000, .ref a7, .ref a8, v40, v41, v42, v43, .int 1, v45]))]) hP hD hS hA [6] rfl rfl (by decide)
  refine va_calli (va_runV (C := "ValueBenchModel") (As := []) (rest := []) ⟨hx, hb, hml, hown, htx⟩ (cM_thrown_2 l hl9 D cT aK aV H.size a1 (.ref a10) (.int 1) v19 (.int 0) v21 v22 (.int 0) (.int 1) (.int 0) v26 v27 (.int 0) v29 v30 (.ref a9) (.int 4) (.int 4) (.int 0) (.int 100) v36 v37 (.int 0) (.int 1000000000) (.ref a7) (.ref a8) v40 v41 v42 v43 (.int 1) v45) ⟨callB_of 0 htx (xw_goodC kw_5_187) rfl rfl rfl (htx _ kw_1_5) (htx _ kw_5_184) ⟨by decide, by decide, by decide +kernel⟩ ⟨Nat.le_of_ble_eq_true rfl, Nat.le_of_ble_eq_true rfl⟩, (htx _ kw_5_185), (htx _ kw_5_186)⟩ ⟨xPre_blind, va_recv hK hP (ci := 5) rfl (q0 := 6) rfl, (fun U hU hW => ⟨rfl, xPre_of hZ hS hFc hPc hDc hK U hU hW⟩)⟩ rfl rfl hl.1 rfl (lv_room (Nat.le_of_ble_eq_true rfl)) dL_law_638 ⟨Nat.le_of_ble_eq_true rfl, Nat.le_of_ble_eq_true rfl⟩) hS (fun q _ h => hFc q h) hFc (fun r3 u9 t H1 locs ht hvm hr9 hB hz1 hk1 hS => ?_)
  obtain ⟨hP1, hK1, hD1⟩ := hB
  rw [ht] at hP1
  obtain ⟨hP, hD⟩ := xjoin (W := [(a2, .inl (cT 2, 1, .inr (.inl f46))), (a0, .inr (0, [v11, v12, .ref b13, .ref a4, .ref b14, .ref a3, v15, .int 1])), (a3, .inr (2, [v47, .int 0, .int 0])), (a4, .inl (cT 3, 8, .inr (.inr (.inr (.inr f50))))), (a5, .inr (2, [.ref a6, .int 1, v52])), (a6, .inl (cT 2, 4096, .inr (.inl f53))), (a7, .inl (cT 5, 8, .inr (.inr (.inr (.inr f55))))), (a8, .inl (cT 1, 8, .inl f57)), (a9, .inl (cT 0, 4096, .inl f59)), (a10, .inl (cT 4, 1024, .inr (.inr (.inr (.inr (va_up f64 0 (some q2))))))), (q2, .inr (6, [.int 0, .long 0, .int 0, .int 0, .int 0, .int 1])), (a1, .inr (5, [.int 2, .ref a10, .int 1, v19, .int 0, v21, v22, .int 0, .int 1, .int 0, v26, v27, .int 0, v29, v30, .ref a9, .int 4, .int 4, .int 0, .int 100, v36, v37, .int 0, .int 1000000000, .ref a7, .ref a8, v40, v41, v42, v43, .int 1, v45]))]) hP hD [6] [0, 1, 2, 3, 4, 5, 7, 8, 9, 10, 11] 11 rfl rfl (by decide) (by decide) hk1 hFc hP1 hD1
  generalize H1 = H at hP hS ⊢
  rw [hr9]
  refine W.eq (g2 := F0 m 641 ls [.int 2]) rfl ?_
  refine lv_iload hx hb dL_law_641 (lv_at hl 0 rfl) ?_
  refine lv_icmp_eq (tgt := 648) hx hb dL_law_643 (by decide) (fun _ => ?_) (fun h => ((by revert h; decide : False)).elim)
  refine lv_goto (tgt := 906) hx hb dL_law_648 (by decide) ?_
  refine lv_iinc (v := 6) (lv' := [(4, .int 6), (5, .int 2), (3, .ref a2), (2, .ref a1), (1, .ref a0), (0, .ref b)]) hx hb dL_law_906 hl (k := 1) rfl (by decide) (by decide) rfl (fun ls hl => ?_)
  refine lv_goto (tgt := 23) hx hb dL_law_909 (by decide) ?_
  refine lv_iload hx hb dL_law_23 (lv_at hl 0 rfl) ?_
  refine lv_aload_n hx hb dL_law_25 rfl (lv_at hl 5 rfl) ?_
  refine va_slen hx hb hXs hbl hbA hS dL_law_26 ?_
  refine W.eq (g2 := F0 m 27 ls [.int 6, .int 6]) rfl ?_
  refine lv_bipush (v := 6) hx hb dL_law_27 (by decide) ?_
  refine lv_isub hx hb dL_law_29 ?_
  refine W.eq (g2 := F0 m 30 ls [.int 0, .int 6]) rfl ?_
  refine lv_icmp_gt (tgt := 912) hx hb dL_law_30 (by decide) (fun _ => ?_) (fun h => ((by revert h; decide : False)).elim)
  refine lv_iconst (v := 1) hx hb dL_law_912 (by decide) ?_
  exact va_forget (fun q h => hA2 _ (hS.2.2 q h)) (W.widen (k := 600002) (n := 7302232) (Nat.le_of_ble_eq_true rfl) (Nat.le_of_ble_eq_true rfl) (lw_ret hx hb hr hlocks dL_law_913))
set_option maxHeartbeats 400000000 in
set_option maxRecDepth 100000 in
theorem lf_one12_p2 {p : Program} {e : Env} {s : State} {m : MethodId} {below : List Frame} {meth : Method} {c : Code} (l : Launch) (hl9 : l.stackTraces = false) (D : va_G) (cT : Nat → ClassId) (aK aV : Nat → Nat) {A : Nat → Prop} {b : Nat} {xs : Nat → Int32} (C : xLw p s m meth c b D cT aK aV A) {H : Heap} {locs : List Loc} {ls : Array Slot} (a0 : Nat) (a1 : Nat) (a2 : Nat) (a3 : Nat) (a4 : Nat) (a5 : Nat) (a6 : Nat) (a7 : Nat) (a8 : Nat) (a9 : Nat) (a10 : Nat) (v11 : Value) (v12 : Value) (b13 : Nat) (b14 : Nat) (v15 : Value) (v16 : Value) (v17 : Value) (v18 : Value) (v19 : Value) (v20 : Value) (v21 : Value) (v22 : Value) (v23 : Value) (v24 : Value) (v25 : Value) (v26 : Value) (v27 : Value) (v28 : Value) (v29 : Value) (v30 : Value) (v31 : Value) (v32 : Value) (v33 : Value) (v34 : Value) (v35 : Value) (v36 : Value) (v37 : Value) (v38 : Value) (v39 : Value) (v40 : Value) (v41 : Value) (v42 : Value) (v43 : Value) (v44 : Value) (v45 : Value) (f46 : Nat → Int64) (v47 : Value) (v48 : Value) (v49 : Value) (f50 : Nat → Option Nat) (v52 : Value) (f53 : Nat → Int64) (f55 : Nat → Option Nat) (f57 : Nat → Int32) (f59 : Nat → Int32) (f64 : Nat → Option Nat) (h51 : f50 (xs 3).toNatClampNeg = some a5) (h54 : f53 0 = 0) (h56 : f55 (xs 3).toNatClampNeg = some a9) (h58 : f57 (xs 3).toNatClampNeg = 4) (h60 : f59 0 = 110) (h61 : f59 1 = 117) (h62 : f59 2 = 108) (h63 : f59 3 = 108) (h65 : f64 0 = none) (hto1 : ¬ (xs 1) < 0) (hto2 : ¬ 7 < (xs 1)) (hto3 : (xs 1) ≤ 7) (hto4 : vp_in (xs 1) 8) (hf : xs 2 = 12) (ha1 : ¬ (xs 3) < 0) (ha2 : ¬ 7 < (xs 3)) (ha3 : (xs 3) ≤ 7) (ha4 : vp_in (xs 3) 8) (hXs : va_X b 6 xs s s.heap) (hP : va_P D xcl [(a0, .inr (0, [v11, v12, .ref b13, .ref a4, .ref b14, .ref a3, v15, v16])), (a1, .inr (5, [v17, .ref a10, v18, v19, v20, v21, v22, v23, v24, v25, v26, v27, v28, v29, v30, v31, v32, v33, v34, v35, v36, v37, v38, v39, .ref a7, .ref a8, v40, v41, v42, v43, v44, v45])), (a2, .inl (cT 2, 1, .inr (.inl f46))), (a3, .inr (2, [v47, v48, v49])), (a4, .inl (cT 3, 8, .inr (.inr (.inr (.inr f50))))), (a5, .inr (2, [.ref a6, .int 1, v52])), (a6, .inl (cT 2, 4096, .inr (.inl f53))), (a7, .inl (cT 5, 8, .inr (.inr (.inr (.inr f55))))), (a8, .inl (cT 1, 8, .inl f57)), (a9, .inl (cT 0, 4096, .inl f59)), (a10, .inl (cT 4, 1024, .inr (.inr (.inr (.inr f64)))))] H) (hD : va_D A [(a0, .inr (0, [v11, v12, .ref b13, .ref a4, .ref b14, .ref a3, v15, v16])), (a1, .inr (5, [v17, .ref a10, v18, v19, v20, v21, v22, v23, v24, v25, v26, v27, v28, v29, v30, v31, v32, v33, v34, v35, v36, v37, v38, v39, .ref a7, .ref a8, v40, v41, v42, v43, v44, v45])), (a2, .inl (cT 2, 1, .inr (.inl f46))), (a3, .inr (2, [v47, v48, v49])), (a4, .inl (cT 3, 8, .inr (.inr (.inr (.inr f50))))), (a5, .inr (2, [.ref a6, .int 1, v52])), (a6, .inl (cT 2, 4096, .inr (.inl f53))), (a7, .inl (cT 5, 8, .inr (.inr (.inr (.inr f55))))), (a8, .inl (cT 1, 8, .inl f57)), (a9, .inl (cT 0, 4096, .inl f59)), (a10, .inl (cT 4, 1024, .inr (.inr (.inr (.inr f64)))))]) (hS : va_S A s.heap H locs) (hl : lv_has ls 8 [(4, .int 0), (3, .ref a2), (2, .ref a1), (1, .ref a0), (0, .ref b)]) : W p l e room_1 s m #[Value.ref b] below meth c H locs 54 107242 (lw_Z below #[Value.ref b] s) (F0 m 591 ls []) := by
  obtain ⟨hx, hb, hr, hml, hown, htx, hbl, hbA, hlocks, hK, hZ, hA, hA2⟩ := C
  refine lv_aload_n hx hb dL_law_591 rfl (lv_at hl 3 rfl) ?_
  refine lv_aload_n hx hb dL_law_592 rfl (lv_at hl 4 rfl) ?_
  refine lv_iload hx hb dL_law_593 (lv_at hl 0 rfl) ?_
  refine lv_iconst (v := 1) hx hb dL_law_595 (by decide) ?_
  refine lv_iadd hx hb dL_law_596 ?_
  refine W.eq (g2 := F0 m 597 ls [.int 1, .ref b, .ref a0]) rfl ?_
  refine va_sld hx hb hXs hbl hbA hS (i := 1) (show ¬ ((1 : Int32) < 0 ∨ 6 ≤ (1 : Int32).toNatClampNeg) by decide) dL_law_597 ?_
  refine W.eq (g2 := F0 m 598 ls [.int (xs 1), .ref a0]) rfl ?_
  refine lv_aload_n hx hb dL_law_598 rfl (lv_at hl 4 rfl) ?_
  refine lv_iload hx hb dL_law_599 (lv_at hl 0 rfl) ?_
  refine lv_iconst (v := 2) hx hb dL_law_601 (by decide) ?_
  refine lv_iadd hx hb dL_law_602 ?_
  refine W.eq (g2 := F0 m 603 ls [.int 2, .ref b, .int (xs 1), .ref a0]) rfl ?_
  refine va_sld hx hb hXs hbl hbA hS (i := 2) (show ¬ ((2 : Int32) < 0 ∨ 6 ≤ (2 : Int32).toNatClampNeg) by decide) dL_law_603 ?_
  refine W.eq (g2 := F0 m 604 ls [.int (xs 2), .int (xs 1), .ref a0]) rfl ?_
  rw [hf]
  refine W.eq (g2 := F0 m 604 ls [.int 12, .int (xs 1), .ref a0]) rfl ?_
  refine lv_aload_n hx hb dL_law_604 rfl (lv_at hl 4 rfl) ?_
  refine lv_iload hx hb dL_law_605 (lv_at hl 0 rfl) ?_
  refine lv_iconst (v := 3) hx hb dL_law_607 (by decide) ?_
  refine lv_iadd hx hb dL_law_608 ?_
  refine W.eq (g2 := F0 m 609 ls [.int 3, .ref b, .int 12, .int (xs 1), .ref a0]) rfl ?_
  refine va_sld hx hb hXs hbl hbA hS (i := 3) (show ¬ ((3 : Int32) < 0 ∨ 6 ≤ (3 : Int32).toNatClampNeg) by decide) dL_law_609 ?_
  refine W.eq (g2 := F0 m 610 ls [.int (xs 3), .int 12, .int (xs 1), .ref a0]) rfl ?_
  obtain ⟨hPc, hDc, hFc⟩ := xcut (wc := [(a0, .inr (0, [v11, v12, .ref b13, .ref a4, .ref b14, .ref a3, v15, v16])), (a3, .inr (2, [v47, v48, v49])), (a4, .inl (cT 3, 8, .inr (.inr (.inr (.inr f50))))), (a5, .inr (2, [.ref a6, .int 1, v52])), (a6, .inl (cT 2, 4096, .inr (.inl f53)))]) hP hD hS hA [0, 3, 4, 5, 6] rfl rfl (by decide)
  refine va_calli (vx_runSW (As := [.ref a0, .int (xs 1), .int 12, .int (xs 3)]) (rest := []) ⟨hx, hb, hml, hown, htx⟩ (cL_one_18 l hl9 D cT aK aV H.size a0 a3 a4 a5 a6 (xs 1) (xs 3) v11 v12 b13 b14 v15 v16 v47 v48 v49 f50 v52 f53 hto1 hto2 hto3 hto4 ha1 ha2 ha3 ha4 (by first | rfl | exact h51 | exact h54 | exact h56 | exact h58 | exact h60 | exact h61 | exact h62 | exact h63 | exact h65) (by first | rfl | exact h51 | exact h54 | exact h56 | exact h58 | exact h60 | exact h61 | exact h62 | exact h63 | exact h65)) (xcSW 4 htx (xw_goodC kw_4_21) rfl rfl rfl (htx _ kw_1_0) (htx _ kw_4_19) ⟨by decide, by decide, by decide +kernel⟩ ⟨Nat.le_of_ble_eq_true rfl, Nat.le_of_ble_eq_true rfl⟩ (htx _ kw_4_20)) ⟨xPre_blind, (fun U hU hW => ⟨rfl, xPre_of hZ hS hFc hPc hDc hK U hU hW⟩)⟩ rfl rfl hl.1 rfl (lv_room (Nat.le_of_ble_eq_true rfl)) dL_law_610 ⟨Nat.le_of_ble_eq_true rfl, Nat.le_of_ble_eq_true rfl⟩) hS (fun q _ h => hFc q h) hFc (fun r1 u9 t H1 locs ht hvm hr9 hB hz1 hk1 hS => ?_)
  obtain ⟨hP1, hK1, hD1⟩ := hB
  rw [ht] at hP1
  obtain ⟨hP, hD⟩ := xjoin (W := [(a1, .inr (5, [v17, .ref a10, v18, v19, v20, v21, v22, v23, v24, v25, v26, v27, v28, v29, v30, v31, v32, v33, v34, v35, v36, v37, v38, v39, .ref a7, .ref a8, v40, v41, v42, v43, v44, v45])), (a2, .inl (cT 2, 1, .inr (.inl f46))), (a7, .inl (cT 5, 8, .inr (.inr (.inr (.inr f55))))), (a8, .inl (cT 1, 8, .inl f57)), (a9, .inl (cT 0, 4096, .inl f59)), (a10, .inl (cT 4, 1024, .inr (.inr (.inr (.inr f64))))), (a0, .inr (0, [v11, v12, .ref b13, .ref a4, .ref b14, .ref a3, v15, .int 1])), (a3, .inr (2, [v47, .int 0, .int 0])), (a4, .inl (cT 3, 8, .inr (.inr (.inr (.inr f50))))), (a5, .inr (2, [.ref a6, .int 1, v52])), (a6, .inl (cT 2, 4096, .inr (.inl f53)))]) hP hD [0, 3, 4, 5, 6] [1, 2, 7, 8, 9, 10] 6 rfl rfl (by decide) (by decide) hk1 hFc hP1 hD1
  generalize H1 = H at hP hS ⊢
  rw [hr9]
  refine W.eq (g2 := F0 m 613 ls [.int 2]) rfl ?_
  refine lv_istore (lv' := [(5, .int 2), (4, .int 0), (3, .ref a2), (2, .ref a1), (1, .ref a0), (0, .ref b)]) hx hb dL_law_613 hl (by decide) rfl (fun ls hl => ?_)
  refine lv_aload_n hx hb dL_law_615 rfl (lv_at hl 3 rfl) ?_
  refine lv_aload_n hx hb dL_law_616 rfl (lv_at hl 5 rfl) ?_
  refine lv_iload hx hb dL_law_617 (lv_at hl 1 rfl) ?_
  refine lv_iconst (v := 1) hx hb dL_law_619 (by decide) ?_
  refine lv_iadd hx hb dL_law_620 ?_
  refine W.eq (g2 := F0 m 621 ls [.int 1, .ref b, .ref a1]) rfl ?_
  refine va_sld hx hb hXs hbl hbA hS (i := 1) (show ¬ ((1 : Int32) < 0 ∨ 6 ≤ (1 : Int32).toNatClampNeg) by decide) dL_law_621 ?_
  refine W.eq (g2 := F0 m 622 ls [.int (xs 1), .ref a1]) rfl ?_
  refine lv_aload_n hx hb dL_law_622 rfl (lv_at hl 5 rfl) ?_
  refine lv_iload hx hb dL_law_623 (lv_at hl 1 rfl) ?_
  refine lv_iconst (v := 2) hx hb dL_law_625 (by decide) ?_
  refine lv_iadd hx hb dL_law_626 ?_
  refine W.eq (g2 := F0 m 627 ls [.int 2, .ref b, .int (xs 1), .ref a1]) rfl ?_
  refine va_sld hx hb hXs hbl hbA hS (i := 2) (show ¬ ((2 : Int32) < 0 ∨ 6 ≤ (2 : Int32).toNatClampNeg) by decide) dL_law_627 ?_
  refine W.eq (g2 := F0 m 628 ls [.int (xs 2), .int (xs 1), .ref a1]) rfl ?_
  rw [hf]
  refine W.eq (g2 := F0 m 628 ls [.int 12, .int (xs 1), .ref a1]) rfl ?_
  refine lv_aload_n hx hb dL_law_628 rfl (lv_at hl 5 rfl) ?_
  refine lv_iload hx hb dL_law_629 (lv_at hl 1 rfl) ?_
  refine lv_iconst (v := 3) hx hb dL_law_631 (by decide) ?_
  refine lv_iadd hx hb dL_law_632 ?_
  refine W.eq (g2 := F0 m 633 ls [.int 3, .ref b, .int 12, .int (xs 1), .ref a1]) rfl ?_
  refine va_sld hx hb hXs hbl hbA hS (i := 3) (show ¬ ((3 : Int32) < 0 ∨ 6 ≤ (3 : Int32).toNatClampNeg) by decide) dL_law_633 ?_
  refine W.eq (g2 := F0 m 634 ls [.int (xs 3), .int 12, .int (xs 1), .ref a1]) rfl ?_
  obtain ⟨hPc, hDc, hFc⟩ := xcut (wc := [(a1, .inr (5, [v17, .ref a10, v18, v19, v20, v21, v22, v23, v24, v25, v26, v27, v28, v29, v30, v31, v32, v33, v34, v35, v36, v37, v38, v39, .ref a7, .ref a8, v40, v41, v42, v43, v44, v45])), (a7, .inl (cT 5, 8, .inr (.inr (.inr (.inr f55))))), (a8, .inl (cT 1, 8, .inl f57)), (a9, .inl (cT 0, 4096, .inl f59)), (a10, .inl (cT 4, 1024, .inr (.inr (.inr (.inr f64)))))]) hP hD hS hA [0, 2, 3, 4, 5] rfl rfl (by decide)
  refine va_callv (va_runV (C := "ValueBenchModel") (As := [.int (xs 1), .int 12, .int (xs 3)]) (rest := []) ⟨hx, hb, hml, hown, htx⟩ (cM_one0_23 l hl9 D cT aK aV H.size a1 a7 a8 a9 a10 (xs 1) (xs 3) v17 v18 v19 v20 v21 v22 v23 v24 v25 v26 v27 v28 v29 v30 v31 v32 v33 v34 v35 v36 v37 v38 v39 v40 v41 v42 v43 v44 v45 f55 f57 f59 f64 hto1 hto2 hto3 hto4 ha1 ha2 ha3 ha4 (by first | rfl | exact h51 | exact h54 | exact h56 | exact h58 | exact h60 | exact h61 | exact h62 | exact h63 | exact h65) (by first | rfl | exact h51 | exact h54 | exact h56 | exact h58 | exact h60 | exact h61 | exact h62 | exact h63 | exact h65) (by first | rfl | exact h51 | exact h54 | exact h56 | exact h58 | exact h60 | exact h61 | exact h62 | exact h63 | exact h65) (by first | rfl | exact h51 | exact h54 | exact h56 | exact h58 | exact h60 | exact h61 | exact h62 | exact h63 | exact h65) (by first | rfl | exact h51 | exact h54 | exact h56 | exact h58 | exact h60 | exact h61 | exact h62 | exact h63 | exact h65) (by first | rfl | exact h51 | exact h54 | exact h56 | exact h58 | exact h60 | exact h61 | exact h62 | exact h63 | exact h65) (by first | rfl | exact h51 | exact h54 | exact h56 | exact h58 | exact h60 | exact h61 | exact h62 | exact h63 | exact h65)) ⟨callB_of 3 htx (xw_goodC kw_7_123) rfl rfl rfl (htx _ kw_1_5) (htx _ kw_7_120) ⟨by decide, by decide, by decide +kernel⟩ ⟨Nat.le_of_ble_eq_true rfl, Nat.le_of_ble_eq_true rfl⟩, (htx _ kw_7_121), (htx _ kw_7_122)⟩ ⟨xPre_blind, va_recv hK hP (ci := 5) rfl (q0 := 0) rfl, (fun U hU hW => ⟨rfl, xPre_of hZ hS hFc hPc hDc hK U hU hW⟩)⟩ rfl rfl hl.1 rfl (lv_room (Nat.le_of_ble_eq_true rfl)) dL_law_634 ⟨Nat.le_of_ble_eq_true rfl, Nat.le_of_ble_eq_true rfl⟩) hS (fun q _ h => hFc q h) hFc (fun u9 t H1 locs ht hvm hr9 hB hz1 hk1 hS => ?_)
  obtain ⟨q2, hP1, hK1, hD1⟩ := hB
  rw [ht] at hP1
  obtain ⟨hP, hD⟩ := xjoin (W := [(a2, .inl (cT 2, 1, .inr (.inl f46))), (a0, .inr (0, [v11, v12, .ref b13, .ref a4, .ref b14, .ref a3, v15, .int 1])), (a3, .inr (2, [v47, .int 0, .int 0])), (a4, .inl (cT 3, 8, .inr (.inr (.inr (.inr f50))))), (a5, .inr (2, [.ref a6, .int 1, v52])), (a6, .inl (cT 2, 4096, .inr (.inl f53))), (a1, .inr (5, [.int 2, .ref a10, .int 1, v19, .int 0, v21, v22, .int 0, .int 1, .int 0, v26, v27, .int 0, v29, v30, .ref a9, .int 4, .int 4, .int 0, .int 100, v36, v37, .int 0, .int 1000000000, .ref a7, .ref a8, v40, v41, v42, v43, .int 1, v45])), (a7, .inl (cT 5, 8, .inr (.inr (.inr (.inr f55))))), (a8, .inl (cT 1, 8, .inl f57)), (a9, .inl (cT 0, 4096, .inl f59)), (a10, .inl (cT 4, 1024, .inr (.inr (.inr (.inr (va_up f64 0 (some q2))))))), (q2, .inr (6, [.int 0, .long 0, .int 0, .int 0, .int 0, .int 1]))]) hP hD [0, 2, 3, 4, 5] [1, 6, 7, 8, 9, 10] 6 rfl rfl (by decide) (by decide) hk1 hFc hP1 hD1
  generalize H1 = H at hP hS ⊢
  refine lv_aload_n hx hb dL_law_637 rfl (lv_at hl 3 rfl) ?_
  obtain ⟨hPc, hDc, hFc⟩ := xcut (wc := [(a1, .inr (5, [.int 2, .ref a10, .int 1, v19, .int 0, v21, v22, .int 0, .int 1, .int 0, v26, v27, .int 0, v29, v30, .ref a9, .int 4, .int 4, .int 0, .int 100, v36, v37, .int 0, .int 1000000000, .ref a7, .ref a8, v40, v41, v42, v43, .int 1, v45]))]) hP hD hS hA [6] rfl rfl (by decide)
  refine va_calli (va_runV (C := "ValueBenchModel") (As := []) (rest := []) ⟨hx, hb, hml, hown, htx⟩ (cM_thrown_2 l hl9 D cT aK aV H.size a1 (.ref a10) (.int 1) v19 (.int 0) v21 v22 (.int 0) (.int 1) (.int 0) v26 v27 (.int 0) v29 v30 (.ref a9) (.int 4) (.int 4) (.int 0) (.int 100) v36 v37 (.int 0) (.int 1000000000) (.ref a7) (.ref a8) v40 v41 v42 v43 (.int 1) v45) ⟨callB_of 0 htx (xw_goodC kw_5_187) rfl rfl rfl (htx _ kw_1_5) (htx _ kw_5_184) ⟨by decide, by decide, by decide +kernel⟩ ⟨Nat.le_of_ble_eq_true rfl, Nat.le_of_ble_eq_true rfl⟩, (htx _ kw_5_185), (htx _ kw_5_186)⟩ ⟨xPre_blind, va_recv hK hP (ci := 5) rfl (q0 := 6) rfl, (fun U hU hW => ⟨rfl, xPre_of hZ hS hFc hPc hDc hK U hU hW⟩)⟩ rfl rfl hl.1 rfl (lv_room (Nat.le_of_ble_eq_true rfl)) dL_law_638 ⟨Nat.le_of_ble_eq_true rfl, Nat.le_of_ble_eq_true rfl⟩) hS (fun q _ h => hFc q h) hFc (fun r3 u9 t H1 locs ht hvm hr9 hB hz1 hk1 hS => ?_)
  obtain ⟨hP1, hK1, hD1⟩ := hB
  rw [ht] at hP1
  obtain ⟨hP, hD⟩ := xjoin (W := [(a2, .inl (cT 2, 1, .inr (.inl f46))), (a0, .inr (0, [v11, v12, .ref b13, .ref a4, .ref b14, .ref a3, v15, .int 1])), (a3, .inr (2, [v47, .int 0, .int 0])), (a4, .inl (cT 3, 8, .inr (.inr (.inr (.inr f50))))), (a5, .inr (2, [.ref a6, .int 1, v52])), (a6, .inl (cT 2, 4096, .inr (.inl f53))), (a7, .inl (cT 5, 8, .inr (.inr (.inr (.inr f55))))), (a8, .inl (cT 1, 8, .inl f57)), (a9, .inl (cT 0, 4096, .inl f59)), (a10, .inl (cT 4, 1024, .inr (.inr (.inr (.inr (va_up f64 0 (some q2))))))), (q2, .inr (6, [.int 0, .long 0, .int 0, .int 0, .int 0, .int 1])), (a1, .inr (5, [.int 2, .ref a10, .int 1, v19, .int 0, v21, v22, .int 0, .int 1, .int 0, v26, v27, .int 0, v29, v30, .ref a9, .int 4, .int 4, .int 0, .int 100, v36, v37, .int 0, .int 1000000000, .ref a7, .ref a8, v40, v41, v42, v43, .int 1, v45]))]) hP hD [6] [0, 1, 2, 3, 4, 5, 7, 8, 9, 10, 11] 11 rfl rfl (by decide) (by decide) hk1 hFc hP1 hD1
  generalize H1 = H at hP hS ⊢
  rw [hr9]
  refine W.eq (g2 := F0 m 641 ls [.int 2]) rfl ?_
  refine lv_iload hx hb dL_law_641 (lv_at hl 0 rfl) ?_
  refine lv_icmp_eq (tgt := 648) hx hb dL_law_643 (by decide) (fun _ => ?_) (fun h => ((by revert h; decide : False)).elim)
  refine lv_goto (tgt := 906) hx hb dL_law_648 (by decide) ?_
  refine lv_iinc (v := 6) (lv' := [(4, .int 6), (5, .int 2), (3, .ref a2), (2, .ref a1), (1, .ref a0), (0, .ref b)]) hx hb dL_law_906 hl (k := 1) rfl (by decide) (by decide) rfl (fun ls hl => ?_)
  refine lv_goto (tgt := 23) hx hb dL_law_909 (by decide) ?_
  refine lv_iload hx hb dL_law_23 (lv_at hl 0 rfl) ?_
  refine lv_aload_n hx hb dL_law_25 rfl (lv_at hl 5 rfl) ?_
  refine va_slen hx hb hXs hbl hbA hS dL_law_26 ?_
  refine W.eq (g2 := F0 m 27 ls [.int 6, .int 6]) rfl ?_
  refine lv_bipush (v := 6) hx hb dL_law_27 (by decide) ?_
  refine lv_isub hx hb dL_law_29 ?_
  refine W.eq (g2 := F0 m 30 ls [.int 0, .int 6]) rfl ?_
  refine lv_icmp_gt (tgt := 912) hx hb dL_law_30 (by decide) (fun _ => ?_) (fun h => ((by revert h; decide : False)).elim)
  refine lv_iconst (v := 1) hx hb dL_law_912 (by decide) ?_
  exact va_forget (fun q h => hA2 _ (hS.2.2 q h)) (W.widen (k := 600002) (n := 7302232) (Nat.le_of_ble_eq_true rfl) (Nat.le_of_ble_eq_true rfl) (lw_ret hx hb hr hlocks dL_law_913))
set_option maxHeartbeats 400000000 in
set_option maxRecDepth 100000 in
theorem lf_one12_p0 {p : Program} {e : Env} {s : State} {m : MethodId} {below : List Frame} {meth : Method} {c : Code} (l : Launch) (hl9 : l.stackTraces = false) (D : va_G) (cT : Nat → ClassId) (aK aV : Nat → Nat) {A : Nat → Prop} {b : Nat} {xs : Nat → Int32} (C : xLw p s m meth c b D cT aK aV A) {H : Heap} {locs : List Loc} {ls : Array Slot} (a0 : Nat) (a1 : Nat) (a2 : Nat) (a3 : Nat) (a4 : Nat) (a5 : Nat) (a6 : Nat) (a7 : Nat) (a8 : Nat) (a9 : Nat) (a10 : Nat) (v11 : Value) (v12 : Value) (b13 : Nat) (b14 : Nat) (v15 : Value) (v16 : Value) (v17 : Value) (v18 : Value) (v19 : Value) (v20 : Value) (v21 : Value) (v22 : Value) (v23 : Value) (v24 : Value) (v25 : Value) (v26 : Value) (v27 : Value) (v28 : Value) (v29 : Value) (v30 : Value) (v31 : Value) (v32 : Value) (v33 : Value) (v34 : Value) (v35 : Value) (v36 : Value) (v37 : Value) (v38 : Value) (v39 : Value) (v40 : Value) (v41 : Value) (v42 : Value) (v43 : Value) (v44 : Value) (v45 : Value) (f46 : Nat → Int64) (v47 : Value) (v48 : Value) (v49 : Value) (f50 : Nat → Option Nat) (v52 : Value) (f53 : Nat → Int64) (f55 : Nat → Option Nat) (f57 : Nat → Int32) (f59 : Nat → Int32) (f64 : Nat → Option Nat) (h51 : f50 (xs 3).toNatClampNeg = some a5) (h54 : f53 0 = 0) (h56 : f55 (xs 3).toNatClampNeg = some a9) (h58 : f57 (xs 3).toNatClampNeg = 4) (h60 : f59 0 = 110) (h61 : f59 1 = 117) (h62 : f59 2 = 108) (h63 : f59 3 = 108) (h65 : f64 0 = none) (hto1 : ¬ (xs 1) < 0) (hto2 : ¬ 7 < (xs 1)) (hto3 : (xs 1) ≤ 7) (hto4 : vp_in (xs 1) 8) (hf : xs 2 = 12) (ha1 : ¬ (xs 3) < 0) (ha2 : ¬ 7 < (xs 3)) (ha3 : (xs 3) ≤ 7) (ha4 : vp_in (xs 3) 8) (hXs : va_X b 6 xs s s.heap) (hP : va_P D xcl [(a0, .inr (0, [v11, v12, .ref b13, .ref a4, .ref b14, .ref a3, v15, v16])), (a1, .inr (5, [v17, .ref a10, v18, v19, v20, v21, v22, v23, v24, v25, v26, v27, v28, v29, v30, v31, v32, v33, v34, v35, v36, v37, v38, v39, .ref a7, .ref a8, v40, v41, v42, v43, v44, v45])), (a2, .inl (cT 2, 1, .inr (.inl f46))), (a3, .inr (2, [v47, v48, v49])), (a4, .inl (cT 3, 8, .inr (.inr (.inr (.inr f50))))), (a5, .inr (2, [.ref a6, .int 1, v52])), (a6, .inl (cT 2, 4096, .inr (.inl f53))), (a7, .inl (cT 5, 8, .inr (.inr (.inr (.inr f55))))), (a8, .inl (cT 1, 8, .inl f57)), (a9, .inl (cT 0, 4096, .inl f59)), (a10, .inl (cT 4, 1024, .inr (.inr (.inr (.inr f64)))))] H) (hD : va_D A [(a0, .inr (0, [v11, v12, .ref b13, .ref a4, .ref b14, .ref a3, v15, v16])), (a1, .inr (5, [v17, .ref a10, v18, v19, v20, v21, v22, v23, v24, v25, v26, v27, v28, v29, v30, v31, v32, v33, v34, v35, v36, v37, v38, v39, .ref a7, .ref a8, v40, v41, v42, v43, v44, v45])), (a2, .inl (cT 2, 1, .inr (.inl f46))), (a3, .inr (2, [v47, v48, v49])), (a4, .inl (cT 3, 8, .inr (.inr (.inr (.inr f50))))), (a5, .inr (2, [.ref a6, .int 1, v52])), (a6, .inl (cT 2, 4096, .inr (.inl f53))), (a7, .inl (cT 5, 8, .inr (.inr (.inr (.inr f55))))), (a8, .inl (cT 1, 8, .inl f57)), (a9, .inl (cT 0, 4096, .inl f59)), (a10, .inl (cT 4, 1024, .inr (.inr (.inr (.inr f64)))))]) (hS : va_S A s.heap H locs) (hl : lv_has ls 8 [(4, .int 0), (3, .ref a2), (2, .ref a1), (1, .ref a0), (0, .ref b)]) : W p l e room_1 s m #[Value.ref b] below meth c H locs 54 107242 (lw_Z below #[Value.ref b] s) (F0 m 591 ls []) := by
  obtain ⟨hx, hb, hr, hml, hown, htx, hbl, hbA, hlocks, hK, hZ, hA, hA2⟩ := C
  refine lv_aload_n hx hb dL_law_591 rfl (lv_at hl 3 rfl) ?_
  refine lv_aload_n hx hb dL_law_592 rfl (lv_at hl 4 rfl) ?_
  refine lv_iload hx hb dL_law_593 (lv_at hl 0 rfl) ?_
  refine lv_iconst (v := 1) hx hb dL_law_595 (by decide) ?_
  refine lv_iadd hx hb dL_law_596 ?_
  refine W.eq (g2 := F0 m 597 ls [.int 1, .ref b, .ref a0]) rfl ?_
  refine va_sld hx hb hXs hbl hbA hS (i := 1) (show ¬ ((1 : Int32) < 0 ∨ 6 ≤ (1 : Int32).toNatClampNeg) by decide) dL_law_597 ?_
  refine W.eq (g2 := F0 m 598 ls [.int (xs 1), .ref a0]) rfl ?_
  refine lv_aload_n hx hb dL_law_598 rfl (lv_at hl 4 rfl) ?_
  refine lv_iload hx hb dL_law_599 (lv_at hl 0 rfl) ?_
  refine lv_iconst (v := 2) hx hb dL_law_601 (by decide) ?_
  refine lv_iadd hx hb dL_law_602 ?_
  refine W.eq (g2 := F0 m 603 ls [.int 2, .ref b, .int (xs 1), .ref a0]) rfl ?_
  refine va_sld hx hb hXs hbl hbA hS (i := 2) (show ¬ ((2 : Int32) < 0 ∨ 6 ≤ (2 : Int32).toNatClampNeg) by decide) dL_law_603 ?_
  refine W.eq (g2 := F0 m 604 ls [.int (xs 2), .int (xs 1), .ref a0]) rfl ?_
  rw [hf]
  refine W.eq (g2 := F0 m 604 ls [.int 12, .int (xs 1), .ref a0]) rfl ?_
  refine lv_aload_n hx hb dL_law_604 rfl (lv_at hl 4 rfl) ?_
  refine lv_iload hx hb dL_law_605 (lv_at hl 0 rfl) ?_
  refine lv_iconst (v := 3) hx hb dL_law_607 (by decide) ?_
  refine lv_iadd hx hb dL_law_608 ?_
  refine W.eq (g2 := F0 m 609 ls [.int 3, .ref b, .int 12, .int (xs 1), .ref a0]) rfl ?_
  refine va_sld hx hb hXs hbl hbA hS (i := 3) (show ¬ ((3 : Int32) < 0 ∨ 6 ≤ (3 : Int32).toNatClampNeg) by decide) dL_law_609 ?_
  refine W.eq (g2 := F0 m 610 ls [.int (xs 3), .int 12, .int (xs 1), .ref a0]) rfl ?_
  obtain ⟨hPc, hDc, hFc⟩ := xcut (wc := [(a0, .inr (0, [v11, v12, .ref b13, .ref a4, .ref b14, .ref a3, v15, v16])), (a3, .inr (2, [v47, v48, v49])), (a4, .inl (cT 3, 8, .inr (.inr (.inr (.inr f50))))), (a5, .inr (2, [.ref a6, .int 1, v52])), (a6, .inl (cT 2, 4096, .inr (.inl f53)))]) hP hD hS hA [0, 3, 4, 5, 6] rfl rfl (by decide)
  refine va_calli (vx_runSW (As := [.ref a0, .int (xs 1), .int 12, .int (xs 3)]) (rest := []) ⟨hx, hb, hml, hown, htx⟩ (cL_one_18 l hl9 D cT aK aV H.size a0 a3 a4 a5 a6 (xs 1) (xs 3) v11 v12 b13 b14 v15 v16 v47 v48 v49 f50 v52 f53 hto1 hto2 hto3 hto4 ha1 ha2 ha3 ha4 (by first | rfl | exact h51 | exact h54 | exact h56 | exact h58 | exact h60 | exact h61 | exact h62 | exact h63 | exact h65) (by first | rfl | exact h51 | exact h54 | exact h56 | exact h58 | exact h60 | exact h61 | exact h62 | exact h63 | exact h65)) (xcSW 4 htx (xw_goodC kw_4_21) rfl rfl rfl (htx _ kw_1_0) (htx _ kw_4_19) ⟨by decide, by decide, by decide +kernel⟩ ⟨Nat.le_of_ble_eq_true rfl, Nat.le_of_ble_eq_true rfl⟩ (htx _ kw_4_20)) ⟨xPre_blind, (fun U hU hW => ⟨rfl, xPre_of hZ hS hFc hPc hDc hK U hU hW⟩)⟩ rfl rfl hl.1 rfl (lv_room (Nat.le_of_ble_eq_true rfl)) dL_law_610 ⟨Nat.le_of_ble_eq_true rfl, Nat.le_of_ble_eq_true rfl⟩) hS (fun q _ h => hFc q h) hFc (fun r1 u9 t H1 locs ht hvm hr9 hB hz1 hk1 hS => ?_)
  obtain ⟨hP1, hK1, hD1⟩ := hB
  rw [ht] at hP1
  obtain ⟨hP, hD⟩ := xjoin (W := [(a1, .inr (5, [v17, .ref a10, v18, v19, v20, v21, v22, v23, v24, v25, v26, v27, v28, v29, v30, v31, v32, v33, v34, v35, v36, v37, v38, v39, .ref a7, .ref a8, v40, v41, v42, v43, v44, v45])), (a2, .inl (cT 2, 1, .inr (.inl f46))), (a7, .inl (cT 5, 8, .inr (.inr (.inr (.inr f55))))), (a8, .inl (cT 1, 8, .inl f57)), (a9, .inl (cT 0, 4096, .inl f59)), (a10, .inl (cT 4, 1024, .inr (.inr (.inr (.inr f64))))), (a0, .inr (0, [v11, v12, .ref b13, .ref a4, .ref b14, .ref a3, v15, .int 1])), (a3, .inr (2, [v47, .int 0, .int 0])), (a4, .inl (cT 3, 8, .inr (.inr (.inr (.inr f50))))), (a5, .inr (2, [.ref a6, .int 1, v52])), (a6, .inl (cT 2, 4096, .inr (.inl f53)))]) hP hD [0, 3, 4, 5, 6] [1, 2, 7, 8, 9, 10] 6 rfl rfl (by decide) (by decide) hk1 hFc hP1 hD1
  generalize H1 = H at hP hS ⊢
  rw [hr9]
  refine W.eq (g2 := F0 m 613 ls [.int 2]) rfl ?_
  refine lv_istore (lv' := [(5, .int 2), (4, .int 0), (3, .ref a2), (2, .ref a1), (1, .ref a0), (0, .ref b)]) hx hb dL_law_613 hl (by decide) rfl (fun ls hl => ?_)
  refine lv_aload_n hx hb dL_law_615 rfl (lv_at hl 3 rfl) ?_
  refine lv_aload_n hx hb dL_law_616 rfl (lv_at hl 5 rfl) ?_
  refine lv_iload hx hb dL_law_617 (lv_at hl 1 rfl) ?_
  refine lv_iconst (v := 1) hx hb dL_law_619 (by decide) ?_
  refine lv_iadd hx hb dL_law_620 ?_
  refine W.eq (g2 := F0 m 621 ls [.int 1, .ref b, .ref a1]) rfl ?_
  refine va_sld hx hb hXs hbl hbA hS (i := 1) (show ¬ ((1 : Int32) < 0 ∨ 6 ≤ (1 : Int32).toNatClampNeg) by decide) dL_law_621 ?_
  refine W.eq (g2 := F0 m 622 ls [.int (xs 1), .ref a1]) rfl ?_
  refine lv_aload_n hx hb dL_law_622 rfl (lv_at hl 5 rfl) ?_
  refine lv_iload hx hb dL_law_623 (lv_at hl 1 rfl) ?_
  refine lv_iconst (v := 2) hx hb dL_law_625 (by decide) ?_
  refine lv_iadd hx hb dL_law_626 ?_
  refine W.eq (g2 := F0 m 627 ls [.int 2, .ref b, .int (xs 1), .ref a1]) rfl ?_
  refine va_sld hx hb hXs hbl hbA hS (i := 2) (show ¬ ((2 : Int32) < 0 ∨ 6 ≤ (2 : Int32).toNatClampNeg) by decide) dL_law_627 ?_
  refine W.eq (g2 := F0 m 628 ls [.int (xs 2), .int (xs 1), .ref a1]) rfl ?_
  rw [hf]
  refine W.eq (g2 := F0 m 628 ls [.int 12, .int (xs 1), .ref a1]) rfl ?_
  refine lv_aload_n hx hb dL_law_628 rfl (lv_at hl 5 rfl) ?_
  refine lv_iload hx hb dL_law_629 (lv_at hl 1 rfl) ?_
  refine lv_iconst (v := 3) hx hb dL_law_631 (by decide) ?_
  refine lv_iadd hx hb dL_law_632 ?_
  refine W.eq (g2 := F0 m 633 ls [.int 3, .ref b, .int 12, .int (xs 1), .ref a1]) rfl ?_
  refine va_sld hx hb hXs hbl hbA hS (i := 3) (show ¬ ((3 : Int32) < 0 ∨ 6 ≤ (3 : Int32).toNatClampNeg) by decide) dL_law_633 ?_
  refine W.eq (g2 := F0 m 634 ls [.int (xs 3), .int 12, .int (xs 1), .ref a1]) rfl ?_
  obtain ⟨hPc, hDc, hFc⟩ := xcut (wc := [(a1, .inr (5, [v17, .ref a10, v18, v19, v20, v21, v22, v23, v24, v25, v26, v27, v28, v29, v30, v31, v32, v33, v34, v35, v36, v37, v38, v39, .ref a7, .ref a8, v40, v41, v42, v43, v44, v45])), (a7, .inl (cT 5, 8, .inr (.inr (.inr (.inr f55))))), (a8, .inl (cT 1, 8, .inl f57)), (a9, .inl (cT 0, 4096, .inl f59)), (a10, .inl (cT 4, 1024, .inr (.inr (.inr (.inr f64)))))]) hP hD hS hA [0, 2, 3, 4, 5] rfl rfl (by decide)
  refine va_callv (va_runV (C := "ValueBenchModel") (As := [.int (xs 1), .int 12, .int (xs 3)]) (rest := []) ⟨hx, hb, hml, hown, htx⟩ (cM_one0_23 l hl9 D cT aK aV H.size a1 a7 a8 a9 a10 (xs 1) (xs 3) v17 v18 v19 v20 v21 v22 v23 v24 v25 v26 v27 v28 v29 v30 v31 v32 v33 v34 v35 v36 v37 v38 v39 v40 v41 v42 v43 v44 v45 f55 f57 f59 f64 hto1 hto2 hto3 hto4 ha1 ha2 ha3 ha4 (by first | rfl | exact h51 | exact h54 | exact h56 | exact h58 | exact h60 | exact h61 | exact h62 | exact h63 | exact h65) (by first | rfl | exact h51 | exact h54 | exact h56 | exact h58 | exact h60 | exact h61 | exact h62 | exact h63 | exact h65) (by first | rfl | exact h51 | exact h54 | exact h56 | exact h58 | exact h60 | exact h61 | exact h62 | exact h63 | exact h65) (by first | rfl | exact h51 | exact h54 | exact h56 | exact h58 | exact h60 | exact h61 | exact h62 | exact h63 | exact h65) (by first | rfl | exact h51 | exact h54 | exact h56 | exact h58 | exact h60 | exact h61 | exact h62 | exact h63 | exact h65) (by first | rfl | exact h51 | exact h54 | exact h56 | exact h58 | exact h60 | exact h61 | exact h62 | exact h63 | exact h65) (by first | rfl | exact h51 | exact h54 | exact h56 | exact h58 | exact h60 | exact h61 | exact h62 | exact h63 | exact h65)) ⟨callB_of 3 htx (xw_goodC kw_7_123) rfl rfl rfl (htx _ kw_1_5) (htx _ kw_7_120) ⟨by decide, by decide, by decide +kernel⟩ ⟨Nat.le_of_ble_eq_true rfl, Nat.le_of_ble_eq_true rfl⟩, (htx _ kw_7_121), (htx _ kw_7_122)⟩ ⟨xPre_blind, va_recv hK hP (ci := 5) rfl (q0 := 0) rfl, (fun U hU hW => ⟨rfl, xPre_of hZ hS hFc hPc hDc hK U hU hW⟩)⟩ rfl rfl hl.1 rfl (lv_room (Nat.le_of_ble_eq_true rfl)) dL_law_634 ⟨Nat.le_of_ble_eq_true rfl, Nat.le_of_ble_eq_true rfl⟩) hS (fun q _ h => hFc q h) hFc (fun u9 t H1 locs ht hvm hr9 hB hz1 hk1 hS => ?_)
  obtain ⟨q2, hP1, hK1, hD1⟩ := hB
  rw [ht] at hP1
  obtain ⟨hP, hD⟩ := xjoin (W := [(a2, .inl (cT 2, 1, .inr (.inl f46))), (a0, .inr (0, [v11, v12, .ref b13, .ref a4, .ref b14, .ref a3, v15, .int 1])), (a3, .inr (2, [v47, .int 0, .int 0])), (a4, .inl (cT 3, 8, .inr (.inr (.inr (.inr f50))))), (a5, .inr (2, [.ref a6, .int 1, v52])), (a6, .inl (cT 2, 4096, .inr (.inl f53))), (a1, .inr (5, [.int 2, .ref a10, .int 1, v19, .int 0, v21, v22, .int 0, .int 1, .int 0, v26, v27, .int 0, v29, v30, .ref a9, .int 4, .int 4, .int 0, .int 100, v36, v37, .int 0, .int 1000000000, .ref a7, .ref a8, v40, v41, v42, v43, .int 1, v45])), (a7, .inl (cT 5, 8, .inr (.inr (.inr (.inr f55))))), (a8, .inl (cT 1, 8, .inl f57)), (a9, .inl (cT 0, 4096, .inl f59)), (a10, .inl (cT 4, 1024, .inr (.inr (.inr (.inr (va_up f64 0 (some q2))))))), (q2, .inr (6, [.int 0, .long 0, .int 0, .int 0, .int 0, .int 1]))]) hP hD [0, 2, 3, 4, 5] [1, 6, 7, 8, 9, 10] 6 rfl rfl (by decide) (by decide) hk1 hFc hP1 hD1
  generalize H1 = H at hP hS ⊢
  refine lv_aload_n hx hb dL_law_637 rfl (lv_at hl 3 rfl) ?_
  obtain ⟨hPc, hDc, hFc⟩ := xcut (wc := [(a1, .inr (5, [.int 2, .ref a10, .int 1, v19, .int 0, v21, v22, .int 0, .int 1, .int 0, v26, v27, .int 0, v29, v30, .ref a9, .int 4, .int 4, .int 0, .int 100, v36, v37, .int 0, .int 1000000000, .ref a7, .ref a8, v40, v41, v42, v43, .int 1, v45]))]) hP hD hS hA [6] rfl rfl (by decide)
  refine va_calli (va_runV (C := "ValueBenchModel") (As := []) (rest := []) ⟨hx, hb, hml, hown, htx⟩ (cM_thrown_2 l hl9 D cT aK aV H.size a1 (.ref a10) (.int 1) v19 (.int 0) v21 v22 (.int 0) (.int 1) (.int 0) v26 v27 (.int 0) v29 v30 (.ref a9) (.int 4) (.int 4) (.int 0) (.int 100) v36 v37 (.int 0) (.int 1000000000) (.ref a7) (.ref a8) v40 v41 v42 v43 (.int 1) v45) ⟨callB_of 0 htx (xw_goodC kw_5_187) rfl rfl rfl (htx _ kw_1_5) (htx _ kw_5_184) ⟨by decide, by decide, by decide +kernel⟩ ⟨Nat.le_of_ble_eq_true rfl, Nat.le_of_ble_eq_true rfl⟩, (htx _ kw_5_185), (htx _ kw_5_186)⟩ ⟨xPre_blind, va_recv hK hP (ci := 5) rfl (q0 := 6) rfl, (fun U hU hW => ⟨rfl, xPre_of hZ hS hFc hPc hDc hK U hU hW⟩)⟩ rfl rfl hl.1 rfl (lv_room (Nat.le_of_ble_eq_true rfl)) dL_law_638 ⟨Nat.le_of_ble_eq_true rfl, Nat.le_of_ble_eq_true rfl⟩) hS (fun q _ h => hFc q h) hFc (fun r3 u9 t H1 locs ht hvm hr9 hB hz1 hk1 hS => ?_)
  obtain ⟨hP1, hK1, hD1⟩ := hB
  rw [ht] at hP1
  obtain ⟨hP, hD⟩ := xjoin (W := [(a2, .inl (cT 2, 1, .inr (.inl f46))), (a0, .inr (0, [v11, v12, .ref b13, .ref a4, .ref b14, .ref a3, v15, .int 1])), (a3, .inr (2, [v47, .int 0, .int 0])), (a4, .inl (cT 3, 8, .inr (.inr (.inr (.inr f50))))), (a5, .inr (2, [.ref a6, .int 1, v52])), (a6, .inl (cT 2, 4096, .inr (.inl f53))), (a7, .inl (cT 5, 8, .inr (.inr (.inr (.inr f55))))), (a8, .inl (cT 1, 8, .inl f57)), (a9, .inl (cT 0, 4096, .inl f59)), (a10, .inl (cT 4, 1024, .inr (.inr (.inr (.inr (va_up f64 0 (some q2))))))), (q2, .inr (6, [.int 0, .long 0, .int 0, .int 0, .int 0, .int 1])), (a1, .inr (5, [.int 2, .ref a10, .int 1, v19, .int 0, v21, v22, .int 0, .int 1, .int 0, v26, v27, .int 0, v29, v30, .ref a9, .int 4, .int 4, .int 0, .int 100, v36, v37, .int 0, .int 1000000000, .ref a7, .ref a8, v40, v41, v42, v43, .int 1, v45]))]) hP hD [6] [0, 1, 2, 3, 4, 5, 7, 8, 9, 10, 11] 11 rfl rfl (by decide) (by decide) hk1 hFc hP1 hD1
  generalize H1 = H at hP hS ⊢
  rw [hr9]
  refine W.eq (g2 := F0 m 641 ls [.int 2]) rfl ?_
  refine lv_iload hx hb dL_law_641 (lv_at hl 0 rfl) ?_
  refine lv_icmp_eq (tgt := 648) hx hb dL_law_643 (by decide) (fun _ => ?_) (fun h => ((by revert h; decide : False)).elim)
  refine lv_goto (tgt := 906) hx hb dL_law_648 (by decide) ?_
  refine lv_iinc (v := 6) (lv' := [(4, .int 6), (5, .int 2), (3, .ref a2), (2, .ref a1), (1, .ref a0), (0, .ref b)]) hx hb dL_law_906 hl (k := 1) rfl (by decide) (by decide) rfl (fun ls hl => ?_)
  refine lv_goto (tgt := 23) hx hb dL_law_909 (by decide) ?_
  refine lv_iload hx hb dL_law_23 (lv_at hl 0 rfl) ?_
  refine lv_aload_n hx hb dL_law_25 rfl (lv_at hl 5 rfl) ?_
  refine va_slen hx hb hXs hbl hbA hS dL_law_26 ?_
  refine W.eq (g2 := F0 m 27 ls [.int 6, .int 6]) rfl ?_
  refine lv_bipush (v := 6) hx hb dL_law_27 (by decide) ?_
  refine lv_isub hx hb dL_law_29 ?_
  refine W.eq (g2 := F0 m 30 ls [.int 0, .int 6]) rfl ?_
  refine lv_icmp_gt (tgt := 912) hx hb dL_law_30 (by decide) (fun _ => ?_) (fun h => ((by revert h; decide : False)).elim)
  refine lv_iconst (v := 1) hx hb dL_law_912 (by decide) ?_
  exact va_forget (fun q h => hA2 _ (hS.2.2 q h)) (W.widen (k := 600002) (n := 7302232) (Nat.le_of_ble_eq_true rfl) (Nat.le_of_ble_eq_true rfl) (lw_ret hx hb hr hlocks dL_law_913))
set_option maxHeartbeats 400000000 in
set_option maxRecDepth 100000 in
theorem lf_one13_p2 {p : Program} {e : Env} {s : State} {m : MethodId} {below : List Frame} {meth : Method} {c : Code} (l : Launch) (hl9 : l.stackTraces = false) (D : va_G) (cT : Nat → ClassId) (aK aV : Nat → Nat) {A : Nat → Prop} {b : Nat} {xs : Nat → Int32} (C : xLw p s m meth c b D cT aK aV A) {H : Heap} {locs : List Loc} {ls : Array Slot} (a0 : Nat) (a1 : Nat) (a2 : Nat) (a3 : Nat) (a4 : Nat) (a5 : Nat) (a6 : Nat) (a7 : Nat) (a8 : Nat) (a9 : Nat) (a10 : Nat) (v11 : Value) (v12 : Value) (b13 : Nat) (b14 : Nat) (v15 : Value) (v16 : Value) (v17 : Value) (v18 : Value) (v19 : Value) (v20 : Value) (v21 : Value) (v22 : Value) (v23 : Value) (v24 : Value) (v25 : Value) (v26 : Value) (v27 : Value) (v28 : Value) (v29 : Value) (v30 : Value) (v31 : Value) (v32 : Value) (v33 : Value) (v34 : Value) (v35 : Value) (v36 : Value) (v37 : Value) (v38 : Value) (v39 : Value) (v40 : Value) (v41 : Value) (v42 : Value) (v43 : Value) (v44 : Value) (v45 : Value) (f46 : Nat → Int64) (v47 : Value) (v48 : Value) (v49 : Value) (f50 : Nat → Option Nat) (v52 : Value) (f53 : Nat → Int64) (f55 : Nat → Option Nat) (f57 : Nat → Int32) (f59 : Nat → Int32) (f64 : Nat → Option Nat) (h51 : f50 (xs 3).toNatClampNeg = some a5) (h54 : f53 0 = 0) (h56 : f55 (xs 3).toNatClampNeg = some a9) (h58 : f57 (xs 3).toNatClampNeg = 4) (h60 : f59 0 = 110) (h61 : f59 1 = 117) (h62 : f59 2 = 108) (h63 : f59 3 = 108) (h65 : f64 0 = none) (hto1 : ¬ (xs 1) < 0) (hto2 : ¬ 7 < (xs 1)) (hto3 : (xs 1) ≤ 7) (hto4 : vp_in (xs 1) 8) (hf : xs 2 = 13) (ha1 : ¬ (xs 3) < 0) (ha2 : ¬ 7 < (xs 3)) (ha3 : (xs 3) ≤ 7) (ha4 : vp_in (xs 3) 8) (hXs : va_X b 6 xs s s.heap) (hP : va_P D xcl [(a0, .inr (0, [v11, v12, .ref b13, .ref a4, .ref b14, .ref a3, v15, v16])), (a1, .inr (5, [v17, .ref a10, v18, v19, v20, v21, v22, v23, v24, v25, v26, v27, v28, v29, v30, v31, v32, v33, v34, v35, v36, v37, v38, v39, .ref a7, .ref a8, v40, v41, v42, v43, v44, v45])), (a2, .inl (cT 2, 1, .inr (.inl f46))), (a3, .inr (2, [v47, v48, v49])), (a4, .inl (cT 3, 8, .inr (.inr (.inr (.inr f50))))), (a5, .inr (2, [.ref a6, .int 1, v52])), (a6, .inl (cT 2, 4096, .inr (.inl f53))), (a7, .inl (cT 5, 8, .inr (.inr (.inr (.inr f55))))), (a8, .inl (cT 1, 8, .inl f57)), (a9, .inl (cT 0, 4096, .inl f59)), (a10, .inl (cT 4, 1024, .inr (.inr (.inr (.inr f64)))))] H) (hD : va_D A [(a0, .inr (0, [v11, v12, .ref b13, .ref a4, .ref b14, .ref a3, v15, v16])), (a1, .inr (5, [v17, .ref a10, v18, v19, v20, v21, v22, v23, v24, v25, v26, v27, v28, v29, v30, v31, v32, v33, v34, v35, v36, v37, v38, v39, .ref a7, .ref a8, v40, v41, v42, v43, v44, v45])), (a2, .inl (cT 2, 1, .inr (.inl f46))), (a3, .inr (2, [v47, v48, v49])), (a4, .inl (cT 3, 8, .inr (.inr (.inr (.inr f50))))), (a5, .inr (2, [.ref a6, .int 1, v52])), (a6, .inl (cT 2, 4096, .inr (.inl f53))), (a7, .inl (cT 5, 8, .inr (.inr (.inr (.inr f55))))), (a8, .inl (cT 1, 8, .inl f57)), (a9, .inl (cT 0, 4096, .inl f59)), (a10, .inl (cT 4, 1024, .inr (.inr (.inr (.inr f64)))))]) (hS : va_S A s.heap H locs) (hl : lv_has ls 8 [(4, .int 0), (3, .ref a2), (2, .ref a1), (1, .ref a0), (0, .ref b)]) : W p l e room_1 s m #[Value.ref b] below meth c H locs 54 107242 (lw_Z below #[Value.ref b] s) (F0 m 591 ls []) := by
  obtain ⟨hx, hb, hr, hml, hown, htx, hbl, hbA, hlocks, hK, hZ, hA, hA2⟩ := C
  refine lv_aload_n hx hb dL_law_591 rfl (lv_at hl 3 rfl) ?_
  refine lv_aload_n hx hb dL_law_592 rfl (lv_at hl 4 rfl) ?_
  refine lv_iload hx hb dL_law_593 (lv_at hl 0 rfl) ?_
  refine lv_iconst (v := 1) hx hb dL_law_595 (by decide) ?_
  refine lv_iadd hx hb dL_law_596 ?_
  refine W.eq (g2 := F0 m 597 ls [.int 1, .ref b, .ref a0]) rfl ?_
  refine va_sld hx hb hXs hbl hbA hS (i := 1) (show ¬ ((1 : Int32) < 0 ∨ 6 ≤ (1 : Int32).toNatClampNeg) by decide) dL_law_597 ?_
  refine W.eq (g2 := F0 m 598 ls [.int (xs 1), .ref a0]) rfl ?_
  refine lv_aload_n hx hb dL_law_598 rfl (lv_at hl 4 rfl) ?_
  refine lv_iload hx hb dL_law_599 (lv_at hl 0 rfl) ?_
  refine lv_iconst (v := 2) hx hb dL_law_601 (by decide) ?_
  refine lv_iadd hx hb dL_law_602 ?_
  refine W.eq (g2 := F0 m 603 ls [.int 2, .ref b, .int (xs 1), .ref a0]) rfl ?_
  refine va_sld hx hb hXs hbl hbA hS (i := 2) (show ¬ ((2 : Int32) < 0 ∨ 6 ≤ (2 : Int32).toNatClampNeg) by decide) dL_law_603 ?_
  refine W.eq (g2 := F0 m 604 ls [.int (xs 2), .int (xs 1), .ref a0]) rfl ?_
  rw [hf]
  refine W.eq (g2 := F0 m 604 ls [.int 13, .int (xs 1), .ref a0]) rfl ?_
  refine lv_aload_n hx hb dL_law_604 rfl (lv_at hl 4 rfl) ?_
  refine lv_iload hx hb dL_law_605 (lv_at hl 0 rfl) ?_
  refine lv_iconst (v := 3) hx hb dL_law_607 (by decide) ?_
  refine lv_iadd hx hb dL_law_608 ?_
  refine W.eq (g2 := F0 m 609 ls [.int 3, .ref b, .int 13, .int (xs 1), .ref a0]) rfl ?_
  refine va_sld hx hb hXs hbl hbA hS (i := 3) (show ¬ ((3 : Int32) < 0 ∨ 6 ≤ (3 : Int32).toNatClampNeg) by decide) dL_law_609 ?_
  refine W.eq (g2 := F0 m 610 ls [.int (xs 3), .int 13, .int (xs 1), .ref a0]) rfl ?_
  obtain ⟨hPc, hDc, hFc⟩ := xcut (wc := [(a0, .inr (0, [v11, v12, .ref b13, .ref a4, .ref b14, .ref a3, v15, v16])), (a3, .inr (2, [v47, v48, v49])), (a4, .inl (cT 3, 8, .inr (.inr (.inr (.inr f50))))), (a5, .inr (2, [.ref a6, .int 1, v52])), (a6, .inl (cT 2, 4096, .inr (.inl f53)))]) hP hD hS hA [0, 3, 4, 5, 6] rfl rfl (by decide)
  refine va_calli (vx_runSW (As := [.ref a0, .int (xs 1), .int 13, .int (xs 3)]) (rest := []) ⟨hx, hb, hml, hown, htx⟩ (cL_one_19 l hl9 D cT aK aV H.size a0 a3 a4 a5 a6 (xs 1) (xs 3) v11 v12 b13 b14 v15 v16 v47 v48 v49 f50 v52 f53 hto1 hto2 hto3 hto4 ha1 ha2 ha3 ha4 (by first | rfl | exact h51 | exact h54 | exact h56 | exact h58 | exact h60 | exact h61 | exact h62 | exact h63 | exact h65) (by first | rfl | exact h51 | exact h54 | exact h56 | exact h58 | exact h60 | exact h61 | exact h62 | exact h63 | exact h65)) (xcSW 4 htx (xw_goodC kw_4_21) rfl rfl rfl (htx _ kw_1_0) (htx _ kw_4_19) ⟨by decide, by decide, by decide +kernel⟩ ⟨Nat.le_of_ble_eq_true rfl, Nat.le_of_ble_eq_true rfl⟩ (htx _ kw_4_20)) ⟨xPre_blind, (fun U hU hW => ⟨rfl, xPre_of hZ hS hFc hPc hDc hK U hU hW⟩)⟩ rfl rfl hl.1 rfl (lv_room (Nat.le_of_ble_eq_true rfl)) dL_law_610 ⟨Nat.le_of_ble_eq_true rfl, Nat.le_of_ble_eq_true rfl⟩) hS (fun q _ h => hFc q h) hFc (fun r1 u9 t H1 locs ht hvm hr9 hB hz1 hk1 hS => ?_)
  obtain ⟨hP1, hK1, hD1⟩ := hB
  rw [ht] at hP1
  obtain ⟨hP, hD⟩ := xjoin (W := [(a1, .inr (5, [v17, .ref a10, v18, v19, v20, v21, v22, v23, v24, v25, v26, v27, v28, v29, v30, v31, v32, v33, v34, v35, v36, v37, v38, v39, .ref a7, .ref a8, v40, v41, v42, v43, v44, v45])), (a2, .inl (cT 2, 1, .inr (.inl f46))), (a7, .inl (cT 5, 8, .inr (.inr (.inr (.inr f55))))), (a8, .inl (cT 1, 8, .inl f57)), (a9, .inl (cT 0, 4096, .inl f59)), (a10, .inl (cT 4, 1024, .inr (.inr (.inr (.inr f64))))), (a0, .inr (0, [v11, v12, .ref b13, .ref a4, .ref b14, .ref a3, v15, .int 1])), (a3, .inr (2, [v47, .int 0, .int 0])), (a4, .inl (cT 3, 8, .inr (.inr (.inr (.inr f50))))), (a5, .inr (2, [.ref a6, .int 1, v52])), (a6, .inl (cT 2, 4096, .inr (.inl f53)))]) hP hD [0, 3, 4, 5, 6] [1, 2, 7, 8, 9, 10] 6 rfl rfl (by decide) (by decide) hk1 hFc hP1 hD1
  generalize H1 = H at hP hS ⊢
  rw [hr9]
  refine W.eq (g2 := F0 m 613 ls [.int 2]) rfl ?_
  refine lv_istore (lv' := [(5, .int 2), (4, .int 0), (3, .ref a2), (2, .ref a1), (1, .ref a0), (0, .ref b)]) hx hb dL_law_613 hl (by decide) rfl (fun ls hl => ?_)
  refine lv_aload_n hx hb dL_law_615 rfl (lv_at hl 3 rfl) ?_
  refine lv_aload_n hx hb dL_law_616 rfl (lv_at hl 5 rfl) ?_
  refine lv_iload hx hb dL_law_617 (lv_at hl 1 rfl) ?_
  refine lv_iconst (v := 1) hx hb dL_law_619 (by decide) ?_
  refine lv_iadd hx hb dL_law_620 ?_
  refine W.eq (g2 := F0 m 621 ls [.int 1, .ref b, .ref a1]) rfl ?_
  refine va_sld hx hb hXs hbl hbA hS (i := 1) (show ¬ ((1 : Int32) < 0 ∨ 6 ≤ (1 : Int32).toNatClampNeg) by decide) dL_law_621 ?_
  refine W.eq (g2 := F0 m 622 ls [.int (xs 1), .ref a1]) rfl ?_
  refine lv_aload_n hx hb dL_law_622 rfl (lv_at hl 5 rfl) ?_
  refine lv_iload hx hb dL_law_623 (lv_at hl 1 rfl) ?_
  refine lv_iconst (v := 2) hx hb dL_law_625 (by decide) ?_
  refine lv_iadd hx hb dL_law_626 ?_
  refine W.eq (g2 := F0 m 627 ls [.int 2, .ref b, .int (xs 1), .ref a1]) rfl ?_
  refine va_sld hx hb hXs hbl hbA hS (i := 2) (show ¬ ((2 : Int32) < 0 ∨ 6 ≤ (2 : Int32).toNatClampNeg) by decide) dL_law_627 ?_
  refine W.eq (g2 := F0 m 628 ls [.int (xs 2), .int (xs 1), .ref a1]) rfl ?_
  rw [hf]
  refine W.eq (g2 := F0 m 628 ls [.int 13, .int (xs 1), .ref a1]) rfl ?_
  refine lv_aload_n hx hb dL_law_628 rfl (lv_at hl 5 rfl) ?_
  refine lv_iload hx hb dL_law_629 (lv_at hl 1 rfl) ?_
  refine lv_iconst (v := 3) hx hb dL_law_631 (by decide) ?_
  refine lv_iadd hx hb dL_law_632 ?_
  refine W.eq (g2 := F0 m 633 ls [.int 3, .ref b, .int 13, .int (xs 1), .ref a1]) rfl ?_
  refine va_sld hx hb hXs hbl hbA hS (i := 3) (show ¬ ((3 : Int32) < 0 ∨ 6 ≤ (3 : Int32).toNatClampNeg) by decide) dL_law_633 ?_
  refine W.eq (g2 := F0 m 634 ls [.int (xs 3), .int 13, .int (xs 1), .ref a1]) rfl ?_
  obtain ⟨hPc, hDc, hFc⟩ := xcut (wc := [(a1, .inr (5, [v17, .ref a10, v18, v19, v20, v21, v22, v23, v24, v25, v26, v27, v28, v29, v30, v31, v32, v33, v34, v35, v36, v37, v38, v39, .ref a7, .ref a8, v40, v41, v42, v43, v44, v45])), (a7, .inl (cT 5, 8, .inr (.inr (.inr (.inr f55))))), (a8, .inl (cT 1, 8, .inl f57)), (a9, .inl (cT 0, 4096, .inl f59)), (a10, .inl (cT 4, 1024, .inr (.inr (.inr (.inr f64)))))]) hP hD hS hA [0, 2, 3, 4, 5] rfl rfl (by decide)
  refine va_callv (va_runV (C := "ValueBenchModel") (As := [.int (xs 1), .int 13, .int (xs 3)]) (rest := []) ⟨hx, hb, hml, hown, htx⟩ (cM_one0_24 l hl9 D cT aK aV H.size a1 a7 a8 a9 a10 (xs 1) (xs 3) v17 v18 v19 v20 v21 v22 v23 v24 v25 v26 v27 v28 v29 v30 v31 v32 v33 v34 v35 v36 v37 v38 v39 v40 v41 v42 v43 v44 v45 f55 f57 f59 f64 hto1 hto2 hto3 hto4 ha1 ha2 ha3 ha4 (by first | rfl | exact h51 | exact h54 | exact h56 | exact h58 | exact h60 | exact h61 | exact h62 | exact h63 | exact h65) (by first | rfl | exact h51 | exact h54 | exact h56 | exact h58 | exact h60 | exact h61 | exact h62 | exact h63 | exact h65) (by first | rfl | exact h51 | exact h54 | exact h56 | exact h58 | exact h60 | exact h61 | exact h62 | exact h63 | exact h65) (by first | rfl | exact h51 | exact h54 | exact h56 | exact h58 | exact h60 | exact h61 | exact h62 | exact h63 | exact h65) (by first | rfl | exact h51 | exact h54 | exact h56 | exact h58 | exact h60 | exact h61 | exact h62 | exact h63 | exact h65) (by first | rfl | exact h51 | exact h54 | exact h56 | exact h58 | exact h60 | exact h61 | exact h62 | exact h63 | exact h65) (by first | rfl | exact h51 | exact h54 | exact h56 | exact h58 | exact h60 | exact h61 | exact h62 | exact h63 | exact h65)) ⟨callB_of 3 htx (xw_goodC kw_7_123) rfl rfl rfl (htx _ kw_1_5) (htx _ kw_7_120) ⟨by decide, by decide, by decide +kernel⟩ ⟨Nat.le_of_ble_eq_true rfl, Nat.le_of_ble_eq_true rfl⟩, (htx _ kw_7_121), (htx _ kw_7_122)⟩ ⟨xPre_blind, va_recv hK hP (ci := 5) rfl (q0 := 0) rfl, (fun U hU hW => ⟨rfl, xPre_of hZ hS hFc hPc hDc hK U hU hW⟩)⟩ rfl rfl hl.1 rfl (lv_room (Nat.le_of_ble_eq_true rfl)) dL_law_634 ⟨Nat.le_of_ble_eq_true rfl, Nat.le_of_ble_eq_true rfl⟩) hS (fun q _ h => hFc q h) hFc (fun u9 t H1 locs ht hvm hr9 hB hz1 hk1 hS => ?_)
  obtain ⟨q2, hP1, hK1, hD1⟩ := hB
  rw [ht] at hP1
  obtain ⟨hP, hD⟩ := xjoin (W := [(a2, .inl (cT 2, 1, .inr (.inl f46))), (a0, .inr (0, [v11, v12, .ref b13, .ref a4, .ref b14, .ref a3, v15, .int 1])), (a3, .inr (2, [v47, .int 0, .int 0])), (a4, .inl (cT 3, 8, .inr (.inr (.inr (.inr f50))))), (a5, .inr (2, [.ref a6, .int 1, v52])), (a6, .inl (cT 2, 4096, .inr (.inl f53))), (a1, .inr (5, [.int 2, .ref a10, .int 1, v19, .int 0, v21, v22, .int 0, .int 1, .int 0, v26, v27, .int 0, v29, v30, .ref a9, .int 4, .int 4, .int 0, .int 100, v36, v37, .int 0, .int 1000000000, .ref a7, .ref a8, v40, v41, v42, v43, .int 1, v45])), (a7, .inl (cT 5, 8, .inr (.inr (.inr (.inr f55))))), (a8, .inl (cT 1, 8, .inl f57)), (a9, .inl (cT 0, 4096, .inl f59)), (a10, .inl (cT 4, 1024, .inr (.inr (.inr (.inr (va_up f64 0 (some q2))))))), (q2, .inr (6, [.int 0, .long 0, .int 0, .int 0, .int 0, .int 1]))]) hP hD [0, 2, 3, 4, 5] [1, 6, 7, 8, 9, 10] 6 rfl rfl (by decide) (by decide) hk1 hFc hP1 hD1
  generalize H1 = H at hP hS ⊢
  refine lv_aload_n hx hb dL_law_637 rfl (lv_at hl 3 rfl) ?_
  obtain ⟨hPc, hDc, hFc⟩ := xcut (wc := [(a1, .inr (5, [.int 2, .ref a10, .int 1, v19, .int 0, v21, v22, .int 0, .int 1, .int 0, v26, v27, .int 0, v29, v30, .ref a9, .int 4, .int 4, .int 0, .int 100, v36, v37, .int 0, .int 1000000000, .ref a7, .ref a8, v40, v41, v42, v43, .int 1, v45]))]) hP hD hS hA [6] rfl rfl (by decide)
  refine va_calli (va_runV (C := "ValueBenchModel") (As := []) (rest := []) ⟨hx, hb, hml, hown, htx⟩ (cM_thrown_2 l hl9 D cT aK aV H.size a1 (.ref a10) (.int 1) v19 (.int 0) v21 v22 (.int 0) (.int 1) (.int 0) v26 v27 (.int 0) v29 v30 (.ref a9) (.int 4) (.int 4) (.int 0) (.int 100) v36 v37 (.int 0) (.int 1000000000) (.ref a7) (.ref a8) v40 v41 v42 v43 (.int 1) v45) ⟨callB_of 0 htx (xw_goodC kw_5_187) rfl rfl rfl (htx _ kw_1_5) (htx _ kw_5_184) ⟨by decide, by decide, by decide +kernel⟩ ⟨Nat.le_of_ble_eq_true rfl, Nat.le_of_ble_eq_true rfl⟩, (htx _ kw_5_185), (htx _ kw_5_186)⟩ ⟨xPre_blind, va_recv hK hP (ci := 5) rfl (q0 := 6) rfl, (fun U hU hW => ⟨rfl, xPre_of hZ hS hFc hPc hDc hK U hU hW⟩)⟩ rfl rfl hl.1 rfl (lv_room (Nat.le_of_ble_eq_true rfl)) dL_law_638 ⟨Nat.le_of_ble_eq_true rfl, Nat.le_of_ble_eq_true rfl⟩) hS (fun q _ h => hFc q h) hFc (fun r3 u9 t H1 locs ht hvm hr9 hB hz1 hk1 hS => ?_)
  obtain ⟨hP1, hK1, hD1⟩ := hB
  rw [ht] at hP1
  obtain ⟨hP, hD⟩ := xjoin (W := [(a2, .inl (cT 2, 1, .inr (.inl f46))), (a0, .inr (0, [v11, v12, .ref b13, .ref a4, .ref b14, .ref a3, v15, .int 1])), (a3, .inr (2, [v47, .int 0, .int 0])), (a4, .inl (cT 3, 8, .inr (.inr (.inr (.inr f50))))), (a5, .inr (2, [.ref a6, .int 1, v52])), (a6, .inl (cT 2, 4096, .inr (.inl f53))), (a7, .inl (cT 5, 8, .inr (.inr (.inr (.inr f55))))), (a8, .inl (cT 1, 8, .inl f57)), (a9, .inl (cT 0, 4096, .inl f59)), (a10, .inl (cT 4, 1024, .inr (.inr (.inr (.inr (va_up f64 0 (some q2))))))), (q2, .inr (6, [.int 0, .long 0, .int 0, .int 0, .int 0, .int 1])), (a1, .inr (5, [.int 2, .ref a10, .int 1, v19, .int 0, v21, v22, .int 0, .int 1, .int 0, v26, v27, .int 0, v29, v30, .ref a9, .int 4, .int 4, .int 0, .int 100, v36, v37, .int 0, .int 1000000000, .ref a7, .ref a8, v40, v41, v42, v43, .int 1, v45]))]) hP hD [6] [0, 1, 2, 3, 4, 5, 7, 8, 9, 10, 11] 11 rfl rfl (by decide) (by decide) hk1 hFc hP1 hD1
  generalize H1 = H at hP hS ⊢
  rw [hr9]
  refine W.eq (g2 := F0 m 641 ls [.int 2]) rfl ?_
  refine lv_iload hx hb dL_law_641 (lv_at hl 0 rfl) ?_
  refine lv_icmp_eq (tgt := 648) hx hb dL_law_643 (by decide) (fun _ => ?_) (fun h => ((by revert h; decide : False)).elim)
  refine lv_goto (tgt := 906) hx hb dL_law_648 (by decide) ?_
  refine lv_iinc (v := 6) (lv' := [(4, .int 6), (5, .int 2), (3, .ref a2), (2, .ref a1), (1, .ref a0), (0, .ref b)]) hx hb dL_law_906 hl (k := 1) rfl (by decide) (by decide) rfl (fun ls hl => ?_)
  refine lv_goto (tgt := 23) hx hb dL_law_909 (by decide) ?_
  refine lv_iload hx hb dL_law_23 (lv_at hl 0 rfl) ?_
  refine lv_aload_n hx hb dL_law_25 rfl (lv_at hl 5 rfl) ?_
  refine va_slen hx hb hXs hbl hbA hS dL_law_26 ?_
  refine W.eq (g2 := F0 m 27 ls [.int 6, .int 6]) rfl ?_
  refine lv_bipush (v := 6) hx hb dL_law_27 (by decide) ?_
  refine lv_isub hx hb dL_law_29 ?_
  refine W.eq (g2 := F0 m 30 ls [.int 0, .int 6]) rfl ?_
  refine lv_icmp_gt (tgt := 912) hx hb dL_law_30 (by decide) (fun _ => ?_) (fun h => ((by revert h; decide : False)).elim)
  refine lv_iconst (v := 1) hx hb dL_law_912 (by decide) ?_
  exact va_forget (fun q h => hA2 _ (hS.2.2 q h)) (W.widen (k := 600002) (n := 7302232) (Nat.le_of_ble_eq_true rfl) (Nat.le_of_ble_eq_true rfl) (lw_ret hx hb hr hlocks dL_law_913))
set_option maxHeartbeats 400000000 in
set_option maxRecDepth 100000 in
theorem lf_one13_p0 {p : Program} {e : Env} {s : State} {m : MethodId} {below : List Frame} {meth : Method} {c : Code} (l : Launch) (hl9 : l.stackTraces = false) (D : va_G) (cT : Nat → ClassId) (aK aV : Nat → Nat) {A : Nat → Prop} {b : Nat} {xs : Nat → Int32} (C : xLw p s m meth c b D cT aK aV A) {H : Heap} {locs : List Loc} {ls : Array Slot} (a0 : Nat) (a1 : Nat) (a2 : Nat) (a3 : Nat) (a4 : Nat) (a5 : Nat) (a6 : Nat) (a7 : Nat) (a8 : Nat) (a9 : Nat) (a10 : Nat) (v11 : Value) (v12 : Value) (b13 : Nat) (b14 : Nat) (v15 : Value) (v16 : Value) (v17 : Value) (v18 : Value) (v19 : Value) (v20 : Value) (v21 : Value) (v22 : Value) (v23 : Value) (v24 : Value) (v25 : Value) (v26 : Value) (v27 : Value) (v28 : Value) (v29 : Value) (v30 : Value) (v31 : Value) (v32 : Value) (v33 : Value) (v34 : Value) (v35 : Value) (v36 : Value) (v37 : Value) (v38 : Value) (v39 : Value) (v40 : Value) (v41 : Value) (v42 : Value) (v43 : Value) (v44 : Value) (v45 : Value) (f46 : Nat → Int64) (v47 : Value) (v48 : Value) (v49 : Value) (f50 : Nat → Option Nat) (v52 : Value) (f53 : Nat → Int64) (f55 : Nat → Option Nat) (f57 : Nat → Int32) (f59 : Nat → Int32) (f64 : Nat → Option Nat) (h51 : f50 (xs 3).toNatClampNeg = some a5) (h54 : f53 0 = 0) (h56 : f55 (xs 3).toNatClampNeg = some a9) (h58 : f57 (xs 3).toNatClampNeg = 4) (h60 : f59 0 = 110) (h61 : f59 1 = 117) (h62 : f59 2 = 108) (h63 : f59 3 = 108) (h65 : f64 0 = none) (hto1 : ¬ (xs 1) < 0) (hto2 : ¬ 7 < (xs 1)) (hto3 : (xs 1) ≤ 7) (hto4 : vp_in (xs 1) 8) (hf : xs 2 = 13) (ha1 : ¬ (xs 3) < 0) (ha2 : ¬ 7 < (xs 3)) (ha3 : (xs 3) ≤ 7) (ha4 : vp_in (xs 3) 8) (hXs : va_X b 6 xs s s.heap) (hP : va_P D xcl [(a0, .inr (0, [v11, v12, .ref b13, .ref a4, .ref b14, .ref a3, v15, v16])), (a1, .inr (5, [v17, .ref a10, v18, v19, v20, v21, v22, v23, v24, v25, v26, v27, v28, v29, v30, v31, v32, v33, v34, v35, v36, v37, v38, v39, .ref a7, .ref a8, v40, v41, v42, v43, v44, v45])), (a2, .inl (cT 2, 1, .inr (.inl f46))), (a3, .inr (2, [v47, v48, v49])), (a4, .inl (cT 3, 8, .inr (.inr (.inr (.inr f50))))), (a5, .inr (2, [.ref a6, .int 1, v52])), (a6, .inl (cT 2, 4096, .inr (.inl f53))), (a7, .inl (cT 5, 8, .inr (.inr (.inr (.inr f55))))), (a8, .inl (cT 1, 8, .inl f57)), (a9, .inl (cT 0, 4096, .inl f59)), (a10, .inl (cT 4, 1024, .inr (.inr (.inr (.inr f64)))))] H) (hD : va_D A [(a0, .inr (0, [v11, v12, .ref b13, .ref a4, .ref b14, .ref a3, v15, v16])), (a1, .inr (5, [v17, .ref a10, v18, v19, v20, v21, v22, v23, v24, v25, v26, v27, v28, v29, v30, v31, v32, v33, v34, v35, v36, v37, v38, v39, .ref a7, .ref a8, v40, v41, v42, v43, v44, v45])), (a2, .inl (cT 2, 1, .inr (.inl f46))), (a3, .inr (2, [v47, v48, v49])), (a4, .inl (cT 3, 8, .inr (.inr (.inr (.inr f50))))), (a5, .inr (2, [.ref a6, .int 1, v52])), (a6, .inl (cT 2, 4096, .inr (.inl f53))), (a7, .inl (cT 5, 8, .inr (.inr (.inr (.inr f55))))), (a8, .inl (cT 1, 8, .inl f57)), (a9, .inl (cT 0, 4096, .inl f59)), (a10, .inl (cT 4, 1024, .inr (.inr (.inr (.inr f64)))))]) (hS : va_S A s.heap H locs) (hl : lv_has ls 8 [(4, .int 0), (3, .ref a2), (2, .ref a1), (1, .ref a0), (0, .ref b)]) : W p l e room_1 s m #[Value.ref b] below meth c H locs 54 107242 (lw_Z below #[Value.ref b] s) (F0 m 591 ls []) := by
  obtain ⟨hx, hb, hr, hml, hown, htx, hbl, hbA, hlocks, hK, hZ, hA, hA2⟩ := C
  refine lv_aload_n hx hb dL_law_591 rfl (lv_at hl 3 rfl) ?_
  refine lv_aload_n hx hb dL_law_592 rfl (lv_at hl 4 rfl) ?_
  refine lv_iload hx hb dL_law_593 (lv_at hl 0 rfl) ?_
  refine lv_iconst (v := 1) hx hb dL_law_595 (by decide) ?_
  refine lv_iadd hx hb dL_law_596 ?_
  refine W.eq (g2 := F0 m 597 ls [.int 1, .ref b, .ref a0]) rfl ?_
  refine va_sld hx hb hXs hbl hbA hS (i := 1) (show ¬ ((1 : Int32) < 0 ∨ 6 ≤ (1 : Int32).toNatClampNeg) by decide) dL_law_597 ?_
  refine W.eq (g2 := F0 m 598 ls [.int (xs 1), .ref a0]) rfl ?_
  refine lv_aload_n hx hb dL_law_598 rfl (lv_at hl 4 rfl) ?_
  refine lv_iload hx hb dL_law_599 (lv_at hl 0 rfl) ?_
  refine lv_iconst (v := 2) hx hb dL_law_601 (by decide) ?_
  refine lv_iadd hx hb dL_law_602 ?_
  refine W.eq (g2 := F0 m 603 ls [.int 2, .ref b, .int (xs 1), .ref a0]) rfl ?_
  refine va_sld hx hb hXs hbl hbA hS (i := 2) (show ¬ ((2 : Int32) < 0 ∨ 6 ≤ (2 : Int32).toNatClampNeg) by decide) dL_law_603 ?_
  refine W.eq (g2 := F0 m 604 ls [.int (xs 2), .int (xs 1), .ref a0]) rfl ?_
  rw [hf]
  refine W.eq (g2 := F0 m 604 ls [.int 13, .int (xs 1), .ref a0]) rfl ?_
  refine lv_aload_n hx hb dL_law_604 rfl (lv_at hl 4 rfl) ?_
  refine lv_iload hx hb dL_law_605 (lv_at hl 0 rfl) ?_
  refine lv_iconst (v := 3) hx hb dL_law_607 (by decide) ?_
  refine lv_iadd hx hb dL_law_608 ?_
  refine W.eq (g2 := F0 m 609 ls [.int 3, .ref b, .int 13, .int (xs 1), .ref a0]) rfl ?_
  refine va_sld hx hb hXs hbl hbA hS (i := 3) (show ¬ ((3 : Int32) < 0 ∨ 6 ≤ (3 : Int32).toNatClampNeg) by decide) dL_law_609 ?_
  refine W.eq (g2 := F0 m 610 ls [.int (xs 3), .int 13, .int (xs 1), .ref a0]) rfl ?_
  obtain ⟨hPc, hDc, hFc⟩ := xcut (wc := [(a0, .inr (0, [v11, v12, .ref b13, .ref a4, .ref b14, .ref a3, v15, v16])), (a3, .inr (2, [v47, v48, v49])), (a4, .inl (cT 3, 8, .inr (.inr (.inr (.inr f50))))), (a5, .inr (2, [.ref a6, .int 1, v52])), (a6, .inl (cT 2, 4096, .inr (.inl f53)))]) hP hD hS hA [0, 3, 4, 5, 6] rfl rfl (by decide)
  refine va_calli (vx_runSW (As := [.ref a0, .int (xs 1), .int 13, .int (xs 3)]) (rest := []) ⟨hx, hb, hml, hown, htx⟩ (cL_one_19 l hl9 D cT aK aV H.size a0 a3 a4 a5 a6 (xs 1) (xs 3) v11 v12 b13 b14 v15 v16 v47 v48 v49 f50 v52 f53 hto1 hto2 hto3 hto4 ha1 ha2 ha3 ha4 (by first | rfl | exact h51 | exact h54 | exact h56 | exact h58 | exact h60 | exact h61 | exact h62 | exact h63 | exact h65) (by first | rfl | exact h51 | exact h54 | exact h56 | exact h58 | exact h60 | exact h61 | exact h62 | exact h63 | exact h65)) (xcSW 4 htx (xw_goodC kw_4_21) rfl rfl rfl (htx _ kw_1_0) (htx _ kw_4_19) ⟨by decide, by decide, by decide +kernel⟩ ⟨Nat.le_of_ble_eq_true rfl, Nat.le_of_ble_eq_true rfl⟩ (htx _ kw_4_20)) ⟨xPre_blind, (fun U hU hW => ⟨rfl, xPre_of hZ hS hFc hPc hDc hK U hU hW⟩)⟩ rfl rfl hl.1 rfl (lv_room (Nat.le_of_ble_eq_true rfl)) dL_law_610 ⟨Nat.le_of_ble_eq_true rfl, Nat.le_of_ble_eq_true rfl⟩) hS (fun q _ h => hFc q h) hFc (fun r1 u9 t H1 locs ht hvm hr9 hB hz1 hk1 hS => ?_)
  obtain ⟨hP1, hK1, hD1⟩ := hB
  rw [ht] at hP1
  obtain ⟨hP, hD⟩ := xjoin (W := [(a1, .inr (5, [v17, .ref a10, v18, v19, v20, v21, v22, v23, v24, v25, v26, v27, v28, v29, v30, v31, v32, v33, v34, v35, v36, v37, v38, v39, .ref a7, .ref a8, v40, v41, v42, v43, v44, v45])), (a2, .inl (cT 2, 1, .inr (.inl f46))), (a7, .inl (cT 5, 8, .inr (.inr (.inr (.inr f55))))), (a8, .inl (cT 1, 8, .inl f57)), (a9, .inl (cT 0, 4096, .inl f59)), (a10, .inl (cT 4, 1024, .inr (.inr (.inr (.inr f64))))), (a0, .inr (0, [v11, v12, .ref b13, .ref a4, .ref b14, .ref a3, v15, .int 1])), (a3, .inr (2, [v47, .int 0, .int 0])), (a4, .inl (cT 3, 8, .inr (.inr (.inr (.inr f50))))), (a5, .inr (2, [.ref a6, .int 1, v52])), (a6, .inl (cT 2, 4096, .inr (.inl f53)))]) hP hD [0, 3, 4, 5, 6] [1, 2, 7, 8, 9, 10] 6 rfl rfl (by decide) (by decide) hk1 hFc hP1 hD1
  generalize H1 = H at hP hS ⊢
  rw [hr9]
  refine W.eq (g2 := F0 m 613 ls [.int 2]) rfl ?_
  refine lv_istore (lv' := [(5, .int 2), (4, .int 0), (3, .ref a2), (2, .ref a1), (1, .ref a0), (0, .ref b)]) hx hb dL_law_613 hl (by decide) rfl (fun ls hl => ?_)
  refine lv_aload_n hx hb dL_law_615 rfl (lv_at hl 3 rfl) ?_
  refine lv_aload_n hx hb dL_law_616 rfl (lv_at hl 5 rfl) ?_
  refine lv_iload hx hb dL_law_617 (lv_at hl 1 rfl) ?_
  refine lv_iconst (v := 1) hx hb dL_law_619 (by decide) ?_
  refine lv_iadd hx hb dL_law_620 ?_
  refine W.eq (g2 := F0 m 621 ls [.int 1, .ref b, .ref a1]) rfl ?_
  refine va_sld hx hb hXs hbl hbA hS (i := 1) (show ¬ ((1 : Int32) < 0 ∨ 6 ≤ (1 : Int32).toNatClampNeg) by decide) dL_law_621 ?_
  refine W.eq (g2 := F0 m 622 ls [.int (xs 1), .ref a1]) rfl ?_
  refine lv_aload_n hx hb dL_law_622 rfl (lv_at hl 5 rfl) ?_
  refine lv_iload hx hb dL_law_623 (lv_at hl 1 rfl) ?_
  refine lv_iconst (v := 2) hx hb dL_law_625 (by decide) ?_
  refine lv_iadd hx hb dL_law_626 ?_
  refine W.eq (g2 := F0 m 627 ls [.int 2, .ref b, .int (xs 1), .ref a1]) rfl ?_
  refine va_sld hx hb hXs hbl hbA hS (i := 2) (show ¬ ((2 : Int32) < 0 ∨ 6 ≤ (2 : Int32).toNatClampNeg) by decide) dL_law_627 ?_
  refine W.eq (g2 := F0 m 628 ls [.int (xs 2), .int (xs 1), .ref a1]) rfl ?_
  rw [hf]
  refine W.eq (g2 := F0 m 628 ls [.int 13, .int (xs 1), .ref a1]) rfl ?_
  refine lv_aload_n hx hb dL_law_628 rfl (lv_at hl 5 rfl) ?_
  refine lv_iload hx hb dL_law_629 (lv_at hl 1 rfl) ?_
  refine lv_iconst (v := 3) hx hb dL_law_631 (by decide) ?_
  refine lv_iadd hx hb dL_law_632 ?_
  refine W.eq (g2 := F0 m 633 ls [.int 3, .ref b, .int 13, .int (xs 1), .ref a1]) rfl ?_
  refine va_sld hx hb hXs hbl hbA hS (i := 3) (show ¬ ((3 : Int32) < 0 ∨ 6 ≤ (3 : Int32).toNatClampNeg) by decide) dL_law_633 ?_
  refine W.eq (g2 := F0 m 634 ls [.int (xs 3), .int 13, .int (xs 1), .ref a1]) rfl ?_
  obtain ⟨hPc, hDc, hFc⟩ := xcut (wc := [(a1, .inr (5, [v17, .ref a10, v18, v19, v20, v21, v22, v23, v24, v25, v26, v27, v28, v29, v30, v31, v32, v33, v34, v35, v36, v37, v38, v39, .ref a7, .ref a8, v40, v41, v42, v43, v44, v45])), (a7, .inl (cT 5, 8, .inr (.inr (.inr (.inr f55))))), (a8, .inl (cT 1, 8, .inl f57)), (a9, .inl (cT 0, 4096, .inl f59)), (a10, .inl (cT 4, 1024, .inr (.inr (.inr (.inr f64)))))]) hP hD hS hA [0, 2, 3, 4, 5] rfl rfl (by decide)
  refine va_callv (va_runV (C := "ValueBenchModel") (As := [.int (xs 1), .int 13, .int (xs 3)]) (rest := []) ⟨hx, hb, hml, hown, htx⟩ (cM_one0_24 l hl9 D cT aK aV H.size a1 a7 a8 a9 a10 (xs 1) (xs 3) v17 v18 v19 v20 v21 v22 v23 v24 v25 v26 v27 v28 v29 v30 v31 v32 v33 v34 v35 v36 v37 v38 v39 v40 v41 v42 v43 v44 v45 f55 f57 f59 f64 hto1 hto2 hto3 hto4 ha1 ha2 ha3 ha4 (by first | rfl | exact h51 | exact h54 | exact h56 | exact h58 | exact h60 | exact h61 | exact h62 | exact h63 | exact h65) (by first | rfl | exact h51 | exact h54 | exact h56 | exact h58 | exact h60 | exact h61 | exact h62 | exact h63 | exact h65) (by first | rfl | exact h51 | exact h54 | exact h56 | exact h58 | exact h60 | exact h61 | exact h62 | exact h63 | exact h65) (by first | rfl | exact h51 | exact h54 | exact h56 | exact h58 | exact h60 | exact h61 | exact h62 | exact h63 | exact h65) (by first | rfl | exact h51 | exact h54 | exact h56 | exact h58 | exact h60 | exact h61 | exact h62 | exact h63 | exact h65) (by first | rfl | exact h51 | exact h54 | exact h56 | exact h58 | exact h60 | exact h61 | exact h62 | exact h63 | exact h65) (by first | rfl | exact h51 | exact h54 | exact h56 | exact h58 | exact h60 | exact h61 | exact h62 | exact h63 | exact h65)) ⟨callB_of 3 htx (xw_goodC kw_7_123) rfl rfl rfl (htx _ kw_1_5) (htx _ kw_7_120) ⟨by decide, by decide, by decide +kernel⟩ ⟨Nat.le_of_ble_eq_true rfl, Nat.le_of_ble_eq_true rfl⟩, (htx _ kw_7_121), (htx _ kw_7_122)⟩ ⟨xPre_blind, va_recv hK hP (ci := 5) rfl (q0 := 0) rfl, (fun U hU hW => ⟨rfl, xPre_of hZ hS hFc hPc hDc hK U hU hW⟩)⟩ rfl rfl hl.1 rfl (lv_room (Nat.le_of_ble_eq_true rfl)) dL_law_634 ⟨Nat.le_of_ble_eq_true rfl, Nat.le_of_ble_eq_true rfl⟩) hS (fun q _ h => hFc q h) hFc (fun u9 t H1 locs ht hvm hr9 hB hz1 hk1 hS => ?_)
  obtain ⟨q2, hP1, hK1, hD1⟩ := hB
  rw [ht] at hP1
  obtain ⟨hP, hD⟩ := xjoin (W := [(a2, .inl (cT 2, 1, .inr (.inl f46))), (a0, .inr (0, [v11, v12, .ref b13, .ref a4, .ref b14, .ref a3, v15, .int 1])), (a3, .inr (2, [v47, .int 0, .int 0])), (a4, .inl (cT 3, 8, .inr (.inr (.inr (.inr f50))))), (a5, .inr (2, [.ref a6, .int 1, v52])), (a6, .inl (cT 2, 4096, .inr (.inl f53))), (a1, .inr (5, [.int 2, .ref a10, .int 1, v19, .int 0, v21, v22, .int 0, .int 1, .int 0, v26, v27, .int 0, v29, v30, .ref a9, .int 4, .int 4, .int 0, .int 100, v36, v37, .int 0, .int 1000000000, .ref a7, .ref a8, v40, v41, v42, v43, .int 1, v45])), (a7, .inl (cT 5, 8, .inr (.inr (.inr (.inr f55))))), (a8, .inl (cT 1, 8, .inl f57)), (a9, .inl (cT 0, 4096, .inl f59)), (a10, .inl (cT 4, 1024, .inr (.inr (.inr (.inr (va_up f64 0 (some q2))))))), (q2, .inr (6, [.int 0, .long 0, .int 0, .int 0, .int 0, .int 1]))]) hP hD [0, 2, 3, 4, 5] [1, 6, 7, 8, 9, 10] 6 rfl rfl (by decide) (by decide) hk1 hFc hP1 hD1
  generalize H1 = H at hP hS ⊢
  refine lv_aload_n hx hb dL_law_637 rfl (lv_at hl 3 rfl) ?_
  obtain ⟨hPc, hDc, hFc⟩ := xcut (wc := [(a1, .inr (5, [.int 2, .ref a10, .int 1, v19, .int 0, v21, v22, .int 0, .int 1, .int 0, v26, v27, .int 0, v29, v30, .ref a9, .int 4, .int 4, .int 0, .int 100, v36, v37, .int 0, .int 1000000000, .ref a7, .ref a8, v40, v41, v42, v43, .int 1, v45]))]) hP hD hS hA [6] rfl rfl (by decide)
  refine va_calli (va_runV (C := "ValueBenchModel") (As := []) (rest := []) ⟨hx, hb, hml, hown, htx⟩ (cM_thrown_2 l hl9 D cT aK aV H.size a1 (.ref a10) (.int 1) v19 (.int 0) v21 v22 (.int 0) (.int 1) (.int 0) v26 v27 (.int 0) v29 v30 (.ref a9) (.int 4) (.int 4) (.int 0) (.int 100) v36 v37 (.int 0) (.int 1000000000) (.ref a7) (.ref a8) v40 v41 v42 v43 (.int 1) v45) ⟨callB_of 0 htx (xw_goodC kw_5_187) rfl rfl rfl (htx _ kw_1_5) (htx _ kw_5_184) ⟨by decide, by decide, by decide +kernel⟩ ⟨Nat.le_of_ble_eq_true rfl, Nat.le_of_ble_eq_true rfl⟩, (htx _ kw_5_185), (htx _ kw_5_186)⟩ ⟨xPre_blind, va_recv hK hP (ci := 5) rfl (q0 := 6) rfl, (fun U hU hW => ⟨rfl, xPre_of hZ hS hFc hPc hDc hK U hU hW⟩)⟩ rfl rfl hl.1 rfl (lv_room (Nat.le_of_ble_eq_true rfl)) dL_law_638 ⟨Nat.le_of_ble_eq_true rfl, Nat.le_of_ble_eq_true rfl⟩) hS (fun q _ h => hFc q h) hFc (fun r3 u9 t H1 locs ht hvm hr9 hB hz1 hk1 hS => ?_)
  obtain ⟨hP1, hK1, hD1⟩ := hB
  rw [ht] at hP1
  obtain ⟨hP, hD⟩ := xjoin (W := [(a2, .inl (cT 2, 1, .inr (.inl f46))), (a0, .inr (0, [v11, v12, .ref b13, .ref a4, .ref b14, .ref a3, v15, .int 1])), (a3, .inr (2, [v47, .int 0, .int 0])), (a4, .inl (cT 3, 8, .inr (.inr (.inr (.inr f50))))), (a5, .inr (2, [.ref a6, .int 1, v52])), (a6, .inl (cT 2, 4096, .inr (.inl f53))), (a7, .inl (cT 5, 8, .inr (.inr (.inr (.inr f55))))), (a8, .inl (cT 1, 8, .inl f57)), (a9, .inl (cT 0, 4096, .inl f59)), (a10, .inl (cT 4, 1024, .inr (.inr (.inr (.inr (va_up f64 0 (some q2))))))), (q2, .inr (6, [.int 0, .long 0, .int 0, .int 0, .int 0, .int 1])), (a1, .inr (5, [.int 2, .ref a10, .int 1, v19, .int 0, v21, v22, .int 0, .int 1, .int 0, v26, v27, .int 0, v29, v30, .ref a9, .int 4, .int 4, .int 0, .int 100, v36, v37, .int 0, .int 1000000000, .ref a7, .ref a8, v40, v41, v42, v43, .int 1, v45]))]) hP hD [6] [0, 1, 2, 3, 4, 5, 7, 8, 9, 10, 11] 11 rfl rfl (by decide) (by decide) hk1 hFc hP1 hD1
  generalize H1 = H at hP hS ⊢
  rw [hr9]
  refine W.eq (g2 := F0 m 641 ls [.int 2]) rfl ?_
  refine lv_iload hx hb dL_law_641 (lv_at hl 0 rfl) ?_
  refine lv_icmp_eq (tgt := 648) hx hb dL_law_643 (by decide) (fun _ => ?_) (fun h => ((by revert h; decide : False)).elim)
  refine lv_goto (tgt := 906) hx hb dL_law_648 (by decide) ?_
  refine lv_iinc (v := 6) (lv' := [(4, .int 6), (5, .int 2), (3, .ref a2), (2, .ref a1), (1, .ref a0), (0, .ref b)]) hx hb dL_law_906 hl (k := 1) rfl (by decide) (by decide) rfl (fun ls hl => ?_)
  refine lv_goto (tgt := 23) hx hb dL_law_909 (by decide) ?_
  refine lv_iload hx hb dL_law_23 (lv_at hl 0 rfl) ?_
  refine lv_aload_n hx hb dL_law_25 rfl (lv_at hl 5 rfl) ?_
  refine va_slen hx hb hXs hbl hbA hS dL_law_26 ?_
  refine W.eq (g2 := F0 m 27 ls [.int 6, .int 6]) rfl ?_
  refine lv_bipush (v := 6) hx hb dL_law_27 (by decide) ?_
  refine lv_isub hx hb dL_law_29 ?_
  refine W.eq (g2 := F0 m 30 ls [.int 0, .int 6]) rfl ?_
  refine lv_icmp_gt (tgt := 912) hx hb dL_law_30 (by decide) (fun _ => ?_) (fun h => ((by revert h; decide : False)).elim)
  refine lv_iconst (v := 1) hx hb dL_law_912 (by decide) ?_
  exact va_forget (fun q h => hA2 _ (hS.2.2 q h)) (W.widen (k := 600002) (n := 7302232) (Nat.le_of_ble_eq_true rfl) (Nat.le_of_ble_eq_true rfl) (lw_ret hx hb hr hlocks dL_law_913))
set_option maxHeartbeats 400000000 in
set_option maxRecDepth 100000 in
theorem lf_two_tolo {p : Program} {e : Env} {s : State} {m : MethodId} {below : List Frame} {meth : Method} {c : Code} (l : Launch) (hl9 : l.stackTraces = false) (D : va_G) (cT : Nat → ClassId) (aK aV : Nat → Nat) {A : Nat → Prop} {b : Nat} {xs : Nat → Int32} (C : xLw p s m meth c b D cT aK aV A) {H : Heap} {locs : List Loc} {ls : Array Slot} (a0 : Nat) (a1 : Nat) (a2 : Nat) (v3 : Value) (v4 : Value) (v5 : Value) (v6 : Value) (v7 : Value) (v8 : Value) (v9 : Value) (v10 : Value) (v11 : Value) (v12 : Value) (v13 : Value) (v14 : Value) (v15 : Value) (v16 : Value) (v17 : Value) (v18 : Value) (v19 : Value) (v20 : Value) (v21 : Value) (v22 : Value) (v23 : Value) (v24 : Value) (v25 : Value) (v26 : Value) (v27 : Value) (v28 : Value) (v29 : Value) (v30 : Value) (v31 : Value) (v32 : Value) (v33 : Value) (v34 : Value) (v35 : Value) (v36 : Value) (v37 : Value) (v38 : Value) (v39 : Value) (v40 : Value) (v41 : Value) (v42 : Value) (f43 : Nat → Int64) (hto1 : (xs 1) < 0) (hXs : va_X b 6 xs s s.heap) (hP : va_P D xcl [(a0, .inr (0, [v3, v4, v5, v6, v7, v8, v9, v10])), (a1, .inr (5, [v11, v12, v13, v14, v15, v16, v17, v18, v19, v20, v21, v22, v23, v24, v25, v26, v27, v28, v29, v30, v31, v32, v33, v34, v35, v36, v37, v38, v39, v40, v41, v42])), (a2, .inl (cT 2, 1, .inr (.inl f43)))] H) (hD : va_D A [(a0, .inr (0, [v3, v4, v5, v6, v7, v8, v9, v10])), (a1, .inr (5, [v11, v12, v13, v14, v15, v16, v17, v18, v19, v20, v21, v22, v23, v24, v25, v26, v27, v28, v29, v30, v31, v32, v33, v34, v35, v36, v37, v38, v39, v40, v41, v42])), (a2, .inl (cT 2, 1, .inr (.inl f43)))]) (hS : va_S A s.heap H locs) (hl : lv_has ls 8 [(4, .int 0), (3, .ref a2), (2, .ref a1), (1, .ref a0), (0, .ref b)]) : W p l e room_1 s m #[Value.ref b] below meth c H locs 54 107242 (lw_Z below #[Value.ref b] s) (F0 m 651 ls []) := by
  obtain ⟨hx, hb, hr, hml, hown, htx, hbl, hbA, hlocks, hK, hZ, hA, hA2⟩ := C
  refine lv_aload_n hx hb dL_law_651 rfl (lv_at hl 3 rfl) ?_
  refine lv_aload_n hx hb dL_law_652 rfl (lv_at hl 4 rfl) ?_
  refine lv_iload hx hb dL_law_653 (lv_at hl 0 rfl) ?_
  refine lv_iconst (v := 1) hx hb dL_law_655 (by decide) ?_
  refine lv_iadd hx hb dL_law_656 ?_
  refine W.eq (g2 := F0 m 657 ls [.int 1, .ref b, .ref a0]) rfl ?_
  refine va_sld hx hb hXs hbl hbA hS (i := 1) (show ¬ ((1 : Int32) < 0 ∨ 6 ≤ (1 : Int32).toNatClampNeg) by decide) dL_law_657 ?_
  refine W.eq (g2 := F0 m 658 ls [.int (xs 1), .ref a0]) rfl ?_
  refine lv_aload_n hx hb dL_law_658 rfl (lv_at hl 4 rfl) ?_
  refine lv_iload hx hb dL_law_659 (lv_at hl 0 rfl) ?_
  refine lv_iconst (v := 2) hx hb dL_law_661 (by decide) ?_
  refine lv_iadd hx hb dL_law_662 ?_
  refine W.eq (g2 := F0 m 663 ls [.int 2, .ref b, .int (xs 1), .ref a0]) rfl ?_
  refine va_sld hx hb hXs hbl hbA hS (i := 2) (show ¬ ((2 : Int32) < 0 ∨ 6 ≤ (2 : Int32).toNatClampNeg) by decide) dL_law_663 ?_
  refine W.eq (g2 := F0 m 664 ls [.int (xs 2), .int (xs 1), .ref a0]) rfl ?_
  refine lv_aload_n hx hb dL_law_664 rfl (lv_at hl 4 rfl) ?_
  refine lv_iload hx hb dL_law_665 (lv_at hl 0 rfl) ?_
  refine lv_iconst (v := 3) hx hb dL_law_667 (by decide) ?_
  refine lv_iadd hx hb dL_law_668 ?_
  refine W.eq (g2 := F0 m 669 ls [.int 3, .ref b, .int (xs 2), .int (xs 1), .ref a0]) rfl ?_
  refine va_sld hx hb hXs hbl hbA hS (i := 3) (show ¬ ((3 : Int32) < 0 ∨ 6 ≤ (3 : Int32).toNatClampNeg) by decide) dL_law_669 ?_
  refine W.eq (g2 := F0 m 670 ls [.int (xs 3), .int (xs 2), .int (xs 1), .ref a0]) rfl ?_
  refine lv_aload_n hx hb dL_law_670 rfl (lv_at hl 4 rfl) ?_
  refine lv_iload hx hb dL_law_671 (lv_at hl 0 rfl) ?_
  refine lv_iconst (v := 4) hx hb dL_law_673 (by decide) ?_
  refine lv_iadd hx hb dL_law_674 ?_
  refine W.eq (g2 := F0 m 675 ls [.int 4, .ref b, .int (xs 3), .int (xs 2), .int (xs 1), .ref a0]) rfl ?_
  refine va_sld hx hb hXs hbl hbA hS (i := 4) (show ¬ ((4 : Int32) < 0 ∨ 6 ≤ (4 : Int32).toNatClampNeg) by decide) dL_law_675 ?_
  refine W.eq (g2 := F0 m 676 ls [.int (xs 4), .int (xs 3), .int (xs 2), .int (xs 1), .ref a0]) rfl ?_
  obtain ⟨hPc, hDc, hFc⟩ := xcut (wc := [(a0, .inr (0, [v3, v4, v5, v6, v7, v8, v9, v10]))]) hP hD hS hA [0] rfl rfl (by decide)
  refine va_calli (vx_runSW (As := [.ref a0, .int (xs 1), .int (xs 2), .int (xs 3), .int (xs 4)]) (rest := []) ⟨hx, hb, hml, hown, htx⟩ (cL_two_0 l hl9 D cT aK aV H.size a0 (xs 1) (xs 2) (xs 3) (xs 4) v3 v4 v5 v6 v7 v8 v9 v10 hto1) (xcSW 5 htx (xw_goodC kw_4_139) rfl rfl rfl (htx _ kw_1_0) (htx _ kw_4_137) ⟨by decide, by decide, by decide +kernel⟩ ⟨Nat.le_of_ble_eq_true rfl, Nat.le_of_ble_eq_true rfl⟩ (htx _ kw_4_138)) ⟨xPre_blind, (fun U hU hW => ⟨rfl, xPre_of hZ hS hFc hPc hDc hK U hU hW⟩)⟩ rfl rfl hl.1 rfl (lv_room (Nat.le_of_ble_eq_true rfl)) dL_law_676 ⟨Nat.le_of_ble_eq_true rfl, Nat.le_of_ble_eq_true rfl⟩) hS (fun q _ h => hFc q h) hFc (fun r1 u9 t H1 locs ht hvm hr9 hB hz1 hk1 hS => ?_)
  obtain ⟨hP1, hK1, hD1⟩ := hB
  rw [ht] at hP1
  obtain ⟨hP, hD⟩ := xjoin (W := [(a1, .inr (5, [v11, v12, v13, v14, v15, v16, v17, v18, v19, v20, v21, v22, v23, v24, v25, v26, v27, v28, v29, v30, v31, v32, v33, v34, v35, v36, v37, v38, v39, v40, v41, v42])), (a2, .inl (cT 2, 1, .inr (.inl f43))), (a0, .inr (0, [v3, v4, v5, v6, v7, v8, v9, v10]))]) hP hD [0] [1, 2] 2 rfl rfl (by decide) (by decide) hk1 hFc hP1 hD1
  generalize H1 = H at hP hS ⊢
  rw [hr9]
  refine W.eq (g2 := F0 m 679 ls [.int 1]) rfl ?_
  refine lv_istore (lv' := [(5, .int 1), (4, .int 0), (3, .ref a2), (2, .ref a1), (1, .ref a0), (0, .ref b)]) hx hb dL_law_679 hl (by decide) rfl (fun ls hl => ?_)
  refine lv_aload_n hx hb dL_law_681 rfl (lv_at hl 3 rfl) ?_
  refine lv_aload_n hx hb dL_law_682 rfl (lv_at hl 5 rfl) ?_
  refine lv_iload hx hb dL_law_683 (lv_at hl 1 rfl) ?_
  refine lv_iconst (v := 1) hx hb dL_law_685 (by decide) ?_
  refine lv_iadd hx hb dL_law_686 ?_
  refine W.eq (g2 := F0 m 687 ls [.int 1, .ref b, .ref a1]) rfl ?_
  refine va_sld hx hb hXs hbl hbA hS (i := 1) (show ¬ ((1 : Int32) < 0 ∨ 6 ≤ (1 : Int32).toNatClampNeg) by decide) dL_law_687 ?_
  refine W.eq (g2 := F0 m 688 ls [.int (xs 1), .ref a1]) rfl ?_
  refine lv_aload_n hx hb dL_law_688 rfl (lv_at hl 5 rfl) ?_
  refine lv_iload hx hb dL_law_689 (lv_at hl 1 rfl) ?_
  refine lv_iconst (v := 2) hx hb dL_law_691 (by decide) ?_
  refine lv_iadd hx hb dL_law_692 ?_
  refine W.eq (g2 := F0 m 693 ls [.int 2, .ref b, .int (xs 1), .ref a1]) rfl ?_
  refine va_sld hx hb hXs hbl hbA hS (i := 2) (show ¬ ((2 : Int32) < 0 ∨ 6 ≤ (2 : Int32).toNatClampNeg) by decide) dL_law_693 ?_
  refine W.eq (g2 := F0 m 694 ls [.int (xs 2), .int (xs 1), .ref a1]) rfl ?_
  refine lv_aload_n hx hb dL_law_694 rfl (lv_at hl 5 rfl) ?_
  refine lv_iload hx hb dL_law_695 (lv_at hl 1 rfl) ?_
  refine lv_iconst (v := 3) hx hb dL_law_697 (by decide) ?_
  refine lv_iadd hx hb dL_law_698 ?_
  refine W.eq (g2 := F0 m 699 ls [.int 3, .ref b, .int (xs 2), .int (xs 1), .ref a1]) rfl ?_
  refine va_sld hx hb hXs hbl hbA hS (i := 3) (show ¬ ((3 : Int32) < 0 ∨ 6 ≤ (3 : Int32).toNatClampNeg) by decide) dL_law_699 ?_
  refine W.eq (g2 := F0 m 700 ls [.int (xs 3), .int (xs 2), .int (xs 1), .ref a1]) rfl ?_
  refine lv_aload_n hx hb dL_law_700 rfl (lv_at hl 5 rfl) ?_
  refine lv_iload hx hb dL_law_701 (lv_at hl 1 rfl) ?_
  refine lv_iconst (v := 4) hx hb dL_law_703 (by decide) ?_
  refine lv_iadd hx hb dL_law_704 ?_
  refine W.eq (g2 := F0 m 705 ls [.int 4, .ref b, .int (xs 3), .int (xs 2), .int (xs 1), .ref a1]) rfl ?_
  refine va_sld hx hb hXs hbl hbA hS (i := 4) (show ¬ ((4 : Int32) < 0 ∨ 6 ≤ (4 : Int32).toNatClampNeg) by decide) dL_law_705 ?_
  refine W.eq (g2 := F0 m 706 ls [.int (xs 4), .int (xs 3), .int (xs 2), .int (xs 1), .ref a1]) rfl ?_
  obtain ⟨hPc, hDc, hFc⟩ := xcut (wc := [(a1, .inr (5, [v11, v12, v13, v14, v15, v16, v17, v18, v19, v20, v21, v22, v23, v24, v25, v26, v27, v28, v29, v30, v31, v32, v33, v34, v35, v36, v37, v38, v39, v40, v41, v42]))]) hP hD hS hA [0] rfl rfl (by decide)
  refine va_callv (va_runV (C := "ValueBenchModel") (As := [.int (xs 1), .int (xs 2), .int (xs 3), .int (xs 4)]) (rest := []) ⟨hx, hb, hml, hown, htx⟩ (cM_two0_0 l hl9 D cT aK aV H.size a1 (xs 1) (xs 2) (xs 3) (xs 4) v11 v12 v13 v14 v15 v16 v17 v18 v19 v20 v21 v22 v23 v24 v25 v26 v27 v28 v29 v30 v31 v32 v33 v34 v35 v36 v37 v38 v39 v40 v41 v42 hto1) ⟨callB_of 4 htx (xw_goodC kw_7_127) rfl rfl rfl (htx _ kw_1_5) (htx _ kw_7_124) ⟨by decide, by decide, by decide +kernel⟩ ⟨Nat.le_of_ble_eq_true rfl, Nat.le_of_ble_eq_true rfl⟩, (htx _ kw_7_125), (htx _ kw_7_126)⟩ ⟨xPre_blind, va_recv hK hP (ci := 5) rfl (q0 := 0) rfl, (fun U hU hW => ⟨rfl, xPre_of hZ hS hFc hPc hDc hK U hU hW⟩)⟩ rfl rfl hl.1 rfl (lv_room (Nat.le_of_ble_eq_true rfl)) dL_law_706 ⟨Nat.le_of_ble_eq_true rfl, Nat.le_of_ble_eq_true rfl⟩) hS (fun q _ h => hFc q h) hFc (fun u9 t H1 locs ht hvm hr9 hB hz1 hk1 hS => ?_)
  obtain ⟨hP1, hK1, hD1⟩ := hB
  rw [ht] at hP1
  obtain ⟨hP, hD⟩ := xjoin (W := [(a2, .inl (cT 2, 1, .inr (.inl f43))), (a0, .inr (0, [v3, v4, v5, v6, v7, v8, v9, v10])), (a1, .inr (5, [.int 1, v12, .int 0, v14, .int 0, v16, v17, .int 0, v19, .int 0, v21, v22, .int 0, v24, v25, v26, v27, v28, v29, v30, v31, v32, .int 0, .int 1000000000, v35, v36, v37, v38, v39, v40, v41, v42]))]) hP hD [0] [1, 2] 2 rfl rfl (by decide) (by decide) hk1 hFc hP1 hD1
  generalize H1 = H at hP hS ⊢
  refine lv_aload_n hx hb dL_law_709 rfl (lv_at hl 3 rfl) ?_
  obtain ⟨hPc, hDc, hFc⟩ := xcut (wc := [(a1, .inr (5, [.int 1, v12, .int 0, v14, .int 0, v16, v17, .int 0, v19, .int 0, v21, v22, .int 0, v24, v25, v26, v27, v28, v29, v30, v31, v32, .int 0, .int 1000000000, v35, v36, v37, v38, v39, v40, v41, v42]))]) hP hD hS hA [2] rfl rfl (by decide)
  refine va_calli (va_runV (C := "ValueBenchModel") (As := []) (rest := []) ⟨hx, hb, hml, hown, htx⟩ (cM_thrown_1 l hl9 D cT aK aV H.size a1 v12 (.int 0) v14 (.int 0) v16 v17 (.int 0) v19 (.int 0) v21 v22 (.int 0) v24 v25 v26 v27 v28 v29 v30 v31 v32 (.int 0) (.int 1000000000) v35 v36 v37 v38 v39 v40 v41 v42) ⟨callB_of 0 htx (xw_goodC kw_5_187) rfl rfl rfl (htx _ kw_1_5) (htx _ kw_5_184) ⟨by decide, by decide, by decide +kernel⟩ ⟨Nat.le_of_ble_eq_true rfl, Nat.le_of_ble_eq_true rfl⟩, (htx _ kw_5_185), (htx _ kw_5_186)⟩ ⟨xPre_blind, va_recv hK hP (ci := 5) rfl (q0 := 2) rfl, (fun U hU hW => ⟨rfl, xPre_of hZ hS hFc hPc hDc hK U hU hW⟩)⟩ rfl rfl hl.1 rfl (lv_room (Nat.le_of_ble_eq_true rfl)) dL_law_710 ⟨Nat.le_of_ble_eq_true rfl, Nat.le_of_ble_eq_true rfl⟩) hS (fun q _ h => hFc q h) hFc (fun r2 u9 t H1 locs ht hvm hr9 hB hz1 hk1 hS => ?_)
  obtain ⟨hP1, hK1, hD1⟩ := hB
  rw [ht] at hP1
  obtain ⟨hP, hD⟩ := xjoin (W := [(a2, .inl (cT 2, 1, .inr (.inl f43))), (a0, .inr (0, [v3, v4, v5, v6, v7, v8, v9, v10])), (a1, .inr (5, [.int 1, v12, .int 0, v14, .int 0, v16, v17, .int 0, v19, .int 0, v21, v22, .int 0, v24, v25, v26, v27, v28, v29, v30, v31, v32, .int 0, .int 1000000000, v35, v36, v37, v38, v39, v40, v41, v42]))]) hP hD [2] [0, 1] 2 rfl rfl (by decide) (by decide) hk1 hFc hP1 hD1
  generalize H1 = H at hP hS ⊢
  rw [hr9]
  refine W.eq (g2 := F0 m 713 ls [.int 1]) rfl ?_
  refine lv_iload hx hb dL_law_713 (lv_at hl 0 rfl) ?_
  refine lv_icmp_eq (tgt := 720) hx hb dL_law_715 (by decide) (fun _ => ?_) (fun h => ((by revert h; decide : False)).elim)
  refine lv_goto (tgt := 906) hx hb dL_law_720 (by decide) ?_
  refine lv_iinc (v := 6) (lv' := [(4, .int 6), (5, .int 1), (3, .ref a2), (2, .ref a1), (1, .ref a0), (0, .ref b)]) hx hb dL_law_906 hl (k := 1) rfl (by decide) (by decide) rfl (fun ls hl => ?_)
  refine lv_goto (tgt := 23) hx hb dL_law_909 (by decide) ?_
  refine lv_iload hx hb dL_law_23 (lv_at hl 0 rfl) ?_
  refine lv_aload_n hx hb dL_law_25 rfl (lv_at hl 5 rfl) ?_
  refine va_slen hx hb hXs hbl hbA hS dL_law_26 ?_
  refine W.eq (g2 := F0 m 27 ls [.int 6, .int 6]) rfl ?_
  refine lv_bipush (v := 6) hx hb dL_law_27 (by decide) ?_
  refine lv_isub hx hb dL_law_29 ?_
  refine W.eq (g2 := F0 m 30 ls [.int 0, .int 6]) rfl ?_
  refine lv_icmp_gt (tgt := 912) hx hb dL_law_30 (by decide) (fun _ => ?_) (fun h => ((by revert h; decide : False)).elim)
  refine lv_iconst (v := 1) hx hb dL_law_912 (by decide) ?_
  exact va_forget (fun q h => hA2 _ (hS.2.2 q h)) (W.widen (k := 600002) (n := 7302232) (Nat.le_of_ble_eq_true rfl) (Nat.le_of_ble_eq_true rfl) (lw_ret hx hb hr hlocks dL_law_913))
set_option maxHeartbeats 400000000 in
set_option maxRecDepth 100000 in
theorem lf_two_tohi {p : Program} {e : Env} {s : State} {m : MethodId} {below : List Frame} {meth : Method} {c : Code} (l : Launch) (hl9 : l.stackTraces = false) (D : va_G) (cT : Nat → ClassId) (aK aV : Nat → Nat) {A : Nat → Prop} {b : Nat} {xs : Nat → Int32} (C : xLw p s m meth c b D cT aK aV A) {H : Heap} {locs : List Loc} {ls : Array Slot} (a0 : Nat) (a1 : Nat) (a2 : Nat) (v3 : Value) (v4 : Value) (v5 : Value) (v6 : Value) (v7 : Value) (v8 : Value) (v9 : Value) (v10 : Value) (v11 : Value) (v12 : Value) (v13 : Value) (v14 : Value) (v15 : Value) (v16 : Value) (v17 : Value) (v18 : Value) (v19 : Value) (v20 : Value) (v21 : Value) (v22 : Value) (v23 : Value) (v24 : Value) (v25 : Value) (v26 : Value) (v27 : Value) (v28 : Value) (v29 : Value) (v30 : Value) (v31 : Value) (v32 : Value) (v33 : Value) (v34 : Value) (v35 : Value) (v36 : Value) (v37 : Value) (v38 : Value) (v39 : Value) (v40 : Value) (v41 : Value) (v42 : Value) (f43 : Nat → Int64) (hto1 : ¬ (xs 1) < 0) (hto2 : 7 < (xs 1)) (hto3 : ¬ (xs 1) ≤ 7) (hXs : va_X b 6 xs s s.heap) (hP : va_P D xcl [(a0, .inr (0, [v3, v4, v5, v6, v7, v8, v9, v10])), (a1, .inr (5, [v11, v12, v13, v14, v15, v16, v17, v18, v19, v20, v21, v22, v23, v24, v25, v26, v27, v28, v29, v30, v31, v32, v33, v34, v35, v36, v37, v38, v39, v40, v41, v42])), (a2, .inl (cT 2, 1, .inr (.inl f43)))] H) (hD : va_D A [(a0, .inr (0, [v3, v4, v5, v6, v7, v8, v9, v10])), (a1, .inr (5, [v11, v12, v13, v14, v15, v16, v17, v18, v19, v20, v21, v22, v23, v24, v25, v26, v27, v28, v29, v30, v31, v32, v33, v34, v35, v36, v37, v38, v39, v40, v41, v42])), (a2, .inl (cT 2, 1, .inr (.inl f43)))]) (hS : va_S A s.heap H locs) (hl : lv_has ls 8 [(4, .int 0), (3, .ref a2), (2, .ref a1), (1, .ref a0), (0, .ref b)]) : W p l e room_1 s m #[Value.ref b] below meth c H locs 54 107242 (lw_Z below #[Value.ref b] s) (F0 m 651 ls []) := by
  obtain ⟨hx, hb, hr, hml, hown, htx, hbl, hbA, hlocks, hK, hZ, hA, hA2⟩ := C
  refine lv_aload_n hx hb dL_law_651 rfl (lv_at hl 3 rfl) ?_
  refine lv_aload_n hx hb dL_law_652 rfl (lv_at hl 4 rfl) ?_
  refine lv_iload hx hb dL_law_653 (lv_at hl 0 rfl) ?_
  refine lv_iconst (v := 1) hx hb dL_law_655 (by decide) ?_
  refine lv_iadd hx hb dL_law_656 ?_
  refine W.eq (g2 := F0 m 657 ls [.int 1, .ref b, .ref a0]) rfl ?_
  refine va_sld hx hb hXs hbl hbA hS (i := 1) (show ¬ ((1 : Int32) < 0 ∨ 6 ≤ (1 : Int32).toNatClampNeg) by decide) dL_law_657 ?_
  refine W.eq (g2 := F0 m 658 ls [.int (xs 1), .ref a0]) rfl ?_
  refine lv_aload_n hx hb dL_law_658 rfl (lv_at hl 4 rfl) ?_
  refine lv_iload hx hb dL_law_659 (lv_at hl 0 rfl) ?_
  refine lv_iconst (v := 2) hx hb dL_law_661 (by decide) ?_
  refine lv_iadd hx hb dL_law_662 ?_
  refine W.eq (g2 := F0 m 663 ls [.int 2, .ref b, .int (xs 1), .ref a0]) rfl ?_
  refine va_sld hx hb hXs hbl hbA hS (i := 2) (show ¬ ((2 : Int32) < 0 ∨ 6 ≤ (2 : Int32).toNatClampNeg) by decide) dL_law_663 ?_
  refine W.eq (g2 := F0 m 664 ls [.int (xs 2), .int (xs 1), .ref a0]) rfl ?_
  refine lv_aload_n hx hb dL_law_664 rfl (lv_at hl 4 rfl) ?_
  refine lv_iload hx hb dL_law_665 (lv_at hl 0 rfl) ?_
  refine lv_iconst (v := 3) hx hb dL_law_667 (by decide) ?_
  refine lv_iadd hx hb dL_law_668 ?_
  refine W.eq (g2 := F0 m 669 ls [.int 3, .ref b, .int (xs 2), .int (xs 1), .ref a0]) rfl ?_
  refine va_sld hx hb hXs hbl hbA hS (i := 3) (show ¬ ((3 : Int32) < 0 ∨ 6 ≤ (3 : Int32).toNatClampNeg) by decide) dL_law_669 ?_
  refine W.eq (g2 := F0 m 670 ls [.int (xs 3), .int (xs 2), .int (xs 1), .ref a0]) rfl ?_
  refine lv_aload_n hx hb dL_law_670 rfl (lv_at hl 4 rfl) ?_
  refine lv_iload hx hb dL_law_671 (lv_at hl 0 rfl) ?_
  refine lv_iconst (v := 4) hx hb dL_law_673 (by decide) ?_
  refine lv_iadd hx hb dL_law_674 ?_
  refine W.eq (g2 := F0 m 675 ls [.int 4, .ref b, .int (xs 3), .int (xs 2), .int (xs 1), .ref a0]) rfl ?_
  refine va_sld hx hb hXs hbl hbA hS (i := 4) (show ¬ ((4 : Int32) < 0 ∨ 6 ≤ (4 : Int32).toNatClampNeg) by decide) dL_law_675 ?_
  refine W.eq (g2 := F0 m 676 ls [.int (xs 4), .int (xs 3), .int (xs 2), .int (xs 1), .ref a0]) rfl ?_
  obtain ⟨hPc, hDc, hFc⟩ := xcut (wc := [(a0, .inr (0, [v3, v4, v5, v6, v7, v8, v9, v10]))]) hP hD hS hA [0] rfl rfl (by decide)
  refine va_calli (vx_runSW (As := [.ref a0, .int (xs 1), .int (xs 2), .int (xs 3), .int (xs 4)]) (rest := []) ⟨hx, hb, hml, hown, htx⟩ (cL_two_1 l hl9 D cT aK aV H.size a0 (xs 1) (xs 2) (xs 3) (xs 4) v3 v4 v5 v6 v7 v8 v9 v10 hto1 hto2 hto3) (xcSW 5 htx (xw_goodC kw_4_139) rfl rfl rfl (htx _ kw_1_0) (htx _ kw_4_137) ⟨by decide, by decide, by decide +kernel⟩ ⟨Nat.le_of_ble_eq_true rfl, Nat.le_of_ble_eq_true rfl⟩ (htx _ kw_4_138)) ⟨xPre_blind, (fun U hU hW => ⟨rfl, xPre_of hZ hS hFc hPc hDc hK U hU hW⟩)⟩ rfl rfl hl.1 rfl (lv_room (Nat.le_of_ble_eq_true rfl)) dL_law_676 ⟨Nat.le_of_ble_eq_true rfl, Nat.le_of_ble_eq_true rfl⟩) hS (fun q _ h => hFc q h) hFc (fun r1 u9 t H1 locs ht hvm hr9 hB hz1 hk1 hS => ?_)
  obtain ⟨hP1, hK1, hD1⟩ := hB
  rw [ht] at hP1
  obtain ⟨hP, hD⟩ := xjoin (W := [(a1, .inr (5, [v11, v12, v13, v14, v15, v16, v17, v18, v19, v20, v21, v22, v23, v24, v25, v26, v27, v28, v29, v30, v31, v32, v33, v34, v35, v36, v37, v38, v39, v40, v41, v42])), (a2, .inl (cT 2, 1, .inr (.inl f43))), (a0, .inr (0, [v3, v4, v5, v6, v7, v8, v9, v10]))]) hP hD [0] [1, 2] 2 rfl rfl (by decide) (by decide) hk1 hFc hP1 hD1
  generalize H1 = H at hP hS ⊢
  rw [hr9]
  refine W.eq (g2 := F0 m 679 ls [.int 1]) rfl ?_
  refine lv_istore (lv' := [(5, .int 1), (4, .int 0), (3, .ref a2), (2, .ref a1), (1, .ref a0), (0, .ref b)]) hx hb dL_law_679 hl (by decide) rfl (fun ls hl => ?_)
  refine lv_aload_n hx hb dL_law_681 rfl (lv_at hl 3 rfl) ?_
  refine lv_aload_n hx hb dL_law_682 rfl (lv_at hl 5 rfl) ?_
  refine lv_iload hx hb dL_law_683 (lv_at hl 1 rfl) ?_
  refine lv_iconst (v := 1) hx hb dL_law_685 (by decide) ?_
  refine lv_iadd hx hb dL_law_686 ?_
  refine W.eq (g2 := F0 m 687 ls [.int 1, .ref b, .ref a1]) rfl ?_
  refine va_sld hx hb hXs hbl hbA hS (i := 1) (show ¬ ((1 : Int32) < 0 ∨ 6 ≤ (1 : Int32).toNatClampNeg) by decide) dL_law_687 ?_
  refine W.eq (g2 := F0 m 688 ls [.int (xs 1), .ref a1]) rfl ?_
  refine lv_aload_n hx hb dL_law_688 rfl (lv_at hl 5 rfl) ?_
  refine lv_iload hx hb dL_law_689 (lv_at hl 1 rfl) ?_
  refine lv_iconst (v := 2) hx hb dL_law_691 (by decide) ?_
  refine lv_iadd hx hb dL_law_692 ?_
  refine W.eq (g2 := F0 m 693 ls [.int 2, .ref b, .int (xs 1), .ref a1]) rfl ?_
  refine va_sld hx hb hXs hbl hbA hS (i := 2) (show ¬ ((2 : Int32) < 0 ∨ 6 ≤ (2 : Int32).toNatClampNeg) by decide) dL_law_693 ?_
  refine W.eq (g2 := F0 m 694 ls [.int (xs 2), .int (xs 1), .ref a1]) rfl ?_
  refine lv_aload_n hx hb dL_law_694 rfl (lv_at hl 5 rfl) ?_
  refine lv_iload hx hb dL_law_695 (lv_at hl 1 rfl) ?_
  refine lv_iconst (v := 3) hx hb dL_law_697 (by decide) ?_
  refine lv_iadd hx hb dL_law_698 ?_
  refine W.eq (g2 := F0 m 699 ls [.int 3, .ref b, .int (xs 2), .int (xs 1), .ref a1]) rfl ?_
  refine va_sld hx hb hXs hbl hbA hS (i := 3) (show ¬ ((3 : Int32) < 0 ∨ 6 ≤ (3 : Int32).toNatClampNeg) by decide) dL_law_699 ?_
  refine W.eq (g2 := F0 m 700 ls [.int (xs 3), .int (xs 2), .int (xs 1), .ref a1]) rfl ?_
  refine lv_aload_n hx hb dL_law_700 rfl (lv_at hl 5 rfl) ?_
  refine lv_iload hx hb dL_law_701 (lv_at hl 1 rfl) ?_
  refine lv_iconst (v := 4) hx hb dL_law_703 (by decide) ?_
  refine lv_iadd hx hb dL_law_704 ?_
  refine W.eq (g2 := F0 m 705 ls [.int 4, .ref b, .int (xs 3), .int (xs 2), .int (xs 1), .ref a1]) rfl ?_
  refine va_sld hx hb hXs hbl hbA hS (i := 4) (show ¬ ((4 : Int32) < 0 ∨ 6 ≤ (4 : Int32).toNatClampNeg) by decide) dL_law_705 ?_
  refine W.eq (g2 := F0 m 706 ls [.int (xs 4), .int (xs 3), .int (xs 2), .int (xs 1), .ref a1]) rfl ?_
  obtain ⟨hPc, hDc, hFc⟩ := xcut (wc := [(a1, .inr (5, [v11, v12, v13, v14, v15, v16, v17, v18, v19, v20, v21, v22, v23, v24, v25, v26, v27, v28, v29, v30, v31, v32, v33, v34, v35, v36, v37, v38, v39, v40, v41, v42]))]) hP hD hS hA [0] rfl rfl (by decide)
  refine va_callv (va_runV (C := "ValueBenchModel") (As := [.int (xs 1), .int (xs 2), .int (xs 3), .int (xs 4)]) (rest := []) ⟨hx, hb, hml, hown, htx⟩ (cM_two0_1 l hl9 D cT aK aV H.size a1 (xs 1) (xs 2) (xs 3) (xs 4) v11 v12 v13 v14 v15 v16 v17 v18 v19 v20 v21 v22 v23 v24 v25 v26 v27 v28 v29 v30 v31 v32 v33 v34 v35 v36 v37 v38 v39 v40 v41 v42 hto1 hto2 hto3) ⟨callB_of 4 htx (xw_goodC kw_7_127) rfl rfl rfl (htx _ kw_1_5) (htx _ kw_7_124) ⟨by decide, by decide, by decide +kernel⟩ ⟨Nat.le_of_ble_eq_true rfl, Nat.le_of_ble_eq_true rfl⟩, (htx _ kw_7_125), (htx _ kw_7_126)⟩ ⟨xPre_blind, va_recv hK hP (ci := 5) rfl (q0 := 0) rfl, (fun U hU hW => ⟨rfl, xPre_of hZ hS hFc hPc hDc hK U hU hW⟩)⟩ rfl rfl hl.1 rfl (lv_room (Nat.le_of_ble_eq_true rfl)) dL_law_706 ⟨Nat.le_of_ble_eq_true rfl, Nat.le_of_ble_eq_true rfl⟩) hS (fun q _ h => hFc q h) hFc (fun u9 t H1 locs ht hvm hr9 hB hz1 hk1 hS => ?_)
  obtain ⟨hP1, hK1, hD1⟩ := hB
  rw [ht] at hP1
  obtain ⟨hP, hD⟩ := xjoin (W := [(a2, .inl (cT 2, 1, .inr (.inl f43))), (a0, .inr (0, [v3, v4, v5, v6, v7, v8, v9, v10])), (a1, .inr (5, [.int 1, v12, .int 0, v14, .int 0, v16, v17, .int 0, v19, .int 0, v21, v22, .int 0, v24, v25, v26, v27, v28, v29, v30, v31, v32, .int 0, .int 1000000000, v35, v36, v37, v38, v39, v40, v41, v42]))]) hP hD [0] [1, 2] 2 rfl rfl (by decide) (by decide) hk1 hFc hP1 hD1
  generalize H1 = H at hP hS ⊢
  refine lv_aload_n hx hb dL_law_709 rfl (lv_at hl 3 rfl) ?_
  obtain ⟨hPc, hDc, hFc⟩ := xcut (wc := [(a1, .inr (5, [.int 1, v12, .int 0, v14, .int 0, v16, v17, .int 0, v19, .int 0, v21, v22, .int 0, v24, v25, v26, v27, v28, v29, v30, v31, v32, .int 0, .int 1000000000, v35, v36, v37, v38, v39, v40, v41, v42]))]) hP hD hS hA [2] rfl rfl (by decide)
  refine va_calli (va_runV (C := "ValueBenchModel") (As := []) (rest := []) ⟨hx, hb, hml, hown, htx⟩ (cM_thrown_1 l hl9 D cT aK aV H.size a1 v12 (.int 0) v14 (.int 0) v16 v17 (.int 0) v19 (.int 0) v21 v22 (.int 0) v24 v25 v26 v27 v28 v29 v30 v31 v32 (.int 0) (.int 1000000000) v35 v36 v37 v38 v39 v40 v41 v42) ⟨callB_of 0 htx (xw_goodC kw_5_187) rfl rfl rfl (htx _ kw_1_5) (htx _ kw_5_184) ⟨by decide, by decide, by decide +kernel⟩ ⟨Nat.le_of_ble_eq_true rfl, Nat.le_of_ble_eq_true rfl⟩, (htx _ kw_5_185), (htx _ kw_5_186)⟩ ⟨xPre_blind, va_recv hK hP (ci := 5) rfl (q0 := 2) rfl, (fun U hU hW => ⟨rfl, xPre_of hZ hS hFc hPc hDc hK U hU hW⟩)⟩ rfl rfl hl.1 rfl (lv_room (Nat.le_of_ble_eq_true rfl)) dL_law_710 ⟨Nat.le_of_ble_eq_true rfl, Nat.le_of_ble_eq_true rfl⟩) hS (fun q _ h => hFc q h) hFc (fun r2 u9 t H1 locs ht hvm hr9 hB hz1 hk1 hS => ?_)
  obtain ⟨hP1, hK1, hD1⟩ := hB
  rw [ht] at hP1
  obtain ⟨hP, hD⟩ := xjoin (W := [(a2, .inl (cT 2, 1, .inr (.inl f43))), (a0, .inr (0, [v3, v4, v5, v6, v7, v8, v9, v10])), (a1, .inr (5, [.int 1, v12, .int 0, v14, .int 0, v16, v17, .int 0, v19, .int 0, v21, v22, .int 0, v24, v25, v26, v27, v28, v29, v30, v31, v32, .int 0, .int 1000000000, v35, v36, v37, v38, v39, v40, v41, v42]))]) hP hD [2] [0, 1] 2 rfl rfl (by decide) (by decide) hk1 hFc hP1 hD1
  generalize H1 = H at hP hS ⊢
  rw [hr9]
  refine W.eq (g2 := F0 m 713 ls [.int 1]) rfl ?_
  refine lv_iload hx hb dL_law_713 (lv_at hl 0 rfl) ?_
  refine lv_icmp_eq (tgt := 720) hx hb dL_law_715 (by decide) (fun _ => ?_) (fun h => ((by revert h; decide : False)).elim)
  refine lv_goto (tgt := 906) hx hb dL_law_720 (by decide) ?_
  refine lv_iinc (v := 6) (lv' := [(4, .int 6), (5, .int 1), (3, .ref a2), (2, .ref a1), (1, .ref a0), (0, .ref b)]) hx hb dL_law_906 hl (k := 1) rfl (by decide) (by decide) rfl (fun ls hl => ?_)
  refine lv_goto (tgt := 23) hx hb dL_law_909 (by decide) ?_
  refine lv_iload hx hb dL_law_23 (lv_at hl 0 rfl) ?_
  refine lv_aload_n hx hb dL_law_25 rfl (lv_at hl 5 rfl) ?_
  refine va_slen hx hb hXs hbl hbA hS dL_law_26 ?_
  refine W.eq (g2 := F0 m 27 ls [.int 6, .int 6]) rfl ?_
  refine lv_bipush (v := 6) hx hb dL_law_27 (by decide) ?_
  refine lv_isub hx hb dL_law_29 ?_
  refine W.eq (g2 := F0 m 30 ls [.int 0, .int 6]) rfl ?_
  refine lv_icmp_gt (tgt := 912) hx hb dL_law_30 (by decide) (fun _ => ?_) (fun h => ((by revert h; decide : False)).elim)
  refine lv_iconst (v := 1) hx hb dL_law_912 (by decide) ?_
  exact va_forget (fun q h => hA2 _ (hS.2.2 q h)) (W.widen (k := 600002) (n := 7302232) (Nat.le_of_ble_eq_true rfl) (Nat.le_of_ble_eq_true rfl) (lw_ret hx hb hr hlocks dL_law_913))
set_option maxHeartbeats 400000000 in
set_option maxRecDepth 100000 in
theorem lf_two_flo {p : Program} {e : Env} {s : State} {m : MethodId} {below : List Frame} {meth : Method} {c : Code} (l : Launch) (hl9 : l.stackTraces = false) (D : va_G) (cT : Nat → ClassId) (aK aV : Nat → Nat) {A : Nat → Prop} {b : Nat} {xs : Nat → Int32} (C : xLw p s m meth c b D cT aK aV A) {H : Heap} {locs : List Loc} {ls : Array Slot} (a0 : Nat) (a1 : Nat) (a2 : Nat) (v3 : Value) (v4 : Value) (v5 : Value) (v6 : Value) (v7 : Value) (v8 : Value) (v9 : Value) (v10 : Value) (v11 : Value) (v12 : Value) (v13 : Value) (v14 : Value) (v15 : Value) (v16 : Value) (v17 : Value) (v18 : Value) (v19 : Value) (v20 : Value) (v21 : Value) (v22 : Value) (v23 : Value) (v24 : Value) (v25 : Value) (v26 : Value) (v27 : Value) (v28 : Value) (v29 : Value) (v30 : Value) (v31 : Value) (v32 : Value) (v33 : Value) (v34 : Value) (v35 : Value) (v36 : Value) (v37 : Value) (v38 : Value) (v39 : Value) (v40 : Value) (v41 : Value) (v42 : Value) (f43 : Nat → Int64) (hto1 : ¬ (xs 1) < 0) (hto2 : ¬ 7 < (xs 1)) (hto3 : (xs 1) ≤ 7) (hto4 : vp_in (xs 1) 8) (hf1 : (xs 2) < 0) (hXs : va_X b 6 xs s s.heap) (hP : va_P D xcl [(a0, .inr (0, [v3, v4, v5, v6, v7, v8, v9, v10])), (a1, .inr (5, [v11, v12, v13, v14, v15, v16, v17, v18, v19, v20, v21, v22, v23, v24, v25, v26, v27, v28, v29, v30, v31, v32, v33, v34, v35, v36, v37, v38, v39, v40, v41, v42])), (a2, .inl (cT 2, 1, .inr (.inl f43)))] H) (hD : va_D A [(a0, .inr (0, [v3, v4, v5, v6, v7, v8, v9, v10])), (a1, .inr (5, [v11, v12, v13, v14, v15, v16, v17, v18, v19, v20, v21, v22, v23, v24, v25, v26, v27, v28, v29, v30, v31, v32, v33, v34, v35, v36, v37, v38, v39, v40, v41, v42])), (a2, .inl (cT 2, 1, .inr (.inl f43)))]) (hS : va_S A s.heap H locs) (hl : lv_has ls 8 [(4, .int 0), (3, .ref a2), (2, .ref a1), (1, .ref a0), (0, .ref b)]) : W p l e room_1 s m #[Value.ref b] below meth c H locs 54 107242 (lw_Z below #[Value.ref b] s) (F0 m 651 ls []) := by
  obtain ⟨hx, hb, hr, hml, hown, htx, hbl, hbA, hlocks, hK, hZ, hA, hA2⟩ := C
  refine lv_aload_n hx hb dL_law_651 rfl (lv_at hl 3 rfl) ?_
  refine lv_aload_n hx hb dL_law_652 rfl (lv_at hl 4 rfl) ?_
  refine lv_iload hx hb dL_law_653 (lv_at hl 0 rfl) ?_
  refine lv_iconst (v := 1) hx hb dL_law_655 (by decide) ?_
  refine lv_iadd hx hb dL_law_656 ?_
  refine W.eq (g2 := F0 m 657 ls [.int 1, .ref b, .ref a0]) rfl ?_
  refine va_sld hx hb hXs hbl hbA hS (i := 1) (show ¬ ((1 : Int32) < 0 ∨ 6 ≤ (1 : Int32).toNatClampNeg) by decide) dL_law_657 ?_
  refine W.eq (g2 := F0 m 658 ls [.int (xs 1), .ref a0]) rfl ?_
  refine lv_aload_n hx hb dL_law_658 rfl (lv_at hl 4 rfl) ?_
  refine lv_iload hx hb dL_law_659 (lv_at hl 0 rfl) ?_
  refine lv_iconst (v := 2) hx hb dL_law_661 (by decide) ?_
  refine lv_iadd hx hb dL_law_662 ?_
  refine W.eq (g2 := F0 m 663 ls [.int 2, .ref b, .int (xs 1), .ref a0]) rfl ?_
  refine va_sld hx hb hXs hbl hbA hS (i := 2) (show ¬ ((2 : Int32) < 0 ∨ 6 ≤ (2 : Int32).toNatClampNeg) by decide) dL_law_663 ?_
  refine W.eq (g2 := F0 m 664 ls [.int (xs 2), .int (xs 1), .ref a0]) rfl ?_
  refine lv_aload_n hx hb dL_law_664 rfl (lv_at hl 4 rfl) ?_
  refine lv_iload hx hb dL_law_665 (lv_at hl 0 rfl) ?_
  refine lv_iconst (v := 3) hx hb dL_law_667 (by decide) ?_
  refine lv_iadd hx hb dL_law_668 ?_
  refine W.eq (g2 := F0 m 669 ls [.int 3, .ref b, .int (xs 2), .int (xs 1), .ref a0]) rfl ?_
  refine va_sld hx hb hXs hbl hbA hS (i := 3) (show ¬ ((3 : Int32) < 0 ∨ 6 ≤ (3 : Int32).toNatClampNeg) by decide) dL_law_669 ?_
  refine W.eq (g2 := F0 m 670 ls [.int (xs 3), .int (xs 2), .int (xs 1), .ref a0]) rfl ?_
  refine lv_aload_n hx hb dL_law_670 rfl (lv_at hl 4 rfl) ?_
  refine lv_iload hx hb dL_law_671 (lv_at hl 0 rfl) ?_
  refine lv_iconst (v := 4) hx hb dL_law_673 (by decide) ?_
  refine lv_iadd hx hb dL_law_674 ?_
  refine W.eq (g2 := F0 m 675 ls [.int 4, .ref b, .int (xs 3), .int (xs 2), .int (xs 1), .ref a0]) rfl ?_
  refine va_sld hx hb hXs hbl hbA hS (i := 4) (show ¬ ((4 : Int32) < 0 ∨ 6 ≤ (4 : Int32).toNatClampNeg) by decide) dL_law_675 ?_
  refine W.eq (g2 := F0 m 676 ls [.int (xs 4), .int (xs 3), .int (xs 2), .int (xs 1), .ref a0]) rfl ?_
  obtain ⟨hPc, hDc, hFc⟩ := xcut (wc := [(a0, .inr (0, [v3, v4, v5, v6, v7, v8, v9, v10]))]) hP hD hS hA [0] rfl rfl (by decide)
  refine va_calli (vx_runSW (As := [.ref a0, .int (xs 1), .int (xs 2), .int (xs 3), .int (xs 4)]) (rest := []) ⟨hx, hb, hml, hown, htx⟩ (cL_two_2 l hl9 D cT aK aV H.size a0 (xs 1) (xs 2) (xs 3) (xs 4) v3 v4 v5 v6 v7 v8 v9 v10 hto1 hto2 hto3 hto4 hf1) (xcSW 5 htx (xw_goodC kw_4_139) rfl rfl rfl (htx _ kw_1_0) (htx _ kw_4_137) ⟨by decide, by decide, by decide +kernel⟩ ⟨Nat.le_of_ble_eq_true rfl, Nat.le_of_ble_eq_true rfl⟩ (htx _ kw_4_138)) ⟨xPre_blind, (fun U hU hW => ⟨rfl, xPre_of hZ hS hFc hPc hDc hK U hU hW⟩)⟩ rfl rfl hl.1 rfl (lv_room (Nat.le_of_ble_eq_true rfl)) dL_law_676 ⟨Nat.le_of_ble_eq_true rfl, Nat.le_of_ble_eq_true rfl⟩) hS (fun q _ h => hFc q h) hFc (fun r1 u9 t H1 locs ht hvm hr9 hB hz1 hk1 hS => ?_)
  obtain ⟨hP1, hK1, hD1⟩ := hB
  rw [ht] at hP1
  obtain ⟨hP, hD⟩ := xjoin (W := [(a1, .inr (5, [v11, v12, v13, v14, v15, v16, v17, v18, v19, v20, v21, v22, v23, v24, v25, v26, v27, v28, v29, v30, v31, v32, v33, v34, v35, v36, v37, v38, v39, v40, v41, v42])), (a2, .inl (cT 2, 1, .inr (.inl f43))), (a0, .inr (0, [v3, v4, v5, v6, v7, v8, v9, v10]))]) hP hD [0] [1, 2] 2 rfl rfl (by decide) (by decide) hk1 hFc hP1 hD1
  generalize H1 = H at hP hS ⊢
  rw [hr9]
  refine W.eq (g2 := F0 m 679 ls [.int 1]) rfl ?_
  refine lv_istore (lv' := [(5, .int 1), (4, .int 0), (3, .ref a2), (2, .ref a1), (1, .ref a0), (0, .ref b)]) hx hb dL_law_679 hl (by decide) rfl (fun ls hl => ?_)
  refine lv_aload_n hx hb dL_law_681 rfl (lv_at hl 3 rfl) ?_
  refine lv_aload_n hx hb dL_law_682 rfl (lv_at hl 5 rfl) ?_
  refine lv_iload hx hb dL_law_683 (lv_at hl 1 rfl) ?_
  refine lv_iconst (v := 1) hx hb dL_law_685 (by decide) ?_
  refine lv_iadd hx hb dL_law_686 ?_
  refine W.eq (g2 := F0 m 687 ls [.int 1, .ref b, .ref a1]) rfl ?_
  refine va_sld hx hb hXs hbl hbA hS (i := 1) (show ¬ ((1 : Int32) < 0 ∨ 6 ≤ (1 : Int32).toNatClampNeg) by decide) dL_law_687 ?_
  refine W.eq (g2 := F0 m 688 ls [.int (xs 1), .ref a1]) rfl ?_
  refine lv_aload_n hx hb dL_law_688 rfl (lv_at hl 5 rfl) ?_
  refine lv_iload hx hb dL_law_689 (lv_at hl 1 rfl) ?_
  refine lv_iconst (v := 2) hx hb dL_law_691 (by decide) ?_
  refine lv_iadd hx hb dL_law_692 ?_
  refine W.eq (g2 := F0 m 693 ls [.int 2, .ref b, .int (xs 1), .ref a1]) rfl ?_
  refine va_sld hx hb hXs hbl hbA hS (i := 2) (show ¬ ((2 : Int32) < 0 ∨ 6 ≤ (2 : Int32).toNatClampNeg) by decide) dL_law_693 ?_
  refine W.eq (g2 := F0 m 694 ls [.int (xs 2), .int (xs 1), .ref a1]) rfl ?_
  refine lv_aload_n hx hb dL_law_694 rfl (lv_at hl 5 rfl) ?_
  refine lv_iload hx hb dL_law_695 (lv_at hl 1 rfl) ?_
  refine lv_iconst (v := 3) hx hb dL_law_697 (by decide) ?_
  refine lv_iadd hx hb dL_law_698 ?_
  refine W.eq (g2 := F0 m 699 ls [.int 3, .ref b, .int (xs 2), .int (xs 1), .ref a1]) rfl ?_
  refine va_sld hx hb hXs hbl hbA hS (i := 3) (show ¬ ((3 : Int32) < 0 ∨ 6 ≤ (3 : Int32).toNatClampNeg) by decide) dL_law_699 ?_
  refine W.eq (g2 := F0 m 700 ls [.int (xs 3), .int (xs 2), .int (xs 1), .ref a1]) rfl ?_
  refine lv_aload_n hx hb dL_law_700 rfl (lv_at hl 5 rfl) ?_
  refine lv_iload hx hb dL_law_701 (lv_at hl 1 rfl) ?_
  refine lv_iconst (v := 4) hx hb dL_law_703 (by decide) ?_
  refine lv_iadd hx hb dL_law_704 ?_
  refine W.eq (g2 := F0 m 705 ls [.int 4, .ref b, .int (xs 3), .int (xs 2), .int (xs 1), .ref a1]) rfl ?_
  refine va_sld hx hb hXs hbl hbA hS (i := 4) (show ¬ ((4 : Int32) < 0 ∨ 6 ≤ (4 : Int32).toNatClampNeg) by decide) dL_law_705 ?_
  refine W.eq (g2 := F0 m 706 ls [.int (xs 4), .int (xs 3), .int (xs 2), .int (xs 1), .ref a1]) rfl ?_
  obtain ⟨hPc, hDc, hFc⟩ := xcut (wc := [(a1, .inr (5, [v11, v12, v13, v14, v15, v16, v17, v18, v19, v20, v21, v22, v23, v24, v25, v26, v27, v28, v29, v30, v31, v32, v33, v34, v35, v36, v37, v38, v39, v40, v41, v42]))]) hP hD hS hA [0] rfl rfl (by decide)
  refine va_callv (va_runV (C := "ValueBenchModel") (As := [.int (xs 1), .int (xs 2), .int (xs 3), .int (xs 4)]) (rest := []) ⟨hx, hb, hml, hown, htx⟩ (cM_two0_2 l hl9 D cT aK aV H.size a1 (xs 1) (xs 2) (xs 3) (xs 4) v11 v12 v13 v14 v15 v16 v17 v18 v19 v20 v21 v22 v23 v24 v25 v26 v27 v28 v29 v30 v31 v32 v33 v34 v35 v36 v37 v38 v39 v40 v41 v42 hto1 hto2 hto3 hto4 hf1) ⟨callB_of 4 htx (xw_goodC kw_7_127) rfl rfl rfl (htx _ kw_1_5) (htx _ kw_7_124) ⟨by decide, by decide, by decide +kernel⟩ ⟨Nat.le_of_ble_eq_true rfl, Nat.le_of_ble_eq_true rfl⟩, (htx _ kw_7_125), (htx _ kw_7_126)⟩ ⟨xPre_blind, va_recv hK hP (ci := 5) rfl (q0 := 0) rfl, (fun U hU hW => ⟨rfl, xPre_of hZ hS hFc hPc hDc hK U hU hW⟩)⟩ rfl rfl hl.1 rfl (lv_room (Nat.le_of_ble_eq_true rfl)) dL_law_706 ⟨Nat.le_of_ble_eq_true rfl, Nat.le_of_ble_eq_true rfl⟩) hS (fun q _ h => hFc q h) hFc (fun u9 t H1 locs ht hvm hr9 hB hz1 hk1 hS => ?_)
  obtain ⟨hP1, hK1, hD1⟩ := hB
  rw [ht] at hP1
  obtain ⟨hP, hD⟩ := xjoin (W := [(a2, .inl (cT 2, 1, .inr (.inl f43))), (a0, .inr (0, [v3, v4, v5, v6, v7, v8, v9, v10])), (a1, .inr (5, [.int 1, v12, .int 0, v14, .int 0, v16, v17, .int 0, v19, .int 0, v21, v22, .int 0, v24, v25, v26, v27, v28, v29, v30, v31, v32, .int 0, .int 1000000000, v35, v36, v37, v38, v39, v40, v41, v42]))]) hP hD [0] [1, 2] 2 rfl rfl (by decide) (by decide) hk1 hFc hP1 hD1
  generalize H1 = H at hP hS ⊢
  refine lv_aload_n hx hb dL_law_709 rfl (lv_at hl 3 rfl) ?_
  obtain ⟨hPc, hDc, hFc⟩ := xcut (wc := [(a1, .inr (5, [.int 1, v12, .int 0, v14, .int 0, v16, v17, .int 0, v19, .int 0, v21, v22, .int 0, v24, v25, v26, v27, v28, v29, v30, v31, v32, .int 0, .int 1000000000, v35, v36, v37, v38, v39, v40, v41, v42]))]) hP hD hS hA [2] rfl rfl (by decide)
  refine va_calli (va_runV (C := "ValueBenchModel") (As := []) (rest := []) ⟨hx, hb, hml, hown, htx⟩ (cM_thrown_1 l hl9 D cT aK aV H.size a1 v12 (.int 0) v14 (.int 0) v16 v17 (.int 0) v19 (.int 0) v21 v22 (.int 0) v24 v25 v26 v27 v28 v29 v30 v31 v32 (.int 0) (.int 1000000000) v35 v36 v37 v38 v39 v40 v41 v42) ⟨callB_of 0 htx (xw_goodC kw_5_187) rfl rfl rfl (htx _ kw_1_5) (htx _ kw_5_184) ⟨by decide, by decide, by decide +kernel⟩ ⟨Nat.le_of_ble_eq_true rfl, Nat.le_of_ble_eq_true rfl⟩, (htx _ kw_5_185), (htx _ kw_5_186)⟩ ⟨xPre_blind, va_recv hK hP (ci := 5) rfl (q0 := 2) rfl, (fun U hU hW => ⟨rfl, xPre_of hZ hS hFc hPc hDc hK U hU hW⟩)⟩ rfl rfl hl.1 rfl (lv_room (Nat.le_of_ble_eq_true rfl)) dL_law_710 ⟨Nat.le_of_ble_eq_true rfl, Nat.le_of_ble_eq_true rfl⟩) hS (fun q _ h => hFc q h) hFc (fun r2 u9 t H1 locs ht hvm hr9 hB hz1 hk1 hS => ?_)
  obtain ⟨hP1, hK1, hD1⟩ := hB
  rw [ht] at hP1
  obtain ⟨hP, hD⟩ := xjoin (W := [(a2, .inl (cT 2, 1, .inr (.inl f43))), (a0, .inr (0, [v3, v4, v5, v6, v7, v8, v9, v10])), (a1, .inr (5, [.int 1, v12, .int 0, v14, .int 0, v16, v17, .int 0, v19, .int 0, v21, v22, .int 0, v24, v25, v26, v27, v28, v29, v30, v31, v32, .int 0, .int 1000000000, v35, v36, v37, v38, v39, v40, v41, v42]))]) hP hD [2] [0, 1] 2 rfl rfl (by decide) (by decide) hk1 hFc hP1 hD1
  generalize H1 = H at hP hS ⊢
  rw [hr9]
  refine W.eq (g2 := F0 m 713 ls [.int 1]) rfl ?_
  refine lv_iload hx hb dL_law_713 (lv_at hl 0 rfl) ?_
  refine lv_icmp_eq (tgt := 720) hx hb dL_law_715 (by decide) (fun _ => ?_) (fun h => ((by revert h; decide : False)).elim)
  refine lv_goto (tgt := 906) hx hb dL_law_720 (by decide) ?_
  refine lv_iinc (v := 6) (lv' := [(4, .int 6), (5, .int 1), (3, .ref a2), (2, .ref a1), (1, .ref a0), (0, .ref b)]) hx hb dL_law_906 hl (k := 1) rfl (by decide) (by decide) rfl (fun ls hl => ?_)
  refine lv_goto (tgt := 23) hx hb dL_law_909 (by decide) ?_
  refine lv_iload hx hb dL_law_23 (lv_at hl 0 rfl) ?_
  refine lv_aload_n hx hb dL_law_25 rfl (lv_at hl 5 rfl) ?_
  refine va_slen hx hb hXs hbl hbA hS dL_law_26 ?_
  refine W.eq (g2 := F0 m 27 ls [.int 6, .int 6]) rfl ?_
  refine lv_bipush (v := 6) hx hb dL_law_27 (by decide) ?_
  refine lv_isub hx hb dL_law_29 ?_
  refine W.eq (g2 := F0 m 30 ls [.int 0, .int 6]) rfl ?_
  refine lv_icmp_gt (tgt := 912) hx hb dL_law_30 (by decide) (fun _ => ?_) (fun h => ((by revert h; decide : False)).elim)
  refine lv_iconst (v := 1) hx hb dL_law_912 (by decide) ?_
  exact va_forget (fun q h => hA2 _ (hS.2.2 q h)) (W.widen (k := 600002) (n := 7302232) (Nat.le_of_ble_eq_true rfl) (Nat.le_of_ble_eq_true rfl) (lw_ret hx hb hr hlocks dL_law_913))
set_option maxHeartbeats 400000000 in
set_option maxRecDepth 100000 in
theorem lf_two_fhi {p : Program} {e : Env} {s : State} {m : MethodId} {below : List Frame} {meth : Method} {c : Code} (l : Launch) (hl9 : l.stackTraces = false) (D : va_G) (cT : Nat → ClassId) (aK aV : Nat → Nat) {A : Nat → Prop} {b : Nat} {xs : Nat → Int32} (C : xLw p s m meth c b D cT aK aV A) {H : Heap} {locs : List Loc} {ls : Array Slot} (a0 : Nat) (a1 : Nat) (a2 : Nat) (v3 : Value) (v4 : Value) (v5 : Value) (v6 : Value) (v7 : Value) (v8 : Value) (v9 : Value) (v10 : Value) (v11 : Value) (v12 : Value) (v13 : Value) (v14 : Value) (v15 : Value) (v16 : Value) (v17 : Value) (v18 : Value) (v19 : Value) (v20 : Value) (v21 : Value) (v22 : Value) (v23 : Value) (v24 : Value) (v25 : Value) (v26 : Value) (v27 : Value) (v28 : Value) (v29 : Value) (v30 : Value) (v31 : Value) (v32 : Value) (v33 : Value) (v34 : Value) (v35 : Value) (v36 : Value) (v37 : Value) (v38 : Value) (v39 : Value) (v40 : Value) (v41 : Value) (v42 : Value) (f43 : Nat → Int64) (hto1 : ¬ (xs 1) < 0) (hto2 : ¬ 7 < (xs 1)) (hto3 : (xs 1) ≤ 7) (hto4 : vp_in (xs 1) 8) (hf1 : ¬ (xs 2) < 0) (hf2 : 9 < (xs 2)) (hf3 : ¬ (xs 2) ≤ 9) (hXs : va_X b 6 xs s s.heap) (hP : va_P D xcl [(a0, .inr (0, [v3, v4, v5, v6, v7, v8, v9, v10])), (a1, .inr (5, [v11, v12, v13, v14, v15, v16, v17, v18, v19, v20, v21, v22, v23, v24, v25, v26, v27, v28, v29, v30, v31, v32, v33, v34, v35, v36, v37, v38, v39, v40, v41, v42])), (a2, .inl (cT 2, 1, .inr (.inl f43)))] H) (hD : va_D A [(a0, .inr (0, [v3, v4, v5, v6, v7, v8, v9, v10])), (a1, .inr (5, [v11, v12, v13, v14, v15, v16, v17, v18, v19, v20, v21, v22, v23, v24, v25, v26, v27, v28, v29, v30, v31, v32, v33, v34, v35, v36, v37, v38, v39, v40, v41, v42])), (a2, .inl (cT 2, 1, .inr (.inl f43)))]) (hS : va_S A s.heap H locs) (hl : lv_has ls 8 [(4, .int 0), (3, .ref a2), (2, .ref a1), (1, .ref a0), (0, .ref b)]) : W p l e room_1 s m #[Value.ref b] below meth c H locs 54 107242 (lw_Z below #[Value.ref b] s) (F0 m 651 ls []) := by
  obtain ⟨hx, hb, hr, hml, hown, htx, hbl, hbA, hlocks, hK, hZ, hA, hA2⟩ := C
  refine lv_aload_n hx hb dL_law_651 rfl (lv_at hl 3 rfl) ?_
  refine lv_aload_n hx hb dL_law_652 rfl (lv_at hl 4 rfl) ?_
  refine lv_iload hx hb dL_law_653 (lv_at hl 0 rfl) ?_
  refine lv_iconst (v := 1) hx hb dL_law_655 (by decide) ?_
  refine lv_iadd hx hb dL_law_656 ?_
  refine W.eq (g2 := F0 m 657 ls [.int 1, .ref b, .ref a0]) rfl ?_
  refine va_sld hx hb hXs hbl hbA hS (i := 1) (show ¬ ((1 : Int32) < 0 ∨ 6 ≤ (1 : Int32).toNatClampNeg) by decide) dL_law_657 ?_
  refine W.eq (g2 := F0 m 658 ls [.int (xs 1), .ref a0]) rfl ?_
  refine lv_aload_n hx hb dL_law_658 rfl (lv_at hl 4 rfl) ?_
  refine lv_iload hx hb dL_law_659 (lv_at hl 0 rfl) ?_
  refine lv_iconst (v := 2) hx hb dL_law_661 (by decide) ?_
  refine lv_iadd hx hb dL_law_662 ?_
  refine W.eq (g2 := F0 m 663 ls [.int 2, .ref b, .int (xs 1), .ref a0]) rfl ?_
  refine va_sld hx hb hXs hbl hbA hS (i := 2) (show ¬ ((2 : Int32) < 0 ∨ 6 ≤ (2 : Int32).toNatClampNeg) by decide) dL_law_663 ?_
  refine W.eq (g2 := F0 m 664 ls [.int (xs 2), .int (xs 1), .ref a0]) rfl ?_
  refine lv_aload_n hx hb dL_law_664 rfl (lv_at hl 4 rfl) ?_
  refine lv_iload hx hb dL_law_665 (lv_at hl 0 rfl) ?_
  refine lv_iconst (v := 3) hx hb dL_law_667 (by decide) ?_
  refine lv_iadd hx hb dL_law_668 ?_
  refine W.eq (g2 := F0 m 669 ls [.int 3, .ref b, .int (xs 2), .int (xs 1), .ref a0]) rfl ?_
  refine va_sld hx hb hXs hbl hbA hS (i := 3) (show ¬ ((3 : Int32) < 0 ∨ 6 ≤ (3 : Int32).toNatClampNeg) by decide) dL_law_669 ?_
  refine W.eq (g2 := F0 m 670 ls [.int (xs 3), .int (xs 2), .int (xs 1), .ref a0]) rfl ?_
  refine lv_aload_n hx hb dL_law_670 rfl (lv_at hl 4 rfl) ?_
  refine lv_iload hx hb dL_law_671 (lv_at hl 0 rfl) ?_
  refine lv_iconst (v := 4) hx hb dL_law_673 (by decide) ?_
  refine lv_iadd hx hb dL_law_674 ?_
  refine W.eq (g2 := F0 m 675 ls [.int 4, .ref b, .int (xs 3), .int (xs 2), .int (xs 1), .ref a0]) rfl ?_
  refine va_sld hx hb hXs hbl hbA hS (i := 4) (show ¬ ((4 : Int32) < 0 ∨ 6 ≤ (4 : Int32).toNatClampNeg) by decide) dL_law_675 ?_
  refine W.eq (g2 := F0 m 676 ls [.int (xs 4), .int (xs 3), .int (xs 2), .int (xs 1), .ref a0]) rfl ?_
  obtain ⟨hPc, hDc, hFc⟩ := xcut (wc := [(a0, .inr (0, [v3, v4, v5, v6, v7, v8, v9, v10]))]) hP hD hS hA [0] rfl rfl (by decide)
  refine va_calli (vx_runSW (As := [.ref a0, .int (xs 1), .int (xs 2), .int (xs 3), .int (xs 4)]) (rest := []) ⟨hx, hb, hml, hown, htx⟩ (cL_two_3 l hl9 D cT aK aV H.size a0 (xs 1) (xs 2) (xs 3) (xs 4) v3 v4 v5 v6 v7 v8 v9 v10 hto1 hto2 hto3 hto4 hf1 hf2 hf3) (xcSW 5 htx (xw_goodC kw_4_139) rfl rfl rfl (htx _ kw_1_0) (htx _ kw_4_137) ⟨by decide, by decide, by decide +kernel⟩ ⟨Nat.le_of_ble_eq_true rfl, Nat.le_of_ble_eq_true rfl⟩ (htx _ kw_4_138)) ⟨xPre_blind, (fun U hU hW => ⟨rfl, xPre_of hZ hS hFc hPc hDc hK U hU hW⟩)⟩ rfl rfl hl.1 rfl (lv_room (Nat.le_of_ble_eq_true rfl)) dL_law_676 ⟨Nat.le_of_ble_eq_true rfl, Nat.le_of_ble_eq_true rfl⟩) hS (fun q _ h => hFc q h) hFc (fun r1 u9 t H1 locs ht hvm hr9 hB hz1 hk1 hS => ?_)
  obtain ⟨hP1, hK1, hD1⟩ := hB
  rw [ht] at hP1
  obtain ⟨hP, hD⟩ := xjoin (W := [(a1, .inr (5, [v11, v12, v13, v14, v15, v16, v17, v18, v19, v20, v21, v22, v23, v24, v25, v26, v27, v28, v29, v30, v31, v32, v33, v34, v35, v36, v37, v38, v39, v40, v41, v42])), (a2, .inl (cT 2, 1, .inr (.inl f43))), (a0, .inr (0, [v3, v4, v5, v6, v7, v8, v9, v10]))]) hP hD [0] [1, 2] 2 rfl rfl (by decide) (by decide) hk1 hFc hP1 hD1
  generalize H1 = H at hP hS ⊢
  rw [hr9]
  refine W.eq (g2 := F0 m 679 ls [.int 1]) rfl ?_
  refine lv_istore (lv' := [(5, .int 1), (4, .int 0), (3, .ref a2), (2, .ref a1), (1, .ref a0), (0, .ref b)]) hx hb dL_law_679 hl (by decide) rfl (fun ls hl => ?_)
  refine lv_aload_n hx hb dL_law_681 rfl (lv_at hl 3 rfl) ?_
  refine lv_aload_n hx hb dL_law_682 rfl (lv_at hl 5 rfl) ?_
  refine lv_iload hx hb dL_law_683 (lv_at hl 1 rfl) ?_
  refine lv_iconst (v := 1) hx hb dL_law_685 (by decide) ?_
  refine lv_iadd hx hb dL_law_686 ?_
  refine W.eq (g2 := F0 m 687 ls [.int 1, .ref b, .ref a1]) rfl ?_
  refine va_sld hx hb hXs hbl hbA hS (i := 1) (show ¬ ((1 : Int32) < 0 ∨ 6 ≤ (1 : Int32).toNatClampNeg) by decide) dL_law_687 ?_
  refine W.eq (g2 := F0 m 688 ls [.int (xs 1), .ref a1]) rfl ?_
  refine lv_aload_n hx hb dL_law_688 rfl (lv_at hl 5 rfl) ?_
  refine lv_iload hx hb dL_law_689 (lv_at hl 1 rfl) ?_
  refine lv_iconst (v := 2) hx hb dL_law_691 (by decide) ?_
  refine lv_iadd hx hb dL_law_692 ?_
  refine W.eq (g2 := F0 m 693 ls [.int 2, .ref b, .int (xs 1), .ref a1]) rfl ?_
  refine va_sld hx hb hXs hbl hbA hS (i := 2) (show ¬ ((2 : Int32) < 0 ∨ 6 ≤ (2 : Int32).toNatClampNeg) by decide) dL_law_693 ?_
  refine W.eq (g2 := F0 m 694 ls [.int (xs 2), .int (xs 1), .ref a1]) rfl ?_
  refine lv_aload_n hx hb dL_law_694 rfl (lv_at hl 5 rfl) ?_
  refine lv_iload hx hb dL_law_695 (lv_at hl 1 rfl) ?_
  refine lv_iconst (v := 3) hx hb dL_law_697 (by decide) ?_
  refine lv_iadd hx hb dL_law_698 ?_
  refine W.eq (g2 := F0 m 699 ls [.int 3, .ref b, .int (xs 2), .int (xs 1), .ref a1]) rfl ?_
  refine va_sld hx hb hXs hbl hbA hS (i := 3) (show ¬ ((3 : Int32) < 0 ∨ 6 ≤ (3 : Int32).toNatClampNeg) by decide) dL_law_699 ?_
  refine W.eq (g2 := F0 m 700 ls [.int (xs 3), .int (xs 2), .int (xs 1), .ref a1]) rfl ?_
  refine lv_aload_n hx hb dL_law_700 rfl (lv_at hl 5 rfl) ?_
  refine lv_iload hx hb dL_law_701 (lv_at hl 1 rfl) ?_
  refine lv_iconst (v := 4) hx hb dL_law_703 (by decide) ?_
  refine lv_iadd hx hb dL_law_704 ?_
  refine W.eq (g2 := F0 m 705 ls [.int 4, .ref b, .int (xs 3), .int (xs 2), .int (xs 1), .ref a1]) rfl ?_
  refine va_sld hx hb hXs hbl hbA hS (i := 4) (show ¬ ((4 : Int32) < 0 ∨ 6 ≤ (4 : Int32).toNatClampNeg) by decide) dL_law_705 ?_
  refine W.eq (g2 := F0 m 706 ls [.int (xs 4), .int (xs 3), .int (xs 2), .int (xs 1), .ref a1]) rfl ?_
  obtain ⟨hPc, hDc, hFc⟩ := xcut (wc := [(a1, .inr (5, [v11, v12, v13, v14, v15, v16, v17, v18, v19, v20, v21, v22, v23, v24, v25, v26, v27, v28, v29, v30, v31, v32, v33, v34, v35, v36, v37, v38, v39, v40, v41, v42]))]) hP hD hS hA [0] rfl rfl (by decide)
  refine va_callv (va_runV (C := "ValueBenchModel") (As := [.int (xs 1), .int (xs 2), .int (xs 3), .int (xs 4)]) (rest := []) ⟨hx, hb, hml, hown, htx⟩ (cM_two0_3 l hl9 D cT aK aV H.size a1 (xs 1) (xs 2) (xs 3) (xs 4) v11 v12 v13 v14 v15 v16 v17 v18 v19 v20 v21 v22 v23 v24 v25 v26 v27 v28 v29 v30 v31 v32 v33 v34 v35 v36 v37 v38 v39 v40 v41 v42 hto1 hto2 hto3 hto4 hf1 hf2 hf3) ⟨callB_of 4 htx (xw_goodC kw_7_127) rfl rfl rfl (htx _ kw_1_5) (htx _ kw_7_124) ⟨by decide, by decide, by decide +kernel⟩ ⟨Nat.le_of_ble_eq_true rfl, Nat.le_of_ble_eq_true rfl⟩, (htx _ kw_7_125), (htx _ kw_7_126)⟩ ⟨xPre_blind, va_recv hK hP (ci := 5) rfl (q0 := 0) rfl, (fun U hU hW => ⟨rfl, xPre_of hZ hS hFc hPc hDc hK U hU hW⟩)⟩ rfl rfl hl.1 rfl (lv_room (Nat.le_of_ble_eq_true rfl)) dL_law_706 ⟨Nat.le_of_ble_eq_true rfl, Nat.le_of_ble_eq_true rfl⟩) hS (fun q _ h => hFc q h) hFc (fun u9 t H1 locs ht hvm hr9 hB hz1 hk1 hS => ?_)
  obtain ⟨hP1, hK1, hD1⟩ := hB
  rw [ht] at hP1
  obtain ⟨hP, hD⟩ := xjoin (W := [(a2, .inl (cT 2, 1, .inr (.inl f43))), (a0, .inr (0, [v3, v4, v5, v6, v7, v8, v9, v10])), (a1, .inr (5, [.int 1, v12, .int 0, v14, .int 0, v16, v17, .int 0, v19, .int 0, v21, v22, .int 0, v24, v25, v26, v27, v28, v29, v30, v31, v32, .int 0, .int 1000000000, v35, v36, v37, v38, v39, v40, v41, v42]))]) hP hD [0] [1, 2] 2 rfl rfl (by decide) (by decide) hk1 hFc hP1 hD1
  generalize H1 = H at hP hS ⊢
  refine lv_aload_n hx hb dL_law_709 rfl (lv_at hl 3 rfl) ?_
  obtain ⟨hPc, hDc, hFc⟩ := xcut (wc := [(a1, .inr (5, [.int 1, v12, .int 0, v14, .int 0, v16, v17, .int 0, v19, .int 0, v21, v22, .int 0, v24, v25, v26, v27, v28, v29, v30, v31, v32, .int 0, .int 1000000000, v35, v36, v37, v38, v39, v40, v41, v42]))]) hP hD hS hA [2] rfl rfl (by decide)
  refine va_calli (va_runV (C := "ValueBenchModel") (As := []) (rest := []) ⟨hx, hb, hml, hown, htx⟩ (cM_thrown_1 l hl9 D cT aK aV H.size a1 v12 (.int 0) v14 (.int 0) v16 v17 (.int 0) v19 (.int 0) v21 v22 (.int 0) v24 v25 v26 v27 v28 v29 v30 v31 v32 (.int 0) (.int 1000000000) v35 v36 v37 v38 v39 v40 v41 v42) ⟨callB_of 0 htx (xw_goodC kw_5_187) rfl rfl rfl (htx _ kw_1_5) (htx _ kw_5_184) ⟨by decide, by decide, by decide +kernel⟩ ⟨Nat.le_of_ble_eq_true rfl, Nat.le_of_ble_eq_true rfl⟩, (htx _ kw_5_185), (htx _ kw_5_186)⟩ ⟨xPre_blind, va_recv hK hP (ci := 5) rfl (q0 := 2) rfl, (fun U hU hW => ⟨rfl, xPre_of hZ hS hFc hPc hDc hK U hU hW⟩)⟩ rfl rfl hl.1 rfl (lv_room (Nat.le_of_ble_eq_true rfl)) dL_law_710 ⟨Nat.le_of_ble_eq_true rfl, Nat.le_of_ble_eq_true rfl⟩) hS (fun q _ h => hFc q h) hFc (fun r2 u9 t H1 locs ht hvm hr9 hB hz1 hk1 hS => ?_)
  obtain ⟨hP1, hK1, hD1⟩ := hB
  rw [ht] at hP1
  obtain ⟨hP, hD⟩ := xjoin (W := [(a2, .inl (cT 2, 1, .inr (.inl f43))), (a0, .inr (0, [v3, v4, v5, v6, v7, v8, v9, v10])), (a1, .inr (5, [.int 1, v12, .int 0, v14, .int 0, v16, v17, .int 0, v19, .int 0, v21, v22, .int 0, v24, v25, v26, v27, v28, v29, v30, v31, v32, .int 0, .int 1000000000, v35, v36, v37, v38, v39, v40, v41, v42]))]) hP hD [2] [0, 1] 2 rfl rfl (by decide) (by decide) hk1 hFc hP1 hD1
  generalize H1 = H at hP hS ⊢
  rw [hr9]
  refine W.eq (g2 := F0 m 713 ls [.int 1]) rfl ?_
  refine lv_iload hx hb dL_law_713 (lv_at hl 0 rfl) ?_
  refine lv_icmp_eq (tgt := 720) hx hb dL_law_715 (by decide) (fun _ => ?_) (fun h => ((by revert h; decide : False)).elim)
  refine lv_goto (tgt := 906) hx hb dL_law_720 (by decide) ?_
  refine lv_iinc (v := 6) (lv' := [(4, .int 6), (5, .int 1), (3, .ref a2), (2, .ref a1), (1, .ref a0), (0, .ref b)]) hx hb dL_law_906 hl (k := 1) rfl (by decide) (by decide) rfl (fun ls hl => ?_)
  refine lv_goto (tgt := 23) hx hb dL_law_909 (by decide) ?_
  refine lv_iload hx hb dL_law_23 (lv_at hl 0 rfl) ?_
  refine lv_aload_n hx hb dL_law_25 rfl (lv_at hl 5 rfl) ?_
  refine va_slen hx hb hXs hbl hbA hS dL_law_26 ?_
  refine W.eq (g2 := F0 m 27 ls [.int 6, .int 6]) rfl ?_
  refine lv_bipush (v := 6) hx hb dL_law_27 (by decide) ?_
  refine lv_isub hx hb dL_law_29 ?_
  refine W.eq (g2 := F0 m 30 ls [.int 0, .int 6]) rfl ?_
  refine lv_icmp_gt (tgt := 912) hx hb dL_law_30 (by decide) (fun _ => ?_) (fun h => ((by revert h; decide : False)).elim)
  refine lv_iconst (v := 1) hx hb dL_law_912 (by decide) ?_
  exact va_forget (fun q h => hA2 _ (hS.2.2 q h)) (W.widen (k := 600002) (n := 7302232) (Nat.le_of_ble_eq_true rfl) (Nat.le_of_ble_eq_true rfl) (lw_ret hx hb hr hlocks dL_law_913))
set_option maxHeartbeats 400000000 in
set_option maxRecDepth 100000 in
theorem lf_two_alo {p : Program} {e : Env} {s : State} {m : MethodId} {below : List Frame} {meth : Method} {c : Code} (l : Launch) (hl9 : l.stackTraces = false) (D : va_G) (cT : Nat → ClassId) (aK aV : Nat → Nat) {A : Nat → Prop} {b : Nat} {xs : Nat → Int32} (C : xLw p s m meth c b D cT aK aV A) {H : Heap} {locs : List Loc} {ls : Array Slot} (a0 : Nat) (a1 : Nat) (a2 : Nat) (v3 : Value) (v4 : Value) (v5 : Value) (v6 : Value) (v7 : Value) (v8 : Value) (v9 : Value) (v10 : Value) (v11 : Value) (v12 : Value) (v13 : Value) (v14 : Value) (v15 : Value) (v16 : Value) (v17 : Value) (v18 : Value) (v19 : Value) (v20 : Value) (v21 : Value) (v22 : Value) (v23 : Value) (v24 : Value) (v25 : Value) (v26 : Value) (v27 : Value) (v28 : Value) (v29 : Value) (v30 : Value) (v31 : Value) (v32 : Value) (v33 : Value) (v34 : Value) (v35 : Value) (v36 : Value) (v37 : Value) (v38 : Value) (v39 : Value) (v40 : Value) (v41 : Value) (v42 : Value) (f43 : Nat → Int64) (hto1 : ¬ (xs 1) < 0) (hto2 : ¬ 7 < (xs 1)) (hto3 : (xs 1) ≤ 7) (hto4 : vp_in (xs 1) 8) (hf1 : ¬ (xs 2) < 0) (hf2 : ¬ 9 < (xs 2)) (hf3 : (xs 2) ≤ 9) (ha1 : (xs 3) < 0) (hXs : va_X b 6 xs s s.heap) (hP : va_P D xcl [(a0, .inr (0, [v3, v4, v5, v6, v7, v8, v9, v10])), (a1, .inr (5, [v11, v12, v13, v14, v15, v16, v17, v18, v19, v20, v21, v22, v23, v24, v25, v26, v27, v28, v29, v30, v31, v32, v33, v34, v35, v36, v37, v38, v39, v40, v41, v42])), (a2, .inl (cT 2, 1, .inr (.inl f43)))] H) (hD : va_D A [(a0, .inr (0, [v3, v4, v5, v6, v7, v8, v9, v10])), (a1, .inr (5, [v11, v12, v13, v14, v15, v16, v17, v18, v19, v20, v21, v22, v23, v24, v25, v26, v27, v28, v29, v30, v31, v32, v33, v34, v35, v36, v37, v38, v39, v40, v41, v42])), (a2, .inl (cT 2, 1, .inr (.inl f43)))]) (hS : va_S A s.heap H locs) (hl : lv_has ls 8 [(4, .int 0), (3, .ref a2), (2, .ref a1), (1, .ref a0), (0, .ref b)]) : W p l e room_1 s m #[Value.ref b] below meth c H locs 54 107242 (lw_Z below #[Value.ref b] s) (F0 m 651 ls []) := by
  obtain ⟨hx, hb, hr, hml, hown, htx, hbl, hbA, hlocks, hK, hZ, hA, hA2⟩ := C
  refine lv_aload_n hx hb dL_law_651 rfl (lv_at hl 3 rfl) ?_
  refine lv_aload_n hx hb dL_law_652 rfl (lv_at hl 4 rfl) ?_
  refine lv_iload hx hb dL_law_653 (lv_at hl 0 rfl) ?_
  refine lv_iconst (v := 1) hx hb dL_law_655 (by decide) ?_
  refine lv_iadd hx hb dL_law_656 ?_
  refine W.eq (g2 := F0 m 657 ls [.int 1, .ref b, .ref a0]) rfl ?_
  refine va_sld hx hb hXs hbl hbA hS (i := 1) (show ¬ ((1 : Int32) < 0 ∨ 6 ≤ (1 : Int32).toNatClampNeg) by decide) dL_law_657 ?_
  refine W.eq (g2 := F0 m 658 ls [.int (xs 1), .ref a0]) rfl ?_
  refine lv_aload_n hx hb dL_law_658 rfl (lv_at hl 4 rfl) ?_
  refine lv_iload hx hb dL_law_659 (lv_at hl 0 rfl) ?_
  refine lv_iconst (v := 2) hx hb dL_law_661 (by decide) ?_
  refine lv_iadd hx hb dL_law_662 ?_
  refine W.eq (g2 := F0 m 663 ls [.int 2, .ref b, .int (xs 1), .ref a0]) rfl ?_
  refine va_sld hx hb hXs hbl hbA hS (i := 2) (show ¬ ((2 : Int32) < 0 ∨ 6 ≤ (2 : Int32).toNatClampNeg) by decide) dL_law_663 ?_
  refine W.eq (g2 := F0 m 664 ls [.int (xs 2), .int (xs 1), .ref a0]) rfl ?_
  refine lv_aload_n hx hb dL_law_664 rfl (lv_at hl 4 rfl) ?_
  refine lv_iload hx hb dL_law_665 (lv_at hl 0 rfl) ?_
  refine lv_iconst (v := 3) hx hb dL_law_667 (by decide) ?_
  refine lv_iadd hx hb dL_law_668 ?_
  refine W.eq (g2 := F0 m 669 ls [.int 3, .ref b, .int (xs 2), .int (xs 1), .ref a0]) rfl ?_
  refine va_sld hx hb hXs hbl hbA hS (i := 3) (show ¬ ((3 : Int32) < 0 ∨ 6 ≤ (3 : Int32).toNatClampNeg) by decide) dL_law_669 ?_
  refine W.eq (g2 := F0 m 670 ls [.int (xs 3), .int (xs 2), .int (xs 1), .ref a0]) rfl ?_
  refine lv_aload_n hx hb dL_law_670 rfl (lv_at hl 4 rfl) ?_
  refine lv_iload hx hb dL_law_671 (lv_at hl 0 rfl) ?_
  refine lv_iconst (v := 4) hx hb dL_law_673 (by decide) ?_
  refine lv_iadd hx hb dL_law_674 ?_
  refine W.eq (g2 := F0 m 675 ls [.int 4, .ref b, .int (xs 3), .int (xs 2), .int (xs 1), .ref a0]) rfl ?_
  refine va_sld hx hb hXs hbl hbA hS (i := 4) (show ¬ ((4 : Int32) < 0 ∨ 6 ≤ (4 : Int32).toNatClampNeg) by decide) dL_law_675 ?_
  refine W.eq (g2 := F0 m 676 ls [.int (xs 4), .int (xs 3), .int (xs 2), .int (xs 1), .ref a0]) rfl ?_
  obtain ⟨hPc, hDc, hFc⟩ := xcut (wc := [(a0, .inr (0, [v3, v4, v5, v6, v7, v8, v9, v10]))]) hP hD hS hA [0] rfl rfl (by decide)
  refine va_calli (vx_runSW (As := [.ref a0, .int (xs 1), .int (xs 2), .int (xs 3), .int (xs 4)]) (rest := []) ⟨hx, hb, hml, hown, htx⟩ (cL_two_4 l hl9 D cT aK aV H.size a0 (xs 1) (xs 2) (xs 3) (xs 4) v3 v4 v5 v6 v7 v8 v9 v10 hto1 hto2 hto3 hto4 hf1 hf2 hf3 ha1) (xcSW 5 htx (xw_goodC kw_4_139) rfl rfl rfl (htx _ kw_1_0) (htx _ kw_4_137) ⟨by decide, by decide, by decide +kernel⟩ ⟨Nat.le_of_ble_eq_true rfl, Nat.le_of_ble_eq_true rfl⟩ (htx _ kw_4_138)) ⟨xPre_blind, (fun U hU hW => ⟨rfl, xPre_of hZ hS hFc hPc hDc hK U hU hW⟩)⟩ rfl rfl hl.1 rfl (lv_room (Nat.le_of_ble_eq_true rfl)) dL_law_676 ⟨Nat.le_of_ble_eq_true rfl, Nat.le_of_ble_eq_true rfl⟩) hS (fun q _ h => hFc q h) hFc (fun r1 u9 t H1 locs ht hvm hr9 hB hz1 hk1 hS => ?_)
  obtain ⟨hP1, hK1, hD1⟩ := hB
  rw [ht] at hP1
  obtain ⟨hP, hD⟩ := xjoin (W := [(a1, .inr (5, [v11, v12, v13, v14, v15, v16, v17, v18, v19, v20, v21, v22, v23, v24, v25, v26, v27, v28, v29, v30, v31, v32, v33, v34, v35, v36, v37, v38, v39, v40, v41, v42])), (a2, .inl (cT 2, 1, .inr (.inl f43))), (a0, .inr (0, [v3, v4, v5, v6, v7, v8, v9, v10]))]) hP hD [0] [1, 2] 2 rfl rfl (by decide) (by decide) hk1 hFc hP1 hD1
  generalize H1 = H at hP hS ⊢
  rw [hr9]
  refine W.eq (g2 := F0 m 679 ls [.int 1]) rfl ?_
  refine lv_istore (lv' := [(5, .int 1), (4, .int 0), (3, .ref a2), (2, .ref a1), (1, .ref a0), (0, .ref b)]) hx hb dL_law_679 hl (by decide) rfl (fun ls hl => ?_)
  refine lv_aload_n hx hb dL_law_681 rfl (lv_at hl 3 rfl) ?_
  refine lv_aload_n hx hb dL_law_682 rfl (lv_at hl 5 rfl) ?_
  refine lv_iload hx hb dL_law_683 (lv_at hl 1 rfl) ?_
  refine lv_iconst (v := 1) hx hb dL_law_685 (by decide) ?_
  refine lv_iadd hx hb dL_law_686 ?_
  refine W.eq (g2 := F0 m 687 ls [.int 1, .ref b, .ref a1]) rfl ?_
  refine va_sld hx hb hXs hbl hbA hS (i := 1) (show ¬ ((1 : Int32) < 0 ∨ 6 ≤ (1 : Int32).toNatClampNeg) by decide) dL_law_687 ?_
  refine W.eq (g2 := F0 m 688 ls [.int (xs 1), .ref a1]) rfl ?_
  refine lv_aload_n hx hb dL_law_688 rfl (lv_at hl 5 rfl) ?_
  refine lv_iload hx hb dL_law_689 (lv_at hl 1 rfl) ?_
  refine lv_iconst (v := 2) hx hb dL_law_691 (by decide) ?_
  refine lv_iadd hx hb dL_law_692 ?_
  refine W.eq (g2 := F0 m 693 ls [.int 2, .ref b, .int (xs 1), .ref a1]) rfl ?_
  refine va_sld hx hb hXs hbl hbA hS (i := 2) (show ¬ ((2 : Int32) < 0 ∨ 6 ≤ (2 : Int32).toNatClampNeg) by decide) dL_law_693 ?_
  refine W.eq (g2 := F0 m 694 ls [.int (xs 2), .int (xs 1), .ref a1]) rfl ?_
  refine lv_aload_n hx hb dL_law_694 rfl (lv_at hl 5 rfl) ?_
  refine lv_iload hx hb dL_law_695 (lv_at hl 1 rfl) ?_
  refine lv_iconst (v := 3) hx hb dL_law_697 (by decide) ?_
  refine lv_iadd hx hb dL_law_698 ?_
  refine W.eq (g2 := F0 m 699 ls [.int 3, .ref b, .int (xs 2), .int (xs 1), .ref a1]) rfl ?_
  refine va_sld hx hb hXs hbl hbA hS (i := 3) (show ¬ ((3 : Int32) < 0 ∨ 6 ≤ (3 : Int32).toNatClampNeg) by decide) dL_law_699 ?_
  refine W.eq (g2 := F0 m 700 ls [.int (xs 3), .int (xs 2), .int (xs 1), .ref a1]) rfl ?_
  refine lv_aload_n hx hb dL_law_700 rfl (lv_at hl 5 rfl) ?_
  refine lv_iload hx hb dL_law_701 (lv_at hl 1 rfl) ?_
  refine lv_iconst (v := 4) hx hb dL_law_703 (by decide) ?_
  refine lv_iadd hx hb dL_law_704 ?_
  refine W.eq (g2 := F0 m 705 ls [.int 4, .ref b, .int (xs 3), .int (xs 2), .int (xs 1), .ref a1]) rfl ?_
  refine va_sld hx hb hXs hbl hbA hS (i := 4) (show ¬ ((4 : Int32) < 0 ∨ 6 ≤ (4 : Int32).toNatClampNeg) by decide) dL_law_705 ?_
  refine W.eq (g2 := F0 m 706 ls [.int (xs 4), .int (xs 3), .int (xs 2), .int (xs 1), .ref a1]) rfl ?_
  obtain ⟨hPc, hDc, hFc⟩ := xcut (wc := [(a1, .inr (5, [v11, v12, v13, v14, v15, v16, v17, v18, v19, v20, v21, v22, v23, v24, v25, v26, v27, v28, v29, v30, v31, v32, v33, v34, v35, v36, v37, v38, v39, v40, v41, v42]))]) hP hD hS hA [0] rfl rfl (by decide)
  refine va_callv (va_runV (C := "ValueBenchModel") (As := [.int (xs 1), .int (xs 2), .int (xs 3), .int (xs 4)]) (rest := []) ⟨hx, hb, hml, hown, htx⟩ (cM_two0_4 l hl9 D cT aK aV H.size a1 (xs 1) (xs 2) (xs 3) (xs 4) v11 v12 v13 v14 v15 v16 v17 v18 v19 v20 v21 v22 v23 v24 v25 v26 v27 v28 v29 v30 v31 v32 v33 v34 v35 v36 v37 v38 v39 v40 v41 v42 hto1 hto2 hto3 hto4 hf1 hf2 hf3 ha1) ⟨callB_of 4 htx (xw_goodC kw_7_127) rfl rfl rfl (htx _ kw_1_5) (htx _ kw_7_124) ⟨by decide, by decide, by decide +kernel⟩ ⟨Nat.le_of_ble_eq_true rfl, Nat.le_of_ble_eq_true rfl⟩, (htx _ kw_7_125), (htx _ kw_7_126)⟩ ⟨xPre_blind, va_recv hK hP (ci := 5) rfl (q0 := 0) rfl, (fun U hU hW => ⟨rfl, xPre_of hZ hS hFc hPc hDc hK U hU hW⟩)⟩ rfl rfl hl.1 rfl (lv_room (Nat.le_of_ble_eq_true rfl)) dL_law_706 ⟨Nat.le_of_ble_eq_true rfl, Nat.le_of_ble_eq_true rfl⟩) hS (fun q _ h => hFc q h) hFc (fun u9 t H1 locs ht hvm hr9 hB hz1 hk1 hS => ?_)
  obtain ⟨hP1, hK1, hD1⟩ := hB
  rw [ht] at hP1
  obtain ⟨hP, hD⟩ := xjoin (W := [(a2, .inl (cT 2, 1, .inr (.inl f43))), (a0, .inr (0, [v3, v4, v5, v6, v7, v8, v9, v10])), (a1, .inr (5, [.int 1, v12, .int 0, v14, .int 0, v16, v17, .int 0, v19, .int 0, v21, v22, .int 0, v24, v25, v26, v27, v28, v29, v30, v31, v32, .int 0, .int 1000000000, v35, v36, v37, v38, v39, v40, v41, v42]))]) hP hD [0] [1, 2] 2 rfl rfl (by decide) (by decide) hk1 hFc hP1 hD1
  generalize H1 = H at hP hS ⊢
  refine lv_aload_n hx hb dL_law_709 rfl (lv_at hl 3 rfl) ?_
  obtain ⟨hPc, hDc, hFc⟩ := xcut (wc := [(a1, .inr (5, [.int 1, v12, .int 0, v14, .int 0, v16, v17, .int 0, v19, .int 0, v21, v22, .int 0, v24, v25, v26, v27, v28, v29, v30, v31, v32, .int 0, .int 1000000000, v35, v36, v37, v38, v39, v40, v41, v42]))]) hP hD hS hA [2] rfl rfl (by decide)
  refine va_calli (va_runV (C := "ValueBenchModel") (As := []) (rest := []) ⟨hx, hb, hml, hown, htx⟩ (cM_thrown_1 l hl9 D cT aK aV H.size a1 v12 (.int 0) v14 (.int 0) v16 v17 (.int 0) v19 (.int 0) v21 v22 (.int 0) v24 v25 v26 v27 v28 v29 v30 v31 v32 (.int 0) (.int 1000000000) v35 v36 v37 v38 v39 v40 v41 v42) ⟨callB_of 0 htx (xw_goodC kw_5_187) rfl rfl rfl (htx _ kw_1_5) (htx _ kw_5_184) ⟨by decide, by decide, by decide +kernel⟩ ⟨Nat.le_of_ble_eq_true rfl, Nat.le_of_ble_eq_true rfl⟩, (htx _ kw_5_185), (htx _ kw_5_186)⟩ ⟨xPre_blind, va_recv hK hP (ci := 5) rfl (q0 := 2) rfl, (fun U hU hW => ⟨rfl, xPre_of hZ hS hFc hPc hDc hK U hU hW⟩)⟩ rfl rfl hl.1 rfl (lv_room (Nat.le_of_ble_eq_true rfl)) dL_law_710 ⟨Nat.le_of_ble_eq_true rfl, Nat.le_of_ble_eq_true rfl⟩) hS (fun q _ h => hFc q h) hFc (fun r2 u9 t H1 locs ht hvm hr9 hB hz1 hk1 hS => ?_)
  obtain ⟨hP1, hK1, hD1⟩ := hB
  rw [ht] at hP1
  obtain ⟨hP, hD⟩ := xjoin (W := [(a2, .inl (cT 2, 1, .inr (.inl f43))), (a0, .inr (0, [v3, v4, v5, v6, v7, v8, v9, v10])), (a1, .inr (5, [.int 1, v12, .int 0, v14, .int 0, v16, v17, .int 0, v19, .int 0, v21, v22, .int 0, v24, v25, v26, v27, v28, v29, v30, v31, v32, .int 0, .int 1000000000, v35, v36, v37, v38, v39, v40, v41, v42]))]) hP hD [2] [0, 1] 2 rfl rfl (by decide) (by decide) hk1 hFc hP1 hD1
  generalize H1 = H at hP hS ⊢
  rw [hr9]
  refine W.eq (g2 := F0 m 713 ls [.int 1]) rfl ?_
  refine lv_iload hx hb dL_law_713 (lv_at hl 0 rfl) ?_
  refine lv_icmp_eq (tgt := 720) hx hb dL_law_715 (by decide) (fun _ => ?_) (fun h => ((by revert h; decide : False)).elim)
  refine lv_goto (tgt := 906) hx hb dL_law_720 (by decide) ?_
  refine lv_iinc (v := 6) (lv' := [(4, .int 6), (5, .int 1), (3, .ref a2), (2, .ref a1), (1, .ref a0), (0, .ref b)]) hx hb dL_law_906 hl (k := 1) rfl (by decide) (by decide) rfl (fun ls hl => ?_)
  refine lv_goto (tgt := 23) hx hb dL_law_909 (by decide) ?_
  refine lv_iload hx hb dL_law_23 (lv_at hl 0 rfl) ?_
  refine lv_aload_n hx hb dL_law_25 rfl (lv_at hl 5 rfl) ?_
  refine va_slen hx hb hXs hbl hbA hS dL_law_26 ?_
  refine W.eq (g2 := F0 m 27 ls [.int 6, .int 6]) rfl ?_
  refine lv_bipush (v := 6) hx hb dL_law_27 (by decide) ?_
  refine lv_isub hx hb dL_law_29 ?_
  refine W.eq (g2 := F0 m 30 ls [.int 0, .int 6]) rfl ?_
  refine lv_icmp_gt (tgt := 912) hx hb dL_law_30 (by decide) (fun _ => ?_) (fun h => ((by revert h; decide : False)).elim)
  refine lv_iconst (v := 1) hx hb dL_law_912 (by decide) ?_
  exact va_forget (fun q h => hA2 _ (hS.2.2 q h)) (W.widen (k := 600002) (n := 7302232) (Nat.le_of_ble_eq_true rfl) (Nat.le_of_ble_eq_true rfl) (lw_ret hx hb hr hlocks dL_law_913))
set_option maxHeartbeats 400000000 in
set_option maxRecDepth 100000 in
theorem lf_two_ahi {p : Program} {e : Env} {s : State} {m : MethodId} {below : List Frame} {meth : Method} {c : Code} (l : Launch) (hl9 : l.stackTraces = false) (D : va_G) (cT : Nat → ClassId) (aK aV : Nat → Nat) {A : Nat → Prop} {b : Nat} {xs : Nat → Int32} (C : xLw p s m meth c b D cT aK aV A) {H : Heap} {locs : List Loc} {ls : Array Slot} (a0 : Nat) (a1 : Nat) (a2 : Nat) (v3 : Value) (v4 : Value) (v5 : Value) (v6 : Value) (v7 : Value) (v8 : Value) (v9 : Value) (v10 : Value) (v11 : Value) (v12 : Value) (v13 : Value) (v14 : Value) (v15 : Value) (v16 : Value) (v17 : Value) (v18 : Value) (v19 : Value) (v20 : Value) (v21 : Value) (v22 : Value) (v23 : Value) (v24 : Value) (v25 : Value) (v26 : Value) (v27 : Value) (v28 : Value) (v29 : Value) (v30 : Value) (v31 : Value) (v32 : Value) (v33 : Value) (v34 : Value) (v35 : Value) (v36 : Value) (v37 : Value) (v38 : Value) (v39 : Value) (v40 : Value) (v41 : Value) (v42 : Value) (f43 : Nat → Int64) (hto1 : ¬ (xs 1) < 0) (hto2 : ¬ 7 < (xs 1)) (hto3 : (xs 1) ≤ 7) (hto4 : vp_in (xs 1) 8) (hf1 : ¬ (xs 2) < 0) (hf2 : ¬ 9 < (xs 2)) (hf3 : (xs 2) ≤ 9) (ha1 : ¬ (xs 3) < 0) (ha2 : 7 < (xs 3)) (ha3 : ¬ (xs 3) ≤ 7) (hXs : va_X b 6 xs s s.heap) (hP : va_P D xcl [(a0, .inr (0, [v3, v4, v5, v6, v7, v8, v9, v10])), (a1, .inr (5, [v11, v12, v13, v14, v15, v16, v17, v18, v19, v20, v21, v22, v23, v24, v25, v26, v27, v28, v29, v30, v31, v32, v33, v34, v35, v36, v37, v38, v39, v40, v41, v42])), (a2, .inl (cT 2, 1, .inr (.inl f43)))] H) (hD : va_D A [(a0, .inr (0, [v3, v4, v5, v6, v7, v8, v9, v10])), (a1, .inr (5, [v11, v12, v13, v14, v15, v16, v17, v18, v19, v20, v21, v22, v23, v24, v25, v26, v27, v28, v29, v30, v31, v32, v33, v34, v35, v36, v37, v38, v39, v40, v41, v42])), (a2, .inl (cT 2, 1, .inr (.inl f43)))]) (hS : va_S A s.heap H locs) (hl : lv_has ls 8 [(4, .int 0), (3, .ref a2), (2, .ref a1), (1, .ref a0), (0, .ref b)]) : W p l e room_1 s m #[Value.ref b] below meth c H locs 54 107242 (lw_Z below #[Value.ref b] s) (F0 m 651 ls []) := by
  obtain ⟨hx, hb, hr, hml, hown, htx, hbl, hbA, hlocks, hK, hZ, hA, hA2⟩ := C
  refine lv_aload_n hx hb dL_law_651 rfl (lv_at hl 3 rfl) ?_
  refine lv_aload_n hx hb dL_law_652 rfl (lv_at hl 4 rfl) ?_
  refine lv_iload hx hb dL_law_653 (lv_at hl 0 rfl) ?_
  refine lv_iconst (v := 1) hx hb dL_law_655 (by decide) ?_
  refine lv_iadd hx hb dL_law_656 ?_
  refine W.eq (g2 := F0 m 657 ls [.int 1, .ref b, .ref a0]) rfl ?_
  refine va_sld hx hb hXs hbl hbA hS (i := 1) (show ¬ ((1 : Int32) < 0 ∨ 6 ≤ (1 : Int32).toNatClampNeg) by decide) dL_law_657 ?_
  refine W.eq (g2 := F0 m 658 ls [.int (xs 1), .ref a0]) rfl ?_
  refine lv_aload_n hx hb dL_law_658 rfl (lv_at hl 4 rfl) ?_
  refine lv_iload hx hb dL_law_659 (lv_at hl 0 rfl) ?_
  refine lv_iconst (v := 2) hx hb dL_law_661 (by decide) ?_
  refine lv_iadd hx hb dL_law_662 ?_
  refine W.eq (g2 := F0 m 663 ls [.int 2, .ref b, .int (xs 1), .ref a0]) rfl ?_
  refine va_sld hx hb hXs hbl hbA hS (i := 2) (show ¬ ((2 : Int32) < 0 ∨ 6 ≤ (2 : Int32).toNatClampNeg) by decide) dL_law_663 ?_
  refine W.eq (g2 := F0 m 664 ls [.int (xs 2), .int (xs 1), .ref a0]) rfl ?_
  refine lv_aload_n hx hb dL_law_664 rfl (lv_at hl 4 rfl) ?_
  refine lv_iload hx hb dL_law_665 (lv_at hl 0 rfl) ?_
  refine lv_iconst (v := 3) hx hb dL_law_667 (by decide) ?_
  refine lv_iadd hx hb dL_law_668 ?_
  refine W.eq (g2 := F0 m 669 ls [.int 3, .ref b, .int (xs 2), .int (xs 1), .ref a0]) rfl ?_
  refine va_sld hx hb hXs hbl hbA hS (i := 3) (show ¬ ((3 : Int32) < 0 ∨ 6 ≤ (3 : Int32).toNatClampNeg) by decide) dL_law_669 ?_
  refine W.eq (g2 := F0 m 670 ls [.int (xs 3), .int (xs 2), .int (xs 1), .ref a0]) rfl ?_
  refine lv_aload_n hx hb dL_law_670 rfl (lv_at hl 4 rfl) ?_
  refine lv_iload hx hb dL_law_671 (lv_at hl 0 rfl) ?_
  refine lv_iconst (v := 4) hx hb dL_law_673 (by decide) ?_
  refine lv_iadd hx hb dL_law_674 ?_
  refine W.eq (g2 := F0 m 675 ls [.int 4, .ref b, .int (xs 3), .int (xs 2), .int (xs 1), .ref a0]) rfl ?_
  refine va_sld hx hb hXs hbl hbA hS (i := 4) (show ¬ ((4 : Int32) < 0 ∨ 6 ≤ (4 : Int32).toNatClampNeg) by decide) dL_law_675 ?_
  refine W.eq (g2 := F0 m 676 ls [.int (xs 4), .int (xs 3), .int (xs 2), .int (xs 1), .ref a0]) rfl ?_
  obtain ⟨hPc, hDc, hFc⟩ := xcut (wc := [(a0, .inr (0, [v3, v4, v5, v6, v7, v8, v9, v10]))]) hP hD hS hA [0] rfl rfl (by decide)
  refine va_calli (vx_runSW (As := [.ref a0, .int (xs 1), .int (xs 2), .int (xs 3), .int (xs 4)]) (rest := []) ⟨hx, hb, hml, hown, htx⟩ (cL_two_5 l hl9 D cT aK aV H.size a0 (xs 1) (xs 2) (xs 3) (xs 4) v3 v4 v5 v6 v7 v8 v9 v10 hto1 hto2 hto3 hto4 hf1 hf2 hf3 ha1 ha2 ha3) (xcSW 5 htx (xw_goodC kw_4_139) rfl rfl rfl (htx _ kw_1_0) (htx _ kw_4_137) ⟨by decide, by decide, by decide +kernel⟩ ⟨Nat.le_of_ble_eq_true rfl, Nat.le_of_ble_eq_true rfl⟩ (htx _ kw_4_138)) ⟨xPre_blind, (fun U hU hW => ⟨rfl, xPre_of hZ hS hFc hPc hDc hK U hU hW⟩)⟩ rfl rfl hl.1 rfl (lv_room (Nat.le_of_ble_eq_true rfl)) dL_law_676 ⟨Nat.le_of_ble_eq_true rfl, Nat.le_of_ble_eq_true rfl⟩) hS (fun q _ h => hFc q h) hFc (fun r1 u9 t H1 locs ht hvm hr9 hB hz1 hk1 hS => ?_)
  obtain ⟨hP1, hK1, hD1⟩ := hB
  rw [ht] at hP1
  obtain ⟨hP, hD⟩ := xjoin (W := [(a1, .inr (5, [v11, v12, v13, v14, v15, v16, v17, v18, v19, v20, v21, v22, v23, v24, v25, v26, v27, v28, v29, v30, v31, v32, v33, v34, v35, v36, v37, v38, v39, v40, v41, v42])), (a2, .inl (cT 2, 1, .inr (.inl f43))), (a0, .inr (0, [v3, v4, v5, v6, v7, v8, v9, v10]))]) hP hD [0] [1, 2] 2 rfl rfl (by decide) (by decide) hk1 hFc hP1 hD1
  generalize H1 = H at hP hS ⊢
  rw [hr9]
  refine W.eq (g2 := F0 m 679 ls [.int 1]) rfl ?_
  refine lv_istore (lv' := [(5, .int 1), (4, .int 0), (3, .ref a2), (2, .ref a1), (1, .ref a0), (0, .ref b)]) hx hb dL_law_679 hl (by decide) rfl (fun ls hl => ?_)
  refine lv_aload_n hx hb dL_law_681 rfl (lv_at hl 3 rfl) ?_
  refine lv_aload_n hx hb dL_law_682 rfl (lv_at hl 5 rfl) ?_
  refine lv_iload hx hb dL_law_683 (lv_at hl 1 rfl) ?_
  refine lv_iconst (v := 1) hx hb dL_law_685 (by decide) ?_
  refine lv_iadd hx hb dL_law_686 ?_
  refine W.eq (g2 := F0 m 687 ls [.int 1, .ref b, .ref a1]) rfl ?_
  refine va_sld hx hb hXs hbl hbA hS (i := 1) (show ¬ ((1 : Int32) < 0 ∨ 6 ≤ (1 : Int32).toNatClampNeg) by decide) dL_law_687 ?_
  refine W.eq (g2 := F0 m 688 ls [.int (xs 1), .ref a1]) rfl ?_
  refine lv_aload_n hx hb dL_law_688 rfl (lv_at hl 5 rfl) ?_
  refine lv_iload hx hb dL_law_689 (lv_at hl 1 rfl) ?_
  refine lv_iconst (v := 2) hx hb dL_law_691 (by decide) ?_
  refine lv_iadd hx hb dL_law_692 ?_
  refine W.eq (g2 := F0 m 693 ls [.int 2, .ref b, .int (xs 1), .ref a1]) rfl ?_
  refine va_sld hx hb hXs hbl hbA hS (i := 2) (show ¬ ((2 : Int32) < 0 ∨ 6 ≤ (2 : Int32).toNatClampNeg) by decide) dL_law_693 ?_
  refine W.eq (g2 := F0 m 694 ls [.int (xs 2), .int (xs 1), .ref a1]) rfl ?_
  refine lv_aload_n hx hb dL_law_694 rfl (lv_at hl 5 rfl) ?_
  refine lv_iload hx hb dL_law_695 (lv_at hl 1 rfl) ?_
  refine lv_iconst (v := 3) hx hb dL_law_697 (by decide) ?_
  refine lv_iadd hx hb dL_law_698 ?_
  refine W.eq (g2 := F0 m 699 ls [.int 3, .ref b, .int (xs 2), .int (xs 1), .ref a1]) rfl ?_
  refine va_sld hx hb hXs hbl hbA hS (i := 3) (show ¬ ((3 : Int32) < 0 ∨ 6 ≤ (3 : Int32).toNatClampNeg) by decide) dL_law_699 ?_
  refine W.eq (g2 := F0 m 700 ls [.int (xs 3), .int (xs 2), .int (xs 1), .ref a1]) rfl ?_
  refine lv_aload_n hx hb dL_law_700 rfl (lv_at hl 5 rfl) ?_
  refine lv_iload hx hb dL_law_701 (lv_at hl 1 rfl) ?_
  refine lv_iconst (v := 4) hx hb dL_law_703 (by decide) ?_
  refine lv_iadd hx hb dL_law_704 ?_
  refine W.eq (g2 := F0 m 705 ls [.int 4, .ref b, .int (xs 3), .int (xs 2), .int (xs 1), .ref a1]) rfl ?_
  refine va_sld hx hb hXs hbl hbA hS (i := 4) (show ¬ ((4 : Int32) < 0 ∨ 6 ≤ (4 : Int32).toNatClampNeg) by decide) dL_law_705 ?_
  refine W.eq (g2 := F0 m 706 ls [.int (xs 4), .int (xs 3), .int (xs 2), .int (xs 1), .ref a1]) rfl ?_
  obtain ⟨hPc, hDc, hFc⟩ := xcut (wc := [(a1, .inr (5, [v11, v12, v13, v14, v15, v16, v17, v18, v19, v20, v21, v22, v23, v24, v25, v26, v27, v28, v29, v30, v31, v32, v33, v34, v35, v36, v37, v38, v39, v40, v41, v42]))]) hP hD hS hA [0] rfl rfl (by decide)
  refine va_callv (va_runV (C := "ValueBenchModel") (As := [.int (xs 1), .int (xs 2), .int (xs 3), .int (xs 4)]) (rest := []) ⟨hx, hb, hml, hown, htx⟩ (cM_two0_5 l hl9 D cT aK aV H.size a1 (xs 1) (xs 2) (xs 3) (xs 4) v11 v12 v13 v14 v15 v16 v17 v18 v19 v20 v21 v22 v23 v24 v25 v26 v27 v28 v29 v30 v31 v32 v33 v34 v35 v36 v37 v38 v39 v40 v41 v42 hto1 hto2 hto3 hto4 hf1 hf2 hf3 ha1 ha2 ha3) ⟨callB_of 4 htx (xw_goodC kw_7_127) rfl rfl rfl (htx _ kw_1_5) (htx _ kw_7_124) ⟨by decide, by decide, by decide +kernel⟩ ⟨Nat.le_of_ble_eq_true rfl, Nat.le_of_ble_eq_true rfl⟩, (htx _ kw_7_125), (htx _ kw_7_126)⟩ ⟨xPre_blind, va_recv hK hP (ci := 5) rfl (q0 := 0) rfl, (fun U hU hW => ⟨rfl, xPre_of hZ hS hFc hPc hDc hK U hU hW⟩)⟩ rfl rfl hl.1 rfl (lv_room (Nat.le_of_ble_eq_true rfl)) dL_law_706 ⟨Nat.le_of_ble_eq_true rfl, Nat.le_of_ble_eq_true rfl⟩) hS (fun q _ h => hFc q h) hFc (fun u9 t H1 locs ht hvm hr9 hB hz1 hk1 hS => ?_)
  obtain ⟨hP1, hK1, hD1⟩ := hB
  rw [ht] at hP1
  obtain ⟨hP, hD⟩ := xjoin (W := [(a2, .inl (cT 2, 1, .inr (.inl f43))), (a0, .inr (0, [v3, v4, v5, v6, v7, v8, v9, v10])), (a1, .inr (5, [.int 1, v12, .int 0, v14, .int 0, v16, v17, .int 0, v19, .int 0, v21, v22, .int 0, v24, v25, v26, v27, v28, v29, v30, v31, v32, .int 0, .int 1000000000, v35, v36, v37, v38, v39, v40, v41, v42]))]) hP hD [0] [1, 2] 2 rfl rfl (by decide) (by decide) hk1 hFc hP1 hD1
  generalize H1 = H at hP hS ⊢
  refine lv_aload_n hx hb dL_law_709 rfl (lv_at hl 3 rfl) ?_
  obtain ⟨hPc, hDc, hFc⟩ := xcut (wc := [(a1, .inr (5, [.int 1, v12, .int 0, v14, .int 0, v16, v17, .int 0, v19, .int 0, v21, v22, .int 0, v24, v25, v26, v27, v28, v29, v30, v31, v32, .int 0, .int 1000000000, v35, v36, v37, v38, v39, v40, v41, v42]))]) hP hD hS hA [2] rfl rfl (by decide)
  refine va_calli (va_runV (C := "ValueBenchModel") (As := []) (rest := []) ⟨hx, hb, hml, hown, htx⟩ (cM_thrown_1 l hl9 D cT aK aV H.size a1 v12 (.int 0) v14 (.int 0) v16 v17 (.int 0) v19 (.int 0) v21 v22 (.int 0) v24 v25 v26 v27 v28 v29 v30 v31 v32 (.int 0) (.int 1000000000) v35 v36 v37 v38 v39 v40 v41 v42) ⟨callB_of 0 htx (xw_goodC kw_5_187) rfl rfl rfl (htx _ kw_1_5) (htx _ kw_5_184) ⟨by decide, by decide, by decide +kernel⟩ ⟨Nat.le_of_ble_eq_true rfl, Nat.le_of_ble_eq_true rfl⟩, (htx _ kw_5_185), (htx _ kw_5_186)⟩ ⟨xPre_blind, va_recv hK hP (ci := 5) rfl (q0 := 2) rfl, (fun U hU hW => ⟨rfl, xPre_of hZ hS hFc hPc hDc hK U hU hW⟩)⟩ rfl rfl hl.1 rfl (lv_room (Nat.le_of_ble_eq_true rfl)) dL_law_710 ⟨Nat.le_of_ble_eq_true rfl, Nat.le_of_ble_eq_true rfl⟩) hS (fun q _ h => hFc q h) hFc (fun r2 u9 t H1 locs ht hvm hr9 hB hz1 hk1 hS => ?_)
  obtain ⟨hP1, hK1, hD1⟩ := hB
  rw [ht] at hP1
  obtain ⟨hP, hD⟩ := xjoin (W := [(a2, .inl (cT 2, 1, .inr (.inl f43))), (a0, .inr (0, [v3, v4, v5, v6, v7, v8, v9, v10])), (a1, .inr (5, [.int 1, v12, .int 0, v14, .int 0, v16, v17, .int 0, v19, .int 0, v21, v22, .int 0, v24, v25, v26, v27, v28, v29, v30, v31, v32, .int 0, .int 1000000000, v35, v36, v37, v38, v39, v40, v41, v42]))]) hP hD [2] [0, 1] 2 rfl rfl (by decide) (by decide) hk1 hFc hP1 hD1
  generalize H1 = H at hP hS ⊢
  rw [hr9]
  refine W.eq (g2 := F0 m 713 ls [.int 1]) rfl ?_
  refine lv_iload hx hb dL_law_713 (lv_at hl 0 rfl) ?_
  refine lv_icmp_eq (tgt := 720) hx hb dL_law_715 (by decide) (fun _ => ?_) (fun h => ((by revert h; decide : False)).elim)
  refine lv_goto (tgt := 906) hx hb dL_law_720 (by decide) ?_
  refine lv_iinc (v := 6) (lv' := [(4, .int 6), (5, .int 1), (3, .ref a2), (2, .ref a1), (1, .ref a0), (0, .ref b)]) hx hb dL_law_906 hl (k := 1) rfl (by decide) (by decide) rfl (fun ls hl => ?_)
  refine lv_goto (tgt := 23) hx hb dL_law_909 (by decide) ?_
  refine lv_iload hx hb dL_law_23 (lv_at hl 0 rfl) ?_
  refine lv_aload_n hx hb dL_law_25 rfl (lv_at hl 5 rfl) ?_
  refine va_slen hx hb hXs hbl hbA hS dL_law_26 ?_
  refine W.eq (g2 := F0 m 27 ls [.int 6, .int 6]) rfl ?_
  refine lv_bipush (v := 6) hx hb dL_law_27 (by decide) ?_
  refine lv_isub hx hb dL_law_29 ?_
  refine W.eq (g2 := F0 m 30 ls [.int 0, .int 6]) rfl ?_
  refine lv_icmp_gt (tgt := 912) hx hb dL_law_30 (by decide) (fun _ => ?_) (fun h => ((by revert h; decide : False)).elim)
  refine lv_iconst (v := 1) hx hb dL_law_912 (by decide) ?_
  exact va_forget (fun q h => hA2 _ (hS.2.2 q h)) (W.widen (k := 600002) (n := 7302232) (Nat.le_of_ble_eq_true rfl) (Nat.le_of_ble_eq_true rfl) (lw_ret hx hb hr hlocks dL_law_913))
set_option maxHeartbeats 400000000 in
set_option maxRecDepth 100000 in
theorem lf_two_blo {p : Program} {e : Env} {s : State} {m : MethodId} {below : List Frame} {meth : Method} {c : Code} (l : Launch) (hl9 : l.stackTraces = false) (D : va_G) (cT : Nat → ClassId) (aK aV : Nat → Nat) {A : Nat → Prop} {b : Nat} {xs : Nat → Int32} (C : xLw p s m meth c b D cT aK aV A) {H : Heap} {locs : List Loc} {ls : Array Slot} (a0 : Nat) (a1 : Nat) (a2 : Nat) (v3 : Value) (v4 : Value) (v5 : Value) (v6 : Value) (v7 : Value) (v8 : Value) (v9 : Value) (v10 : Value) (v11 : Value) (v12 : Value) (v13 : Value) (v14 : Value) (v15 : Value) (v16 : Value) (v17 : Value) (v18 : Value) (v19 : Value) (v20 : Value) (v21 : Value) (v22 : Value) (v23 : Value) (v24 : Value) (v25 : Value) (v26 : Value) (v27 : Value) (v28 : Value) (v29 : Value) (v30 : Value) (v31 : Value) (v32 : Value) (v33 : Value) (v34 : Value) (v35 : Value) (v36 : Value) (v37 : Value) (v38 : Value) (v39 : Value) (v40 : Value) (v41 : Value) (v42 : Value) (f43 : Nat → Int64) (hto1 : ¬ (xs 1) < 0) (hto2 : ¬ 7 < (xs 1)) (hto3 : (xs 1) ≤ 7) (hto4 : vp_in (xs 1) 8) (hf1 : ¬ (xs 2) < 0) (hf2 : ¬ 9 < (xs 2)) (hf3 : (xs 2) ≤ 9) (ha1 : ¬ (xs 3) < 0) (ha2 : ¬ 7 < (xs 3)) (ha3 : (xs 3) ≤ 7) (ha4 : vp_in (xs 3) 8) (hb1 : (xs 4) < 0) (hXs : va_X b 6 xs s s.heap) (hP : va_P D xcl [(a0, .inr (0, [v3, v4, v5, v6, v7, v8, v9, v10])), (a1, .inr (5, [v11, v12, v13, v14, v15, v16, v17, v18, v19, v20, v21, v22, v23, v24, v25, v26, v27, v28, v29, v30, v31, v32, v33, v34, v35, v36, v37, v38, v39, v40, v41, v42])), (a2, .inl (cT 2, 1, .inr (.inl f43)))] H) (hD : va_D A [(a0, .inr (0, [v3, v4, v5, v6, v7, v8, v9, v10])), (a1, .inr (5, [v11, v12, v13, v14, v15, v16, v17, v18, v19, v20, v21, v22, v23, v24, v25, v26, v27, v28, v29, v30, v31, v32, v33, v34, v35, v36, v37, v38, v39, v40, v41, v42])), (a2, .inl (cT 2, 1, .inr (.inl f43)))]) (hS : va_S A s.heap H locs) (hl : lv_has ls 8 [(4, .int 0), (3, .ref a2), (2, .ref a1), (1, .ref a0), (0, .ref b)]) : W p l e room_1 s m #[Value.ref b] below meth c H locs 54 107242 (lw_Z below #[Value.ref b] s) (F0 m 651 ls []) := by
  obtain ⟨hx, hb, hr, hml, hown, htx, hbl, hbA, hlocks, hK, hZ, hA, hA2⟩ := C
  refine lv_aload_n hx hb dL_law_651 rfl (lv_at hl 3 rfl) ?_
  refine lv_aload_n hx hb dL_law_652 rfl (lv_at hl 4 rfl) ?_
  refine lv_iload hx hb dL_law_653 (lv_at hl 0 rfl) ?_
  refine lv_iconst (v := 1) hx hb dL_law_655 (by decide) ?_
  refine lv_iadd hx hb dL_law_656 ?_
  refine W.eq (g2 := F0 m 657 ls [.int 1, .ref b, .ref a0]) rfl ?_
  refine va_sld hx hb hXs hbl hbA hS (i := 1) (show ¬ ((1 : Int32) < 0 ∨ 6 ≤ (1 : Int32).toNatClampNeg) by decide) dL_law_657 ?_
  refine W.eq (g2 := F0 m 658 ls [.int (xs 1), .ref a0]) rfl ?_
  refine lv_aload_n hx hb dL_law_658 rfl (lv_at hl 4 rfl) ?_
  refine lv_iload hx hb dL_law_659 (lv_at hl 0 rfl) ?_
  refine lv_iconst (v := 2) hx hb dL_law_661 (by decide) ?_
  refine lv_iadd hx hb dL_law_662 ?_
  refine W.eq (g2 := F0 m 663 ls [.int 2, .ref b, .int (xs 1), .ref a0]) rfl ?_
  refine va_sld hx hb hXs hbl hbA hS (i := 2) (show ¬ ((2 : Int32) < 0 ∨ 6 ≤ (2 : Int32).toNatClampNeg) by decide) dL_law_663 ?_
  refine W.eq (g2 := F0 m 664 ls [.int (xs 2), .int (xs 1), .ref a0]) rfl ?_
  refine lv_aload_n hx hb dL_law_664 rfl (lv_at hl 4 rfl) ?_
  refine lv_iload hx hb dL_law_665 (lv_at hl 0 rfl) ?_
  refine lv_iconst (v := 3) hx hb dL_law_667 (by decide) ?_
  refine lv_iadd hx hb dL_law_668 ?_
  refine W.eq (g2 := F0 m 669 ls [.int 3, .ref b, .int (xs 2), .int (xs 1), .ref a0]) rfl ?_
  refine va_sld hx hb hXs hbl hbA hS (i := 3) (show ¬ ((3 : Int32) < 0 ∨ 6 ≤ (3 : Int32).toNatClampNeg) by decide) dL_law_669 ?_
  refine W.eq (g2 := F0 m 670 ls [.int (xs 3), .int (xs 2), .int (xs 1), .ref a0]) rfl ?_
  refine lv_aload_n hx hb dL_law_670 rfl (lv_at hl 4 rfl) ?_
  refine lv_iload hx hb dL_law_671 (lv_at hl 0 rfl) ?_
  refine lv_iconst (v := 4) hx hb dL_law_673 (by decide) ?_
  refine lv_iadd hx hb dL_law_674 ?_
  refine W.eq (g2 := F0 m 675 ls [.int 4, .ref b, .int (xs 3), .int (xs 2), .int (xs 1), .ref a0]) rfl ?_
  refine va_sld hx hb hXs hbl hbA hS (i := 4) (show ¬ ((4 : Int32) < 0 ∨ 6 ≤ (4 : Int32).toNatClampNeg) by decide) dL_law_675 ?_
  refine W.eq (g2 := F0 m 676 ls [.int (xs 4), .int (xs 3), .int (xs 2), .int (xs 1), .ref a0]) rfl ?_
  obtain ⟨hPc, hDc, hFc⟩ := xcut (wc := [(a0, .inr (0, [v3, v4, v5, v6, v7, v8, v9, v10]))]) hP hD hS hA [0] rfl rfl (by decide)
  refine va_calli (vx_runSW (As := [.ref a0, .int (xs 1), .int (xs 2), .int (xs 3), .int (xs 4)]) (rest := []) ⟨hx, hb, hml, hown, htx⟩ (cL_two_6 l hl9 D cT aK aV H.size a0 (xs 1) (xs 2) (xs 3) (xs 4) v3 v4 v5 v6 v7 v8 v9 v10 hto1 hto2 hto3 hto4 hf1 hf2 hf3 ha1 ha2 ha3 ha4 hb1) (xcSW 5 htx (xw_goodC kw_4_139) rfl rfl rfl (htx _ kw_1_0) (htx _ kw_4_137) ⟨by decide, by decide, by decide +kernel⟩ ⟨Nat.le_of_ble_eq_true rfl, Nat.le_of_ble_eq_true rfl⟩ (htx _ kw_4_138)) ⟨xPre_blind, (fun U hU hW => ⟨rfl, xPre_of hZ hS hFc hPc hDc hK U hU hW⟩)⟩ rfl rfl hl.1 rfl (lv_room (Nat.le_of_ble_eq_true rfl)) dL_law_676 ⟨Nat.le_of_ble_eq_true rfl, Nat.le_of_ble_eq_true rfl⟩) hS (fun q _ h => hFc q h) hFc (fun r1 u9 t H1 locs ht hvm hr9 hB hz1 hk1 hS => ?_)
  obtain ⟨hP1, hK1, hD1⟩ := hB
  rw [ht] at hP1
  obtain ⟨hP, hD⟩ := xjoin (W := [(a1, .inr (5, [v11, v12, v13, v14, v15, v16, v17, v18, v19, v20, v21, v22, v23, v24, v25, v26, v27, v28, v29, v30, v31, v32, v33, v34, v35, v36, v37, v38, v39, v40, v41, v42])), (a2, .inl (cT 2, 1, .inr (.inl f43))), (a0, .inr (0, [v3, v4, v5, v6, v7, v8, v9, v10]))]) hP hD [0] [1, 2] 2 rfl rfl (by decide) (by decide) hk1 hFc hP1 hD1
  generalize H1 = H at hP hS ⊢
  rw [hr9]
  refine W.eq (g2 := F0 m 679 ls [.int 1]) rfl ?_
  refine lv_istore (lv' := [(5, .int 1), (4, .int 0), (3, .ref a2), (2, .ref a1), (1, .ref a0), (0, .ref b)]) hx hb dL_law_679 hl (by decide) rfl (fun ls hl => ?_)
  refine lv_aload_n hx hb dL_law_681 rfl (lv_at hl 3 rfl) ?_
  refine lv_aload_n hx hb dL_law_682 rfl (lv_at hl 5 rfl) ?_
  refine lv_iload hx hb dL_law_683 (lv_at hl 1 rfl) ?_
  refine lv_iconst (v := 1) hx hb dL_law_685 (by decide) ?_
  refine lv_iadd hx hb dL_law_686 ?_
  refine W.eq (g2 := F0 m 687 ls [.int 1, .ref b, .ref a1]) rfl ?_
  refine va_sld hx hb hXs hbl hbA hS (i := 1) (show ¬ ((1 : Int32) < 0 ∨ 6 ≤ (1 : Int32).toNatClampNeg) by decide) dL_law_687 ?_
  refine W.eq (g2 := F0 m 688 ls [.int (xs 1), .ref a1]) rfl ?_
  refine lv_aload_n hx hb dL_law_688 rfl (lv_at hl 5 rfl) ?_
  refine lv_iload hx hb dL_law_689 (lv_at hl 1 rfl) ?_
  refine lv_iconst (v := 2) hx hb dL_law_691 (by decide) ?_
  refine lv_iadd hx hb dL_law_692 ?_
  refine W.eq (g2 := F0 m 693 ls [.int 2, .ref b, .int (xs 1), .ref a1]) rfl ?_
  refine va_sld hx hb hXs hbl hbA hS (i := 2) (show ¬ ((2 : Int32) < 0 ∨ 6 ≤ (2 : Int32).toNatClampNeg) by decide) dL_law_693 ?_
  refine W.eq (g2 := F0 m 694 ls [.int (xs 2), .int (xs 1), .ref a1]) rfl ?_
  refine lv_aload_n hx hb dL_law_694 rfl (lv_at hl 5 rfl) ?_
  refine lv_iload hx hb dL_law_695 (lv_at hl 1 rfl) ?_
  refine lv_iconst (v := 3) hx hb dL_law_697 (by decide) ?_
  refine lv_iadd hx hb dL_law_698 ?_
  refine W.eq (g2 := F0 m 699 ls [.int 3, .ref b, .int (xs 2), .int (xs 1), .ref a1]) rfl ?_
  refine va_sld hx hb hXs hbl hbA hS (i := 3) (show ¬ ((3 : Int32) < 0 ∨ 6 ≤ (3 : Int32).toNatClampNeg) by decide) dL_law_699 ?_
  refine W.eq (g2 := F0 m 700 ls [.int (xs 3), .int (xs 2), .int (xs 1), .ref a1]) rfl ?_
  refine lv_aload_n hx hb dL_law_700 rfl (lv_at hl 5 rfl) ?_
  refine lv_iload hx hb dL_law_701 (lv_at hl 1 rfl) ?_
  refine lv_iconst (v := 4) hx hb dL_law_703 (by decide) ?_
  refine lv_iadd hx hb dL_law_704 ?_
  refine W.eq (g2 := F0 m 705 ls [.int 4, .ref b, .int (xs 3), .int (xs 2), .int (xs 1), .ref a1]) rfl ?_
  refine va_sld hx hb hXs hbl hbA hS (i := 4) (show ¬ ((4 : Int32) < 0 ∨ 6 ≤ (4 : Int32).toNatClampNeg) by decide) dL_law_705 ?_
  refine W.eq (g2 := F0 m 706 ls [.int (xs 4), .int (xs 3), .int (xs 2), .int (xs 1), .ref a1]) rfl ?_
  obtain ⟨hPc, hDc, hFc⟩ := xcut (wc := [(a1, .inr (5, [v11, v12, v13, v14, v15, v16, v17, v18, v19, v20, v21, v22, v23, v24, v25, v26, v27, v28, v29, v30, v31, v32, v33, v34, v35, v36, v37, v38, v39, v40, v41, v42]))]) hP hD hS hA [0] rfl rfl (by decide)
  refine va_callv (va_runV (C := "ValueBenchModel") (As := [.int (xs 1), .int (xs 2), .int (xs 3), .int (xs 4)]) (rest := []) ⟨hx, hb, hml, hown, htx⟩ (cM_two0_6 l hl9 D cT aK aV H.size a1 (xs 1) (xs 2) (xs 3) (xs 4) v11 v12 v13 v14 v15 v16 v17 v18 v19 v20 v21 v22 v23 v24 v25 v26 v27 v28 v29 v30 v31 v32 v33 v34 v35 v36 v37 v38 v39 v40 v41 v42 hto1 hto2 hto3 hto4 hf1 hf2 hf3 ha1 ha2 ha3 ha4 hb1) ⟨callB_of 4 htx (xw_goodC kw_7_127) rfl rfl rfl (htx _ kw_1_5) (htx _ kw_7_124) ⟨by decide, by decide, by decide +kernel⟩ ⟨Nat.le_of_ble_eq_true rfl, Nat.le_of_ble_eq_true rfl⟩, (htx _ kw_7_125), (htx _ kw_7_126)⟩ ⟨xPre_blind, va_recv hK hP (ci := 5) rfl (q0 := 0) rfl, (fun U hU hW => ⟨rfl, xPre_of hZ hS hFc hPc hDc hK U hU hW⟩)⟩ rfl rfl hl.1 rfl (lv_room (Nat.le_of_ble_eq_true rfl)) dL_law_706 ⟨Nat.le_of_ble_eq_true rfl, Nat.le_of_ble_eq_true rfl⟩) hS (fun q _ h => hFc q h) hFc (fun u9 t H1 locs ht hvm hr9 hB hz1 hk1 hS => ?_)
  obtain ⟨hP1, hK1, hD1⟩ := hB
  rw [ht] at hP1
  obtain ⟨hP, hD⟩ := xjoin (W := [(a2, .inl (cT 2, 1, .inr (.inl f43))), (a0, .inr (0, [v3, v4, v5, v6, v7, v8, v9, v10])), (a1, .inr (5, [.int 1, v12, .int 0, v14, .int 0, v16, v17, .int 0, v19, .int 0, v21, v22, .int 0, v24, v25, v26, v27, v28, v29, v30, v31, v32, .int 0, .int 1000000000, v35, v36, v37, v38, v39, v40, v41, v42]))]) hP hD [0] [1, 2] 2 rfl rfl (by decide) (by decide) hk1 hFc hP1 hD1
  generalize H1 = H at hP hS ⊢
  refine lv_aload_n hx hb dL_law_709 rfl (lv_at hl 3 rfl) ?_
  obtain ⟨hPc, hDc, hFc⟩ := xcut (wc := [(a1, .inr (5, [.int 1, v12, .int 0, v14, .int 0, v16, v17, .int 0, v19, .int 0, v21, v22, .int 0, v24, v25, v26, v27, v28, v29, v30, v31, v32, .int 0, .int 1000000000, v35, v36, v37, v38, v39, v40, v41, v42]))]) hP hD hS hA [2] rfl rfl (by decide)
  refine va_calli (va_runV (C := "ValueBenchModel") (As := []) (rest := []) ⟨hx, hb, hml, hown, htx⟩ (cM_thrown_1 l hl9 D cT aK aV H.size a1 v12 (.int 0) v14 (.int 0) v16 v17 (.int 0) v19 (.int 0) v21 v22 (.int 0) v24 v25 v26 v27 v28 v29 v30 v31 v32 (.int 0) (.int 1000000000) v35 v36 v37 v38 v39 v40 v41 v42) ⟨callB_of 0 htx (xw_goodC kw_5_187) rfl rfl rfl (htx _ kw_1_5) (htx _ kw_5_184) ⟨by decide, by decide, by decide +kernel⟩ ⟨Nat.le_of_ble_eq_true rfl, Nat.le_of_ble_eq_true rfl⟩, (htx _ kw_5_185), (htx _ kw_5_186)⟩ ⟨xPre_blind, va_recv hK hP (ci := 5) rfl (q0 := 2) rfl, (fun U hU hW => ⟨rfl, xPre_of hZ hS hFc hPc hDc hK U hU hW⟩)⟩ rfl rfl hl.1 rfl (lv_room (Nat.le_of_ble_eq_true rfl)) dL_law_710 ⟨Nat.le_of_ble_eq_true rfl, Nat.le_of_ble_eq_true rfl⟩) hS (fun q _ h => hFc q h) hFc (fun r2 u9 t H1 locs ht hvm hr9 hB hz1 hk1 hS => ?_)
  obtain ⟨hP1, hK1, hD1⟩ := hB
  rw [ht] at hP1
  obtain ⟨hP, hD⟩ := xjoin (W := [(a2, .inl (cT 2, 1, .inr (.inl f43))), (a0, .inr (0, [v3, v4, v5, v6, v7, v8, v9, v10])), (a1, .inr (5, [.int 1, v12, .int 0, v14, .int 0, v16, v17, .int 0, v19, .int 0, v21, v22, .int 0, v24, v25, v26, v27, v28, v29, v30, v31, v32, .int 0, .int 1000000000, v35, v36, v37, v38, v39, v40, v41, v42]))]) hP hD [2] [0, 1] 2 rfl rfl (by decide) (by decide) hk1 hFc hP1 hD1
  generalize H1 = H at hP hS ⊢
  rw [hr9]
  refine W.eq (g2 := F0 m 713 ls [.int 1]) rfl ?_
  refine lv_iload hx hb dL_law_713 (lv_at hl 0 rfl) ?_
  refine lv_icmp_eq (tgt := 720) hx hb dL_law_715 (by decide) (fun _ => ?_) (fun h => ((by revert h; decide : False)).elim)
  refine lv_goto (tgt := 906) hx hb dL_law_720 (by decide) ?_
  refine lv_iinc (v := 6) (lv' := [(4, .int 6), (5, .int 1), (3, .ref a2), (2, .ref a1), (1, .ref a0), (0, .ref b)]) hx hb dL_law_906 hl (k := 1) rfl (by decide) (by decide) rfl (fun ls hl => ?_)
  refine lv_goto (tgt := 23) hx hb dL_law_909 (by decide) ?_
  refine lv_iload hx hb dL_law_23 (lv_at hl 0 rfl) ?_
  refine lv_aload_n hx hb dL_law_25 rfl (lv_at hl 5 rfl) ?_
  refine va_slen hx hb hXs hbl hbA hS dL_law_26 ?_
  refine W.eq (g2 := F0 m 27 ls [.int 6, .int 6]) rfl ?_
  refine lv_bipush (v := 6) hx hb dL_law_27 (by decide) ?_
  refine lv_isub hx hb dL_law_29 ?_
  refine W.eq (g2 := F0 m 30 ls [.int 0, .int 6]) rfl ?_
  refine lv_icmp_gt (tgt := 912) hx hb dL_law_30 (by decide) (fun _ => ?_) (fun h => ((by revert h; decide : False)).elim)
  refine lv_iconst (v := 1) hx hb dL_law_912 (by decide) ?_
  exact va_forget (fun q h => hA2 _ (hS.2.2 q h)) (W.widen (k := 600002) (n := 7302232) (Nat.le_of_ble_eq_true rfl) (Nat.le_of_ble_eq_true rfl) (lw_ret hx hb hr hlocks dL_law_913))
set_option maxHeartbeats 400000000 in
set_option maxRecDepth 100000 in
theorem lf_two_bhi {p : Program} {e : Env} {s : State} {m : MethodId} {below : List Frame} {meth : Method} {c : Code} (l : Launch) (hl9 : l.stackTraces = false) (D : va_G) (cT : Nat → ClassId) (aK aV : Nat → Nat) {A : Nat → Prop} {b : Nat} {xs : Nat → Int32} (C : xLw p s m meth c b D cT aK aV A) {H : Heap} {locs : List Loc} {ls : Array Slot} (a0 : Nat) (a1 : Nat) (a2 : Nat) (v3 : Value) (v4 : Value) (v5 : Value) (v6 : Value) (v7 : Value) (v8 : Value) (v9 : Value) (v10 : Value) (v11 : Value) (v12 : Value) (v13 : Value) (v14 : Value) (v15 : Value) (v16 : Value) (v17 : Value) (v18 : Value) (v19 : Value) (v20 : Value) (v21 : Value) (v22 : Value) (v23 : Value) (v24 : Value) (v25 : Value) (v26 : Value) (v27 : Value) (v28 : Value) (v29 : Value) (v30 : Value) (v31 : Value) (v32 : Value) (v33 : Value) (v34 : Value) (v35 : Value) (v36 : Value) (v37 : Value) (v38 : Value) (v39 : Value) (v40 : Value) (v41 : Value) (v42 : Value) (f43 : Nat → Int64) (hto1 : ¬ (xs 1) < 0) (hto2 : ¬ 7 < (xs 1)) (hto3 : (xs 1) ≤ 7) (hto4 : vp_in (xs 1) 8) (hf1 : ¬ (xs 2) < 0) (hf2 : ¬ 9 < (xs 2)) (hf3 : (xs 2) ≤ 9) (ha1 : ¬ (xs 3) < 0) (ha2 : ¬ 7 < (xs 3)) (ha3 : (xs 3) ≤ 7) (ha4 : vp_in (xs 3) 8) (hb1 : ¬ (xs 4) < 0) (hb2 : 7 < (xs 4)) (hb3 : ¬ (xs 4) ≤ 7) (hXs : va_X b 6 xs s s.heap) (hP : va_P D xcl [(a0, .inr (0, [v3, v4, v5, v6, v7, v8, v9, v10])), (a1, .inr (5, [v11, v12, v13, v14, v15, v16, v17, v18, v19, v20, v21, v22, v23, v24, v25, v26, v27, v28, v29, v30, v31, v32, v33, v34, v35, v36, v37, v38, v39, v40, v41, v42])), (a2, .inl (cT 2, 1, .inr (.inl f43)))] H) (hD : va_D A [(a0, .inr (0, [v3, v4, v5, v6, v7, v8, v9, v10])), (a1, .inr (5, [v11, v12, v13, v14, v15, v16, v17, v18, v19, v20, v21, v22, v23, v24, v25, v26, v27, v28, v29, v30, v31, v32, v33, v34, v35, v36, v37, v38, v39, v40, v41, v42])), (a2, .inl (cT 2, 1, .inr (.inl f43)))]) (hS : va_S A s.heap H locs) (hl : lv_has ls 8 [(4, .int 0), (3, .ref a2), (2, .ref a1), (1, .ref a0), (0, .ref b)]) : W p l e room_1 s m #[Value.ref b] below meth c H locs 54 107242 (lw_Z below #[Value.ref b] s) (F0 m 651 ls []) := by
  obtain ⟨hx, hb, hr, hml, hown, htx, hbl, hbA, hlocks, hK, hZ, hA, hA2⟩ := C
  refine lv_aload_n hx hb dL_law_651 rfl (lv_at hl 3 rfl) ?_
  refine lv_aload_n hx hb dL_law_652 rfl (lv_at hl 4 rfl) ?_
  refine lv_iload hx hb dL_law_653 (lv_at hl 0 rfl) ?_
  refine lv_iconst (v := 1) hx hb dL_law_655 (by decide) ?_
  refine lv_iadd hx hb dL_law_656 ?_
  refine W.eq (g2 := F0 m 657 ls [.int 1, .ref b, .ref a0]) rfl ?_
  refine va_sld hx hb hXs hbl hbA hS (i := 1) (show ¬ ((1 : Int32) < 0 ∨ 6 ≤ (1 : Int32).toNatClampNeg) by decide) dL_law_657 ?_
  refine W.eq (g2 := F0 m 658 ls [.int (xs 1), .ref a0]) rfl ?_
  refine lv_aload_n hx hb dL_law_658 rfl (lv_at hl 4 rfl) ?_
  refine lv_iload hx hb dL_law_659 (lv_at hl 0 rfl) ?_
  refine lv_iconst (v := 2) hx hb dL_law_661 (by decide) ?_
  refine lv_iadd hx hb dL_law_662 ?_
  refine W.eq (g2 := F0 m 663 ls [.int 2, .ref b, .int (xs 1), .ref a0]) rfl ?_
  refine va_sld hx hb hXs hbl hbA hS (i := 2) (show ¬ ((2 : Int32) < 0 ∨ 6 ≤ (2 : Int32).toNatClampNeg) by decide) dL_law_663 ?_
  refine W.eq (g2 := F0 m 664 ls [.int (xs 2), .int (xs 1), .ref a0]) rfl ?_
  refine lv_aload_n hx hb dL_law_664 rfl (lv_at hl 4 rfl) ?_
  refine lv_iload hx hb dL_law_665 (lv_at hl 0 rfl) ?_
  refine lv_iconst (v := 3) hx hb dL_law_667 (by decide) ?_
  refine lv_iadd hx hb dL_law_668 ?_
  refine W.eq (g2 := F0 m 669 ls [.int 3, .ref b, .int (xs 2), .int (xs 1), .ref a0]) rfl ?_
  refine va_sld hx hb hXs hbl hbA hS (i := 3) (show ¬ ((3 : Int32) < 0 ∨ 6 ≤ (3 : Int32).toNatClampNeg) by decide) dL_law_669 ?_
  refine W.eq (g2 := F0 m 670 ls [.int (xs 3), .int (xs 2), .int (xs 1), .ref a0]) rfl ?_
  refine lv_aload_n hx hb dL_law_670 rfl (lv_at hl 4 rfl) ?_
  refine lv_iload hx hb dL_law_671 (lv_at hl 0 rfl) ?_
  refine lv_iconst (v := 4) hx hb dL_law_673 (by decide) ?_
  refine lv_iadd hx hb dL_law_674 ?_
  refine W.eq (g2 := F0 m 675 ls [.int 4, .ref b, .int (xs 3), .int (xs 2), .int (xs 1), .ref a0]) rfl ?_
  refine va_sld hx hb hXs hbl hbA hS (i := 4) (show ¬ ((4 : Int32) < 0 ∨ 6 ≤ (4 : Int32).toNatClampNeg) by decide) dL_law_675 ?_
  refine W.eq (g2 := F0 m 676 ls [.int (xs 4), .int (xs 3), .int (xs 2), .int (xs 1), .ref a0]) rfl ?_
  obtain ⟨hPc, hDc, hFc⟩ := xcut (wc := [(a0, .inr (0, [v3, v4, v5, v6, v7, v8, v9, v10]))]) hP hD hS hA [0] rfl rfl (by decide)
  refine va_calli (vx_runSW (As := [.ref a0, .int (xs 1), .int (xs 2), .int (xs 3), .int (xs 4)]) (rest := []) ⟨hx, hb, hml, hown, htx⟩ (cL_two_7 l hl9 D cT aK aV H.size a0 (xs 1) (xs 2) (xs 3) (xs 4) v3 v4 v5 v6 v7 v8 v9 v10 hto1 hto2 hto3 hto4 hf1 hf2 hf3 ha1 ha2 ha3 ha4 hb1 hb2 hb3) (xcSW 5 htx (xw_goodC kw_4_139) rfl rfl rfl (htx _ kw_1_0) (htx _ kw_4_137) ⟨by decide, by decide, by decide +kernel⟩ ⟨Nat.le_of_ble_eq_true rfl, Nat.le_of_ble_eq_true rfl⟩ (htx _ kw_4_138)) ⟨xPre_blind, (fun U hU hW => ⟨rfl, xPre_of hZ hS hFc hPc hDc hK U hU hW⟩)⟩ rfl rfl hl.1 rfl (lv_room (Nat.le_of_ble_eq_true rfl)) dL_law_676 ⟨Nat.le_of_ble_eq_true rfl, Nat.le_of_ble_eq_true rfl⟩) hS (fun q _ h => hFc q h) hFc (fun r1 u9 t H1 locs ht hvm hr9 hB hz1 hk1 hS => ?_)
  obtain ⟨hP1, hK1, hD1⟩ := hB
  rw [ht] at hP1
  obtain ⟨hP, hD⟩ := xjoin (W := [(a1, .inr (5, [v11, v12, v13, v14, v15, v16, v17, v18, v19, v20, v21, v22, v23, v24, v25, v26, v27, v28, v29, v30, v31, v32, v33, v34, v35, v36, v37, v38, v39, v40, v41, v42])), (a2, .inl (cT 2, 1, .inr (.inl f43))), (a0, .inr (0, [v3, v4, v5, v6, v7, v8, v9, v10]))]) hP hD [0] [1, 2] 2 rfl rfl (by decide) (by decide) hk1 hFc hP1 hD1
  generalize H1 = H at hP hS ⊢
  rw [hr9]
  refine W.eq (g2 := F0 m 679 ls [.int 1]) rfl ?_
  refine lv_istore (lv' := [(5, .int 1), (4, .int 0), (3, .ref a2), (2, .ref a1), (1, .ref a0), (0, .ref b)]) hx hb dL_law_679 hl (by decide) rfl (fun ls hl => ?_)
  refine lv_aload_n hx hb dL_law_681 rfl (lv_at hl 3 rfl) ?_
  refine lv_aload_n hx hb dL_law_682 rfl (lv_at hl 5 rfl) ?_
  refine lv_iload hx hb dL_law_683 (lv_at hl 1 rfl) ?_
  refine lv_iconst (v := 1) hx hb dL_law_685 (by decide) ?_
  refine lv_iadd hx hb dL_law_686 ?_
  refine W.eq (g2 := F0 m 687 ls [.int 1, .ref b, .ref a1]) rfl ?_
  refine va_sld hx hb hXs hbl hbA hS (i := 1) (show ¬ ((1 : Int32) < 0 ∨ 6 ≤ (1 : Int32).toNatClampNeg) by decide) dL_law_687 ?_
  refine W.eq (g2 := F0 m 688 ls [.int (xs 1), .ref a1]) rfl ?_
  refine lv_aload_n hx hb dL_law_688 rfl (lv_at hl 5 rfl) ?_
  refine lv_iload hx hb dL_law_689 (lv_at hl 1 rfl) ?_
  refine lv_iconst (v := 2) hx hb dL_law_691 (by decide) ?_
  refine lv_iadd hx hb dL_law_692 ?_
  refine W.eq (g2 := F0 m 693 ls [.int 2, .ref b, .int (xs 1), .ref a1]) rfl ?_
  refine va_sld hx hb hXs hbl hbA hS (i := 2) (show ¬ ((2 : Int32) < 0 ∨ 6 ≤ (2 : Int32).toNatClampNeg) by decide) dL_law_693 ?_
  refine W.eq (g2 := F0 m 694 ls [.int (xs 2), .int (xs 1), .ref a1]) rfl ?_
  refine lv_aload_n hx hb dL_law_694 rfl (lv_at hl 5 rfl) ?_
  refine lv_iload hx hb dL_law_695 (lv_at hl 1 rfl) ?_
  refine lv_iconst (v := 3) hx hb dL_law_697 (by decide) ?_
  refine lv_iadd hx hb dL_law_698 ?_
  refine W.eq (g2 := F0 m 699 ls [.int 3, .ref b, .int (xs 2), .int (xs 1), .ref a1]) rfl ?_
  refine va_sld hx hb hXs hbl hbA hS (i := 3) (show ¬ ((3 : Int32) < 0 ∨ 6 ≤ (3 : Int32).toNatClampNeg) by decide) dL_law_699 ?_
  refine W.eq (g2 := F0 m 700 ls [.int (xs 3), .int (xs 2), .int (xs 1), .ref a1]) rfl ?_
  refine lv_aload_n hx hb dL_law_700 rfl (lv_at hl 5 rfl) ?_
  refine lv_iload hx hb dL_law_701 (lv_at hl 1 rfl) ?_
  refine lv_iconst (v := 4) hx hb dL_law_703 (by decide) ?_
  refine lv_iadd hx hb dL_law_704 ?_
  refine W.eq (g2 := F0 m 705 ls [.int 4, .ref b, .int (xs 3), .int (xs 2), .int (xs 1), .ref a1]) rfl ?_
  refine va_sld hx hb hXs hbl hbA hS (i := 4) (show ¬ ((4 : Int32) < 0 ∨ 6 ≤ (4 : Int32).toNatClampNeg) by decide) dL_law_705 ?_
  refine W.eq (g2 := F0 m 706 ls [.int (xs 4), .int (xs 3), .int (xs 2), .int (xs 1), .ref a1]) rfl ?_
  obtain ⟨hPc, hDc, hFc⟩ := xcut (wc := [(a1, .inr (5, [v11, v12, v13, v14, v15, v16, v17, v18, v19, v20, v21, v22, v23, v24, v25, v26, v27, v28, v29, v30, v31, v32, v33, v34, v35, v36, v37, v38, v39, v40, v41, v42]))]) hP hD hS hA [0] rfl rfl (by decide)
  refine va_callv (va_runV (C := "ValueBenchModel") (As := [.int (xs 1), .int (xs 2), .int (xs 3), .int (xs 4)]) (rest := []) ⟨hx, hb, hml, hown, htx⟩ (cM_two0_7 l hl9 D cT aK aV H.size a1 (xs 1) (xs 2) (xs 3) (xs 4) v11 v12 v13 v14 v15 v16 v17 v18 v19 v20 v21 v22 v23 v24 v25 v26 v27 v28 v29 v30 v31 v32 v33 v34 v35 v36 v37 v38 v39 v40 v41 v42 hto1 hto2 hto3 hto4 hf1 hf2 hf3 ha1 ha2 ha3 ha4 hb1 hb2 hb3) ⟨callB_of 4 htx (xw_goodC kw_7_127) rfl rfl rfl (htx _ kw_1_5) (htx _ kw_7_124) ⟨by decide, by decide, by decide +kernel⟩ ⟨Nat.le_of_ble_eq_true rfl, Nat.le_of_ble_eq_true rfl⟩, (htx _ kw_7_125), (htx _ kw_7_126)⟩ ⟨xPre_blind, va_recv hK hP (ci := 5) rfl (q0 := 0) rfl, (fun U hU hW => ⟨rfl, xPre_of hZ hS hFc hPc hDc hK U hU hW⟩)⟩ rfl rfl hl.1 rfl (lv_room (Nat.le_of_ble_eq_true rfl)) dL_law_706 ⟨Nat.le_of_ble_eq_true rfl, Nat.le_of_ble_eq_true rfl⟩) hS (fun q _ h => hFc q h) hFc (fun u9 t H1 locs ht hvm hr9 hB hz1 hk1 hS => ?_)
  obtain ⟨hP1, hK1, hD1⟩ := hB
  rw [ht] at hP1
  obtain ⟨hP, hD⟩ := xjoin (W := [(a2, .inl (cT 2, 1, .inr (.inl f43))), (a0, .inr (0, [v3, v4, v5, v6, v7, v8, v9, v10])), (a1, .inr (5, [.int 1, v12, .int 0, v14, .int 0, v16, v17, .int 0, v19, .int 0, v21, v22, .int 0, v24, v25, v26, v27, v28, v29, v30, v31, v32, .int 0, .int 1000000000, v35, v36, v37, v38, v39, v40, v41, v42]))]) hP hD [0] [1, 2] 2 rfl rfl (by decide) (by decide) hk1 hFc hP1 hD1
  generalize H1 = H at hP hS ⊢
  refine lv_aload_n hx hb dL_law_709 rfl (lv_at hl 3 rfl) ?_
  obtain ⟨hPc, hDc, hFc⟩ := xcut (wc := [(a1, .inr (5, [.int 1, v12, .int 0, v14, .int 0, v16, v17, .int 0, v19, .int 0, v21, v22, .int 0, v24, v25, v26, v27, v28, v29, v30, v31, v32, .int 0, .int 1000000000, v35, v36, v37, v38, v39, v40, v41, v42]))]) hP hD hS hA [2] rfl rfl (by decide)
  refine va_calli (va_runV (C := "ValueBenchModel") (As := []) (rest := []) ⟨hx, hb, hml, hown, htx⟩ (cM_thrown_1 l hl9 D cT aK aV H.size a1 v12 (.int 0) v14 (.int 0) v16 v17 (.int 0) v19 (.int 0) v21 v22 (.int 0) v24 v25 v26 v27 v28 v29 v30 v31 v32 (.int 0) (.int 1000000000) v35 v36 v37 v38 v39 v40 v41 v42) ⟨callB_of 0 htx (xw_goodC kw_5_187) rfl rfl rfl (htx _ kw_1_5) (htx _ kw_5_184) ⟨by decide, by decide, by decide +kernel⟩ ⟨Nat.le_of_ble_eq_true rfl, Nat.le_of_ble_eq_true rfl⟩, (htx _ kw_5_185), (htx _ kw_5_186)⟩ ⟨xPre_blind, va_recv hK hP (ci := 5) rfl (q0 := 2) rfl, (fun U hU hW => ⟨rfl, xPre_of hZ hS hFc hPc hDc hK U hU hW⟩)⟩ rfl rfl hl.1 rfl (lv_room (Nat.le_of_ble_eq_true rfl)) dL_law_710 ⟨Nat.le_of_ble_eq_true rfl, Nat.le_of_ble_eq_true rfl⟩) hS (fun q _ h => hFc q h) hFc (fun r2 u9 t H1 locs ht hvm hr9 hB hz1 hk1 hS => ?_)
  obtain ⟨hP1, hK1, hD1⟩ := hB
  rw [ht] at hP1
  obtain ⟨hP, hD⟩ := xjoin (W := [(a2, .inl (cT 2, 1, .inr (.inl f43))), (a0, .inr (0, [v3, v4, v5, v6, v7, v8, v9, v10])), (a1, .inr (5, [.int 1, v12, .int 0, v14, .int 0, v16, v17, .int 0, v19, .int 0, v21, v22, .int 0, v24, v25, v26, v27, v28, v29, v30, v31, v32, .int 0, .int 1000000000, v35, v36, v37, v38, v39, v40, v41, v42]))]) hP hD [2] [0, 1] 2 rfl rfl (by decide) (by decide) hk1 hFc hP1 hD1
  generalize H1 = H at hP hS ⊢
  rw [hr9]
  refine W.eq (g2 := F0 m 713 ls [.int 1]) rfl ?_
  refine lv_iload hx hb dL_law_713 (lv_at hl 0 rfl) ?_
  refine lv_icmp_eq (tgt := 720) hx hb dL_law_715 (by decide) (fun _ => ?_) (fun h => ((by revert h; decide : False)).elim)
  refine lv_goto (tgt := 906) hx hb dL_law_720 (by decide) ?_
  refine lv_iinc (v := 6) (lv' := [(4, .int 6), (5, .int 1), (3, .ref a2), (2, .ref a1), (1, .ref a0), (0, .ref b)]) hx hb dL_law_906 hl (k := 1) rfl (by decide) (by decide) rfl (fun ls hl => ?_)
  refine lv_goto (tgt := 23) hx hb dL_law_909 (by decide) ?_
  refine lv_iload hx hb dL_law_23 (lv_at hl 0 rfl) ?_
  refine lv_aload_n hx hb dL_law_25 rfl (lv_at hl 5 rfl) ?_
  refine va_slen hx hb hXs hbl hbA hS dL_law_26 ?_
  refine W.eq (g2 := F0 m 27 ls [.int 6, .int 6]) rfl ?_
  refine lv_bipush (v := 6) hx hb dL_law_27 (by decide) ?_
  refine lv_isub hx hb dL_law_29 ?_
  refine W.eq (g2 := F0 m 30 ls [.int 0, .int 6]) rfl ?_
  refine lv_icmp_gt (tgt := 912) hx hb dL_law_30 (by decide) (fun _ => ?_) (fun h => ((by revert h; decide : False)).elim)
  refine lv_iconst (v := 1) hx hb dL_law_912 (by decide) ?_
  exact va_forget (fun q h => hA2 _ (hS.2.2 q h)) (W.widen (k := 600002) (n := 7302232) (Nat.le_of_ble_eq_true rfl) (Nat.le_of_ble_eq_true rfl) (lw_ret hx hb hr hlocks dL_law_913))
set_option maxHeartbeats 400000000 in
set_option maxRecDepth 100000 in
theorem lf_two0_p4 {p : Program} {e : Env} {s : State} {m : MethodId} {below : List Frame} {meth : Method} {c : Code} (l : Launch) (hl9 : l.stackTraces = false) (D : va_G) (cT : Nat → ClassId) (aK aV : Nat → Nat) {A : Nat → Prop} {b : Nat} {xs : Nat → Int32} (C : xLw p s m meth c b D cT aK aV A) {H : Heap} {locs : List Loc} {ls : Array Slot} (a0 : Nat) (a1 : Nat) (a2 : Nat) (a3 : Nat) (a4 : Nat) (a5 : Nat) (a6 : Nat) (a7 : Nat) (a8 : Nat) (a9 : Nat) (a10 : Nat) (v11 : Value) (v12 : Value) (b13 : Nat) (v14 : Value) (v15 : Value) (v16 : Value) (v17 : Value) (v18 : Value) (v19 : Value) (v20 : Value) (v21 : Value) (v22 : Value) (v23 : Value) (v24 : Value) (v25 : Value) (v26 : Value) (v27 : Value) (v28 : Value) (v29 : Value) (v30 : Value) (v31 : Value) (v32 : Value) (v33 : Value) (v34 : Value) (v35 : Value) (v36 : Value) (v37 : Value) (v38 : Value) (v39 : Value) (v40 : Value) (v41 : Value) (v42 : Value) (v43 : Value) (v44 : Value) (v45 : Value) (f46 : Nat → Int64) (v47 : Value) (v48 : Value) (v49 : Value) (f50 : Nat → Option Nat) (v53 : Value) (f54 : Nat → Int64) (f56 : Nat → Option Nat) (f59 : Nat → Int32) (f62 : Nat → Int32) (f67 : Nat → Option Nat) (h51 : f50 (xs 3).toNatClampNeg = some a5) (h52 : f50 (xs 4).toNatClampNeg = some a5) (h55 : f54 0 = 0) (h57 : f56 (xs 3).toNatClampNeg = some a9) (h58 : f56 (xs 4).toNatClampNeg = some a9) (h60 : f59 (xs 3).toNatClampNeg = 4) (h61 : f59 (xs 4).toNatClampNeg = 4) (h63 : f62 0 = 110) (h64 : f62 1 = 117) (h65 : f62 2 = 108) (h66 : f62 3 = 108) (h68 : f67 0 = none) (h69 : f67 1 = none) (hto1 : ¬ (xs 1) < 0) (hto2 : ¬ 7 < (xs 1)) (hto3 : (xs 1) ≤ 7) (hto4 : vp_in (xs 1) 8) (hf : xs 2 = 0) (ha1 : ¬ (xs 3) < 0) (ha2 : ¬ 7 < (xs 3)) (ha3 : (xs 3) ≤ 7) (ha4 : vp_in (xs 3) 8) (hb1 : ¬ (xs 4) < 0) (hb2 : ¬ 7 < (xs 4)) (hb3 : (xs 4) ≤ 7) (hb4 : vp_in (xs 4) 8) (hXs : va_X b 6 xs s s.heap) (hP : va_P D xcl [(a0, .inr (0, [v11, v12, .ref b13, .ref a4, v14, .ref a3, v15, v16])), (a1, .inr (5, [v17, .ref a10, v18, v19, v20, v21, v22, v23, v24, v25, v26, v27, v28, v29, v30, v31, v32, v33, v34, v35, v36, v37, v38, v39, .ref a7, .ref a8, v40, v41, v42, v43, v44, v45])), (a2, .inl (cT 2, 1, .inr (.inl f46))), (a3, .inr (2, [v47, v48, v49])), (a4, .inl (cT 3, 8, .inr (.inr (.inr (.inr f50))))), (a5, .inr (2, [.ref a6, .int 1, v53])), (a6, .inl (cT 2, 4096, .inr (.inl f54))), (a7, .inl (cT 5, 8, .inr (.inr (.inr (.inr f56))))), (a8, .inl (cT 1, 8, .inl f59)), (a9, .inl (cT 0, 4096, .inl f62)), (a10, .inl (cT 4, 1024, .inr (.inr (.inr (.inr f67)))))] H) (hD : va_D A [(a0, .inr (0, [v11, v12, .ref b13, .ref a4, v14, .ref a3, v15, v16])), (a1, .inr (5, [v17, .ref a10, v18, v19, v20, v21, v22, v23, v24, v25, v26, v27, v28, v29, v30, v31, v32, v33, v34, v35, v36, v37, v38, v39, .ref a7, .ref a8, v40, v41, v42, v43, v44, v45])), (a2, .inl (cT 2, 1, .inr (.inl f46))), (a3, .inr (2, [v47, v48, v49])), (a4, .inl (cT 3, 8, .inr (.inr (.inr (.inr f50))))), (a5, .inr (2, [.ref a6, .int 1, v53])), (a6, .inl (cT 2, 4096, .inr (.inl f54))), (a7, .inl (cT 5, 8, .inr (.inr (.inr (.inr f56))))), (a8, .inl (cT 1, 8, .inl f59)), (a9, .inl (cT 0, 4096, .inl f62)), (a10, .inl (cT 4, 1024, .inr (.inr (.inr (.inr f67)))))]) (hS : va_S A s.heap H locs) (hl : lv_has ls 8 [(4, .int 0), (3, .ref a2), (2, .ref a1), (1, .ref a0), (0, .ref b)]) : W p l e room_1 s m #[Value.ref b] below meth c H locs 54 107242 (lw_Z below #[Value.ref b] s) (F0 m 651 ls []) := by
  obtain ⟨hx, hb, hr, hml, hown, htx, hbl, hbA, hlocks, hK, hZ, hA, hA2⟩ := C
  refine lv_aload_n hx hb dL_law_651 rfl (lv_at hl 3 rfl) ?_
  refine lv_aload_n hx hb dL_law_652 rfl (lv_at hl 4 rfl) ?_
  refine lv_iload hx hb dL_law_653 (lv_at hl 0 rfl) ?_
  refine lv_iconst (v := 1) hx hb dL_law_655 (by decide) ?_
  refine lv_iadd hx hb dL_law_656 ?_
  refine W.eq (g2 := F0 m 657 ls [.int 1, .ref b, .ref a0]) rfl ?_
  refine va_sld hx hb hXs hbl hbA hS (i := 1) (show ¬ ((1 : Int32) < 0 ∨ 6 ≤ (1 : Int32).toNatClampNeg) by decide) dL_law_657 ?_
  refine W.eq (g2 := F0 m 658 ls [.int (xs 1), .ref a0]) rfl ?_
  refine lv_aload_n hx hb dL_law_658 rfl (lv_at hl 4 rfl) ?_
  refine lv_iload hx hb dL_law_659 (lv_at hl 0 rfl) ?_
  refine lv_iconst (v := 2) hx hb dL_law_661 (by decide) ?_
  refine lv_iadd hx hb dL_law_662 ?_
  refine W.eq (g2 := F0 m 663 ls [.int 2, .ref b, .int (xs 1), .ref a0]) rfl ?_
  refine va_sld hx hb hXs hbl hbA hS (i := 2) (show ¬ ((2 : Int32) < 0 ∨ 6 ≤ (2 : Int32).toNatClampNeg) by decide) dL_law_663 ?_
  refine W.eq (g2 := F0 m 664 ls [.int (xs 2), .int (xs 1), .ref a0]) rfl ?_
  rw [hf]
  refine W.eq (g2 := F0 m 664 ls [.int 0, .int (xs 1), .ref a0]) rfl ?_
  refine lv_aload_n hx hb dL_law_664 rfl (lv_at hl 4 rfl) ?_
  refine lv_iload hx hb dL_law_665 (lv_at hl 0 rfl) ?_
  refine lv_iconst (v := 3) hx hb dL_law_667 (by decide) ?_
  refine lv_iadd hx hb dL_law_668 ?_
  refine W.eq (g2 := F0 m 669 ls [.int 3, .ref b, .int 0, .int (xs 1), .ref a0]) rfl ?_
  refine va_sld hx hb hXs hbl hbA hS (i := 3) (show ¬ ((3 : Int32) < 0 ∨ 6 ≤ (3 : Int32).toNatClampNeg) by decide) dL_law_669 ?_
  refine W.eq (g2 := F0 m 670 ls [.int (xs 3), .int 0, .int (xs 1), .ref a0]) rfl ?_
  refine lv_aload_n hx hb dL_law_670 rfl (lv_at hl 4 rfl) ?_
  refine lv_iload hx hb dL_law_671 (lv_at hl 0 rfl) ?_
  refine lv_iconst (v := 4) hx hb dL_law_673 (by decide) ?_
  refine lv_iadd hx hb dL_law_674 ?_
  refine W.eq (g2 := F0 m 675 ls [.int 4, .ref b, .int (xs 3), .int 0, .int (xs 1), .ref a0]) rfl ?_
  refine va_sld hx hb hXs hbl hbA hS (i := 4) (show ¬ ((4 : Int32) < 0 ∨ 6 ≤ (4 : Int32).toNatClampNeg) by decide) dL_law_675 ?_
  refine W.eq (g2 := F0 m 676 ls [.int (xs 4), .int (xs 3), .int 0, .int (xs 1), .ref a0]) rfl ?_
  obtain ⟨hPc, hDc, hFc⟩ := xcut (wc := [(a0, .inr (0, [v11, v12, .ref b13, .ref a4, v14, .ref a3, v15, v16])), (a3, .inr (2, [v47, v48, v49])), (a4, .inl (cT 3, 8, .inr (.inr (.inr (.inr f50))))), (a5, .inr (2, [.ref a6, .int 1, v53])), (a6, .inl (cT 2, 4096, .inr (.inl f54)))]) hP hD hS hA [0, 3, 4, 5, 6] rfl rfl (by decide)
  refine va_calli (vx_runSW (As := [.ref a0, .int (xs 1), .int 0, .int (xs 3), .int (xs 4)]) (rest := []) ⟨hx, hb, hml, hown, htx⟩ (cL_two_8 l hl9 D cT aK aV H.size a0 a3 a4 a5 a6 (xs 1) (xs 3) (xs 4) v11 v12 b13 v14 v15 v16 v47 v48 v49 f50 v53 f54 hto1 hto2 hto3 hto4 ha1 ha2 ha3 ha4 hb1 hb2 hb3 hb4 (by first | rfl | exact h51 | exact h52 | exact h55 | exact h57 | exact h58 | exact h60 | exact h61 | exact h63 | exact h64 | exact h65 | exact h66 | exact h68 | exact h69) (by first | rfl | exact h51 | exact h52 | exact h55 | exact h57 | exact h58 | exact h60 | exact h61 | exact h63 | exact h64 | exact h65 | exact h66 | exact h68 | exact h69) (by first | rfl | exact h51 | exact h52 | exact h55 | exact h57 | exact h58 | exact h60 | exact h61 | exact h63 | exact h64 | exact h65 | exact h66 | exact h68 | exact h69)) (xcSW 5 htx (xw_goodC kw_4_139) rfl rfl rfl (htx _ kw_1_0) (htx _ kw_4_137) ⟨by decide, by decide, by decide +kernel⟩ ⟨Nat.le_of_ble_eq_true rfl, Nat.le_of_ble_eq_true rfl⟩ (htx _ kw_4_138)) ⟨xPre_blind, (fun U hU hW => ⟨rfl, xPre_of hZ hS hFc hPc hDc hK U hU hW⟩)⟩ rfl rfl hl.1 rfl (lv_room (Nat.le_of_ble_eq_true rfl)) dL_law_676 ⟨Nat.le_of_ble_eq_true rfl, Nat.le_of_ble_eq_true rfl⟩) hS (fun q _ h => hFc q h) hFc (fun r1 u9 t H1 locs ht hvm hr9 hB hz1 hk1 hS => ?_)
  obtain ⟨hP1, hK1, hD1⟩ := hB
  rw [ht] at hP1
  obtain ⟨hP, hD⟩ := xjoin (W := [(a1, .inr (5, [v17, .ref a10, v18, v19, v20, v21, v22, v23, v24, v25, v26, v27, v28, v29, v30, v31, v32, v33, v34, v35, v36, v37, v38, v39, .ref a7, .ref a8, v40, v41, v42, v43, v44, v45])), (a2, .inl (cT 2, 1, .inr (.inl f46))), (a7, .inl (cT 5, 8, .inr (.inr (.inr (.inr f56))))), (a8, .inl (cT 1, 8, .inl f59)), (a9, .inl (cT 0, 4096, .inl f62)), (a10, .inl (cT 4, 1024, .inr (.inr (.inr (.inr f67))))), (a0, .inr (0, [v11, v12, .ref b13, .ref a4, v14, .ref a3, v15, .int 1])), (a3, .inr (2, [v47, .int 0, .int 0])), (a4, .inl (cT 3, 8, .inr (.inr (.inr (.inr f50))))), (a5, .inr (2, [.ref a6, .int 1, v53])), (a6, .inl (cT 2, 4096, .inr (.inl f54)))]) hP hD [0, 3, 4, 5, 6] [1, 2, 7, 8, 9, 10] 6 rfl rfl (by decide) (by decide) hk1 hFc hP1 hD1
  generalize H1 = H at hP hS ⊢
  rw [hr9]
  refine W.eq (g2 := F0 m 679 ls [.int 2]) rfl ?_
  refine lv_istore (lv' := [(5, .int 2), (4, .int 0), (3, .ref a2), (2, .ref a1), (1, .ref a0), (0, .ref b)]) hx hb dL_law_679 hl (by decide) rfl (fun ls hl => ?_)
  refine lv_aload_n hx hb dL_law_681 rfl (lv_at hl 3 rfl) ?_
  refine lv_aload_n hx hb dL_law_682 rfl (lv_at hl 5 rfl) ?_
  refine lv_iload hx hb dL_law_683 (lv_at hl 1 rfl) ?_
  refine lv_iconst (v := 1) hx hb dL_law_685 (by decide) ?_
  refine lv_iadd hx hb dL_law_686 ?_
  refine W.eq (g2 := F0 m 687 ls [.int 1, .ref b, .ref a1]) rfl ?_
  refine va_sld hx hb hXs hbl hbA hS (i := 1) (show ¬ ((1 : Int32) < 0 ∨ 6 ≤ (1 : Int32).toNatClampNeg) by decide) dL_law_687 ?_
  refine W.eq (g2 := F0 m 688 ls [.int (xs 1), .ref a1]) rfl ?_
  refine lv_aload_n hx hb dL_law_688 rfl (lv_at hl 5 rfl) ?_
  refine lv_iload hx hb dL_law_689 (lv_at hl 1 rfl) ?_
  refine lv_iconst (v := 2) hx hb dL_law_691 (by decide) ?_
  refine lv_iadd hx hb dL_law_692 ?_
  refine W.eq (g2 := F0 m 693 ls [.int 2, .ref b, .int (xs 1), .ref a1]) rfl ?_
  refine va_sld hx hb hXs hbl hbA hS (i := 2) (show ¬ ((2 : Int32) < 0 ∨ 6 ≤ (2 : Int32).toNatClampNeg) by decide) dL_law_693 ?_
  refine W.eq (g2 := F0 m 694 ls [.int (xs 2), .int (xs 1), .ref a1]) rfl ?_
  rw [hf]
  refine W.eq (g2 := F0 m 694 ls [.int 0, .int (xs 1), .ref a1]) rfl ?_
  refine lv_aload_n hx hb dL_law_694 rfl (lv_at hl 5 rfl) ?_
  refine lv_iload hx hb dL_law_695 (lv_at hl 1 rfl) ?_
  refine lv_iconst (v := 3) hx hb dL_law_697 (by decide) ?_
  refine lv_iadd hx hb dL_law_698 ?_
  refine W.eq (g2 := F0 m 699 ls [.int 3, .ref b, .int 0, .int (xs 1), .ref a1]) rfl ?_
  refine va_sld hx hb hXs hbl hbA hS (i := 3) (show ¬ ((3 : Int32) < 0 ∨ 6 ≤ (3 : Int32).toNatClampNeg) by decide) dL_law_699 ?_
  refine W.eq (g2 := F0 m 700 ls [.int (xs 3), .int 0, .int (xs 1), .ref a1]) rfl ?_
  refine lv_aload_n hx hb dL_law_700 rfl (lv_at hl 5 rfl) ?_
  refine lv_iload hx hb dL_law_701 (lv_at hl 1 rfl) ?_
  refine lv_iconst (v := 4) hx hb dL_law_703 (by decide) ?_
  refine lv_iadd hx hb dL_law_704 ?_
  refine W.eq (g2 := F0 m 705 ls [.int 4, .ref b, .int (xs 3), .int 0, .int (xs 1), .ref a1]) rfl ?_
  refine va_sld hx hb hXs hbl hbA hS (i := 4) (show ¬ ((4 : Int32) < 0 ∨ 6 ≤ (4 : Int32).toNatClampNeg) by decide) dL_law_705 ?_
  refine W.eq (g2 := F0 m 706 ls [.int (xs 4), .int (xs 3), .int 0, .int (xs 1), .ref a1]) rfl ?_
  obtain ⟨hPc, hDc, hFc⟩ := xcut (wc := [(a1, .inr (5, [v17, .ref a10, v18, v19, v20, v21, v22, v23, v24, v25, v26, v27, v28, v29, v30, v31, v32, v33, v34, v35, v36, v37, v38, v39, .ref a7, .ref a8, v40, v41, v42, v43, v44, v45])), (a7, .inl (cT 5, 8, .inr (.inr (.inr (.inr f56))))), (a8, .inl (cT 1, 8, .inl f59)), (a9, .inl (cT 0, 4096, .inl f62)), (a10, .inl (cT 4, 1024, .inr (.inr (.inr (.inr f67)))))]) hP hD hS hA [0, 2, 3, 4, 5] rfl rfl (by decide)
  refine va_callv (va_runV (C := "ValueBenchModel") (As := [.int (xs 1), .int 0, .int (xs 3), .int (xs 4)]) (rest := []) ⟨hx, hb, hml, hown, htx⟩ (cM_two0_8 l hl9 D cT aK aV H.size a1 a7 a8 a9 a10 (xs 1) (xs 3) (xs 4) v17 v18 v19 v20 v21 v22 v23 v24 v25 v26 v27 v28 v29 v30 v31 v32 v33 v34 v35 v36 v37 v38 v39 v40 v41 v42 v43 v44 v45 f56 f59 f62 f67 hto1 hto2 hto3 hto4 ha1 ha2 ha3 ha4 hb1 hb2 hb3 hb4 (by first | rfl | exact h51 | exact h52 | exact h55 | exact h57 | exact h58 | exact h60 | exact h61 | exact h63 | exact h64 | exact h65 | exact h66 | exact h68 | exact h69) (by first | rfl | exact h51 | exact h52 | exact h55 | exact h57 | exact h58 | exact h60 | exact h61 | exact h63 | exact h64 | exact h65 | exact h66 | exact h68 | exact h69) (by first | rfl | exact h51 | exact h52 | exact h55 | exact h57 | exact h58 | exact h60 | exact h61 | exact h63 | exact h64 | exact h65 | exact h66 | exact h68 | exact h69) (by first | rfl | exact h51 | exact h52 | exact h55 | exact h57 | exact h58 | exact h60 | exact h61 | exact h63 | exact h64 | exact h65 | exact h66 | exact h68 | exact h69) (by first | rfl | exact h51 | exact h52 | exact h55 | exact h57 | exact h58 | exact h60 | exact h61 | exact h63 | exact h64 | exact h65 | exact h66 | exact h68 | exact h69) (by first | rfl | exact h51 | exact h52 | exact h55 | exact h57 | exact h58 | exact h60 | exact h61 | exact h63 | exact h64 | exact h65 | exact h66 | exact h68 | exact h69) (by first | rfl | exact h51 | exact h52 | exact h55 | exact h57 | exact h58 | exact h60 | exact h61 | exact h63 | exact h64 | exact h65 | exact h66 | exact h68 | exact h69) (by first | rfl | exact h51 | exact h52 | exact h55 | exact h57 | exact h58 | exact h60 | exact h61 | exact h63 | exact h64 | exact h65 | exact h66 | exact h68 | exact h69) (by first | rfl | exact h51 | exact h52 | exact h55 | exact h57 | exact h58 | exact h60 | exact h61 | exact h63 | exact h64 | exact h65 | exact h66 | exact h68 | exact h69) (by first | rfl | exact h51 | exact h52 | exact h55 | exact h57 | exact h58 | exact h60 | exact h61 | exact h63 | exact h64 | exact h65 | exact h66 | exact h68 | exact h69)) ⟨callB_of 4 htx (xw_goodC kw_7_127) rfl rfl rfl (htx _ kw_1_5) (htx _ kw_7_124) ⟨by decide, by decide, by decide +kernel⟩ ⟨Nat.le_of_ble_eq_true rfl, Nat.le_of_ble_eq_true rfl⟩, (htx _ kw_7_125), (htx _ kw_7_126)⟩ ⟨xPre_blind, va_recv hK hP (ci := 5) rfl (q0 := 0) rfl, (fun U hU hW => ⟨rfl, xPre_of hZ hS hFc hPc hDc hK U hU hW⟩)⟩ rfl rfl hl.1 rfl (lv_room (Nat.le_of_ble_eq_true rfl)) dL_law_706 ⟨Nat.le_of_ble_eq_true rfl, Nat.le_of_ble_eq_true rfl⟩) hS (fun q _ h => hFc q h) hFc (fun u9 t H1 locs ht hvm hr9 hB hz1 hk1 hS => ?_)
  obtain ⟨q2, q3, hP1, hK1, hD1⟩ := hB
  rw [ht] at hP1
  obtain ⟨hP, hD⟩ := xjoin (W := [(a2, .inl (cT 2, 1, .inr (.inl f46))), (a0, .inr (0, [v11, v12, .ref b13, .ref a4, v14, .ref a3, v15, .int 1])), (a3, .inr (2, [v47, .int 0, .int 0])), (a4, .inl (cT 3, 8, .inr (.inr (.inr (.inr f50))))), (a5, .inr (2, [.ref a6, .int 1, v53])), (a6, .inl (cT 2, 4096, .inr (.inl f54))), (a1, .inr (5, [.int 2, .ref a10, .int 2, v19, .int 0, v21, v22, .int 0, .int 1, .int 0, v26, v27, .int 0, v29, v30, .ref a9, .int 4, .int 4, .int 0, .int 100, v36, v37, .int 0, .int 1000000000, .ref a7, .ref a8, v40, v41, v42, v43, .int 1, v45])), (a7, .inl (cT 5, 8, .inr (.inr (.inr (.inr f56))))), (a8, .inl (cT 1, 8, .inl f59)), (a9, .inl (cT 0, 4096, .inl f62)), (a10, .inl (cT 4, 1024, .inr (.inr (.inr (.inr (va_up (va_up f67 0 (some q2)) 1 (some q3))))))), (q2, .inr (6, [.int 0, .long 0, .int 0, .int 0, .int 0, .int 1])), (q3, .inr (6, [.int 0, .long 0, .int 0, .int 0, .int 0, .int 1]))]) hP hD [0, 2, 3, 4, 5] [1, 6, 7, 8, 9, 10] 6 rfl rfl (by decide) (by decide) hk1 hFc hP1 hD1
  generalize H1 = H at hP hS ⊢
  refine lv_aload_n hx hb dL_law_709 rfl (lv_at hl 3 rfl) ?_
  obtain ⟨hPc, hDc, hFc⟩ := xcut (wc := [(a1, .inr (5, [.int 2, .ref a10, .int 2, v19, .int 0, v21, v22, .int 0, .int 1, .int 0, v26, v27, .int 0, v29, v30, .ref a9, .int 4, .int 4, .int 0, .int 100, v36, v37, .int 0, .int 1000000000, .ref a7, .ref a8, v40, v41, v42, v43, .int 1, v45]))]) hP hD hS hA [6] rfl rfl (by decide)
  refine va_calli (va_runV (C := "ValueBenchModel") (As := []) (rest := []) ⟨hx, hb, hml, hown, htx⟩ (cM_thrown_2 l hl9 D cT aK aV H.size a1 (.ref a10) (.int 2) v19 (.int 0) v21 v22 (.int 0) (.int 1) (.int 0) v26 v27 (.int 0) v29 v30 (.ref a9) (.int 4) (.int 4) (.int 0) (.int 100) v36 v37 (.int 0) (.int 1000000000) (.ref a7) (.ref a8) v40 v41 v42 v43 (.int 1) v45) ⟨callB_of 0 htx (xw_goodC kw_5_187) rfl rfl rfl (htx _ kw_1_5) (htx _ kw_5_184) ⟨by decide, by decide, by decide +kernel⟩ ⟨Nat.le_of_ble_eq_true rfl, Nat.le_of_ble_eq_true rfl⟩, (htx _ kw_5_185), (htx _ kw_5_186)⟩ ⟨xPre_blind, va_recv hK hP (ci := 5) rfl (q0 := 6) rfl, (fun U hU hW => ⟨rfl, xPre_of hZ hS hFc hPc hDc hK U hU hW⟩)⟩ rfl rfl hl.1 rfl (lv_room (Nat.le_of_ble_eq_true rfl)) dL_law_710 ⟨Nat.le_of_ble_eq_true rfl, Nat.le_of_ble_eq_true rfl⟩) hS (fun q _ h => hFc q h) hFc (fun r4 u9 t H1 locs ht hvm hr9 hB hz1 hk1 hS => ?_)
  obtain ⟨hP1, hK1, hD1⟩ := hB
  rw [ht] at hP1
  obtain ⟨hP, hD⟩ := xjoin (W := [(a2, .inl (cT 2, 1, .inr (.inl f46))), (a0, .inr (0, [v11, v12, .ref b13, .ref a4, v14, .ref a3, v15, .int 1])), (a3, .inr (2, [v47, .int 0, .int 0])), (a4, .inl (cT 3, 8, .inr (.inr (.inr (.inr f50))))), (a5, .inr (2, [.ref a6, .int 1, v53])), (a6, .inl (cT 2, 4096, .inr (.inl f54))), (a7, .inl (cT 5, 8, .inr (.inr (.inr (.inr f56))))), (a8, .inl (cT 1, 8, .inl f59)), (a9, .inl (cT 0, 4096, .inl f62)), (a10, .inl (cT 4, 1024, .inr (.inr (.inr (.inr (va_up (va_up f67 0 (some q2)) 1 (some q3))))))), (q2, .inr (6, [.int 0, .long 0, .int 0, .int 0, .int 0, .int 1])), (q3, .inr (6, [.int 0, .long 0, .int 0, .int 0, .int 0, .int 1])), (a1, .inr (5, [.int 2, .ref a10, .int 2, v19, .int 0, v21, v22, .int 0, .int 1, .int 0, v26, v27, .int 0, v29, v30, .ref a9, .int 4, .int 4, .int 0, .int 100, v36, v37, .int 0, .int 1000000000, .ref a7, .ref a8, v40, v41, v42, v43, .int 1, v45]))]) hP hD [6] [0, 1, 2, 3, 4, 5, 7, 8, 9, 10, 11, 12] 12 rfl rfl (by decide) (by decide) hk1 hFc hP1 hD1
  generalize H1 = H at hP hS ⊢
  rw [hr9]
  refine W.eq (g2 := F0 m 713 ls [.int 2]) rfl ?_
  refine lv_iload hx hb dL_law_713 (lv_at hl 0 rfl) ?_
  refine lv_icmp_eq (tgt := 720) hx hb dL_law_715 (by decide) (fun _ => ?_) (fun h => ((by revert h; decide : False)).elim)
  refine lv_goto (tgt := 906) hx hb dL_law_720 (by decide) ?_
  refine lv_iinc (v := 6) (lv' := [(4, .int 6), (5, .int 2), (3, .ref a2), (2, .ref a1), (1, .ref a0), (0, .ref b)]) hx hb dL_law_906 hl (k := 1) rfl (by decide) (by decide) rfl (fun ls hl => ?_)
  refine lv_goto (tgt := 23) hx hb dL_law_909 (by decide) ?_
  refine lv_iload hx hb dL_law_23 (lv_at hl 0 rfl) ?_
  refine lv_aload_n hx hb dL_law_25 rfl (lv_at hl 5 rfl) ?_
  refine va_slen hx hb hXs hbl hbA hS dL_law_26 ?_
  refine W.eq (g2 := F0 m 27 ls [.int 6, .int 6]) rfl ?_
  refine lv_bipush (v := 6) hx hb dL_law_27 (by decide) ?_
  refine lv_isub hx hb dL_law_29 ?_
  refine W.eq (g2 := F0 m 30 ls [.int 0, .int 6]) rfl ?_
  refine lv_icmp_gt (tgt := 912) hx hb dL_law_30 (by decide) (fun _ => ?_) (fun h => ((by revert h; decide : False)).elim)
  refine lv_iconst (v := 1) hx hb dL_law_912 (by decide) ?_
  exact va_forget (fun q h => hA2 _ (hS.2.2 q h)) (W.widen (k := 600002) (n := 7302232) (Nat.le_of_ble_eq_true rfl) (Nat.le_of_ble_eq_true rfl) (lw_ret hx hb hr hlocks dL_law_913))
set_option maxHeartbeats 400000000 in
set_option maxRecDepth 100000 in
theorem lf_two0_p1 {p : Program} {e : Env} {s : State} {m : MethodId} {below : List Frame} {meth : Method} {c : Code} (l : Launch) (hl9 : l.stackTraces = false) (D : va_G) (cT : Nat → ClassId) (aK aV : Nat → Nat) {A : Nat → Prop} {b : Nat} {xs : Nat → Int32} (C : xLw p s m meth c b D cT aK aV A) {H : Heap} {locs : List Loc} {ls : Array Slot} (a0 : Nat) (a1 : Nat) (a2 : Nat) (a3 : Nat) (a4 : Nat) (a5 : Nat) (a6 : Nat) (a7 : Nat) (a8 : Nat) (a9 : Nat) (a10 : Nat) (v11 : Value) (v12 : Value) (b13 : Nat) (v14 : Value) (v15 : Value) (v16 : Value) (v17 : Value) (v18 : Value) (v19 : Value) (v20 : Value) (v21 : Value) (v22 : Value) (v23 : Value) (v24 : Value) (v25 : Value) (v26 : Value) (v27 : Value) (v28 : Value) (v29 : Value) (v30 : Value) (v31 : Value) (v32 : Value) (v33 : Value) (v34 : Value) (v35 : Value) (v36 : Value) (v37 : Value) (v38 : Value) (v39 : Value) (v40 : Value) (v41 : Value) (v42 : Value) (v43 : Value) (v44 : Value) (v45 : Value) (f46 : Nat → Int64) (v47 : Value) (v48 : Value) (v49 : Value) (f50 : Nat → Option Nat) (v53 : Value) (f54 : Nat → Int64) (f56 : Nat → Option Nat) (f59 : Nat → Int32) (f62 : Nat → Int32) (f67 : Nat → Option Nat) (h51 : f50 (xs 3).toNatClampNeg = some a5) (h52 : f50 (xs 4).toNatClampNeg = some a5) (h55 : f54 0 = 0) (h57 : f56 (xs 3).toNatClampNeg = some a9) (h58 : f56 (xs 4).toNatClampNeg = some a9) (h60 : f59 (xs 3).toNatClampNeg = 4) (h61 : f59 (xs 4).toNatClampNeg = 4) (h63 : f62 0 = 110) (h64 : f62 1 = 117) (h65 : f62 2 = 108) (h66 : f62 3 = 108) (h68 : f67 0 = none) (h69 : f67 1 = none) (hto1 : ¬ (xs 1) < 0) (hto2 : ¬ 7 < (xs 1)) (hto3 : (xs 1) ≤ 7) (hto4 : vp_in (xs 1) 8) (hf : xs 2 = 0) (ha1 : ¬ (xs 3) < 0) (ha2 : ¬ 7 < (xs 3)) (ha3 : (xs 3) ≤ 7) (ha4 : vp_in (xs 3) 8) (hb1 : ¬ (xs 4) < 0) (hb2 : ¬ 7 < (xs 4)) (hb3 : (xs 4) ≤ 7) (hb4 : vp_in (xs 4) 8) (hXs : va_X b 6 xs s s.heap) (hP : va_P D xcl [(a0, .inr (0, [v11, v12, .ref b13, .ref a4, v14, .ref a3, v15, v16])), (a1, .inr (5, [v17, .ref a10, v18, v19, v20, v21, v22, v23, v24, v25, v26, v27, v28, v29, v30, v31, v32, v33, v34, v35, v36, v37, v38, v39, .ref a7, .ref a8, v40, v41, v42, v43, v44, v45])), (a2, .inl (cT 2, 1, .inr (.inl f46))), (a3, .inr (2, [v47, v48, v49])), (a4, .inl (cT 3, 8, .inr (.inr (.inr (.inr f50))))), (a5, .inr (2, [.ref a6, .int 1, v53])), (a6, .inl (cT 2, 4096, .inr (.inl f54))), (a7, .inl (cT 5, 8, .inr (.inr (.inr (.inr f56))))), (a8, .inl (cT 1, 8, .inl f59)), (a9, .inl (cT 0, 4096, .inl f62)), (a10, .inl (cT 4, 1024, .inr (.inr (.inr (.inr f67)))))] H) (hD : va_D A [(a0, .inr (0, [v11, v12, .ref b13, .ref a4, v14, .ref a3, v15, v16])), (a1, .inr (5, [v17, .ref a10, v18, v19, v20, v21, v22, v23, v24, v25, v26, v27, v28, v29, v30, v31, v32, v33, v34, v35, v36, v37, v38, v39, .ref a7, .ref a8, v40, v41, v42, v43, v44, v45])), (a2, .inl (cT 2, 1, .inr (.inl f46))), (a3, .inr (2, [v47, v48, v49])), (a4, .inl (cT 3, 8, .inr (.inr (.inr (.inr f50))))), (a5, .inr (2, [.ref a6, .int 1, v53])), (a6, .inl (cT 2, 4096, .inr (.inl f54))), (a7, .inl (cT 5, 8, .inr (.inr (.inr (.inr f56))))), (a8, .inl (cT 1, 8, .inl f59)), (a9, .inl (cT 0, 4096, .inl f62)), (a10, .inl (cT 4, 1024, .inr (.inr (.inr (.inr f67)))))]) (hS : va_S A s.heap H locs) (hl : lv_has ls 8 [(4, .int 0), (3, .ref a2), (2, .ref a1), (1, .ref a0), (0, .ref b)]) : W p l e room_1 s m #[Value.ref b] below meth c H locs 54 107242 (lw_Z below #[Value.ref b] s) (F0 m 651 ls []) := by
  obtain ⟨hx, hb, hr, hml, hown, htx, hbl, hbA, hlocks, hK, hZ, hA, hA2⟩ := C
  refine lv_aload_n hx hb dL_law_651 rfl (lv_at hl 3 rfl) ?_
  refine lv_aload_n hx hb dL_law_652 rfl (lv_at hl 4 rfl) ?_
  refine lv_iload hx hb dL_law_653 (lv_at hl 0 rfl) ?_
  refine lv_iconst (v := 1) hx hb dL_law_655 (by decide) ?_
  refine lv_iadd hx hb dL_law_656 ?_
  refine W.eq (g2 := F0 m 657 ls [.int 1, .ref b, .ref a0]) rfl ?_
  refine va_sld hx hb hXs hbl hbA hS (i := 1) (show ¬ ((1 : Int32) < 0 ∨ 6 ≤ (1 : Int32).toNatClampNeg) by decide) dL_law_657 ?_
  refine W.eq (g2 := F0 m 658 ls [.int (xs 1), .ref a0]) rfl ?_
  refine lv_aload_n hx hb dL_law_658 rfl (lv_at hl 4 rfl) ?_
  refine lv_iload hx hb dL_law_659 (lv_at hl 0 rfl) ?_
  refine lv_iconst (v := 2) hx hb dL_law_661 (by decide) ?_
  refine lv_iadd hx hb dL_law_662 ?_
  refine W.eq (g2 := F0 m 663 ls [.int 2, .ref b, .int (xs 1), .ref a0]) rfl ?_
  refine va_sld hx hb hXs hbl hbA hS (i := 2) (show ¬ ((2 : Int32) < 0 ∨ 6 ≤ (2 : Int32).toNatClampNeg) by decide) dL_law_663 ?_
  refine W.eq (g2 := F0 m 664 ls [.int (xs 2), .int (xs 1), .ref a0]) rfl ?_
  rw [hf]
  refine W.eq (g2 := F0 m 664 ls [.int 0, .int (xs 1), .ref a0]) rfl ?_
  refine lv_aload_n hx hb dL_law_664 rfl (lv_at hl 4 rfl) ?_
  refine lv_iload hx hb dL_law_665 (lv_at hl 0 rfl) ?_
  refine lv_iconst (v := 3) hx hb dL_law_667 (by decide) ?_
  refine lv_iadd hx hb dL_law_668 ?_
  refine W.eq (g2 := F0 m 669 ls [.int 3, .ref b, .int 0, .int (xs 1), .ref a0]) rfl ?_
  refine va_sld hx hb hXs hbl hbA hS (i := 3) (show ¬ ((3 : Int32) < 0 ∨ 6 ≤ (3 : Int32).toNatClampNeg) by decide) dL_law_669 ?_
  refine W.eq (g2 := F0 m 670 ls [.int (xs 3), .int 0, .int (xs 1), .ref a0]) rfl ?_
  refine lv_aload_n hx hb dL_law_670 rfl (lv_at hl 4 rfl) ?_
  refine lv_iload hx hb dL_law_671 (lv_at hl 0 rfl) ?_
  refine lv_iconst (v := 4) hx hb dL_law_673 (by decide) ?_
  refine lv_iadd hx hb dL_law_674 ?_
  refine W.eq (g2 := F0 m 675 ls [.int 4, .ref b, .int (xs 3), .int 0, .int (xs 1), .ref a0]) rfl ?_
  refine va_sld hx hb hXs hbl hbA hS (i := 4) (show ¬ ((4 : Int32) < 0 ∨ 6 ≤ (4 : Int32).toNatClampNeg) by decide) dL_law_675 ?_
  refine W.eq (g2 := F0 m 676 ls [.int (xs 4), .int (xs 3), .int 0, .int (xs 1), .ref a0]) rfl ?_
  obtain ⟨hPc, hDc, hFc⟩ := xcut (wc := [(a0, .inr (0, [v11, v12, .ref b13, .ref a4, v14, .ref a3, v15, v16])), (a3, .inr (2, [v47, v48, v49])), (a4, .inl (cT 3, 8, .inr (.inr (.inr (.inr f50))))), (a5, .inr (2, [.ref a6, .int 1, v53])), (a6, .inl (cT 2, 4096, .inr (.inl f54)))]) hP hD hS hA [0, 3, 4, 5, 6] rfl rfl (by decide)
  refine va_calli (vx_runSW (As := [.ref a0, .int (xs 1), .int 0, .int (xs 3), .int (xs 4)]) (rest := []) ⟨hx, hb, hml, hown, htx⟩ (cL_two_8 l hl9 D cT aK aV H.size a0 a3 a4 a5 a6 (xs 1) (xs 3) (xs 4) v11 v12 b13 v14 v15 v16 v47 v48 v49 f50 v53 f54 hto1 hto2 hto3 hto4 ha1 ha2 ha3 ha4 hb1 hb2 hb3 hb4 (by first | rfl | exact h51 | exact h52 | exact h55 | exact h57 | exact h58 | exact h60 | exact h61 | exact h63 | exact h64 | exact h65 | exact h66 | exact h68 | exact h69) (by first | rfl | exact h51 | exact h52 | exact h55 | exact h57 | exact h58 | exact h60 | exact h61 | exact h63 | exact h64 | exact h65 | exact h66 | exact h68 | exact h69) (by first | rfl | exact h51 | exact h52 | exact h55 | exact h57 | exact h58 | exact h60 | exact h61 | exact h63 | exact h64 | exact h65 | exact h66 | exact h68 | exact h69)) (xcSW 5 htx (xw_goodC kw_4_139) rfl rfl rfl (htx _ kw_1_0) (htx _ kw_4_137) ⟨by decide, by decide, by decide +kernel⟩ ⟨Nat.le_of_ble_eq_true rfl, Nat.le_of_ble_eq_true rfl⟩ (htx _ kw_4_138)) ⟨xPre_blind, (fun U hU hW => ⟨rfl, xPre_of hZ hS hFc hPc hDc hK U hU hW⟩)⟩ rfl rfl hl.1 rfl (lv_room (Nat.le_of_ble_eq_true rfl)) dL_law_676 ⟨Nat.le_of_ble_eq_true rfl, Nat.le_of_ble_eq_true rfl⟩) hS (fun q _ h => hFc q h) hFc (fun r1 u9 t H1 locs ht hvm hr9 hB hz1 hk1 hS => ?_)
  obtain ⟨hP1, hK1, hD1⟩ := hB
  rw [ht] at hP1
  obtain ⟨hP, hD⟩ := xjoin (W := [(a1, .inr (5, [v17, .ref a10, v18, v19, v20, v21, v22, v23, v24, v25, v26, v27, v28, v29, v30, v31, v32, v33, v34, v35, v36, v37, v38, v39, .ref a7, .ref a8, v40, v41, v42, v43, v44, v45])), (a2, .inl (cT 2, 1, .inr (.inl f46))), (a7, .inl (cT 5, 8, .inr (.inr (.inr (.inr f56))))), (a8, .inl (cT 1, 8, .inl f59)), (a9, .inl (cT 0, 4096, .inl f62)), (a10, .inl (cT 4, 1024, .inr (.inr (.inr (.inr f67))))), (a0, .inr (0, [v11, v12, .ref b13, .ref a4, v14, .ref a3, v15, .int 1])), (a3, .inr (2, [v47, .int 0, .int 0])), (a4, .inl (cT 3, 8, .inr (.inr (.inr (.inr f50))))), (a5, .inr (2, [.ref a6, .int 1, v53])), (a6, .inl (cT 2, 4096, .inr (.inl f54)))]) hP hD [0, 3, 4, 5, 6] [1, 2, 7, 8, 9, 10] 6 rfl rfl (by decide) (by decide) hk1 hFc hP1 hD1
  generalize H1 = H at hP hS ⊢
  rw [hr9]
  refine W.eq (g2 := F0 m 679 ls [.int 2]) rfl ?_
  refine lv_istore (lv' := [(5, .int 2), (4, .int 0), (3, .ref a2), (2, .ref a1), (1, .ref a0), (0, .ref b)]) hx hb dL_law_679 hl (by decide) rfl (fun ls hl => ?_)
  refine lv_aload_n hx hb dL_law_681 rfl (lv_at hl 3 rfl) ?_
  refine lv_aload_n hx hb dL_law_682 rfl (lv_at hl 5 rfl) ?_
  refine lv_iload hx hb dL_law_683 (lv_at hl 1 rfl) ?_
  refine lv_iconst (v := 1) hx hb dL_law_685 (by decide) ?_
  refine lv_iadd hx hb dL_law_686 ?_
  refine W.eq (g2 := F0 m 687 ls [.int 1, .ref b, .ref a1]) rfl ?_
  refine va_sld hx hb hXs hbl hbA hS (i := 1) (show ¬ ((1 : Int32) < 0 ∨ 6 ≤ (1 : Int32).toNatClampNeg) by decide) dL_law_687 ?_
  refine W.eq (g2 := F0 m 688 ls [.int (xs 1), .ref a1]) rfl ?_
  refine lv_aload_n hx hb dL_law_688 rfl (lv_at hl 5 rfl) ?_
  refine lv_iload hx hb dL_law_689 (lv_at hl 1 rfl) ?_
  refine lv_iconst (v := 2) hx hb dL_law_691 (by decide) ?_
  refine lv_iadd hx hb dL_law_692 ?_
  refine W.eq (g2 := F0 m 693 ls [.int 2, .ref b, .int (xs 1), .ref a1]) rfl ?_
  refine va_sld hx hb hXs hbl hbA hS (i := 2) (show ¬ ((2 : Int32) < 0 ∨ 6 ≤ (2 : Int32).toNatClampNeg) by decide) dL_law_693 ?_
  refine W.eq (g2 := F0 m 694 ls [.int (xs 2), .int (xs 1), .ref a1]) rfl ?_
  rw [hf]
  refine W.eq (g2 := F0 m 694 ls [.int 0, .int (xs 1), .ref a1]) rfl ?_
  refine lv_aload_n hx hb dL_law_694 rfl (lv_at hl 5 rfl) ?_
  refine lv_iload hx hb dL_law_695 (lv_at hl 1 rfl) ?_
  refine lv_iconst (v := 3) hx hb dL_law_697 (by decide) ?_
  refine lv_iadd hx hb dL_law_698 ?_
  refine W.eq (g2 := F0 m 699 ls [.int 3, .ref b, .int 0, .int (xs 1), .ref a1]) rfl ?_
  refine va_sld hx hb hXs hbl hbA hS (i := 3) (show ¬ ((3 : Int32) < 0 ∨ 6 ≤ (3 : Int32).toNatClampNeg) by decide) dL_law_699 ?_
  refine W.eq (g2 := F0 m 700 ls [.int (xs 3), .int 0, .int (xs 1), .ref a1]) rfl ?_
  refine lv_aload_n hx hb dL_law_700 rfl (lv_at hl 5 rfl) ?_
  refine lv_iload hx hb dL_law_701 (lv_at hl 1 rfl) ?_
  refine lv_iconst (v := 4) hx hb dL_law_703 (by decide) ?_
  refine lv_iadd hx hb dL_law_704 ?_
  refine W.eq (g2 := F0 m 705 ls [.int 4, .ref b, .int (xs 3), .int 0, .int (xs 1), .ref a1]) rfl ?_
  refine va_sld hx hb hXs hbl hbA hS (i := 4) (show ¬ ((4 : Int32) < 0 ∨ 6 ≤ (4 : Int32).toNatClampNeg) by decide) dL_law_705 ?_
  refine W.eq (g2 := F0 m 706 ls [.int (xs 4), .int (xs 3), .int 0, .int (xs 1), .ref a1]) rfl ?_
  obtain ⟨hPc, hDc, hFc⟩ := xcut (wc := [(a1, .inr (5, [v17, .ref a10, v18, v19, v20, v21, v22, v23, v24, v25, v26, v27, v28, v29, v30, v31, v32, v33, v34, v35, v36, v37, v38, v39, .ref a7, .ref a8, v40, v41, v42, v43, v44, v45])), (a7, .inl (cT 5, 8, .inr (.inr (.inr (.inr f56))))), (a8, .inl (cT 1, 8, .inl f59)), (a9, .inl (cT 0, 4096, .inl f62)), (a10, .inl (cT 4, 1024, .inr (.inr (.inr (.inr f67)))))]) hP hD hS hA [0, 2, 3, 4, 5] rfl rfl (by decide)
  refine va_callv (va_runV (C := "ValueBenchModel") (As := [.int (xs 1), .int 0, .int (xs 3), .int (xs 4)]) (rest := []) ⟨hx, hb, hml, hown, htx⟩ (cM_two0_8 l hl9 D cT aK aV H.size a1 a7 a8 a9 a10 (xs 1) (xs 3) (xs 4) v17 v18 v19 v20 v21 v22 v23 v24 v25 v26 v27 v28 v29 v30 v31 v32 v33 v34 v35 v36 v37 v38 v39 v40 v41 v42 v43 v44 v45 f56 f59 f62 f67 hto1 hto2 hto3 hto4 ha1 ha2 ha3 ha4 hb1 hb2 hb3 hb4 (by first | rfl | exact h51 | exact h52 | exact h55 | exact h57 | exact h58 | exact h60 | exact h61 | exact h63 | exact h64 | exact h65 | exact h66 | exact h68 | exact h69) (by first | rfl | exact h51 | exact h52 | exact h55 | exact h57 | exact h58 | exact h60 | exact h61 | exact h63 | exact h64 | exact h65 | exact h66 | exact h68 | exact h69) (by first | rfl | exact h51 | exact h52 | exact h55 | exact h57 | exact h58 | exact h60 | exact h61 | exact h63 | exact h64 | exact h65 | exact h66 | exact h68 | exact h69) (by first | rfl | exact h51 | exact h52 | exact h55 | exact h57 | exact h58 | exact h60 | exact h61 | exact h63 | exact h64 | exact h65 | exact h66 | exact h68 | exact h69) (by first | rfl | exact h51 | exact h52 | exact h55 | exact h57 | exact h58 | exact h60 | exact h61 | exact h63 | exact h64 | exact h65 | exact h66 | exact h68 | exact h69) (by first | rfl | exact h51 | exact h52 | exact h55 | exact h57 | exact h58 | exact h60 | exact h61 | exact h63 | exact h64 | exact h65 | exact h66 | exact h68 | exact h69) (by first | rfl | exact h51 | exact h52 | exact h55 | exact h57 | exact h58 | exact h60 | exact h61 | exact h63 | exact h64 | exact h65 | exact h66 | exact h68 | exact h69) (by first | rfl | exact h51 | exact h52 | exact h55 | exact h57 | exact h58 | exact h60 | exact h61 | exact h63 | exact h64 | exact h65 | exact h66 | exact h68 | exact h69) (by first | rfl | exact h51 | exact h52 | exact h55 | exact h57 | exact h58 | exact h60 | exact h61 | exact h63 | exact h64 | exact h65 | exact h66 | exact h68 | exact h69) (by first | rfl | exact h51 | exact h52 | exact h55 | exact h57 | exact h58 | exact h60 | exact h61 | exact h63 | exact h64 | exact h65 | exact h66 | exact h68 | exact h69)) ⟨callB_of 4 htx (xw_goodC kw_7_127) rfl rfl rfl (htx _ kw_1_5) (htx _ kw_7_124) ⟨by decide, by decide, by decide +kernel⟩ ⟨Nat.le_of_ble_eq_true rfl, Nat.le_of_ble_eq_true rfl⟩, (htx _ kw_7_125), (htx _ kw_7_126)⟩ ⟨xPre_blind, va_recv hK hP (ci := 5) rfl (q0 := 0) rfl, (fun U hU hW => ⟨rfl, xPre_of hZ hS hFc hPc hDc hK U hU hW⟩)⟩ rfl rfl hl.1 rfl (lv_room (Nat.le_of_ble_eq_true rfl)) dL_law_706 ⟨Nat.le_of_ble_eq_true rfl, Nat.le_of_ble_eq_true rfl⟩) hS (fun q _ h => hFc q h) hFc (fun u9 t H1 locs ht hvm hr9 hB hz1 hk1 hS => ?_)
  obtain ⟨q2, q3, hP1, hK1, hD1⟩ := hB
  rw [ht] at hP1
  obtain ⟨hP, hD⟩ := xjoin (W := [(a2, .inl (cT 2, 1, .inr (.inl f46))), (a0, .inr (0, [v11, v12, .ref b13, .ref a4, v14, .ref a3, v15, .int 1])), (a3, .inr (2, [v47, .int 0, .int 0])), (a4, .inl (cT 3, 8, .inr (.inr (.inr (.inr f50))))), (a5, .inr (2, [.ref a6, .int 1, v53])), (a6, .inl (cT 2, 4096, .inr (.inl f54))), (a1, .inr (5, [.int 2, .ref a10, .int 2, v19, .int 0, v21, v22, .int 0, .int 1, .int 0, v26, v27, .int 0, v29, v30, .ref a9, .int 4, .int 4, .int 0, .int 100, v36, v37, .int 0, .int 1000000000, .ref a7, .ref a8, v40, v41, v42, v43, .int 1, v45])), (a7, .inl (cT 5, 8, .inr (.inr (.inr (.inr f56))))), (a8, .inl (cT 1, 8, .inl f59)), (a9, .inl (cT 0, 4096, .inl f62)), (a10, .inl (cT 4, 1024, .inr (.inr (.inr (.inr (va_up (va_up f67 0 (some q2)) 1 (some q3))))))), (q2, .inr (6, [.int 0, .long 0, .int 0, .int 0, .int 0, .int 1])), (q3, .inr (6, [.int 0, .long 0, .int 0, .int 0, .int 0, .int 1]))]) hP hD [0, 2, 3, 4, 5] [1, 6, 7, 8, 9, 10] 6 rfl rfl (by decide) (by decide) hk1 hFc hP1 hD1
  generalize H1 = H at hP hS ⊢
  refine lv_aload_n hx hb dL_law_709 rfl (lv_at hl 3 rfl) ?_
  obtain ⟨hPc, hDc, hFc⟩ := xcut (wc := [(a1, .inr (5, [.int 2, .ref a10, .int 2, v19, .int 0, v21, v22, .int 0, .int 1, .int 0, v26, v27, .int 0, v29, v30, .ref a9, .int 4, .int 4, .int 0, .int 100, v36, v37, .int 0, .int 1000000000, .ref a7, .ref a8, v40, v41, v42, v43, .int 1, v45]))]) hP hD hS hA [6] rfl rfl (by decide)
  refine va_calli (va_runV (C := "ValueBenchModel") (As := []) (rest := []) ⟨hx, hb, hml, hown, htx⟩ (cM_thrown_2 l hl9 D cT aK aV H.size a1 (.ref a10) (.int 2) v19 (.int 0) v21 v22 (.int 0) (.int 1) (.int 0) v26 v27 (.int 0) v29 v30 (.ref a9) (.int 4) (.int 4) (.int 0) (.int 100) v36 v37 (.int 0) (.int 1000000000) (.ref a7) (.ref a8) v40 v41 v42 v43 (.int 1) v45) ⟨callB_of 0 htx (xw_goodC kw_5_187) rfl rfl rfl (htx _ kw_1_5) (htx _ kw_5_184) ⟨by decide, by decide, by decide +kernel⟩ ⟨Nat.le_of_ble_eq_true rfl, Nat.le_of_ble_eq_true rfl⟩, (htx _ kw_5_185), (htx _ kw_5_186)⟩ ⟨xPre_blind, va_recv hK hP (ci := 5) rfl (q0 := 6) rfl, (fun U hU hW => ⟨rfl, xPre_of hZ hS hFc hPc hDc hK U hU hW⟩)⟩ rfl rfl hl.1 rfl (lv_room (Nat.le_of_ble_eq_true rfl)) dL_law_710 ⟨Nat.le_of_ble_eq_true rfl, Nat.le_of_ble_eq_true rfl⟩) hS (fun q _ h => hFc q h) hFc (fun r4 u9 t H1 locs ht hvm hr9 hB hz1 hk1 hS => ?_)
  obtain ⟨hP1, hK1, hD1⟩ := hB
  rw [ht] at hP1
  obtain ⟨hP, hD⟩ := xjoin (W := [(a2, .inl (cT 2, 1, .inr (.inl f46))), (a0, .inr (0, [v11, v12, .ref b13, .ref a4, v14, .ref a3, v15, .int 1])), (a3, .inr (2, [v47, .int 0, .int 0])), (a4, .inl (cT 3, 8, .inr (.inr (.inr (.inr f50))))), (a5, .inr (2, [.ref a6, .int 1, v53])), (a6, .inl (cT 2, 4096, .inr (.inl f54))), (a7, .inl (cT 5, 8, .inr (.inr (.inr (.inr f56))))), (a8, .inl (cT 1, 8, .inl f59)), (a9, .inl (cT 0, 4096, .inl f62)), (a10, .inl (cT 4, 1024, .inr (.inr (.inr (.inr (va_up (va_up f67 0 (some q2)) 1 (some q3))))))), (q2, .inr (6, [.int 0, .long 0, .int 0, .int 0, .int 0, .int 1])), (q3, .inr (6, [.int 0, .long 0, .int 0, .int 0, .int 0, .int 1])), (a1, .inr (5, [.int 2, .ref a10, .int 2, v19, .int 0, v21, v22, .int 0, .int 1, .int 0, v26, v27, .int 0, v29, v30, .ref a9, .int 4, .int 4, .int 0, .int 100, v36, v37, .int 0, .int 1000000000, .ref a7, .ref a8, v40, v41, v42, v43, .int 1, v45]))]) hP hD [6] [0, 1, 2, 3, 4, 5, 7, 8, 9, 10, 11, 12] 12 rfl rfl (by decide) (by decide) hk1 hFc hP1 hD1
  generalize H1 = H at hP hS ⊢
  rw [hr9]
  refine W.eq (g2 := F0 m 713 ls [.int 2]) rfl ?_
  refine lv_iload hx hb dL_law_713 (lv_at hl 0 rfl) ?_
  refine lv_icmp_eq (tgt := 720) hx hb dL_law_715 (by decide) (fun _ => ?_) (fun h => ((by revert h; decide : False)).elim)
  refine lv_goto (tgt := 906) hx hb dL_law_720 (by decide) ?_
  refine lv_iinc (v := 6) (lv' := [(4, .int 6), (5, .int 2), (3, .ref a2), (2, .ref a1), (1, .ref a0), (0, .ref b)]) hx hb dL_law_906 hl (k := 1) rfl (by decide) (by decide) rfl (fun ls hl => ?_)
  refine lv_goto (tgt := 23) hx hb dL_law_909 (by decide) ?_
  refine lv_iload hx hb dL_law_23 (lv_at hl 0 rfl) ?_
  refine lv_aload_n hx hb dL_law_25 rfl (lv_at hl 5 rfl) ?_
  refine va_slen hx hb hXs hbl hbA hS dL_law_26 ?_
  refine W.eq (g2 := F0 m 27 ls [.int 6, .int 6]) rfl ?_
  refine lv_bipush (v := 6) hx hb dL_law_27 (by decide) ?_
  refine lv_isub hx hb dL_law_29 ?_
  refine W.eq (g2 := F0 m 30 ls [.int 0, .int 6]) rfl ?_
  refine lv_icmp_gt (tgt := 912) hx hb dL_law_30 (by decide) (fun _ => ?_) (fun h => ((by revert h; decide : False)).elim)
  refine lv_iconst (v := 1) hx hb dL_law_912 (by decide) ?_
  exact va_forget (fun q h => hA2 _ (hS.2.2 q h)) (W.widen (k := 600002) (n := 7302232) (Nat.le_of_ble_eq_true rfl) (Nat.le_of_ble_eq_true rfl) (lw_ret hx hb hr hlocks dL_law_913))
set_option maxHeartbeats 400000000 in
set_option maxRecDepth 100000 in
theorem lf_two0_p2 {p : Program} {e : Env} {s : State} {m : MethodId} {below : List Frame} {meth : Method} {c : Code} (l : Launch) (hl9 : l.stackTraces = false) (D : va_G) (cT : Nat → ClassId) (aK aV : Nat → Nat) {A : Nat → Prop} {b : Nat} {xs : Nat → Int32} (C : xLw p s m meth c b D cT aK aV A) {H : Heap} {locs : List Loc} {ls : Array Slot} (a0 : Nat) (a1 : Nat) (a2 : Nat) (a3 : Nat) (a4 : Nat) (a5 : Nat) (a6 : Nat) (a7 : Nat) (a8 : Nat) (a9 : Nat) (a10 : Nat) (a11 : Nat) (v12 : Value) (v13 : Value) (b14 : Nat) (v15 : Value) (v16 : Value) (v17 : Value) (v18 : Value) (v19 : Value) (v20 : Value) (v21 : Value) (v22 : Value) (v23 : Value) (v24 : Value) (v25 : Value) (v26 : Value) (v27 : Value) (v28 : Value) (v29 : Value) (v30 : Value) (v31 : Value) (v32 : Value) (v33 : Value) (v34 : Value) (v35 : Value) (v36 : Value) (v37 : Value) (v38 : Value) (v39 : Value) (v40 : Value) (v41 : Value) (v42 : Value) (v43 : Value) (v44 : Value) (v45 : Value) (v46 : Value) (f47 : Nat → Int64) (v48 : Value) (v49 : Value) (v50 : Value) (f51 : Nat → Option Nat) (b53 : Nat) (v55 : Value) (f56 : Nat → Int64) (f58 : Nat → Option Nat) (f61 : Nat → Int32) (f64 : Nat → Int32) (f69 : Nat → Option Nat) (f72 : Nat → Int32) (h52 : f51 (xs 3).toNatClampNeg = some a5) (h54 : f51 (xs 4).toNatClampNeg = some b53) (h57 : f56 0 = 0) (h59 : f58 (xs 3).toNatClampNeg = some a9) (h60 : f58 (xs 4).toNatClampNeg = some a11) (h62 : f61 (xs 3).toNatClampNeg = 4) (h63 : f61 (xs 4).toNatClampNeg = 4) (h65 : f64 0 = 110) (h66 : f64 1 = 117) (h67 : f64 2 = 108) (h68 : f64 3 = 108) (h70 : f69 0 = none) (h71 : f69 1 = none) (h73 : f72 0 = 110) (h74 : f72 1 = 117) (h75 : f72 2 = 108) (h76 : f72 3 = 108) (hto1 : ¬ (xs 1) < 0) (hto2 : ¬ 7 < (xs 1)) (hto3 : (xs 1) ≤ 7) (hto4 : vp_in (xs 1) 8) (hf : xs 2 = 0) (ha1 : ¬ (xs 3) < 0) (ha2 : ¬ 7 < (xs 3)) (ha3 : (xs 3) ≤ 7) (ha4 : vp_in (xs 3) 8) (hb1 : ¬ (xs 4) < 0) (hb2 : ¬ 7 < (xs 4)) (hb3 : (xs 4) ≤ 7) (hb4 : vp_in (xs 4) 8) (hXs : va_X b 6 xs s s.heap) (hP : va_P D xcl [(a0, .inr (0, [v12, v13, .ref b14, .ref a4, v15, .ref a3, v16, v17])), (a1, .inr (5, [v18, .ref a10, v19, v20, v21, v22, v23, v24, v25, v26, v27, v28, v29, v30, v31, v32, v33, v34, v35, v36, v37, v38, v39, v40, .ref a7, .ref a8, v41, v42, v43, v44, v45, v46])), (a2, .inl (cT 2, 1, .inr (.inl f47))), (a3, .inr (2, [v48, v49, v50])), (a4, .inl (cT 3, 8, .inr (.inr (.inr (.inr f51))))), (a5, .inr (2, [.ref a6, .int 1, v55])), (a6, .inl (cT 2, 4096, .inr (.inl f56))), (a7, .inl (cT 5, 8, .inr (.inr (.inr (.inr f58))))), (a8, .inl (cT 1, 8, .inl f61)), (a9, .inl (cT 0, 4096, .inl f64)), (a10, .inl (cT 4, 1024, .inr (.inr (.inr (.inr f69))))), (a11, .inl (cT 0, 4096, .inl f72))] H) (hD : va_D A [(a0, .inr (0, [v12, v13, .ref b14, .ref a4, v15, .ref a3, v16, v17])), (a1, .inr (5, [v18, .ref a10, v19, v20, v21, v22, v23, v24, v25, v26, v27, v28, v29, v30, v31, v32, v33, v34, v35, v36, v37, v38, v39, v40, .ref a7, .ref a8, v41, v42, v43, v44, v45, v46])), (a2, .inl (cT 2, 1, .inr (.inl f47))), (a3, .inr (2, [v48, v49, v50])), (a4, .inl (cT 3, 8, .inr (.inr (.inr (.inr f51))))), (a5, .inr (2, [.ref a6, .int 1, v55])), (a6, .inl (cT 2, 4096, .inr (.inl f56))), (a7, .inl (cT 5, 8, .inr (.inr (.inr (.inr f58))))), (a8, .inl (cT 1, 8, .inl f61)), (a9, .inl (cT 0, 4096, .inl f64)), (a10, .inl (cT 4, 1024, .inr (.inr (.inr (.inr f69))))), (a11, .inl (cT 0, 4096, .inl f72))]) (hS : va_S A s.heap H locs) (hl : lv_has ls 8 [(4, .int 0), (3, .ref a2), (2, .ref a1), (1, .ref a0), (0, .ref b)]) : W p l e room_1 s m #[Value.ref b] below meth c H locs 54 107242 (lw_Z below #[Value.ref b] s) (F0 m 651 ls []) := by
  obtain ⟨hx, hb, hr, hml, hown, htx, hbl, hbA, hlocks, hK, hZ, hA, hA2⟩ := C
  refine lv_aload_n hx hb dL_law_651 rfl (lv_at hl 3 rfl) ?_
  refine lv_aload_n hx hb dL_law_652 rfl (lv_at hl 4 rfl) ?_
  refine lv_iload hx hb dL_law_653 (lv_at hl 0 rfl) ?_
  refine lv_iconst (v := 1) hx hb dL_law_655 (by decide) ?_
  refine lv_iadd hx hb dL_law_656 ?_
  refine W.eq (g2 := F0 m 657 ls [.int 1, .ref b, .ref a0]) rfl ?_
  refine va_sld hx hb hXs hbl hbA hS (i := 1) (show ¬ ((1 : Int32) < 0 ∨ 6 ≤ (1 : Int32).toNatClampNeg) by decide) dL_law_657 ?_
  refine W.eq (g2 := F0 m 658 ls [.int (xs 1), .ref a0]) rfl ?_
  refine lv_aload_n hx hb dL_law_658 rfl (lv_at hl 4 rfl) ?_
  refine lv_iload hx hb dL_law_659 (lv_at hl 0 rfl) ?_
  refine lv_iconst (v := 2) hx hb dL_law_661 (by decide) ?_
  refine lv_iadd hx hb dL_law_662 ?_
  refine W.eq (g2 := F0 m 663 ls [.int 2, .ref b, .int (xs 1), .ref a0]) rfl ?_
  refine va_sld hx hb hXs hbl hbA hS (i := 2) (show ¬ ((2 : Int32) < 0 ∨ 6 ≤ (2 : Int32).toNatClampNeg) by decide) dL_law_663 ?_
  refine W.eq (g2 := F0 m 664 ls [.int (xs 2), .int (xs 1), .ref a0]) rfl ?_
  rw [hf]
  refine W.eq (g2 := F0 m 664 ls [.int 0, .int (xs 1), .ref a0]) rfl ?_
  refine lv_aload_n hx hb dL_law_664 rfl (lv_at hl 4 rfl) ?_
  refine lv_iload hx hb dL_law_665 (lv_at hl 0 rfl) ?_
  refine lv_iconst (v := 3) hx hb dL_law_667 (by decide) ?_
  refine lv_iadd hx hb dL_law_668 ?_
  refine W.eq (g2 := F0 m 669 ls [.int 3, .ref b, .int 0, .int (xs 1), .ref a0]) rfl ?_
  refine va_sld hx hb hXs hbl hbA hS (i := 3) (show ¬ ((3 : Int32) < 0 ∨ 6 ≤ (3 : Int32).toNatClampNeg) by decide) dL_law_669 ?_
  refine W.eq (g2 := F0 m 670 ls [.int (xs 3), .int 0, .int (xs 1), .ref a0]) rfl ?_
  refine lv_aload_n hx hb dL_law_670 rfl (lv_at hl 4 rfl) ?_
  refine lv_iload hx hb dL_law_671 (lv_at hl 0 rfl) ?_
  refine lv_iconst (v := 4) hx hb dL_law_673 (by decide) ?_
  refine lv_iadd hx hb dL_law_674 ?_
  refine W.eq (g2 := F0 m 675 ls [.int 4, .ref b, .int (xs 3), .int 0, .int (xs 1), .ref a0]) rfl ?_
  refine va_sld hx hb hXs hbl hbA hS (i := 4) (show ¬ ((4 : Int32) < 0 ∨ 6 ≤ (4 : Int32).toNatClampNeg) by decide) dL_law_675 ?_
  refine W.eq (g2 := F0 m 676 ls [.int (xs 4), .int (xs 3), .int 0, .int (xs 1), .ref a0]) rfl ?_
  obtain ⟨hPc, hDc, hFc⟩ := xcut (wc := [(a0, .inr (0, [v12, v13, .ref b14, .ref a4, v15, .ref a3, v16, v17])), (a3, .inr (2, [v48, v49, v50])), (a4, .inl (cT 3, 8, .inr (.inr (.inr (.inr f51))))), (a5, .inr (2, [.ref a6, .int 1, v55])), (a6, .inl (cT 2, 4096, .inr (.inl f56)))]) hP hD hS hA [0, 3, 4, 5, 6] rfl rfl (by decide)
  refine va_calli (vx_runSW (As := [.ref a0, .int (xs 1), .int 0, .int (xs 3), .int (xs 4)]) (rest := []) ⟨hx, hb, hml, hown, htx⟩ (cL_two_9 l hl9 D cT aK aV H.size a0 a3 a4 a5 a6 (xs 1) (xs 3) (xs 4) v12 v13 b14 v15 v16 v17 v48 v49 v50 f51 b53 v55 f56 hto1 hto2 hto3 hto4 ha1 ha2 ha3 ha4 hb1 hb2 hb3 hb4 (by first | rfl | exact h52 | exact h54 | exact h57 | exact h59 | exact h60 | exact h62 | exact h63 | exact h65 | exact h66 | exact h67 | exact h68 | exact h70 | exact h71 | exact h73 | exact h74 | exact h75 | exact h76) (by first | rfl | exact h52 | exact h54 | exact h57 | exact h59 | exact h60 | exact h62 | exact h63 | exact h65 | exact h66 | exact h67 | exact h68 | exact h70 | exact h71 | exact h73 | exact h74 | exact h75 | exact h76) (by first | rfl | exact h52 | exact h54 | exact h57 | exact h59 | exact h60 | exact h62 | exact h63 | exact h65 | exact h66 | exact h67 | exact h68 | exact h70 | exact h71 | exact h73 | exact h74 | exact h75 | exact h76)) (xcSW 5 htx (xw_goodC kw_4_139) rfl rfl rfl (htx _ kw_1_0) (htx _ kw_4_137) ⟨by decide, by decide, by decide +kernel⟩ ⟨Nat.le_of_ble_eq_true rfl, Nat.le_of_ble_eq_true rfl⟩ (htx _ kw_4_138)) ⟨xPre_blind, (fun U hU hW => ⟨rfl, xPre_of hZ hS hFc hPc hDc hK U hU hW⟩)⟩ rfl rfl hl.1 rfl (lv_room (Nat.le_of_ble_eq_true rfl)) dL_law_676 ⟨Nat.le_of_ble_eq_true rfl, Nat.le_of_ble_eq_true rfl⟩) hS (fun q _ h => hFc q h) hFc (fun r1 u9 t H1 locs ht hvm hr9 hB hz1 hk1 hS => ?_)
  obtain ⟨hP1, hK1, hD1⟩ := hB
  rw [ht] at hP1
  obtain ⟨hP, hD⟩ := xjoin (W := [(a1, .inr (5, [v18, .ref a10, v19, v20, v21, v22, v23, v24, v25, v26, v27, v28, v29, v30, v31, v32, v33, v34, v35, v36, v37, v38, v39, v40, .ref a7, .ref a8, v41, v42, v43, v44, v45, v46])), (a2, .inl (cT 2, 1, .inr (.inl f47))), (a7, .inl (cT 5, 8, .inr (.inr (.inr (.inr f58))))), (a8, .inl (cT 1, 8, .inl f61)), (a9, .inl (cT 0, 4096, .inl f64)), (a10, .inl (cT 4, 1024, .inr (.inr (.inr (.inr f69))))), (a11, .inl (cT 0, 4096, .inl f72)), (a0, .inr (0, [v12, v13, .ref b14, .ref a4, v15, .ref a3, v16, .int 1])), (a3, .inr (2, [v48, .int 0, .int 0])), (a4, .inl (cT 3, 8, .inr (.inr (.inr (.inr f51))))), (a5, .inr (2, [.ref a6, .int 1, v55])), (a6, .inl (cT 2, 4096, .inr (.inl f56)))]) hP hD [0, 3, 4, 5, 6] [1, 2, 7, 8, 9, 10, 11] 7 rfl rfl (by decide) (by decide) hk1 hFc hP1 hD1
  generalize H1 = H at hP hS ⊢
  rw [hr9]
  refine W.eq (g2 := F0 m 679 ls [.int 2]) rfl ?_
  refine lv_istore (lv' := [(5, .int 2), (4, .int 0), (3, .ref a2), (2, .ref a1), (1, .ref a0), (0, .ref b)]) hx hb dL_law_679 hl (by decide) rfl (fun ls hl => ?_)
  refine lv_aload_n hx hb dL_law_681 rfl (lv_at hl 3 rfl) ?_
  refine lv_aload_n hx hb dL_law_682 rfl (lv_at hl 5 rfl) ?_
  refine lv_iload hx hb dL_law_683 (lv_at hl 1 rfl) ?_
  refine lv_iconst (v := 1) hx hb dL_law_685 (by decide) ?_
  refine lv_iadd hx hb dL_law_686 ?_
  refine W.eq (g2 := F0 m 687 ls [.int 1, .ref b, .ref a1]) rfl ?_
  refine va_sld hx hb hXs hbl hbA hS (i := 1) (show ¬ ((1 : Int32) < 0 ∨ 6 ≤ (1 : Int32).toNatClampNeg) by decide) dL_law_687 ?_
  refine W.eq (g2 := F0 m 688 ls [.int (xs 1), .ref a1]) rfl ?_
  refine lv_aload_n hx hb dL_law_688 rfl (lv_at hl 5 rfl) ?_
  refine lv_iload hx hb dL_law_689 (lv_at hl 1 rfl) ?_
  refine lv_iconst (v := 2) hx hb dL_law_691 (by decide) ?_
  refine lv_iadd hx hb dL_law_692 ?_
  refine W.eq (g2 := F0 m 693 ls [.int 2, .ref b, .int (xs 1), .ref a1]) rfl ?_
  refine va_sld hx hb hXs hbl hbA hS (i := 2) (show ¬ ((2 : Int32) < 0 ∨ 6 ≤ (2 : Int32).toNatClampNeg) by decide) dL_law_693 ?_
  refine W.eq (g2 := F0 m 694 ls [.int (xs 2), .int (xs 1), .ref a1]) rfl ?_
  rw [hf]
  refine W.eq (g2 := F0 m 694 ls [.int 0, .int (xs 1), .ref a1]) rfl ?_
  refine lv_aload_n hx hb dL_law_694 rfl (lv_at hl 5 rfl) ?_
  refine lv_iload hx hb dL_law_695 (lv_at hl 1 rfl) ?_
  refine lv_iconst (v := 3) hx hb dL_law_697 (by decide) ?_
  refine lv_iadd hx hb dL_law_698 ?_
  refine W.eq (g2 := F0 m 699 ls [.int 3, .ref b, .int 0, .int (xs 1), .ref a1]) rfl ?_
  refine va_sld hx hb hXs hbl hbA hS (i := 3) (show ¬ ((3 : Int32) < 0 ∨ 6 ≤ (3 : Int32).toNatClampNeg) by decide) dL_law_699 ?_
  refine W.eq (g2 := F0 m 700 ls [.int (xs 3), .int 0, .int (xs 1), .ref a1]) rfl ?_
  refine lv_aload_n hx hb dL_law_700 rfl (lv_at hl 5 rfl) ?_
  refine lv_iload hx hb dL_law_701 (lv_at hl 1 rfl) ?_
  refine lv_iconst (v := 4) hx hb dL_law_703 (by decide) ?_
  refine lv_iadd hx hb dL_law_704 ?_
  refine W.eq (g2 := F0 m 705 ls [.int 4, .ref b, .int (xs 3), .int 0, .int (xs 1), .ref a1]) rfl ?_
  refine va_sld hx hb hXs hbl hbA hS (i := 4) (show ¬ ((4 : Int32) < 0 ∨ 6 ≤ (4 : Int32).toNatClampNeg) by decide) dL_law_705 ?_
  refine W.eq (g2 := F0 m 706 ls [.int (xs 4), .int (xs 3), .int 0, .int (xs 1), .ref a1]) rfl ?_
  obtain ⟨hPc, hDc, hFc⟩ := xcut (wc := [(a1, .inr (5, [v18, .ref a10, v19, v20, v21, v22, v23, v24, v25, v26, v27, v28, v29, v30, v31, v32, v33, v34, v35, v36, v37, v38, v39, v40, .ref a7, .ref a8, v41, v42, v43, v44, v45, v46])), (a7, .inl (cT 5, 8, .inr (.inr (.inr (.inr f58))))), (a8, .inl (cT 1, 8, .inl f61)), (a9, .inl (cT 0, 4096, .inl f64)), (a10, .inl (cT 4, 1024, .inr (.inr (.inr (.inr f69))))), (a11, .inl (cT 0, 4096, .inl f72))]) hP hD hS hA [0, 2, 3, 4, 5, 6] rfl rfl (by decide)
  refine va_callv (va_runV (C := "ValueBenchModel") (As := [.int (xs 1), .int 0, .int (xs 3), .int (xs 4)]) (rest := []) ⟨hx, hb, hml, hown, htx⟩ (cM_two0_9 l hl9 D cT aK aV H.size a1 a7 a8 a9 a10 a11 (xs 1) (xs 3) (xs 4) v18 v19 v20 v21 v22 v23 v24 v25 v26 v27 v28 v29 v30 v31 v32 v33 v34 v35 v36 v37 v38 v39 v40 v41 v42 v43 v44 v45 v46 f58 f61 f64 f69 f72 hto1 hto2 hto3 hto4 ha1 ha2 ha3 ha4 hb1 hb2 hb3 hb4 (by first | rfl | exact h52 | exact h54 | exact h57 | exact h59 | exact h60 | exact h62 | exact h63 | exact h65 | exact h66 | exact h67 | exact h68 | exact h70 | exact h71 | exact h73 | exact h74 | exact h75 | exact h76) (by first | rfl | exact h52 | exact h54 | exact h57 | exact h59 | exact h60 | exact h62 | exact h63 | exact h65 | exact h66 | exact h67 | exact h68 | exact h70 | exact h71 | exact h73 | exact h74 | exact h75 | exact h76) (by first | rfl | exact h52 | exact h54 | exact h57 | exact h59 | exact h60 | exact h62 | exact h63 | exact h65 | exact h66 | exact h67 | exact h68 | exact h70 | exact h71 | exact h73 | exact h74 | exact h75 | exact h76) (by first | rfl | exact h52 | exact h54 | exact h57 | exact h59 | exact h60 | exact h62 | exact h63 | exact h65 | exact h66 | exact h67 | exact h68 | exact h70 | exact h71 | exact h73 | exact h74 | exact h75 | exact h76) (by first | rfl | exact h52 | exact h54 | exact h57 | exact h59 | exact h60 | exact h62 | exact h63 | exact h65 | exact h66 | exact h67 | exact h68 | exact h70 | exact h71 | exact h73 | exact h74 | exact h75 | exact h76) (by first | rfl | exact h52 | exact h54 | exact h57 | exact h59 | exact h60 | exact h62 | exact h63 | exact h65 | exact h66 | exact h67 | exact h68 | exact h70 | exact h71 | exact h73 | exact h74 | exact h75 | exact h76) (by first | rfl | exact h52 | exact h54 | exact h57 | exact h59 | exact h60 | exact h62 | exact h63 | exact h65 | exact h66 | exact h67 | exact h68 | exact h70 | exact h71 | exact h73 | exact h74 | exact h75 | exact h76) (by first | rfl | exact h52 | exact h54 | exact h57 | exact h59 | exact h60 | exact h62 | exact h63 | exact h65 | exact h66 | exact h67 | exact h68 | exact h70 | exact h71 | exact h73 | exact h74 | exact h75 | exact h76) (by first | rfl | exact h52 | exact h54 | exact h57 | exact h59 | exact h60 | exact h62 | exact h63 | exact h65 | exact h66 | exact h67 | exact h68 | exact h70 | exact h71 | exact h73 | exact h74 | exact h75 | exact h76) (by first | rfl | exact h52 | exact h54 | exact h57 | exact h59 | exact h60 | exact h62 | exact h63 | exact h65 | exact h66 | exact h67 | exact h68 | exact h70 | exact h71 | exact h73 | exact h74 | exact h75 | exact h76) (by first | rfl | exact h52 | exact h54 | exact h57 | exact h59 | exact h60 | exact h62 | exact h63 | exact h65 | exact h66 | exact h67 | exact h68 | exact h70 | exact h71 | exact h73 | exact h74 | exact h75 | exact h76) (by first | rfl | exact h52 | exact h54 | exact h57 | exact h59 | exact h60 | exact h62 | exact h63 | exact h65 | exact h66 | exact h67 | exact h68 | exact h70 | exact h71 | exact h73 | exact h74 | exact h75 | exact h76) (by first | rfl | exact h52 | exact h54 | exact h57 | exact h59 | exact h60 | exact h62 | exact h63 | exact h65 | exact h66 | exact h67 | exact h68 | exact h70 | exact h71 | exact h73 | exact h74 | exact h75 | exact h76) (by first | rfl | exact h52 | exact h54 | exact h57 | exact h59 | exact h60 | exact h62 | exact h63 | exact h65 | exact h66 | exact h67 | exact h68 | exact h70 | exact h71 | exact h73 | exact h74 | exact h75 | exact h76)) ⟨callB_of 4 htx (xw_goodC kw_7_127) rfl rfl rfl (htx _ kw_1_5) (htx _ kw_7_124) ⟨by decide, by decide, by decide +kernel⟩ ⟨Nat.le_of_ble_eq_true rfl, Nat.le_of_ble_eq_true rfl⟩, (htx _ kw_7_125), (htx _ kw_7_126)⟩ ⟨xPre_blind, va_recv hK hP (ci := 5) rfl (q0 := 0) rfl, (fun U hU hW => ⟨rfl, xPre_of hZ hS hFc hPc hDc hK U hU hW⟩)⟩ rfl rfl hl.1 rfl (lv_room (Nat.le_of_ble_eq_true rfl)) dL_law_706 ⟨Nat.le_of_ble_eq_true rfl, Nat.le_of_ble_eq_true rfl⟩) hS (fun q _ h => hFc q h) hFc (fun u9 t H1 locs ht hvm hr9 hB hz1 hk1 hS => ?_)
  obtain ⟨q2, q3, hP1, hK1, hD1⟩ := hB
  rw [ht] at hP1
  obtain ⟨hP, hD⟩ := xjoin (W := [(a2, .inl (cT 2, 1, .inr (.inl f47))), (a0, .inr (0, [v12, v13, .ref b14, .ref a4, v15, .ref a3, v16, .int 1])), (a3, .inr (2, [v48, .int 0, .int 0])), (a4, .inl (cT 3, 8, .inr (.inr (.inr (.inr f51))))), (a5, .inr (2, [.ref a6, .int 1, v55])), (a6, .inl (cT 2, 4096, .inr (.inl f56))), (a1, .inr (5, [.int 2, .ref a10, .int 2, v20, .int 0, v22, v23, .int 0, .int 1, .int 0, v27, v28, .int 0, v30, v31, .ref a11, .int 4, .int 4, .int 0, .int 100, v37, v38, .int 0, .int 1000000000, .ref a7, .ref a8, v41, v42, v43, v44, .int 1, v46])), (a7, .inl (cT 5, 8, .inr (.inr (.inr (.inr f58))))), (a8, .inl (cT 1, 8, .inl f61)), (a9, .inl (cT 0, 4096, .inl f64)), (a10, .inl (cT 4, 1024, .inr (.inr (.inr (.inr (va_up (va_up f69 0 (some q2)) 1 (some q3))))))), (a11, .inl (cT 0, 4096, .inl f72)), (q2, .inr (6, [.int 0, .long 0, .int 0, .int 0, .int 0, .int 1])), (q3, .inr (6, [.int 0, .long 0, .int 0, .int 0, .int 0, .int 1]))]) hP hD [0, 2, 3, 4, 5, 6] [1, 7, 8, 9, 10, 11] 6 rfl rfl (by decide) (by decide) hk1 hFc hP1 hD1
  generalize H1 = H at hP hS ⊢
  refine lv_aload_n hx hb dL_law_709 rfl (lv_at hl 3 rfl) ?_
  obtain ⟨hPc, hDc, hFc⟩ := xcut (wc := [(a1, .inr (5, [.int 2, .ref a10, .int 2, v20, .int 0, v22, v23, .int 0, .int 1, .int 0, v27, v28, .int 0, v30, v31, .ref a11, .int 4, .int 4, .int 0, .int 100, v37, v38, .int 0, .int 1000000000, .ref a7, .ref a8, v41, v42, v43, v44, .int 1, v46]))]) hP hD hS hA [6] rfl rfl (by decide)
  refine va_calli (va_runV (C := "ValueBenchModel") (As := []) (rest := []) ⟨hx, hb, hml, hown, htx⟩ (cM_thrown_2 l hl9 D cT aK aV H.size a1 (.ref a10) (.int 2) v20 (.int 0) v22 v23 (.int 0) (.int 1) (.int 0) v27 v28 (.int 0) v30 v31 (.ref a11) (.int 4) (.int 4) (.int 0) (.int 100) v37 v38 (.int 0) (.int 1000000000) (.ref a7) (.ref a8) v41 v42 v43 v44 (.int 1) v46) ⟨callB_of 0 htx (xw_goodC kw_5_187) rfl rfl rfl (htx _ kw_1_5) (htx _ kw_5_184) ⟨by decide, by decide, by decide +kernel⟩ ⟨Nat.le_of_ble_eq_true rfl, Nat.le_of_ble_eq_true rfl⟩, (htx _ kw_5_185), (htx _ kw_5_186)⟩ ⟨xPre_blind, va_recv hK hP (ci := 5) rfl (q0 := 6) rfl, (fun U hU hW => ⟨rfl, xPre_of hZ hS hFc hPc hDc hK U hU hW⟩)⟩ rfl rfl hl.1 rfl (lv_room (Nat.le_of_ble_eq_true rfl)) dL_law_710 ⟨Nat.le_of_ble_eq_true rfl, Nat.le_of_ble_eq_true rfl⟩) hS (fun q _ h => hFc q h) hFc (fun r4 u9 t H1 locs ht hvm hr9 hB hz1 hk1 hS => ?_)
  obtain ⟨hP1, hK1, hD1⟩ := hB
  rw [ht] at hP1
  obtain ⟨hP, hD⟩ := xjoin (W := [(a2, .inl (cT 2, 1, .inr (.inl f47))), (a0, .inr (0, [v12, v13, .ref b14, .ref a4, v15, .ref a3, v16, .int 1])), (a3, .inr (2, [v48, .int 0, .int 0])), (a4, .inl (cT 3, 8, .inr (.inr (.inr (.inr f51))))), (a5, .inr (2, [.ref a6, .int 1, v55])), (a6, .inl (cT 2, 4096, .inr (.inl f56))), (a7, .inl (cT 5, 8, .inr (.inr (.inr (.inr f58))))), (a8, .inl (cT 1, 8, .inl f61)), (a9, .inl (cT 0, 4096, .inl f64)), (a10, .inl (cT 4, 1024, .inr (.inr (.inr (.inr (va_up (va_up f69 0 (some q2)) 1 (some q3))))))), (a11, .inl (cT 0, 4096, .inl f72)), (q2, .inr (6, [.int 0, .long 0, .int 0, .int 0, .int 0, .int 1])), (q3, .inr (6, [.int 0, .long 0, .int 0, .int 0, .int 0, .int 1])), (a1, .inr (5, [.int 2, .ref a10, .int 2, v20, .int 0, v22, v23, .int 0, .int 1, .int 0, v27, v28, .int 0, v30, v31, .ref a11, .int 4, .int 4, .int 0, .int 100, v37, v38, .int 0, .int 1000000000, .ref a7, .ref a8, v41, v42, v43, v44, .int 1, v46]))]) hP hD [6] [0, 1, 2, 3, 4, 5, 7, 8, 9, 10, 11, 12, 13] 13 rfl rfl (by decide) (by decide) hk1 hFc hP1 hD1
  generalize H1 = H at hP hS ⊢
  rw [hr9]
  refine W.eq (g2 := F0 m 713 ls [.int 2]) rfl ?_
  refine lv_iload hx hb dL_law_713 (lv_at hl 0 rfl) ?_
  refine lv_icmp_eq (tgt := 720) hx hb dL_law_715 (by decide) (fun _ => ?_) (fun h => ((by revert h; decide : False)).elim)
  refine lv_goto (tgt := 906) hx hb dL_law_720 (by decide) ?_
  refine lv_iinc (v := 6) (lv' := [(4, .int 6), (5, .int 2), (3, .ref a2), (2, .ref a1), (1, .ref a0), (0, .ref b)]) hx hb dL_law_906 hl (k := 1) rfl (by decide) (by decide) rfl (fun ls hl => ?_)
  refine lv_goto (tgt := 23) hx hb dL_law_909 (by decide) ?_
  refine lv_iload hx hb dL_law_23 (lv_at hl 0 rfl) ?_
  refine lv_aload_n hx hb dL_law_25 rfl (lv_at hl 5 rfl) ?_
  refine va_slen hx hb hXs hbl hbA hS dL_law_26 ?_
  refine W.eq (g2 := F0 m 27 ls [.int 6, .int 6]) rfl ?_
  refine lv_bipush (v := 6) hx hb dL_law_27 (by decide) ?_
  refine lv_isub hx hb dL_law_29 ?_
  refine W.eq (g2 := F0 m 30 ls [.int 0, .int 6]) rfl ?_
  refine lv_icmp_gt (tgt := 912) hx hb dL_law_30 (by decide) (fun _ => ?_) (fun h => ((by revert h; decide : False)).elim)
  refine lv_iconst (v := 1) hx hb dL_law_912 (by decide) ?_
  exact va_forget (fun q h => hA2 _ (hS.2.2 q h)) (W.widen (k := 600002) (n := 7302232) (Nat.le_of_ble_eq_true rfl) (Nat.le_of_ble_eq_true rfl) (lw_ret hx hb hr hlocks dL_law_913))
set_option maxHeartbeats 400000000 in
set_option maxRecDepth 100000 in
theorem lf_two0_p3 {p : Program} {e : Env} {s : State} {m : MethodId} {below : List Frame} {meth : Method} {c : Code} (l : Launch) (hl9 : l.stackTraces = false) (D : va_G) (cT : Nat → ClassId) (aK aV : Nat → Nat) {A : Nat → Prop} {b : Nat} {xs : Nat → Int32} (C : xLw p s m meth c b D cT aK aV A) {H : Heap} {locs : List Loc} {ls : Array Slot} (a0 : Nat) (a1 : Nat) (a2 : Nat) (a3 : Nat) (a4 : Nat) (a5 : Nat) (a6 : Nat) (a7 : Nat) (a8 : Nat) (a9 : Nat) (a10 : Nat) (a11 : Nat) (v12 : Value) (v13 : Value) (b14 : Nat) (v15 : Value) (v16 : Value) (v17 : Value) (v18 : Value) (v19 : Value) (v20 : Value) (v21 : Value) (v22 : Value) (v23 : Value) (v24 : Value) (v25 : Value) (v26 : Value) (v27 : Value) (v28 : Value) (v29 : Value) (v30 : Value) (v31 : Value) (v32 : Value) (v33 : Value) (v34 : Value) (v35 : Value) (v36 : Value) (v37 : Value) (v38 : Value) (v39 : Value) (v40 : Value) (v41 : Value) (v42 : Value) (v43 : Value) (v44 : Value) (v45 : Value) (v46 : Value) (f47 : Nat → Int64) (v48 : Value) (v49 : Value) (v50 : Value) (f51 : Nat → Option Nat) (b53 : Nat) (v55 : Value) (f56 : Nat → Int64) (f58 : Nat → Option Nat) (f61 : Nat → Int32) (f64 : Nat → Int32) (f69 : Nat → Option Nat) (f72 : Nat → Int32) (h52 : f51 (xs 3).toNatClampNeg = some a5) (h54 : f51 (xs 4).toNatClampNeg = some b53) (h57 : f56 0 = 0) (h59 : f58 (xs 3).toNatClampNeg = some a9) (h60 : f58 (xs 4).toNatClampNeg = some a11) (h62 : f61 (xs 3).toNatClampNeg = 4) (h63 : f61 (xs 4).toNatClampNeg = 4) (h65 : f64 0 = 110) (h66 : f64 1 = 117) (h67 : f64 2 = 108) (h68 : f64 3 = 108) (h70 : f69 0 = none) (h71 : f69 1 = none) (h73 : f72 0 = 110) (h74 : f72 1 = 117) (h75 : f72 2 = 108) (h76 : f72 3 = 108) (hto1 : ¬ (xs 1) < 0) (hto2 : ¬ 7 < (xs 1)) (hto3 : (xs 1) ≤ 7) (hto4 : vp_in (xs 1) 8) (hf : xs 2 = 0) (ha1 : ¬ (xs 3) < 0) (ha2 : ¬ 7 < (xs 3)) (ha3 : (xs 3) ≤ 7) (ha4 : vp_in (xs 3) 8) (hb1 : ¬ (xs 4) < 0) (hb2 : ¬ 7 < (xs 4)) (hb3 : (xs 4) ≤ 7) (hb4 : vp_in (xs 4) 8) (hXs : va_X b 6 xs s s.heap) (hP : va_P D xcl [(a0, .inr (0, [v12, v13, .ref b14, .ref a4, v15, .ref a3, v16, v17])), (a1, .inr (5, [v18, .ref a10, v19, v20, v21, v22, v23, v24, v25, v26, v27, v28, v29, v30, v31, v32, v33, v34, v35, v36, v37, v38, v39, v40, .ref a7, .ref a8, v41, v42, v43, v44, v45, v46])), (a2, .inl (cT 2, 1, .inr (.inl f47))), (a3, .inr (2, [v48, v49, v50])), (a4, .inl (cT 3, 8, .inr (.inr (.inr (.inr f51))))), (a5, .inr (2, [.ref a6, .int 1, v55])), (a6, .inl (cT 2, 4096, .inr (.inl f56))), (a7, .inl (cT 5, 8, .inr (.inr (.inr (.inr f58))))), (a8, .inl (cT 1, 8, .inl f61)), (a9, .inl (cT 0, 4096, .inl f64)), (a10, .inl (cT 4, 1024, .inr (.inr (.inr (.inr f69))))), (a11, .inl (cT 0, 4096, .inl f72))] H) (hD : va_D A [(a0, .inr (0, [v12, v13, .ref b14, .ref a4, v15, .ref a3, v16, v17])), (a1, .inr (5, [v18, .ref a10, v19, v20, v21, v22, v23, v24, v25, v26, v27, v28, v29, v30, v31, v32, v33, v34, v35, v36, v37, v38, v39, v40, .ref a7, .ref a8, v41, v42, v43, v44, v45, v46])), (a2, .inl (cT 2, 1, .inr (.inl f47))), (a3, .inr (2, [v48, v49, v50])), (a4, .inl (cT 3, 8, .inr (.inr (.inr (.inr f51))))), (a5, .inr (2, [.ref a6, .int 1, v55])), (a6, .inl (cT 2, 4096, .inr (.inl f56))), (a7, .inl (cT 5, 8, .inr (.inr (.inr (.inr f58))))), (a8, .inl (cT 1, 8, .inl f61)), (a9, .inl (cT 0, 4096, .inl f64)), (a10, .inl (cT 4, 1024, .inr (.inr (.inr (.inr f69))))), (a11, .inl (cT 0, 4096, .inl f72))]) (hS : va_S A s.heap H locs) (hl : lv_has ls 8 [(4, .int 0), (3, .ref a2), (2, .ref a1), (1, .ref a0), (0, .ref b)]) : W p l e room_1 s m #[Value.ref b] below meth c H locs 54 107242 (lw_Z below #[Value.ref b] s) (F0 m 651 ls []) := by
  obtain ⟨hx, hb, hr, hml, hown, htx, hbl, hbA, hlocks, hK, hZ, hA, hA2⟩ := C
  refine lv_aload_n hx hb dL_law_651 rfl (lv_at hl 3 rfl) ?_
  refine lv_aload_n hx hb dL_law_652 rfl (lv_at hl 4 rfl) ?_
  refine lv_iload hx hb dL_law_653 (lv_at hl 0 rfl) ?_
  refine lv_iconst (v := 1) hx hb dL_law_655 (by decide) ?_
  refine lv_iadd hx hb dL_law_656 ?_
  refine W.eq (g2 := F0 m 657 ls [.int 1, .ref b, .ref a0]) rfl ?_
  refine va_sld hx hb hXs hbl hbA hS (i := 1) (show ¬ ((1 : Int32) < 0 ∨ 6 ≤ (1 : Int32).toNatClampNeg) by decide) dL_law_657 ?_
  refine W.eq (g2 := F0 m 658 ls [.int (xs 1), .ref a0]) rfl ?_
  refine lv_aload_n hx hb dL_law_658 rfl (lv_at hl 4 rfl) ?_
  refine lv_iload hx hb dL_law_659 (lv_at hl 0 rfl) ?_
  refine lv_iconst (v := 2) hx hb dL_law_661 (by decide) ?_
  refine lv_iadd hx hb dL_law_662 ?_
  refine W.eq (g2 := F0 m 663 ls [.int 2, .ref b, .int (xs 1), .ref a0]) rfl ?_
  refine va_sld hx hb hXs hbl hbA hS (i := 2) (show ¬ ((2 : Int32) < 0 ∨ 6 ≤ (2 : Int32).toNatClampNeg) by decide) dL_law_663 ?_
  refine W.eq (g2 := F0 m 664 ls [.int (xs 2), .int (xs 1), .ref a0]) rfl ?_
  rw [hf]
  refine W.eq (g2 := F0 m 664 ls [.int 0, .int (xs 1), .ref a0]) rfl ?_
  refine lv_aload_n hx hb dL_law_664 rfl (lv_at hl 4 rfl) ?_
  refine lv_iload hx hb dL_law_665 (lv_at hl 0 rfl) ?_
  refine lv_iconst (v := 3) hx hb dL_law_667 (by decide) ?_
  refine lv_iadd hx hb dL_law_668 ?_
  refine W.eq (g2 := F0 m 669 ls [.int 3, .ref b, .int 0, .int (xs 1), .ref a0]) rfl ?_
  refine va_sld hx hb hXs hbl hbA hS (i := 3) (show ¬ ((3 : Int32) < 0 ∨ 6 ≤ (3 : Int32).toNatClampNeg) by decide) dL_law_669 ?_
  refine W.eq (g2 := F0 m 670 ls [.int (xs 3), .int 0, .int (xs 1), .ref a0]) rfl ?_
  refine lv_aload_n hx hb dL_law_670 rfl (lv_at hl 4 rfl) ?_
  refine lv_iload hx hb dL_law_671 (lv_at hl 0 rfl) ?_
  refine lv_iconst (v := 4) hx hb dL_law_673 (by decide) ?_
  refine lv_iadd hx hb dL_law_674 ?_
  refine W.eq (g2 := F0 m 675 ls [.int 4, .ref b, .int (xs 3), .int 0, .int (xs 1), .ref a0]) rfl ?_
  refine va_sld hx hb hXs hbl hbA hS (i := 4) (show ¬ ((4 : Int32) < 0 ∨ 6 ≤ (4 : Int32).toNatClampNeg) by decide) dL_law_675 ?_
  refine W.eq (g2 := F0 m 676 ls [.int (xs 4), .int (xs 3), .int 0, .int (xs 1), .ref a0]) rfl ?_
  obtain ⟨hPc, hDc, hFc⟩ := xcut (wc := [(a0, .inr (0, [v12, v13, .ref b14, .ref a4, v15, .ref a3, v16, v17])), (a3, .inr (2, [v48, v49, v50])), (a4, .inl (cT 3, 8, .inr (.inr (.inr (.inr f51))))), (a5, .inr (2, [.ref a6, .int 1, v55])), (a6, .inl (cT 2, 4096, .inr (.inl f56)))]) hP hD hS hA [0, 3, 4, 5, 6] rfl rfl (by decide)
  refine va_calli (vx_runSW (As := [.ref a0, .int (xs 1), .int 0, .int (xs 3), .int (xs 4)]) (rest := []) ⟨hx, hb, hml, hown, htx⟩ (cL_two_9 l hl9 D cT aK aV H.size a0 a3 a4 a5 a6 (xs 1) (xs 3) (xs 4) v12 v13 b14 v15 v16 v17 v48 v49 v50 f51 b53 v55 f56 hto1 hto2 hto3 hto4 ha1 ha2 ha3 ha4 hb1 hb2 hb3 hb4 (by first | rfl | exact h52 | exact h54 | exact h57 | exact h59 | exact h60 | exact h62 | exact h63 | exact h65 | exact h66 | exact h67 | exact h68 | exact h70 | exact h71 | exact h73 | exact h74 | exact h75 | exact h76) (by first | rfl | exact h52 | exact h54 | exact h57 | exact h59 | exact h60 | exact h62 | exact h63 | exact h65 | exact h66 | exact h67 | exact h68 | exact h70 | exact h71 | exact h73 | exact h74 | exact h75 | exact h76) (by first | rfl | exact h52 | exact h54 | exact h57 | exact h59 | exact h60 | exact h62 | exact h63 | exact h65 | exact h66 | exact h67 | exact h68 | exact h70 | exact h71 | exact h73 | exact h74 | exact h75 | exact h76)) (xcSW 5 htx (xw_goodC kw_4_139) rfl rfl rfl (htx _ kw_1_0) (htx _ kw_4_137) ⟨by decide, by decide, by decide +kernel⟩ ⟨Nat.le_of_ble_eq_true rfl, Nat.le_of_ble_eq_true rfl⟩ (htx _ kw_4_138)) ⟨xPre_blind, (fun U hU hW => ⟨rfl, xPre_of hZ hS hFc hPc hDc hK U hU hW⟩)⟩ rfl rfl hl.1 rfl (lv_room (Nat.le_of_ble_eq_true rfl)) dL_law_676 ⟨Nat.le_of_ble_eq_true rfl, Nat.le_of_ble_eq_true rfl⟩) hS (fun q _ h => hFc q h) hFc (fun r1 u9 t H1 locs ht hvm hr9 hB hz1 hk1 hS => ?_)
  obtain ⟨hP1, hK1, hD1⟩ := hB
  rw [ht] at hP1
  obtain ⟨hP, hD⟩ := xjoin (W := [(a1, .inr (5, [v18, .ref a10, v19, v20, v21, v22, v23, v24, v25, v26, v27, v28, v29, v30, v31, v32, v33, v34, v35, v36, v37, v38, v39, v40, .ref a7, .ref a8, v41, v42, v43, v44, v45, v46])), (a2, .inl (cT 2, 1, .inr (.inl f47))), (a7, .inl (cT 5, 8, .inr (.inr (.inr (.inr f58))))), (a8, .inl (cT 1, 8, .inl f61)), (a9, .inl (cT 0, 4096, .inl f64)), (a10, .inl (cT 4, 1024, .inr (.inr (.inr (.inr f69))))), (a11, .inl (cT 0, 4096, .inl f72)), (a0, .inr (0, [v12, v13, .ref b14, .ref a4, v15, .ref a3, v16, .int 1])), (a3, .inr (2, [v48, .int 0, .int 0])), (a4, .inl (cT 3, 8, .inr (.inr (.inr (.inr f51))))), (a5, .inr (2, [.ref a6, .int 1, v55])), (a6, .inl (cT 2, 4096, .inr (.inl f56)))]) hP hD [0, 3, 4, 5, 6] [1, 2, 7, 8, 9, 10, 11] 7 rfl rfl (by decide) (by decide) hk1 hFc hP1 hD1
  generalize H1 = H at hP hS ⊢
  rw [hr9]
  refine W.eq (g2 := F0 m 679 ls [.int 2]) rfl ?_
  refine lv_istore (lv' := [(5, .int 2), (4, .int 0), (3, .ref a2), (2, .ref a1), (1, .ref a0), (0, .ref b)]) hx hb dL_law_679 hl (by decide) rfl (fun ls hl => ?_)
  refine lv_aload_n hx hb dL_law_681 rfl (lv_at hl 3 rfl) ?_
  refine lv_aload_n hx hb dL_law_682 rfl (lv_at hl 5 rfl) ?_
  refine lv_iload hx hb dL_law_683 (lv_at hl 1 rfl) ?_
  refine lv_iconst (v := 1) hx hb dL_law_685 (by decide) ?_
  refine lv_iadd hx hb dL_law_686 ?_
  refine W.eq (g2 := F0 m 687 ls [.int 1, .ref b, .ref a1]) rfl ?_
  refine va_sld hx hb hXs hbl hbA hS (i := 1) (show ¬ ((1 : Int32) < 0 ∨ 6 ≤ (1 : Int32).toNatClampNeg) by decide) dL_law_687 ?_
  refine W.eq (g2 := F0 m 688 ls [.int (xs 1), .ref a1]) rfl ?_
  refine lv_aload_n hx hb dL_law_688 rfl (lv_at hl 5 rfl) ?_
  refine lv_iload hx hb dL_law_689 (lv_at hl 1 rfl) ?_
  refine lv_iconst (v := 2) hx hb dL_law_691 (by decide) ?_
  refine lv_iadd hx hb dL_law_692 ?_
  refine W.eq (g2 := F0 m 693 ls [.int 2, .ref b, .int (xs 1), .ref a1]) rfl ?_
  refine va_sld hx hb hXs hbl hbA hS (i := 2) (show ¬ ((2 : Int32) < 0 ∨ 6 ≤ (2 : Int32).toNatClampNeg) by decide) dL_law_693 ?_
  refine W.eq (g2 := F0 m 694 ls [.int (xs 2), .int (xs 1), .ref a1]) rfl ?_
  rw [hf]
  refine W.eq (g2 := F0 m 694 ls [.int 0, .int (xs 1), .ref a1]) rfl ?_
  refine lv_aload_n hx hb dL_law_694 rfl (lv_at hl 5 rfl) ?_
  refine lv_iload hx hb dL_law_695 (lv_at hl 1 rfl) ?_
  refine lv_iconst (v := 3) hx hb dL_law_697 (by decide) ?_
  refine lv_iadd hx hb dL_law_698 ?_
  refine W.eq (g2 := F0 m 699 ls [.int 3, .ref b, .int 0, .int (xs 1), .ref a1]) rfl ?_
  refine va_sld hx hb hXs hbl hbA hS (i := 3) (show ¬ ((3 : Int32) < 0 ∨ 6 ≤ (3 : Int32).toNatClampNeg) by decide) dL_law_699 ?_
  refine W.eq (g2 := F0 m 700 ls [.int (xs 3), .int 0, .int (xs 1), .ref a1]) rfl ?_
  refine lv_aload_n hx hb dL_law_700 rfl (lv_at hl 5 rfl) ?_
  refine lv_iload hx hb dL_law_701 (lv_at hl 1 rfl) ?_
  refine lv_iconst (v := 4) hx hb dL_law_703 (by decide) ?_
  refine lv_iadd hx hb dL_law_704 ?_
  refine W.eq (g2 := F0 m 705 ls [.int 4, .ref b, .int (xs 3), .int 0, .int (xs 1), .ref a1]) rfl ?_
  refine va_sld hx hb hXs hbl hbA hS (i := 4) (show ¬ ((4 : Int32) < 0 ∨ 6 ≤ (4 : Int32).toNatClampNeg) by decide) dL_law_705 ?_
  refine W.eq (g2 := F0 m 706 ls [.int (xs 4), .int (xs 3), .int 0, .int (xs 1), .ref a1]) rfl ?_
  obtain ⟨hPc, hDc, hFc⟩ := xcut (wc := [(a1, .inr (5, [v18, .ref a10, v19, v20, v21, v22, v23, v24, v25, v26, v27, v28, v29, v30, v31, v32, v33, v34, v35, v36, v37, v38, v39, v40, .ref a7, .ref a8, v41, v42, v43, v44, v45, v46])), (a7, .inl (cT 5, 8, .inr (.inr (.inr (.inr f58))))), (a8, .inl (cT 1, 8, .inl f61)), (a9, .inl (cT 0, 4096, .inl f64)), (a10, .inl (cT 4, 1024, .inr (.inr (.inr (.inr f69))))), (a11, .inl (cT 0, 4096, .inl f72))]) hP hD hS hA [0, 2, 3, 4, 5, 6] rfl rfl (by decide)
  refine va_callv (va_runV (C := "ValueBenchModel") (As := [.int (xs 1), .int 0, .int (xs 3), .int (xs 4)]) (rest := []) ⟨hx, hb, hml, hown, htx⟩ (cM_two0_9 l hl9 D cT aK aV H.size a1 a7 a8 a9 a10 a11 (xs 1) (xs 3) (xs 4) v18 v19 v20 v21 v22 v23 v24 v25 v26 v27 v28 v29 v30 v31 v32 v33 v34 v35 v36 v37 v38 v39 v40 v41 v42 v43 v44 v45 v46 f58 f61 f64 f69 f72 hto1 hto2 hto3 hto4 ha1 ha2 ha3 ha4 hb1 hb2 hb3 hb4 (by first | rfl | exact h52 | exact h54 | exact h57 | exact h59 | exact h60 | exact h62 | exact h63 | exact h65 | exact h66 | exact h67 | exact h68 | exact h70 | exact h71 | exact h73 | exact h74 | exact h75 | exact h76) (by first | rfl | exact h52 | exact h54 | exact h57 | exact h59 | exact h60 | exact h62 | exact h63 | exact h65 | exact h66 | exact h67 | exact h68 | exact h70 | exact h71 | exact h73 | exact h74 | exact h75 | exact h76) (by first | rfl | exact h52 | exact h54 | exact h57 | exact h59 | exact h60 | exact h62 | exact h63 | exact h65 | exact h66 | exact h67 | exact h68 | exact h70 | exact h71 | exact h73 | exact h74 | exact h75 | exact h76) (by first | rfl | exact h52 | exact h54 | exact h57 | exact h59 | exact h60 | exact h62 | exact h63 | exact h65 | exact h66 | exact h67 | exact h68 | exact h70 | exact h71 | exact h73 | exact h74 | exact h75 | exact h76) (by first | rfl | exact h52 | exact h54 | exact h57 | exact h59 | exact h60 | exact h62 | exact h63 | exact h65 | exact h66 | exact h67 | exact h68 | exact h70 | exact h71 | exact h73 | exact h74 | exact h75 | exact h76) (by first | rfl | exact h52 | exact h54 | exact h57 | exact h59 | exact h60 | exact h62 | exact h63 | exact h65 | exact h66 | exact h67 | exact h68 | exact h70 | exact h71 | exact h73 | exact h74 | exact h75 | exact h76) (by first | rfl | exact h52 | exact h54 | exact h57 | exact h59 | exact h60 | exact h62 | exact h63 | exact h65 | exact h66 | exact h67 | exact h68 | exact h70 | exact h71 | exact h73 | exact h74 | exact h75 | exact h76) (by first | rfl | exact h52 | exact h54 | exact h57 | exact h59 | exact h60 | exact h62 | exact h63 | exact h65 | exact h66 | exact h67 | exact h68 | exact h70 | exact h71 | exact h73 | exact h74 | exact h75 | exact h76) (by first | rfl | exact h52 | exact h54 | exact h57 | exact h59 | exact h60 | exact h62 | exact h63 | exact h65 | exact h66 | exact h67 | exact h68 | exact h70 | exact h71 | exact h73 | exact h74 | exact h75 | exact h76) (by first | rfl | exact h52 | exact h54 | exact h57 | exact h59 | exact h60 | exact h62 | exact h63 | exact h65 | exact h66 | exact h67 | exact h68 | exact h70 | exact h71 | exact h73 | exact h74 | exact h75 | exact h76) (by first | rfl | exact h52 | exact h54 | exact h57 | exact h59 | exact h60 | exact h62 | exact h63 | exact h65 | exact h66 | exact h67 | exact h68 | exact h70 | exact h71 | exact h73 | exact h74 | exact h75 | exact h76) (by first | rfl | exact h52 | exact h54 | exact h57 | exact h59 | exact h60 | exact h62 | exact h63 | exact h65 | exact h66 | exact h67 | exact h68 | exact h70 | exact h71 | exact h73 | exact h74 | exact h75 | exact h76) (by first | rfl | exact h52 | exact h54 | exact h57 | exact h59 | exact h60 | exact h62 | exact h63 | exact h65 | exact h66 | exact h67 | exact h68 | exact h70 | exact h71 | exact h73 | exact h74 | exact h75 | exact h76) (by first | rfl | exact h52 | exact h54 | exact h57 | exact h59 | exact h60 | exact h62 | exact h63 | exact h65 | exact h66 | exact h67 | exact h68 | exact h70 | exact h71 | exact h73 | exact h74 | exact h75 | exact h76)) ⟨callB_of 4 htx (xw_goodC kw_7_127) rfl rfl rfl (htx _ kw_1_5) (htx _ kw_7_124) ⟨by decide, by decide, by decide +kernel⟩ ⟨Nat.le_of_ble_eq_true rfl, Nat.le_of_ble_eq_true rfl⟩, (htx _ kw_7_125), (htx _ kw_7_126)⟩ ⟨xPre_blind, va_recv hK hP (ci := 5) rfl (q0 := 0) rfl, (fun U hU hW => ⟨rfl, xPre_of hZ hS hFc hPc hDc hK U hU hW⟩)⟩ rfl rfl hl.1 rfl (lv_room (Nat.le_of_ble_eq_true rfl)) dL_law_706 ⟨Nat.le_of_ble_eq_true rfl, Nat.le_of_ble_eq_true rfl⟩) hS (fun q _ h => hFc q h) hFc (fun u9 t H1 locs ht hvm hr9 hB hz1 hk1 hS => ?_)
  obtain ⟨q2, q3, hP1, hK1, hD1⟩ := hB
  rw [ht] at hP1
  obtain ⟨hP, hD⟩ := xjoin (W := [(a2, .inl (cT 2, 1, .inr (.inl f47))), (a0, .inr (0, [v12, v13, .ref b14, .ref a4, v15, .ref a3, v16, .int 1])), (a3, .inr (2, [v48, .int 0, .int 0])), (a4, .inl (cT 3, 8, .inr (.inr (.inr (.inr f51))))), (a5, .inr (2, [.ref a6, .int 1, v55])), (a6, .inl (cT 2, 4096, .inr (.inl f56))), (a1, .inr (5, [.int 2, .ref a10, .int 2, v20, .int 0, v22, v23, .int 0, .int 1, .int 0, v27, v28, .int 0, v30, v31, .ref a11, .int 4, .int 4, .int 0, .int 100, v37, v38, .int 0, .int 1000000000, .ref a7, .ref a8, v41, v42, v43, v44, .int 1, v46])), (a7, .inl (cT 5, 8, .inr (.inr (.inr (.inr f58))))), (a8, .inl (cT 1, 8, .inl f61)), (a9, .inl (cT 0, 4096, .inl f64)), (a10, .inl (cT 4, 1024, .inr (.inr (.inr (.inr (va_up (va_up f69 0 (some q2)) 1 (some q3))))))), (a11, .inl (cT 0, 4096, .inl f72)), (q2, .inr (6, [.int 0, .long 0, .int 0, .int 0, .int 0, .int 1])), (q3, .inr (6, [.int 0, .long 0, .int 0, .int 0, .int 0, .int 1]))]) hP hD [0, 2, 3, 4, 5, 6] [1, 7, 8, 9, 10, 11] 6 rfl rfl (by decide) (by decide) hk1 hFc hP1 hD1
  generalize H1 = H at hP hS ⊢
  refine lv_aload_n hx hb dL_law_709 rfl (lv_at hl 3 rfl) ?_
  obtain ⟨hPc, hDc, hFc⟩ := xcut (wc := [(a1, .inr (5, [.int 2, .ref a10, .int 2, v20, .int 0, v22, v23, .int 0, .int 1, .int 0, v27, v28, .int 0, v30, v31, .ref a11, .int 4, .int 4, .int 0, .int 100, v37, v38, .int 0, .int 1000000000, .ref a7, .ref a8, v41, v42, v43, v44, .int 1, v46]))]) hP hD hS hA [6] rfl rfl (by decide)
  refine va_calli (va_runV (C := "ValueBenchModel") (As := []) (rest := []) ⟨hx, hb, hml, hown, htx⟩ (cM_thrown_2 l hl9 D cT aK aV H.size a1 (.ref a10) (.int 2) v20 (.int 0) v22 v23 (.int 0) (.int 1) (.int 0) v27 v28 (.int 0) v30 v31 (.ref a11) (.int 4) (.int 4) (.int 0) (.int 100) v37 v38 (.int 0) (.int 1000000000) (.ref a7) (.ref a8) v41 v42 v43 v44 (.int 1) v46) ⟨callB_of 0 htx (xw_goodC kw_5_187) rfl rfl rfl (htx _ kw_1_5) (htx _ kw_5_184) ⟨by decide, by decide, by decide +kernel⟩ ⟨Nat.le_of_ble_eq_true rfl, Nat.le_of_ble_eq_true rfl⟩, (htx _ kw_5_185), (htx _ kw_5_186)⟩ ⟨xPre_blind, va_recv hK hP (ci := 5) rfl (q0 := 6) rfl, (fun U hU hW => ⟨rfl, xPre_of hZ hS hFc hPc hDc hK U hU hW⟩)⟩ rfl rfl hl.1 rfl (lv_room (Nat.le_of_ble_eq_true rfl)) dL_law_710 ⟨Nat.le_of_ble_eq_true rfl, Nat.le_of_ble_eq_true rfl⟩) hS (fun q _ h => hFc q h) hFc (fun r4 u9 t H1 locs ht hvm hr9 hB hz1 hk1 hS => ?_)
  obtain ⟨hP1, hK1, hD1⟩ := hB
  rw [ht] at hP1
  obtain ⟨hP, hD⟩ := xjoin (W := [(a2, .inl (cT 2, 1, .inr (.inl f47))), (a0, .inr (0, [v12, v13, .ref b14, .ref a4, v15, .ref a3, v16, .int 1])), (a3, .inr (2, [v48, .int 0, .int 0])), (a4, .inl (cT 3, 8, .inr (.inr (.inr (.inr f51))))), (a5, .inr (2, [.ref a6, .int 1, v55])), (a6, .inl (cT 2, 4096, .inr (.inl f56))), (a7, .inl (cT 5, 8, .inr (.inr (.inr (.inr f58))))), (a8, .inl (cT 1, 8, .inl f61)), (a9, .inl (cT 0, 4096, .inl f64)), (a10, .inl (cT 4, 1024, .inr (.inr (.inr (.inr (va_up (va_up f69 0 (some q2)) 1 (some q3))))))), (a11, .inl (cT 0, 4096, .inl f72)), (q2, .inr (6, [.int 0, .long 0, .int 0, .int 0, .int 0, .int 1])), (q3, .inr (6, [.int 0, .long 0, .int 0, .int 0, .int 0, .int 1])), (a1, .inr (5, [.int 2, .ref a10, .int 2, v20, .int 0, v22, v23, .int 0, .int 1, .int 0, v27, v28, .int 0, v30, v31, .ref a11, .int 4, .int 4, .int 0, .int 100, v37, v38, .int 0, .int 1000000000, .ref a7, .ref a8, v41, v42, v43, v44, .int 1, v46]))]) hP hD [6] [0, 1, 2, 3, 4, 5, 7, 8, 9, 10, 11, 12, 13] 13 rfl rfl (by decide) (by decide) hk1 hFc hP1 hD1
  generalize H1 = H at hP hS ⊢
  rw [hr9]
  refine W.eq (g2 := F0 m 713 ls [.int 2]) rfl ?_
  refine lv_iload hx hb dL_law_713 (lv_at hl 0 rfl) ?_
  refine lv_icmp_eq (tgt := 720) hx hb dL_law_715 (by decide) (fun _ => ?_) (fun h => ((by revert h; decide : False)).elim)
  refine lv_goto (tgt := 906) hx hb dL_law_720 (by decide) ?_
  refine lv_iinc (v := 6) (lv' := [(4, .int 6), (5, .int 2), (3, .ref a2), (2, .ref a1), (1, .ref a0), (0, .ref b)]) hx hb dL_law_906 hl (k := 1) rfl (by decide) (by decide) rfl (fun ls hl => ?_)
  refine lv_goto (tgt := 23) hx hb dL_law_909 (by decide) ?_
  refine lv_iload hx hb dL_law_23 (lv_at hl 0 rfl) ?_
  refine lv_aload_n hx hb dL_law_25 rfl (lv_at hl 5 rfl) ?_
  refine va_slen hx hb hXs hbl hbA hS dL_law_26 ?_
  refine W.eq (g2 := F0 m 27 ls [.int 6, .int 6]) rfl ?_
  refine lv_bipush (v := 6) hx hb dL_law_27 (by decide) ?_
  refine lv_isub hx hb dL_law_29 ?_
  refine W.eq (g2 := F0 m 30 ls [.int 0, .int 6]) rfl ?_
  refine lv_icmp_gt (tgt := 912) hx hb dL_law_30 (by decide) (fun _ => ?_) (fun h => ((by revert h; decide : False)).elim)
  refine lv_iconst (v := 1) hx hb dL_law_912 (by decide) ?_
  exact va_forget (fun q h => hA2 _ (hS.2.2 q h)) (W.widen (k := 600002) (n := 7302232) (Nat.le_of_ble_eq_true rfl) (Nat.le_of_ble_eq_true rfl) (lw_ret hx hb hr hlocks dL_law_913))
set_option maxHeartbeats 400000000 in
set_option maxRecDepth 100000 in
theorem lf_two0_p0 {p : Program} {e : Env} {s : State} {m : MethodId} {below : List Frame} {meth : Method} {c : Code} (l : Launch) (hl9 : l.stackTraces = false) (D : va_G) (cT : Nat → ClassId) (aK aV : Nat → Nat) {A : Nat → Prop} {b : Nat} {xs : Nat → Int32} (C : xLw p s m meth c b D cT aK aV A) {H : Heap} {locs : List Loc} {ls : Array Slot} (a0 : Nat) (a1 : Nat) (a2 : Nat) (a3 : Nat) (a4 : Nat) (a5 : Nat) (a6 : Nat) (a7 : Nat) (a8 : Nat) (a9 : Nat) (a10 : Nat) (a11 : Nat) (v12 : Value) (v13 : Value) (b14 : Nat) (v15 : Value) (v16 : Value) (v17 : Value) (v18 : Value) (v19 : Value) (v20 : Value) (v21 : Value) (v22 : Value) (v23 : Value) (v24 : Value) (v25 : Value) (v26 : Value) (v27 : Value) (v28 : Value) (v29 : Value) (v30 : Value) (v31 : Value) (v32 : Value) (v33 : Value) (v34 : Value) (v35 : Value) (v36 : Value) (v37 : Value) (v38 : Value) (v39 : Value) (v40 : Value) (v41 : Value) (v42 : Value) (v43 : Value) (v44 : Value) (v45 : Value) (v46 : Value) (f47 : Nat → Int64) (v48 : Value) (v49 : Value) (v50 : Value) (f51 : Nat → Option Nat) (b53 : Nat) (v55 : Value) (f56 : Nat → Int64) (f58 : Nat → Option Nat) (f61 : Nat → Int32) (f64 : Nat → Int32) (f69 : Nat → Option Nat) (f72 : Nat → Int32) (h52 : f51 (xs 3).toNatClampNeg = some a5) (h54 : f51 (xs 4).toNatClampNeg = some b53) (h57 : f56 0 = 0) (h59 : f58 (xs 3).toNatClampNeg = some a9) (h60 : f58 (xs 4).toNatClampNeg = some a11) (h62 : f61 (xs 3).toNatClampNeg = 4) (h63 : f61 (xs 4).toNatClampNeg = 4) (h65 : f64 0 = 110) (h66 : f64 1 = 117) (h67 : f64 2 = 108) (h68 : f64 3 = 108) (h70 : f69 0 = none) (h71 : f69 1 = none) (h73 : f72 0 = 110) (h74 : f72 1 = 117) (h75 : f72 2 = 108) (h76 : f72 3 = 108) (hto1 : ¬ (xs 1) < 0) (hto2 : ¬ 7 < (xs 1)) (hto3 : (xs 1) ≤ 7) (hto4 : vp_in (xs 1) 8) (hf : xs 2 = 0) (ha1 : ¬ (xs 3) < 0) (ha2 : ¬ 7 < (xs 3)) (ha3 : (xs 3) ≤ 7) (ha4 : vp_in (xs 3) 8) (hb1 : ¬ (xs 4) < 0) (hb2 : ¬ 7 < (xs 4)) (hb3 : (xs 4) ≤ 7) (hb4 : vp_in (xs 4) 8) (hXs : va_X b 6 xs s s.heap) (hP : va_P D xcl [(a0, .inr (0, [v12, v13, .ref b14, .ref a4, v15, .ref a3, v16, v17])), (a1, .inr (5, [v18, .ref a10, v19, v20, v21, v22, v23, v24, v25, v26, v27, v28, v29, v30, v31, v32, v33, v34, v35, v36, v37, v38, v39, v40, .ref a7, .ref a8, v41, v42, v43, v44, v45, v46])), (a2, .inl (cT 2, 1, .inr (.inl f47))), (a3, .inr (2, [v48, v49, v50])), (a4, .inl (cT 3, 8, .inr (.inr (.inr (.inr f51))))), (a5, .inr (2, [.ref a6, .int 1, v55])), (a6, .inl (cT 2, 4096, .inr (.inl f56))), (a7, .inl (cT 5, 8, .inr (.inr (.inr (.inr f58))))), (a8, .inl (cT 1, 8, .inl f61)), (a9, .inl (cT 0, 4096, .inl f64)), (a10, .inl (cT 4, 1024, .inr (.inr (.inr (.inr f69))))), (a11, .inl (cT 0, 4096, .inl f72))] H) (hD : va_D A [(a0, .inr (0, [v12, v13, .ref b14, .ref a4, v15, .ref a3, v16, v17])), (a1, .inr (5, [v18, .ref a10, v19, v20, v21, v22, v23, v24, v25, v26, v27, v28, v29, v30, v31, v32, v33, v34, v35, v36, v37, v38, v39, v40, .ref a7, .ref a8, v41, v42, v43, v44, v45, v46])), (a2, .inl (cT 2, 1, .inr (.inl f47))), (a3, .inr (2, [v48, v49, v50])), (a4, .inl (cT 3, 8, .inr (.inr (.inr (.inr f51))))), (a5, .inr (2, [.ref a6, .int 1, v55])), (a6, .inl (cT 2, 4096, .inr (.inl f56))), (a7, .inl (cT 5, 8, .inr (.inr (.inr (.inr f58))))), (a8, .inl (cT 1, 8, .inl f61)), (a9, .inl (cT 0, 4096, .inl f64)), (a10, .inl (cT 4, 1024, .inr (.inr (.inr (.inr f69))))), (a11, .inl (cT 0, 4096, .inl f72))]) (hS : va_S A s.heap H locs) (hl : lv_has ls 8 [(4, .int 0), (3, .ref a2), (2, .ref a1), (1, .ref a0), (0, .ref b)]) : W p l e room_1 s m #[Value.ref b] below meth c H locs 54 107242 (lw_Z below #[Value.ref b] s) (F0 m 651 ls []) := by
  obtain ⟨hx, hb, hr, hml, hown, htx, hbl, hbA, hlocks, hK, hZ, hA, hA2⟩ := C
  refine lv_aload_n hx hb dL_law_651 rfl (lv_at hl 3 rfl) ?_
  refine lv_aload_n hx hb dL_law_652 rfl (lv_at hl 4 rfl) ?_
  refine lv_iload hx hb dL_law_653 (lv_at hl 0 rfl) ?_
  refine lv_iconst (v := 1) hx hb dL_law_655 (by decide) ?_
  refine lv_iadd hx hb dL_law_656 ?_
  refine W.eq (g2 := F0 m 657 ls [.int 1, .ref b, .ref a0]) rfl ?_
  refine va_sld hx hb hXs hbl hbA hS (i := 1) (show ¬ ((1 : Int32) < 0 ∨ 6 ≤ (1 : Int32).toNatClampNeg) by decide) dL_law_657 ?_
  refine W.eq (g2 := F0 m 658 ls [.int (xs 1), .ref a0]) rfl ?_
  refine lv_aload_n hx hb dL_law_658 rfl (lv_at hl 4 rfl) ?_
  refine lv_iload hx hb dL_law_659 (lv_at hl 0 rfl) ?_
  refine lv_iconst (v := 2) hx hb dL_law_661 (by decide) ?_
  refine lv_iadd hx hb dL_law_662 ?_
  refine W.eq (g2 := F0 m 663 ls [.int 2, .ref b, .int (xs 1), .ref a0]) rfl ?_
  refine va_sld hx hb hXs hbl hbA hS (i := 2) (show ¬ ((2 : Int32) < 0 ∨ 6 ≤ (2 : Int32).toNatClampNeg) by decide) dL_law_663 ?_
  refine W.eq (g2 := F0 m 664 ls [.int (xs 2), .int (xs 1), .ref a0]) rfl ?_
  rw [hf]
  refine W.eq (g2 := F0 m 664 ls [.int 0, .int (xs 1), .ref a0]) rfl ?_
  refine lv_aload_n hx hb dL_law_664 rfl (lv_at hl 4 rfl) ?_
  refine lv_iload hx hb dL_law_665 (lv_at hl 0 rfl) ?_
  refine lv_iconst (v := 3) hx hb dL_law_667 (by decide) ?_
  refine lv_iadd hx hb dL_law_668 ?_
  refine W.eq (g2 := F0 m 669 ls [.int 3, .ref b, .int 0, .int (xs 1), .ref a0]) rfl ?_
  refine va_sld hx hb hXs hbl hbA hS (i := 3) (show ¬ ((3 : Int32) < 0 ∨ 6 ≤ (3 : Int32).toNatClampNeg) by decide) dL_law_669 ?_
  refine W.eq (g2 := F0 m 670 ls [.int (xs 3), .int 0, .int (xs 1), .ref a0]) rfl ?_
  refine lv_aload_n hx hb dL_law_670 rfl (lv_at hl 4 rfl) ?_
  refine lv_iload hx hb dL_law_671 (lv_at hl 0 rfl) ?_
  refine lv_iconst (v := 4) hx hb dL_law_673 (by decide) ?_
  refine lv_iadd hx hb dL_law_674 ?_
  refine W.eq (g2 := F0 m 675 ls [.int 4, .ref b, .int (xs 3), .int 0, .int (xs 1), .ref a0]) rfl ?_
  refine va_sld hx hb hXs hbl hbA hS (i := 4) (show ¬ ((4 : Int32) < 0 ∨ 6 ≤ (4 : Int32).toNatClampNeg) by decide) dL_law_675 ?_
  refine W.eq (g2 := F0 m 676 ls [.int (xs 4), .int (xs 3), .int 0, .int (xs 1), .ref a0]) rfl ?_
  obtain ⟨hPc, hDc, hFc⟩ := xcut (wc := [(a0, .inr (0, [v12, v13, .ref b14, .ref a4, v15, .ref a3, v16, v17])), (a3, .inr (2, [v48, v49, v50])), (a4, .inl (cT 3, 8, .inr (.inr (.inr (.inr f51))))), (a5, .inr (2, [.ref a6, .int 1, v55])), (a6, .inl (cT 2, 4096, .inr (.inl f56)))]) hP hD hS hA [0, 3, 4, 5, 6] rfl rfl (by decide)
  refine va_calli (vx_runSW (As := [.ref a0, .int (xs 1), .int 0, .int (xs 3), .int (xs 4)]) (rest := []) ⟨hx, hb, hml, hown, htx⟩ (cL_two_9 l hl9 D cT aK aV H.size a0 a3 a4 a5 a6 (xs 1) (xs 3) (xs 4) v12 v13 b14 v15 v16 v17 v48 v49 v50 f51 b53 v55 f56 hto1 hto2 hto3 hto4 ha1 ha2 ha3 ha4 hb1 hb2 hb3 hb4 (by first | rfl | exact h52 | exact h54 | exact h57 | exact h59 | exact h60 | exact h62 | exact h63 | exact h65 | exact h66 | exact h67 | exact h68 | exact h70 | exact h71 | exact h73 | exact h74 | exact h75 | exact h76) (by first | rfl | exact h52 | exact h54 | exact h57 | exact h59 | exact h60 | exact h62 | exact h63 | exact h65 | exact h66 | exact h67 | exact h68 | exact h70 | exact h71 | exact h73 | exact h74 | exact h75 | exact h76) (by first | rfl | exact h52 | exact h54 | exact h57 | exact h59 | exact h60 | exact h62 | exact h63 | exact h65 | exact h66 | exact h67 | exact h68 | exact h70 | exact h71 | exact h73 | exact h74 | exact h75 | exact h76)) (xcSW 5 htx (xw_goodC kw_4_139) rfl rfl rfl (htx _ kw_1_0) (htx _ kw_4_137) ⟨by decide, by decide, by decide +kernel⟩ ⟨Nat.le_of_ble_eq_true rfl, Nat.le_of_ble_eq_true rfl⟩ (htx _ kw_4_138)) ⟨xPre_blind, (fun U hU hW => ⟨rfl, xPre_of hZ hS hFc hPc hDc hK U hU hW⟩)⟩ rfl rfl hl.1 rfl (lv_room (Nat.le_of_ble_eq_true rfl)) dL_law_676 ⟨Nat.le_of_ble_eq_true rfl, Nat.le_of_ble_eq_true rfl⟩) hS (fun q _ h => hFc q h) hFc (fun r1 u9 t H1 locs ht hvm hr9 hB hz1 hk1 hS => ?_)
  obtain ⟨hP1, hK1, hD1⟩ := hB
  rw [ht] at hP1
  obtain ⟨hP, hD⟩ := xjoin (W := [(a1, .inr (5, [v18, .ref a10, v19, v20, v21, v22, v23, v24, v25, v26, v27, v28, v29, v30, v31, v32, v33, v34, v35, v36, v37, v38, v39, v40, .ref a7, .ref a8, v41, v42, v43, v44, v45, v46])), (a2, .inl (cT 2, 1, .inr (.inl f47))), (a7, .inl (cT 5, 8, .inr (.inr (.inr (.inr f58))))), (a8, .inl (cT 1, 8, .inl f61)), (a9, .inl (cT 0, 4096, .inl f64)), (a10, .inl (cT 4, 1024, .inr (.inr (.inr (.inr f69))))), (a11, .inl (cT 0, 4096, .inl f72)), (a0, .inr (0, [v12, v13, .ref b14, .ref a4, v15, .ref a3, v16, .int 1])), (a3, .inr (2, [v48, .int 0, .int 0])), (a4, .inl (cT 3, 8, .inr (.inr (.inr (.inr f51))))), (a5, .inr (2, [.ref a6, .int 1, v55])), (a6, .inl (cT 2, 4096, .inr (.inl f56)))]) hP hD [0, 3, 4, 5, 6] [1, 2, 7, 8, 9, 10, 11] 7 rfl rfl (by decide) (by decide) hk1 hFc hP1 hD1
  generalize H1 = H at hP hS ⊢
  rw [hr9]
  refine W.eq (g2 := F0 m 679 ls [.int 2]) rfl ?_
  refine lv_istore (lv' := [(5, .int 2), (4, .int 0), (3, .ref a2), (2, .ref a1), (1, .ref a0), (0, .ref b)]) hx hb dL_law_679 hl (by decide) rfl (fun ls hl => ?_)
  refine lv_aload_n hx hb dL_law_681 rfl (lv_at hl 3 rfl) ?_
  refine lv_aload_n hx hb dL_law_682 rfl (lv_at hl 5 rfl) ?_
  refine lv_iload hx hb dL_law_683 (lv_at hl 1 rfl) ?_
  refine lv_iconst (v := 1) hx hb dL_law_685 (by decide) ?_
  refine lv_iadd hx hb dL_law_686 ?_
  refine W.eq (g2 := F0 m 687 ls [.int 1, .ref b, .ref a1]) rfl ?_
  refine va_sld hx hb hXs hbl hbA hS (i := 1) (show ¬ ((1 : Int32) < 0 ∨ 6 ≤ (1 : Int32).toNatClampNeg) by decide) dL_law_687 ?_
  refine W.eq (g2 := F0 m 688 ls [.int (xs 1), .ref a1]) rfl ?_
  refine lv_aload_n hx hb dL_law_688 rfl (lv_at hl 5 rfl) ?_
  refine lv_iload hx hb dL_law_689 (lv_at hl 1 rfl) ?_
  refine lv_iconst (v := 2) hx hb dL_law_691 (by decide) ?_
  refine lv_iadd hx hb dL_law_692 ?_
  refine W.eq (g2 := F0 m 693 ls [.int 2, .ref b, .int (xs 1), .ref a1]) rfl ?_
  refine va_sld hx hb hXs hbl hbA hS (i := 2) (show ¬ ((2 : Int32) < 0 ∨ 6 ≤ (2 : Int32).toNatClampNeg) by decide) dL_law_693 ?_
  refine W.eq (g2 := F0 m 694 ls [.int (xs 2), .int (xs 1), .ref a1]) rfl ?_
  rw [hf]
  refine W.eq (g2 := F0 m 694 ls [.int 0, .int (xs 1), .ref a1]) rfl ?_
  refine lv_aload_n hx hb dL_law_694 rfl (lv_at hl 5 rfl) ?_
  refine lv_iload hx hb dL_law_695 (lv_at hl 1 rfl) ?_
  refine lv_iconst (v := 3) hx hb dL_law_697 (by decide) ?_
  refine lv_iadd hx hb dL_law_698 ?_
  refine W.eq (g2 := F0 m 699 ls [.int 3, .ref b, .int 0, .int (xs 1), .ref a1]) rfl ?_
  refine va_sld hx hb hXs hbl hbA hS (i := 3) (show ¬ ((3 : Int32) < 0 ∨ 6 ≤ (3 : Int32).toNatClampNeg) by decide) dL_law_699 ?_
  refine W.eq (g2 := F0 m 700 ls [.int (xs 3), .int 0, .int (xs 1), .ref a1]) rfl ?_
  refine lv_aload_n hx hb dL_law_700 rfl (lv_at hl 5 rfl) ?_
  refine lv_iload hx hb dL_law_701 (lv_at hl 1 rfl) ?_
  refine lv_iconst (v := 4) hx hb dL_law_703 (by decide) ?_
  refine lv_iadd hx hb dL_law_704 ?_
  refine W.eq (g2 := F0 m 705 ls [.int 4, .ref b, .int (xs 3), .int 0, .int (xs 1), .ref a1]) rfl ?_
  refine va_sld hx hb hXs hbl hbA hS (i := 4) (show ¬ ((4 : Int32) < 0 ∨ 6 ≤ (4 : Int32).toNatClampNeg) by decide) dL_law_705 ?_
  refine W.eq (g2 := F0 m 706 ls [.int (xs 4), .int (xs 3), .int 0, .int (xs 1), .ref a1]) rfl ?_
  obtain ⟨hPc, hDc, hFc⟩ := xcut (wc := [(a1, .inr (5, [v18, .ref a10, v19, v20, v21, v22, v23, v24, v25, v26, v27, v28, v29, v30, v31, v32, v33, v34, v35, v36, v37, v38, v39, v40, .ref a7, .ref a8, v41, v42, v43, v44, v45, v46])), (a7, .inl (cT 5, 8, .inr (.inr (.inr (.inr f58))))), (a8, .inl (cT 1, 8, .inl f61)), (a9, .inl (cT 0, 4096, .inl f64)), (a10, .inl (cT 4, 1024, .inr (.inr (.inr (.inr f69))))), (a11, .inl (cT 0, 4096, .inl f72))]) hP hD hS hA [0, 2, 3, 4, 5, 6] rfl rfl (by decide)
  refine va_callv (va_runV (C := "ValueBenchModel") (As := [.int (xs 1), .int 0, .int (xs 3), .int (xs 4)]) (rest := []) ⟨hx, hb, hml, hown, htx⟩ (cM_two0_9 l hl9 D cT aK aV H.size a1 a7 a8 a9 a10 a11 (xs 1) (xs 3) (xs 4) v18 v19 v20 v21 v22 v23 v24 v25 v26 v27 v28 v29 v30 v31 v32 v33 v34 v35 v36 v37 v38 v39 v40 v41 v42 v43 v44 v45 v46 f58 f61 f64 f69 f72 hto1 hto2 hto3 hto4 ha1 ha2 ha3 ha4 hb1 hb2 hb3 hb4 (by first | rfl | exact h52 | exact h54 | exact h57 | exact h59 | exact h60 | exact h62 | exact h63 | exact h65 | exact h66 | exact h67 | exact h68 | exact h70 | exact h71 | exact h73 | exact h74 | exact h75 | exact h76) (by first | rfl | exact h52 | exact h54 | exact h57 | exact h59 | exact h60 | exact h62 | exact h63 | exact h65 | exact h66 | exact h67 | exact h68 | exact h70 | exact h71 | exact h73 | exact h74 | exact h75 | exact h76) (by first | rfl | exact h52 | exact h54 | exact h57 | exact h59 | exact h60 | exact h62 | exact h63 | exact h65 | exact h66 | exact h67 | exact h68 | exact h70 | exact h71 | exact h73 | exact h74 | exact h75 | exact h76) (by first | rfl | exact h52 | exact h54 | exact h57 | exact h59 | exact h60 | exact h62 | exact h63 | exact h65 | exact h66 | exact h67 | exact h68 | exact h70 | exact h71 | exact h73 | exact h74 | exact h75 | exact h76) (by first | rfl | exact h52 | exact h54 | exact h57 | exact h59 | exact h60 | exact h62 | exact h63 | exact h65 | exact h66 | exact h67 | exact h68 | exact h70 | exact h71 | exact h73 | exact h74 | exact h75 | exact h76) (by first | rfl | exact h52 | exact h54 | exact h57 | exact h59 | exact h60 | exact h62 | exact h63 | exact h65 | exact h66 | exact h67 | exact h68 | exact h70 | exact h71 | exact h73 | exact h74 | exact h75 | exact h76) (by first | rfl | exact h52 | exact h54 | exact h57 | exact h59 | exact h60 | exact h62 | exact h63 | exact h65 | exact h66 | exact h67 | exact h68 | exact h70 | exact h71 | exact h73 | exact h74 | exact h75 | exact h76) (by first | rfl | exact h52 | exact h54 | exact h57 | exact h59 | exact h60 | exact h62 | exact h63 | exact h65 | exact h66 | exact h67 | exact h68 | exact h70 | exact h71 | exact h73 | exact h74 | exact h75 | exact h76) (by first | rfl | exact h52 | exact h54 | exact h57 | exact h59 | exact h60 | exact h62 | exact h63 | exact h65 | exact h66 | exact h67 | exact h68 | exact h70 | exact h71 | exact h73 | exact h74 | exact h75 | exact h76) (by first | rfl | exact h52 | exact h54 | exact h57 | exact h59 | exact h60 | exact h62 | exact h63 | exact h65 | exact h66 | exact h67 | exact h68 | exact h70 | exact h71 | exact h73 | exact h74 | exact h75 | exact h76) (by first | rfl | exact h52 | exact h54 | exact h57 | exact h59 | exact h60 | exact h62 | exact h63 | exact h65 | exact h66 | exact h67 | exact h68 | exact h70 | exact h71 | exact h73 | exact h74 | exact h75 | exact h76) (by first | rfl | exact h52 | exact h54 | exact h57 | exact h59 | exact h60 | exact h62 | exact h63 | exact h65 | exact h66 | exact h67 | exact h68 | exact h70 | exact h71 | exact h73 | exact h74 | exact h75 | exact h76) (by first | rfl | exact h52 | exact h54 | exact h57 | exact h59 | exact h60 | exact h62 | exact h63 | exact h65 | exact h66 | exact h67 | exact h68 | exact h70 | exact h71 | exact h73 | exact h74 | exact h75 | exact h76) (by first | rfl | exact h52 | exact h54 | exact h57 | exact h59 | exact h60 | exact h62 | exact h63 | exact h65 | exact h66 | exact h67 | exact h68 | exact h70 | exact h71 | exact h73 | exact h74 | exact h75 | exact h76)) ⟨callB_of 4 htx (xw_goodC kw_7_127) rfl rfl rfl (htx _ kw_1_5) (htx _ kw_7_124) ⟨by decide, by decide, by decide +kernel⟩ ⟨Nat.le_of_ble_eq_true rfl, Nat.le_of_ble_eq_true rfl⟩, (htx _ kw_7_125), (htx _ kw_7_126)⟩ ⟨xPre_blind, va_recv hK hP (ci := 5) rfl (q0 := 0) rfl, (fun U hU hW => ⟨rfl, xPre_of hZ hS hFc hPc hDc hK U hU hW⟩)⟩ rfl rfl hl.1 rfl (lv_room (Nat.le_of_ble_eq_true rfl)) dL_law_706 ⟨Nat.le_of_ble_eq_true rfl, Nat.le_of_ble_eq_true rfl⟩) hS (fun q _ h => hFc q h) hFc (fun u9 t H1 locs ht hvm hr9 hB hz1 hk1 hS => ?_)
  obtain ⟨q2, q3, hP1, hK1, hD1⟩ := hB
  rw [ht] at hP1
  obtain ⟨hP, hD⟩ := xjoin (W := [(a2, .inl (cT 2, 1, .inr (.inl f47))), (a0, .inr (0, [v12, v13, .ref b14, .ref a4, v15, .ref a3, v16, .int 1])), (a3, .inr (2, [v48, .int 0, .int 0])), (a4, .inl (cT 3, 8, .inr (.inr (.inr (.inr f51))))), (a5, .inr (2, [.ref a6, .int 1, v55])), (a6, .inl (cT 2, 4096, .inr (.inl f56))), (a1, .inr (5, [.int 2, .ref a10, .int 2, v20, .int 0, v22, v23, .int 0, .int 1, .int 0, v27, v28, .int 0, v30, v31, .ref a11, .int 4, .int 4, .int 0, .int 100, v37, v38, .int 0, .int 1000000000, .ref a7, .ref a8, v41, v42, v43, v44, .int 1, v46])), (a7, .inl (cT 5, 8, .inr (.inr (.inr (.inr f58))))), (a8, .inl (cT 1, 8, .inl f61)), (a9, .inl (cT 0, 4096, .inl f64)), (a10, .inl (cT 4, 1024, .inr (.inr (.inr (.inr (va_up (va_up f69 0 (some q2)) 1 (some q3))))))), (a11, .inl (cT 0, 4096, .inl f72)), (q2, .inr (6, [.int 0, .long 0, .int 0, .int 0, .int 0, .int 1])), (q3, .inr (6, [.int 0, .long 0, .int 0, .int 0, .int 0, .int 1]))]) hP hD [0, 2, 3, 4, 5, 6] [1, 7, 8, 9, 10, 11] 6 rfl rfl (by decide) (by decide) hk1 hFc hP1 hD1
  generalize H1 = H at hP hS ⊢
  refine lv_aload_n hx hb dL_law_709 rfl (lv_at hl 3 rfl) ?_
  obtain ⟨hPc, hDc, hFc⟩ := xcut (wc := [(a1, .inr (5, [.int 2, .ref a10, .int 2, v20, .int 0, v22, v23, .int 0, .int 1, .int 0, v27, v28, .int 0, v30, v31, .ref a11, .int 4, .int 4, .int 0, .int 100, v37, v38, .int 0, .int 1000000000, .ref a7, .ref a8, v41, v42, v43, v44, .int 1, v46]))]) hP hD hS hA [6] rfl rfl (by decide)
  refine va_calli (va_runV (C := "ValueBenchModel") (As := []) (rest := []) ⟨hx, hb, hml, hown, htx⟩ (cM_thrown_2 l hl9 D cT aK aV H.size a1 (.ref a10) (.int 2) v20 (.int 0) v22 v23 (.int 0) (.int 1) (.int 0) v27 v28 (.int 0) v30 v31 (.ref a11) (.int 4) (.int 4) (.int 0) (.int 100) v37 v38 (.int 0) (.int 1000000000) (.ref a7) (.ref a8) v41 v42 v43 v44 (.int 1) v46) ⟨callB_of 0 htx (xw_goodC kw_5_187) rfl rfl rfl (htx _ kw_1_5) (htx _ kw_5_184) ⟨by decide, by decide, by decide +kernel⟩ ⟨Nat.le_of_ble_eq_true rfl, Nat.le_of_ble_eq_true rfl⟩, (htx _ kw_5_185), (htx _ kw_5_186)⟩ ⟨xPre_blind, va_recv hK hP (ci := 5) rfl (q0 := 6) rfl, (fun U hU hW => ⟨rfl, xPre_of hZ hS hFc hPc hDc hK U hU hW⟩)⟩ rfl rfl hl.1 rfl (lv_room (Nat.le_of_ble_eq_true rfl)) dL_law_710 ⟨Nat.le_of_ble_eq_true rfl, Nat.le_of_ble_eq_true rfl⟩) hS (fun q _ h => hFc q h) hFc (fun r4 u9 t H1 locs ht hvm hr9 hB hz1 hk1 hS => ?_)
  obtain ⟨hP1, hK1, hD1⟩ := hB
  rw [ht] at hP1
  obtain ⟨hP, hD⟩ := xjoin (W := [(a2, .inl (cT 2, 1, .inr (.inl f47))), (a0, .inr (0, [v12, v13, .ref b14, .ref a4, v15, .ref a3, v16, .int 1])), (a3, .inr (2, [v48, .int 0, .int 0])), (a4, .inl (cT 3, 8, .inr (.inr (.inr (.inr f51))))), (a5, .inr (2, [.ref a6, .int 1, v55])), (a6, .inl (cT 2, 4096, .inr (.inl f56))), (a7, .inl (cT 5, 8, .inr (.inr (.inr (.inr f58))))), (a8, .inl (cT 1, 8, .inl f61)), (a9, .inl (cT 0, 4096, .inl f64)), (a10, .inl (cT 4, 1024, .inr (.inr (.inr (.inr (va_up (va_up f69 0 (some q2)) 1 (some q3))))))), (a11, .inl (cT 0, 4096, .inl f72)), (q2, .inr (6, [.int 0, .long 0, .int 0, .int 0, .int 0, .int 1])), (q3, .inr (6, [.int 0, .long 0, .int 0, .int 0, .int 0, .int 1])), (a1, .inr (5, [.int 2, .ref a10, .int 2, v20, .int 0, v22, v23, .int 0, .int 1, .int 0, v27, v28, .int 0, v30, v31, .ref a11, .int 4, .int 4, .int 0, .int 100, v37, v38, .int 0, .int 1000000000, .ref a7, .ref a8, v41, v42, v43, v44, .int 1, v46]))]) hP hD [6] [0, 1, 2, 3, 4, 5, 7, 8, 9, 10, 11, 12, 13] 13 rfl rfl (by decide) (by decide) hk1 hFc hP1 hD1
  generalize H1 = H at hP hS ⊢
  rw [hr9]
  refine W.eq (g2 := F0 m 713 ls [.int 2]) rfl ?_
  refine lv_iload hx hb dL_law_713 (lv_at hl 0 rfl) ?_
  refine lv_icmp_eq (tgt := 720) hx hb dL_law_715 (by decide) (fun _ => ?_) (fun h => ((by revert h; decide : False)).elim)
  refine lv_goto (tgt := 906) hx hb dL_law_720 (by decide) ?_
  refine lv_iinc (v := 6) (lv' := [(4, .int 6), (5, .int 2), (3, .ref a2), (2, .ref a1), (1, .ref a0), (0, .ref b)]) hx hb dL_law_906 hl (k := 1) rfl (by decide) (by decide) rfl (fun ls hl => ?_)
  refine lv_goto (tgt := 23) hx hb dL_law_909 (by decide) ?_
  refine lv_iload hx hb dL_law_23 (lv_at hl 0 rfl) ?_
  refine lv_aload_n hx hb dL_law_25 rfl (lv_at hl 5 rfl) ?_
  refine va_slen hx hb hXs hbl hbA hS dL_law_26 ?_
  refine W.eq (g2 := F0 m 27 ls [.int 6, .int 6]) rfl ?_
  refine lv_bipush (v := 6) hx hb dL_law_27 (by decide) ?_
  refine lv_isub hx hb dL_law_29 ?_
  refine W.eq (g2 := F0 m 30 ls [.int 0, .int 6]) rfl ?_
  refine lv_icmp_gt (tgt := 912) hx hb dL_law_30 (by decide) (fun _ => ?_) (fun h => ((by revert h; decide : False)).elim)
  refine lv_iconst (v := 1) hx hb dL_law_912 (by decide) ?_
  exact va_forget (fun q h => hA2 _ (hS.2.2 q h)) (W.widen (k := 600002) (n := 7302232) (Nat.le_of_ble_eq_true rfl) (Nat.le_of_ble_eq_true rfl) (lw_ret hx hb hr hlocks dL_law_913))
set_option maxHeartbeats 400000000 in
set_option maxRecDepth 100000 in
theorem lf_two1_p4 {p : Program} {e : Env} {s : State} {m : MethodId} {below : List Frame} {meth : Method} {c : Code} (l : Launch) (hl9 : l.stackTraces = false) (D : va_G) (cT : Nat → ClassId) (aK aV : Nat → Nat) {A : Nat → Prop} {b : Nat} {xs : Nat → Int32} (C : xLw p s m meth c b D cT aK aV A) {H : Heap} {locs : List Loc} {ls : Array Slot} (a0 : Nat) (a1 : Nat) (a2 : Nat) (a3 : Nat) (a4 : Nat) (a5 : Nat) (a6 : Nat) (a7 : Nat) (a8 : Nat) (a9 : Nat) (a10 : Nat) (a11 : Nat) (a12 : Nat) (a13 : Nat) (a14 : Nat) (v15 : Value) (v16 : Value) (v17 : Value) (v18 : Value) (v19 : Value) (v20 : Value) (v21 : Value) (v22 : Value) (v23 : Value) (v24 : Value) (v25 : Value) (v26 : Value) (v27 : Value) (v28 : Value) (v29 : Value) (v30 : Value) (v31 : Value) (v32 : Value) (v33 : Value) (v34 : Value) (v35 : Value) (v36 : Value) (v37 : Value) (v38 : Value) (v39 : Value) (v40 : Value) (v41 : Value) (v42 : Value) (v43 : Value) (v44 : Value) (v45 : Value) (v46 : Value) (v47 : Value) (f48 : Nat → Int64) (v49 : Value) (v50 : Value) (f51 : Nat → Option Nat) (b54 : Nat) (v56 : Value) (f57 : Nat → Int64) (f59 : Nat → Int64) (v60 : Value) (v61 : Value) (f62 : Nat → Int32) (f63 : Nat → Option Nat) (f67 : Nat → Int32) (f70 : Nat → Int32) (f75 : Nat → Option Nat) (f79 : Nat → Int32) (h52 : f51 (xs 3).toNatClampNeg = some a5) (h53 : f51 (xs 4).toNatClampNeg = some a5) (h55 : f51 (xs 1).toNatClampNeg = some b54) (h58 : f57 0 = 0) (h64 : f63 (xs 3).toNatClampNeg = some a12) (h65 : f63 (xs 4).toNatClampNeg = some a12) (h66 : f63 (xs 1).toNatClampNeg = some a12) (h68 : f67 (xs 3).toNatClampNeg = 4) (h69 : f67 (xs 4).toNatClampNeg = 4) (h71 : f70 0 = 110) (h72 : f70 1 = 117) (h73 : f70 2 = 108) (h74 : f70 3 = 108) (h76 : f75 0 = none) (h77 : f75 1 = none) (h78 : f75 2 = none) (hto1 : ¬ (xs 1) < 0) (hto2 : ¬ 7 < (xs 1)) (hto3 : (xs 1) ≤ 7) (hto4 : vp_in (xs 1) 8) (hf : xs 2 = 1) (ha1 : ¬ (xs 3) < 0) (ha2 : ¬ 7 < (xs 3)) (ha3 : (xs 3) ≤ 7) (ha4 : vp_in (xs 3) 8) (hb1 : ¬ (xs 4) < 0) (hb2 : ¬ 7 < (xs 4)) (hb3 : (xs 4) ≤ 7) (hb4 : vp_in (xs 4) 8) (hXs : va_X b 6 xs s s.heap) (hP : va_P D xcl [(a0, .inr (0, [v15, v16, .ref a8, .ref a4, v17, .ref a3, v18, v19])), (a1, .inr (5, [v20, .ref a13, v21, v22, v23, v24, v25, v26, v27, v28, v29, v30, v31, v32, v33, v34, v35, v36, v37, v38, v39, .ref a14, v40, v41, .ref a10, .ref a11, v42, v43, v44, v45, v46, v47])), (a2, .inl (cT 2, 1, .inr (.inl f48))), (a3, .inr (2, [.ref a7, v49, v50])), (a4, .inl (cT 3, 8, .inr (.inr (.inr (.inr f51))))), (a5, .inr (2, [.ref a6, .int 1, v56])), (a6, .inl (cT 2, 4096, .inr (.inl f57))), (a7, .inl (cT 2, 4096, .inr (.inl f59))), (a8, .inr (1, [.ref a9, v60, v61])), (a9, .inl (cT 0, 4096, .inl f62)), (a10, .inl (cT 5, 8, .inr (.inr (.inr (.inr f63))))), (a11, .inl (cT 1, 8, .inl f67)), (a12, .inl (cT 0, 4096, .inl f70)), (a13, .inl (cT 4, 1024, .inr (.inr (.inr (.inr f75))))), (a14, .inl (cT 0, 1024, .inl f79))] H) (hD : va_D A [(a0, .inr (0, [v15, v16, .ref a8, .ref a4, v17, .ref a3, v18, v19])), (a1, .inr (5, [v20, .ref a13, v21, v22, v23, v24, v25, v26, v27, v28, v29, v30, v31, v32, v33, v34, v35, v36, v37, v38, v39, .ref a14, v40, v41, .ref a10, .ref a11, v42, v43, v44, v45, v46, v47])), (a2, .inl (cT 2, 1, .inr (.inl f48))), (a3, .inr (2, [.ref a7, v49, v50])), (a4, .inl (cT 3, 8, .inr (.inr (.inr (.inr f51))))), (a5, .inr (2, [.ref a6, .int 1, v56])), (a6, .inl (cT 2, 4096, .inr (.inl f57))), (a7, .inl (cT 2, 4096, .inr (.inl f59))), (a8, .inr (1, [.ref a9, v60, v61])), (a9, .inl (cT 0, 4096, .inl f62)), (a10, .inl (cT 5, 8, .inr (.inr (.inr (.inr f63))))), (a11, .inl (cT 1, 8, .inl f67)), (a12, .inl (cT 0, 4096, .inl f70)), (a13, .inl (cT 4, 1024, .inr (.inr (.inr (.inr f75))))), (a14, .inl (cT 0, 1024, .inl f79))]) (hS : va_S A s.heap H locs) (hl : lv_has ls 8 [(4, .int 0), (3, .ref a2), (2, .ref a1), (1, .ref a0), (0, .ref b)]) : W p l e room_1 s m #[Value.ref b] below meth c H locs 54 107242 (lw_Z below #[Value.ref b] s) (F0 m 651 ls []) := by
  obtain ⟨hx, hb, hr, hml, hown, htx, hbl, hbA, hlocks, hK, hZ, hA, hA2⟩ := C
  refine lv_aload_n hx hb dL_law_651 rfl (lv_at hl 3 rfl) ?_
  refine lv_aload_n hx hb dL_law_652 rfl (lv_at hl 4 rfl) ?_
  refine lv_iload hx hb dL_law_653 (lv_at hl 0 rfl) ?_
  refine lv_iconst (v := 1) hx hb dL_law_655 (by decide) ?_
  refine lv_iadd hx hb dL_law_656 ?_
  refine W.eq (g2 := F0 m 657 ls [.int 1, .ref b, .ref a0]) rfl ?_
  refine va_sld hx hb hXs hbl hbA hS (i := 1) (show ¬ ((1 : Int32) < 0 ∨ 6 ≤ (1 : Int32).toNatClampNeg) by decide) dL_law_657 ?_
  refine W.eq (g2 := F0 m 658 ls [.int (xs 1), .ref a0]) rfl ?_
  refine lv_aload_n hx hb dL_law_658 rfl (lv_at hl 4 rfl) ?_
  refine lv_iload hx hb dL_law_659 (lv_at hl 0 rfl) ?_
  refine lv_iconst (v := 2) hx hb dL_law_661 (by decide) ?_
  refine lv_iadd hx hb dL_law_662 ?_
  refine W.eq (g2 := F0 m 663 ls [.int 2, .ref b, .int (xs 1), .ref a0]) rfl ?_
  refine va_sld hx hb hXs hbl hbA hS (i := 2) (show ¬ ((2 : Int32) < 0 ∨ 6 ≤ (2 : Int32).toNatClampNeg) by decide) dL_law_663 ?_
  refine W.eq (g2 := F0 m 664 ls [.int (xs 2), .int (xs 1), .ref a0]) rfl ?_
  rw [hf]
  refine W.eq (g2 := F0 m 664 ls [.int 1, .int (xs 1), .ref a0]) rfl ?_
  refine lv_aload_n hx hb dL_law_664 rfl (lv_at hl 4 rfl) ?_
  refine lv_iload hx hb dL_law_665 (lv_at hl 0 rfl) ?_
  refine lv_iconst (v := 3) hx hb dL_law_667 (by decide) ?_
  refine lv_iadd hx hb dL_law_668 ?_
  refine W.eq (g2 := F0 m 669 ls [.int 3, .ref b, .int 1, .int (xs 1), .ref a0]) rfl ?_
  refine va_sld hx hb hXs hbl hbA hS (i := 3) (show ¬ ((3 : Int32) < 0 ∨ 6 ≤ (3 : Int32).toNatClampNeg) by decide) dL_law_669 ?_
  refine W.eq (g2 := F0 m 670 ls [.int (xs 3), .int 1, .int (xs 1), .ref a0]) rfl ?_
  refine lv_aload_n hx hb dL_law_670 rfl (lv_at hl 4 rfl) ?_
  refine lv_iload hx hb dL_law_671 (lv_at hl 0 rfl) ?_
  refine lv_iconst (v := 4) hx hb dL_law_673 (by decide) ?_
  refine lv_iadd hx hb dL_law_674 ?_
  refine W.eq (g2 := F0 m 675 ls [.int 4, .ref b, .int (xs 3), .int 1, .int (xs 1), .ref a0]) rfl ?_
  refine va_sld hx hb hXs hbl hbA hS (i := 4) (show ¬ ((4 : Int32) < 0 ∨ 6 ≤ (4 : Int32).toNatClampNeg) by decide) dL_law_675 ?_
  refine W.eq (g2 := F0 m 676 ls [.int (xs 4), .int (xs 3), .int 1, .int (xs 1), .ref a0]) rfl ?_
  obtain ⟨hPc, hDc, hFc⟩ := xcut (wc := [(a0, .inr (0, [v15, v16, .ref a8, .ref a4, v17, .ref a3, v18, v19])), (a3, .inr (2, [.ref a7, v49, v50])), (a4, .inl (cT 3, 8, .inr (.inr (.inr (.inr f51))))), (a5, .inr (2, [.ref a6, .int 1, v56])), (a6, .inl (cT 2, 4096, .inr (.inl f57))), (a7, .inl (cT 2, 4096, .inr (.inl f59))), (a8, .inr (1, [.ref a9, v60, v61])), (a9, .inl (cT 0, 4096, .inl f62))]) hP hD hS hA [0, 3, 4, 5, 6, 7, 8, 9] rfl rfl (by decide)
  refine va_calli (vx_runSW (As := [.ref a0, .int (xs 1), .int 1, .int (xs 3), .int (xs 4)]) (rest := []) ⟨hx, hb, hml, hown, htx⟩ (cL_two_10 l hl9 D cT aK aV H.size a0 a3 a4 a5 a6 a7 a8 a9 (xs 1) (xs 3) (xs 4) v15 v16 v17 v18 v19 v49 v50 f51 b54 v56 f57 f59 v60 v61 f62 hto1 hto2 hto3 hto4 ha1 ha2 ha3 ha4 hb1 hb2 hb3 hb4 (by first | rfl | exact h52 | exact h53 | exact h55 | exact h58 | exact h64 | exact h65 | exact h66 | exact h68 | exact h69 | exact h71 | exact h72 | exact h73 | exact h74 | exact h76 | exact h77 | exact h78) (by first | rfl | exact h52 | exact h53 | exact h55 | exact h58 | exact h64 | exact h65 | exact h66 | exact h68 | exact h69 | exact h71 | exact h72 | exact h73 | exact h74 | exact h76 | exact h77 | exact h78) (by first | rfl | exact h52 | exact h53 | exact h55 | exact h58 | exact h64 | exact h65 | exact h66 | exact h68 | exact h69 | exact h71 | exact h72 | exact h73 | exact h74 | exact h76 | exact h77 | exact h78) (by first | rfl | exact h52 | exact h53 | exact h55 | exact h58 | exact h64 | exact h65 | exact h66 | exact h68 | exact h69 | exact h71 | exact h72 | exact h73 | exact h74 | exact h76 | exact h77 | exact h78)) (xcSW 5 htx (xw_goodC kw_4_139) rfl rfl rfl (htx _ kw_1_0) (htx _ kw_4_137) ⟨by decide, by decide, by decide +kernel⟩ ⟨Nat.le_of_ble_eq_true rfl, Nat.le_of_ble_eq_true rfl⟩ (htx _ kw_4_138)) ⟨xPre_blind, (fun U hU hW => ⟨rfl, xPre_of hZ hS hFc hPc hDc hK U hU hW⟩)⟩ rfl rfl hl.1 rfl (lv_room (Nat.le_of_ble_eq_true rfl)) dL_law_676 ⟨Nat.le_of_ble_eq_true rfl, Nat.le_of_ble_eq_true rfl⟩) hS (fun q _ h => hFc q h) hFc (fun r1 u9 t H1 locs ht hvm hr9 hB hz1 hk1 hS => ?_)
  obtain ⟨y2, y3, y4, y5, hP1, hK1, hD1⟩ := hB
  rw [ht] at hP1
  obtain ⟨hP, hD⟩ := xjoin (W := [(a1, .inr (5, [v20, .ref a13, v21, v22, v23, v24, v25, v26, v27, v28, v29, v30, v31, v32, v33, v34, v35, v36, v37, v38, v39, .ref a14, v40, v41, .ref a10, .ref a11, v42, v43, v44, v45, v46, v47])), (a2, .inl (cT 2, 1, .inr (.inl f48))), (a10, .inl (cT 5, 8, .inr (.inr (.inr (.inr f63))))), (a11, .inl (cT 1, 8, .inl f67)), (a12, .inl (cT 0, 4096, .inl f70)), (a13, .inl (cT 4, 1024, .inr (.inr (.inr (.inr f75))))), (a14, .inl (cT 0, 1024, .inl f79)), (a0, .inr (0, [v15, v16, .ref a8, .ref a4, v17, .ref b54, v18, v19])), (a3, .inr (2, [.ref a7, .int 1, .int 0])), (a4, .inl (cT 3, 8, .inr (.inr (.inr (.inr (va_up f51 (xs 1).toNatClampNeg (some a3))))))), (a5, .inr (2, [.ref a6, .int 1, v56])), (a6, .inl (cT 2, 4096, .inr (.inl f57))), (a7, .inl (cT 2, 4096, .inr (.inl (vp_updL f59 0 2)))), (a8, .inr (1, [.ref a9, .int 4, .int 0])), (a9, .inl (cT 0, 4096, .inl (upd (upd (upd (upd f62 0 (vp_nar .byte y2)) 1 (vp_nar .byte y3)) 2 (vp_nar .byte y4)) 3 (vp_nar .byte y5))))]) hP hD [0, 3, 4, 5, 6, 7, 8, 9] [1, 2, 10, 11, 12, 13, 14] 7 rfl rfl (by decide) (by decide) hk1 hFc hP1 hD1
  generalize H1 = H at hP hS ⊢
  rw [hr9]
  refine W.eq (g2 := F0 m 679 ls [.int 0]) rfl ?_
  refine lv_istore (lv' := [(5, .int 0), (4, .int 0), (3, .ref a2), (2, .ref a1), (1, .ref a0), (0, .ref b)]) hx hb dL_law_679 hl (by decide) rfl (fun ls hl => ?_)
  refine lv_aload_n hx hb dL_law_681 rfl (lv_at hl 3 rfl) ?_
  refine lv_aload_n hx hb dL_law_682 rfl (lv_at hl 5 rfl) ?_
  refine lv_iload hx hb dL_law_683 (lv_at hl 1 rfl) ?_
  refine lv_iconst (v := 1) hx hb dL_law_685 (by decide) ?_
  refine lv_iadd hx hb dL_law_686 ?_
  refine W.eq (g2 := F0 m 687 ls [.int 1, .ref b, .ref a1]) rfl ?_
  refine va_sld hx hb hXs hbl hbA hS (i := 1) (show ¬ ((1 : Int32) < 0 ∨ 6 ≤ (1 : Int32).toNatClampNeg) by decide) dL_law_687 ?_
  refine W.eq (g2 := F0 m 688 ls [.int (xs 1), .ref a1]) rfl ?_
  refine lv_aload_n hx hb dL_law_688 rfl (lv_at hl 5 rfl) ?_
  refine lv_iload hx hb dL_law_689 (lv_at hl 1 rfl) ?_
  refine lv_iconst (v := 2) hx hb dL_law_691 (by decide) ?_
  refine lv_iadd hx hb dL_law_692 ?_
  refine W.eq (g2 := F0 m 693 ls [.int 2, .ref b, .int (xs 1), .ref a1]) rfl ?_
  refine va_sld hx hb hXs hbl hbA hS (i := 2) (show ¬ ((2 : Int32) < 0 ∨ 6 ≤ (2 : Int32).toNatClampNeg) by decide) dL_law_693 ?_
  refine W.eq (g2 := F0 m 694 ls [.int (xs 2), .int (xs 1), .ref a1]) rfl ?_
  rw [hf]
  refine W.eq (g2 := F0 m 694 ls [.int 1, .int (xs 1), .ref a1]) rfl ?_
  refine lv_aload_n hx hb dL_law_694 rfl (lv_at hl 5 rfl) ?_
  refine lv_iload hx hb dL_law_695 (lv_at hl 1 rfl) ?_
  refine lv_iconst (v := 3) hx hb dL_law_697 (by decide) ?_
  refine lv_iadd hx hb dL_law_698 ?_
  refine W.eq (g2 := F0 m 699 ls [.int 3, .ref b, .int 1, .int (xs 1), .ref a1]) rfl ?_
  refine va_sld hx hb hXs hbl hbA hS (i := 3) (show ¬ ((3 : Int32) < 0 ∨ 6 ≤ (3 : Int32).toNatClampNeg) by decide) dL_law_699 ?_
  refine W.eq (g2 := F0 m 700 ls [.int (xs 3), .int 1, .int (xs 1), .ref a1]) rfl ?_
  refine lv_aload_n hx hb dL_law_700 rfl (lv_at hl 5 rfl) ?_
  refine lv_iload hx hb dL_law_701 (lv_at hl 1 rfl) ?_
  refine lv_iconst (v := 4) hx hb dL_law_703 (by decide) ?_
  refine lv_iadd hx hb dL_law_704 ?_
  refine W.eq (g2 := F0 m 705 ls [.int 4, .ref b, .int (xs 3), .int 1, .int (xs 1), .ref a1]) rfl ?_
  refine va_sld hx hb hXs hbl hbA hS (i := 4) (show ¬ ((4 : Int32) < 0 ∨ 6 ≤ (4 : Int32).toNatClampNeg) by decide) dL_law_705 ?_
  refine W.eq (g2 := F0 m 706 ls [.int (xs 4), .int (xs 3), .int 1, .int (xs 1), .ref a1]) rfl ?_
  obtain ⟨hPc, hDc, hFc⟩ := xcut (wc := [(a1, .inr (5, [v20, .ref a13, v21, v22, v23, v24, v25, v26, v27, v28, v29, v30, v31, v32, v33, v34, v35, v36, v37, v38, v39, .ref a14, v40, v41, .ref a10, .ref a11, v42, v43, v44, v45, v46, v47])), (a10, .inl (cT 5, 8, .inr (.inr (.inr (.inr f63))))), (a11, .inl (cT 1, 8, .inl f67)), (a12, .inl (cT 0, 4096, .inl f70)), (a13, .inl (cT 4, 1024, .inr (.inr (.inr (.inr f75))))), (a14, .inl (cT 0, 1024, .inl f79))]) hP hD hS hA [0, 2, 3, 4, 5, 6] rfl rfl (by decide)
  refine va_callv (va_runV (C := "ValueBenchModel") (As := [.int (xs 1), .int 1, .int (xs 3), .int (xs 4)]) (rest := []) ⟨hx, hb, hml, hown, htx⟩ (cM_two0_10 l hl9 D cT aK aV H.size a1 a10 a11 a12 a13 a14 (xs 1) (xs 3) (xs 4) v20 v21 v22 v23 v24 v25 v26 v27 v28 v29 v30 v31 v32 v33 v34 v35 v36 v37 v38 v39 v40 v41 v42 v43 v44 v45 v46 v47 f63 f67 f70 f75 f79 hto1 hto2 hto3 hto4 ha1 ha2 ha3 ha4 hb1 hb2 hb3 hb4 (by first | rfl | exact h52 | exact h53 | exact h58 | exact h64 | exact h65 | exact h66 | exact h68 | exact h69 | exact h71 | exact h72 | exact h73 | exact h74 | exact h76 | exact h77 | exact h78) (by first | rfl | exact h52 | exact h53 | exact h58 | exact h64 | exact h65 | exact h66 | exact h68 | exact h69 | exact h71 | exact h72 | exact h73 | exact h74 | exact h76 | exact h77 | exact h78) (by first | rfl | exact h52 | exact h53 | exact h58 | exact h64 | exact h65 | exact h66 | exact h68 | exact h69 | exact h71 | exact h72 | exact h73 | exact h74 | exact h76 | exact h77 | exact h78) (by first | rfl | exact h52 | exact h53 | exact h58 | exact h64 | exact h65 | exact h66 | exact h68 | exact h69 | exact h71 | exact h72 | exact h73 | exact h74 | exact h76 | exact h77 | exact h78) (by first | rfl | exact h52 | exact h53 | exact h58 | exact h64 | exact h65 | exact h66 | exact h68 | exact h69 | exact h71 | exact h72 | exact h73 | exact h74 | exact h76 | exact h77 | exact h78) (by first | rfl | exact h52 | exact h53 | exact h58 | exact h64 | exact h65 | exact h66 | exact h68 | exact h69 | exact h71 | exact h72 | exact h73 | exact h74 | exact h76 | exact h77 | exact h78) (by first | rfl | exact h52 | exact h53 | exact h58 | exact h64 | exact h65 | exact h66 | exact h68 | exact h69 | exact h71 | exact h72 | exact h73 | exact h74 | exact h76 | exact h77 | exact h78) (by first | rfl | exact h52 | exact h53 | exact h58 | exact h64 | exact h65 | exact h66 | exact h68 | exact h69 | exact h71 | exact h72 | exact h73 | exact h74 | exact h76 | exact h77 | exact h78) (by first | rfl | exact h52 | exact h53 | exact h58 | exact h64 | exact h65 | exact h66 | exact h68 | exact h69 | exact h71 | exact h72 | exact h73 | exact h74 | exact h76 | exact h77 | exact h78) (by first | rfl | exact h52 | exact h53 | exact h58 | exact h64 | exact h65 | exact h66 | exact h68 | exact h69 | exact h71 | exact h72 | exact h73 | exact h74 | exact h76 | exact h77 | exact h78) (by first | rfl | exact h52 | exact h53 | exact h58 | exact h64 | exact h65 | exact h66 | exact h68 | exact h69 | exact h71 | exact h72 | exact h73 | exact h74 | exact h76 | exact h77 | exact h78) (by first | rfl | exact h52 | exact h53 | exact h58 | exact h64 | exact h65 | exact h66 | exact h68 | exact h69 | exact h71 | exact h72 | exact h73 | exact h74 | exact h76 | exact h77 | exact h78)) ⟨callB_of 4 htx (xw_goodC kw_7_127) rfl rfl rfl (htx _ kw_1_5) (htx _ kw_7_124) ⟨by decide, by decide, by decide +kernel⟩ ⟨Nat.le_of_ble_eq_true rfl, Nat.le_of_ble_eq_true rfl⟩, (htx _ kw_7_125), (htx _ kw_7_126)⟩ ⟨xPre_blind, va_recv hK hP (ci := 5) rfl (q0 := 0) rfl, (fun U hU hW => ⟨rfl, xPre_of hZ hS hFc hPc hDc hK U hU hW⟩)⟩ rfl rfl hl.1 rfl (lv_room (Nat.le_of_ble_eq_true rfl)) dL_law_706 ⟨Nat.le_of_ble_eq_true rfl, Nat.le_of_ble_eq_true rfl⟩) hS (fun q _ h => hFc q h) hFc (fun u9 t H1 locs ht hvm hr9 hB hz1 hk1 hS => ?_)
  obtain ⟨q6, q7, q8, y9, y10, y11, y12, hP1, hK1, hD1⟩ := hB
  rw [ht] at hP1
  obtain ⟨hP, hD⟩ := xjoin (W := [(a2, .inl (cT 2, 1, .inr (.inl f48))), (a0, .inr (0, [v15, v16, .ref a8, .ref a4, v17, .ref b54, v18, v19])), (a3, .inr (2, [.ref a7, .int 1, .int 0])), (a4, .inl (cT 3, 8, .inr (.inr (.inr (.inr (va_up f51 (xs 1).toNatClampNeg (some a3))))))), (a5, .inr (2, [.ref a6, .int 1, v56])), (a6, .inl (cT 2, 4096, .inr (.inl f57))), (a7, .inl (cT 2, 4096, .inr (.inl (vp_updL f59 0 2)))), (a8, .inr (1, [.ref a9, .int 4, .int 0])), (a9, .inl (cT 0, 4096, .inl (upd (upd (upd (upd f62 0 (vp_nar .byte y2)) 1 (vp_nar .byte y3)) 2 (vp_nar .byte y4)) 3 (vp_nar .byte y5)))), (a1, .inr (5, [.int 0, .ref a13, .int 3, v22, .int 0, v24, v25, .int 0, v27, .int 0, v29, v30, .int 0, v32, v33, .ref a12, .int 4, .int 4, .int 0, .int 100, v39, .ref a14, .int 4, .int 4096, .ref a10, .ref a11, v42, v43, v44, v45, v46, v47])), (a10, .inl (cT 5, 8, .inr (.inr (.inr (.inr f63))))), (a11, .inl (cT 1, 8, .inl (upd f67 (xs 1).toNatClampNeg 4))), (a12, .inl (cT 0, 4096, .inl (upd (upd (upd (upd f70 0 (vp_nar .byte (vp_nar .byte y9))) 1 (vp_nar .byte (vp_nar .byte y10))) 2 (vp_nar .byte (vp_nar .byte y11))) 3 (vp_nar .byte (vp_nar .byte y12))))), (a13, .inl (cT 4, 1024, .inr (.inr (.inr (.inr (va_up (va_up (va_up f75 0 (some q6)) 1 (some q7)) 2 (some q8))))))), (a14, .inl (cT 0, 1024, .inl (upd (upd (upd (upd f79 0 (vp_nar .byte y9)) 1 (vp_nar .byte y10)) 2 (vp_nar .byte y11)) 3 (vp_nar .byte y12)))), (q6, .inr (6, [.int 0, .long 0, .int 0, .int 0, .int 0, .int 1])), (q7, .inr (6, [.int 0, .long 0, .int 0, .int 0, .int 0, .int 1])), (q8, .inr (6, [.int 2, .long 0, .int 0, .int 0, .int 0, .int 1]))]) hP hD [0, 2, 3, 4, 5, 6] [1, 7, 8, 9, 10, 11, 12, 13, 14] 9 rfl rfl (by decide) (by decide) hk1 hFc hP1 hD1
  generalize H1 = H at hP hS ⊢
  refine lv_aload_n hx hb dL_law_709 rfl (lv_at hl 3 rfl) ?_
  obtain ⟨hPc, hDc, hFc⟩ := xcut (wc := [(a1, .inr (5, [.int 0, .ref a13, .int 3, v22, .int 0, v24, v25, .int 0, v27, .int 0, v29, v30, .int 0, v32, v33, .ref a12, .int 4, .int 4, .int 0, .int 100, v39, .ref a14, .int 4, .int 4096, .ref a10, .ref a11, v42, v43, v44, v45, v46, v47]))]) hP hD hS hA [9] rfl rfl (by decide)
  refine va_calli (va_runV (C := "ValueBenchModel") (As := []) (rest := []) ⟨hx, hb, hml, hown, htx⟩ (cM_thrown_0 l hl9 D cT aK aV H.size a1 (.ref a13) (.int 3) v22 (.int 0) v24 v25 (.int 0) v27 (.int 0) v29 v30 (.int 0) v32 v33 (.ref a12) (.int 4) (.int 4) (.int 0) (.int 100) v39 (.ref a14) (.int 4) (.int 4096) (.ref a10) (.ref a11) v42 v43 v44 v45 v46 v47) ⟨callB_of 0 htx (xw_goodC kw_5_187) rfl rfl rfl (htx _ kw_1_5) (htx _ kw_5_184) ⟨by decide, by decide, by decide +kernel⟩ ⟨Nat.le_of_ble_eq_true rfl, Nat.le_of_ble_eq_true rfl⟩, (htx _ kw_5_185), (htx _ kw_5_186)⟩ ⟨xPre_blind, va_recv hK hP (ci := 5) rfl (q0 := 9) rfl, (fun U hU hW => ⟨rfl, xPre_of hZ hS hFc hPc hDc hK U hU hW⟩)⟩ rfl rfl hl.1 rfl (lv_room (Nat.le_of_ble_eq_true rfl)) dL_law_710 ⟨Nat.le_of_ble_eq_true rfl, Nat.le_of_ble_eq_true rfl⟩) hS (fun q _ h => hFc q h) hFc (fun r13 u9 t H1 locs ht hvm hr9 hB hz1 hk1 hS => ?_)
  obtain ⟨hP1, hK1, hD1⟩ := hB
  rw [ht] at hP1
  obtain ⟨hP, hD⟩ := xjoin (W := [(a2, .inl (cT 2, 1, .inr (.inl f48))), (a0, .inr (0, [v15, v16, .ref a8, .ref a4, v17, .ref b54, v18, v19])), (a3, .inr (2, [.ref a7, .int 1, .int 0])), (a4, .inl (cT 3, 8, .inr (.inr (.inr (.inr (va_up f51 (xs 1).toNatClampNeg (some a3))))))), (a5, .inr (2, [.ref a6, .int 1, v56])), (a6, .inl (cT 2, 4096, .inr (.inl f57))), (a7, .inl (cT 2, 4096, .inr (.inl (vp_updL f59 0 2)))), (a8, .inr (1, [.ref a9, .int 4, .int 0])), (a9, .inl (cT 0, 4096, .inl (upd (upd (upd (upd f62 0 (vp_nar .byte y2)) 1 (vp_nar .byte y3)) 2 (vp_nar .byte y4)) 3 (vp_nar .byte y5)))), (a10, .inl (cT 5, 8, .inr (.inr (.inr (.inr f63))))), (a11, .inl (cT 1, 8, .inl (upd f67 (xs 1).toNatClampNeg 4))), (a12, .inl (cT 0, 4096, .inl (upd (upd (upd (upd f70 0 (vp_nar .byte (vp_nar .byte y9))) 1 (vp_nar .byte (vp_nar .byte y10))) 2 (vp_nar .byte (vp_nar .byte y11))) 3 (vp_nar .byte (vp_nar .byte y12))))), (a13, .inl (cT 4, 1024, .inr (.inr (.inr (.inr (va_up (va_up (va_up f75 0 (some q6)) 1 (some q7)) 2 (some q8))))))), (a14, .inl (cT 0, 1024, .inl (upd (upd (upd (upd f79 0 (vp_nar .byte y9)) 1 (vp_nar .byte y10)) 2 (vp_nar .byte y11)) 3 (vp_nar .byte y12)))), (q6, .inr (6, [.int 0, .long 0, .int 0, .int 0, .int 0, .int 1])), (q7, .inr (6, [.int 0, .long 0, .int 0, .int 0, .int 0, .int 1])), (q8, .inr (6, [.int 2, .long 0, .int 0, .int 0, .int 0, .int 1])), (a1, .inr (5, [.int 0, .ref a13, .int 3, v22, .int 0, v24, v25, .int 0, v27, .int 0, v29, v30, .int 0, v32, v33, .ref a12, .int 4, .int 4, .int 0, .int 100, v39, .ref a14, .int 4, .int 4096, .ref a10, .ref a11, v42, v43, v44, v45, v46, v47]))]) hP hD [9] [0, 1, 2, 3, 4, 5, 6, 7, 8, 10, 11, 12, 13, 14, 15, 16, 17] 17 rfl rfl (by decide) (by decide) hk1 hFc hP1 hD1
  generalize H1 = H at hP hS ⊢
  rw [hr9]
  refine W.eq (g2 := F0 m 713 ls [.int 0]) rfl ?_
  refine lv_iload hx hb dL_law_713 (lv_at hl 0 rfl) ?_
  refine lv_icmp_eq (tgt := 720) hx hb dL_law_715 (by decide) (fun _ => ?_) (fun h => ((by revert h; decide : False)).elim)
  refine lv_goto (tgt := 906) hx hb dL_law_720 (by decide) ?_
  refine lv_iinc (v := 6) (lv' := [(4, .int 6), (5, .int 0), (3, .ref a2), (2, .ref a1), (1, .ref a0), (0, .ref b)]) hx hb dL_law_906 hl (k := 1) rfl (by decide) (by decide) rfl (fun ls hl => ?_)
  refine lv_goto (tgt := 23) hx hb dL_law_909 (by decide) ?_
  refine lv_iload hx hb dL_law_23 (lv_at hl 0 rfl) ?_
  refine lv_aload_n hx hb dL_law_25 rfl (lv_at hl 5 rfl) ?_
  refine va_slen hx hb hXs hbl hbA hS dL_law_26 ?_
  refine W.eq (g2 := F0 m 27 ls [.int 6, .int 6]) rfl ?_
  refine lv_bipush (v := 6) hx hb dL_law_27 (by decide) ?_
  refine lv_isub hx hb dL_law_29 ?_
  refine W.eq (g2 := F0 m 30 ls [.int 0, .int 6]) rfl ?_
  refine lv_icmp_gt (tgt := 912) hx hb dL_law_30 (by decide) (fun _ => ?_) (fun h => ((by revert h; decide : False)).elim)
  refine lv_iconst (v := 1) hx hb dL_law_912 (by decide) ?_
  exact va_forget (fun q h => hA2 _ (hS.2.2 q h)) (W.widen (k := 600002) (n := 7302232) (Nat.le_of_ble_eq_true rfl) (Nat.le_of_ble_eq_true rfl) (lw_ret hx hb hr hlocks dL_law_913))
set_option maxHeartbeats 400000000 in
set_option maxRecDepth 100000 in
theorem lf_two1_p1 {p : Program} {e : Env} {s : State} {m : MethodId} {below : List Frame} {meth : Method} {c : Code} (l : Launch) (hl9 : l.stackTraces = false) (D : va_G) (cT : Nat → ClassId) (aK aV : Nat → Nat) {A : Nat → Prop} {b : Nat} {xs : Nat → Int32} (C : xLw p s m meth c b D cT aK aV A) {H : Heap} {locs : List Loc} {ls : Array Slot} (a0 : Nat) (a1 : Nat) (a2 : Nat) (a3 : Nat) (a4 : Nat) (a5 : Nat) (a6 : Nat) (a7 : Nat) (a8 : Nat) (a9 : Nat) (a10 : Nat) (a11 : Nat) (a12 : Nat) (a13 : Nat) (a14 : Nat) (a15 : Nat) (v16 : Value) (v17 : Value) (v18 : Value) (v19 : Value) (v20 : Value) (v21 : Value) (v22 : Value) (v23 : Value) (v24 : Value) (v25 : Value) (v26 : Value) (v27 : Value) (v28 : Value) (v29 : Value) (v30 : Value) (v31 : Value) (v32 : Value) (v33 : Value) (v34 : Value) (v35 : Value) (v36 : Value) (v37 : Value) (v38 : Value) (v39 : Value) (v40 : Value) (v41 : Value) (v42 : Value) (v43 : Value) (v44 : Value) (v45 : Value) (v46 : Value) (v47 : Value) (v48 : Value) (f49 : Nat → Int64) (v50 : Value) (v51 : Value) (f52 : Nat → Option Nat) (b55 : Nat) (v57 : Value) (f58 : Nat → Int64) (f60 : Nat → Int64) (v61 : Value) (v62 : Value) (f63 : Nat → Int32) (f64 : Nat → Option Nat) (f68 : Nat → Int32) (f71 : Nat → Int32) (f76 : Nat → Option Nat) (f80 : Nat → Int32) (f81 : Nat → Int32) (h53 : f52 (xs 3).toNatClampNeg = some a5) (h54 : f52 (xs 4).toNatClampNeg = some a5) (h56 : f52 (xs 1).toNatClampNeg = some b55) (h59 : f58 0 = 0) (h65 : f64 (xs 3).toNatClampNeg = some a12) (h66 : f64 (xs 4).toNatClampNeg = some a12) (h67 : f64 (xs 1).toNatClampNeg = some a15) (h69 : f68 (xs 3).toNatClampNeg = 4) (h70 : f68 (xs 4).toNatClampNeg = 4) (h72 : f71 0 = 110) (h73 : f71 1 = 117) (h74 : f71 2 = 108) (h75 : f71 3 = 108) (h77 : f76 0 = none) (h78 : f76 1 = none) (h79 : f76 2 = none) (hto1 : ¬ (xs 1) < 0) (hto2 : ¬ 7 < (xs 1)) (hto3 : (xs 1) ≤ 7) (hto4 : vp_in (xs 1) 8) (hf : xs 2 = 1) (ha1 : ¬ (xs 3) < 0) (ha2 : ¬ 7 < (xs 3)) (ha3 : (xs 3) ≤ 7) (ha4 : vp_in (xs 3) 8) (hb1 : ¬ (xs 4) < 0) (hb2 : ¬ 7 < (xs 4)) (hb3 : (xs 4) ≤ 7) (hb4 : vp_in (xs 4) 8) (hXs : va_X b 6 xs s s.heap) (hP : va_P D xcl [(a0, .inr (0, [v16, v17, .ref a8, .ref a4, v18, .ref a3, v19, v20])), (a1, .inr (5, [v21, .ref a13, v22, v23, v24, v25, v26, v27, v28, v29, v30, v31, v32, v33, v34, v35, v36, v37, v38, v39, v40, .ref a14, v41, v42, .ref a10, .ref a11, v43, v44, v45, v46, v47, v48])), (a2, .inl (cT 2, 1, .inr (.inl f49))), (a3, .inr (2, [.ref a7, v50, v51])), (a4, .inl (cT 3, 8, .inr (.inr (.inr (.inr f52))))), (a5, .inr (2, [.ref a6, .int 1, v57])), (a6, .inl (cT 2, 4096, .inr (.inl f58))), (a7, .inl (cT 2, 4096, .inr (.inl f60))), (a8, .inr (1, [.ref a9, v61, v62])), (a9, .inl (cT 0, 4096, .inl f63)), (a10, .inl (cT 5, 8, .inr (.inr (.inr (.inr f64))))), (a11, .inl (cT 1, 8, .inl f68)), (a12, .inl (cT 0, 4096, .inl f71)), (a13, .inl (cT 4, 1024, .inr (.inr (.inr (.inr f76))))), (a14, .inl (cT 0, 1024, .inl f80)), (a15, .inl (cT 0, 4096, .inl f81))] H) (hD : va_D A [(a0, .inr (0, [v16, v17, .ref a8, .ref a4, v18, .ref a3, v19, v20])), (a1, .inr (5, [v21, .ref a13, v22, v23, v24, v25, v26, v27, v28, v29, v30, v31, v32, v33, v34, v35, v36, v37, v38, v39, v40, .ref a14, v41, v42, .ref a10, .ref a11, v43, v44, v45, v46, v47, v48])), (a2, .inl (cT 2, 1, .inr (.inl f49))), (a3, .inr (2, [.ref a7, v50, v51])), (a4, .inl (cT 3, 8, .inr (.inr (.inr (.inr f52))))), (a5, .inr (2, [.ref a6, .int 1, v57])), (a6, .inl (cT 2, 4096, .inr (.inl f58))), (a7, .inl (cT 2, 4096, .inr (.inl f60))), (a8, .inr (1, [.ref a9, v61, v62])), (a9, .inl (cT 0, 4096, .inl f63)), (a10, .inl (cT 5, 8, .inr (.inr (.inr (.inr f64))))), (a11, .inl (cT 1, 8, .inl f68)), (a12, .inl (cT 0, 4096, .inl f71)), (a13, .inl (cT 4, 1024, .inr (.inr (.inr (.inr f76))))), (a14, .inl (cT 0, 1024, .inl f80)), (a15, .inl (cT 0, 4096, .inl f81))]) (hS : va_S A s.heap H locs) (hl : lv_has ls 8 [(4, .int 0), (3, .ref a2), (2, .ref a1), (1, .ref a0), (0, .ref b)]) : W p l e room_1 s m #[Value.ref b] below meth c H locs 54 107242 (lw_Z below #[Value.ref b] s) (F0 m 651 ls []) := by
  obtain ⟨hx, hb, hr, hml, hown, htx, hbl, hbA, hlocks, hK, hZ, hA, hA2⟩ := C
  refine lv_aload_n hx hb dL_law_651 rfl (lv_at hl 3 rfl) ?_
  refine lv_aload_n hx hb dL_law_652 rfl (lv_at hl 4 rfl) ?_
  refine lv_iload hx hb dL_law_653 (lv_at hl 0 rfl) ?_
  refine lv_iconst (v := 1) hx hb dL_law_655 (by decide) ?_
  refine lv_iadd hx hb dL_law_656 ?_
  refine W.eq (g2 := F0 m 657 ls [.int 1, .ref b, .ref a0]) rfl ?_
  refine va_sld hx hb hXs hbl hbA hS (i := 1) (show ¬ ((1 : Int32) < 0 ∨ 6 ≤ (1 : Int32).toNatClampNeg) by decide) dL_law_657 ?_
  refine W.eq (g2 := F0 m 658 ls [.int (xs 1), .ref a0]) rfl ?_
  refine lv_aload_n hx hb dL_law_658 rfl (lv_at hl 4 rfl) ?_
  refine lv_iload hx hb dL_law_659 (lv_at hl 0 rfl) ?_
  refine lv_iconst (v := 2) hx hb dL_law_661 (by decide) ?_
  refine lv_iadd hx hb dL_law_662 ?_
  refine W.eq (g2 := F0 m 663 ls [.int 2, .ref b, .int (xs 1), .ref a0]) rfl ?_
  refine va_sld hx hb hXs hbl hbA hS (i := 2) (show ¬ ((2 : Int32) < 0 ∨ 6 ≤ (2 : Int32).toNatClampNeg) by decide) dL_law_663 ?_
  refine W.eq (g2 := F0 m 664 ls [.int (xs 2), .int (xs 1), .ref a0]) rfl ?_
  rw [hf]
  refine W.eq (g2 := F0 m 664 ls [.int 1, .int (xs 1), .ref a0]) rfl ?_
  refine lv_aload_n hx hb dL_law_664 rfl (lv_at hl 4 rfl) ?_
  refine lv_iload hx hb dL_law_665 (lv_at hl 0 rfl) ?_
  refine lv_iconst (v := 3) hx hb dL_law_667 (by decide) ?_
  refine lv_iadd hx hb dL_law_668 ?_
  refine W.eq (g2 := F0 m 669 ls [.int 3, .ref b, .int 1, .int (xs 1), .ref a0]) rfl ?_
  refine va_sld hx hb hXs hbl hbA hS (i := 3) (show ¬ ((3 : Int32) < 0 ∨ 6 ≤ (3 : Int32).toNatClampNeg) by decide) dL_law_669 ?_
  refine W.eq (g2 := F0 m 670 ls [.int (xs 3), .int 1, .int (xs 1), .ref a0]) rfl ?_
  refine lv_aload_n hx hb dL_law_670 rfl (lv_at hl 4 rfl) ?_
  refine lv_iload hx hb dL_law_671 (lv_at hl 0 rfl) ?_
  refine lv_iconst (v := 4) hx hb dL_law_673 (by decide) ?_
  refine lv_iadd hx hb dL_law_674 ?_
  refine W.eq (g2 := F0 m 675 ls [.int 4, .ref b, .int (xs 3), .int 1, .int (xs 1), .ref a0]) rfl ?_
  refine va_sld hx hb hXs hbl hbA hS (i := 4) (show ¬ ((4 : Int32) < 0 ∨ 6 ≤ (4 : Int32).toNatClampNeg) by decide) dL_law_675 ?_
  refine W.eq (g2 := F0 m 676 ls [.int (xs 4), .int (xs 3), .int 1, .int (xs 1), .ref a0]) rfl ?_
  obtain ⟨hPc, hDc, hFc⟩ := xcut (wc := [(a0, .inr (0, [v16, v17, .ref a8, .ref a4, v18, .ref a3, v19, v20])), (a3, .inr (2, [.ref a7, v50, v51])), (a4, .inl (cT 3, 8, .inr (.inr (.inr (.inr f52))))), (a5, .inr (2, [.ref a6, .int 1, v57])), (a6, .inl (cT 2, 4096, .inr (.inl f58))), (a7, .inl (cT 2, 4096, .inr (.inl f60))), (a8, .inr (1, [.ref a9, v61, v62])), (a9, .inl (cT 0, 4096, .inl f63))]) hP hD hS hA [0, 3, 4, 5, 6, 7, 8, 9] rfl rfl (by decide)
  refine va_calli (vx_runSW (As := [.ref a0, .int (xs 1), .int 1, .int (xs 3), .int (xs 4)]) (rest := []) ⟨hx, hb, hml, hown, htx⟩ (cL_two_10 l hl9 D cT aK aV H.size a0 a3 a4 a5 a6 a7 a8 a9 (xs 1) (xs 3) (xs 4) v16 v17 v18 v19 v20 v50 v51 f52 b55 v57 f58 f60 v61 v62 f63 hto1 hto2 hto3 hto4 ha1 ha2 ha3 ha4 hb1 hb2 hb3 hb4 (by first | rfl | exact h53 | exact h54 | exact h56 | exact h59 | exact h65 | exact h66 | exact h67 | exact h69 | exact h70 | exact h72 | exact h73 | exact h74 | exact h75 | exact h77 | exact h78 | exact h79) (by first | rfl | exact h53 | exact h54 | exact h56 | exact h59 | exact h65 | exact h66 | exact h67 | exact h69 | exact h70 | exact h72 | exact h73 | exact h74 | exact h75 | exact h77 | exact h78 | exact h79) (by first | rfl | exact h53 | exact h54 | exact h56 | exact h59 | exact h65 | exact h66 | exact h67 | exact h69 | exact h70 | exact h72 | exact h73 | exact h74 | exact h75 | exact h77 | exact h78 | exact h79) (by first | rfl | exact h53 | exact h54 | exact h56 | exact h59 | exact h65 | exact h66 | exact h67 | exact h69 | exact h70 | exact h72 | exact h73 | exact h74 | exact h75 | exact h77 | exact h78 | exact h79)) (xcSW 5 htx (xw_goodC kw_4_139) rfl rfl rfl (htx _ kw_1_0) (htx _ kw_4_137) ⟨by decide, by decide, by decide +kernel⟩ ⟨Nat.le_of_ble_eq_true rfl, Nat.le_of_ble_eq_true rfl⟩ (htx _ kw_4_138)) ⟨xPre_blind, (fun U hU hW => ⟨rfl, xPre_of hZ hS hFc hPc hDc hK U hU hW⟩)⟩ rfl rfl hl.1 rfl (lv_room (Nat.le_of_ble_eq_true rfl)) dL_law_676 ⟨Nat.le_of_ble_eq_true rfl, Nat.le_of_ble_eq_true rfl⟩) hS (fun q _ h => hFc q h) hFc (fun r1 u9 t H1 locs ht hvm hr9 hB hz1 hk1 hS => ?_)
  obtain ⟨y2, y3, y4, y5, hP1, hK1, hD1⟩ := hB
  rw [ht] at hP1
  obtain ⟨hP, hD⟩ := xjoin (W := [(a1, .inr (5, [v21, .ref a13, v22, v23, v24, v25, v26, v27, v28, v29, v30, v31, v32, v33, v34, v35, v36, v37, v38, v39, v40, .ref a14, v41, v42, .ref a10, .ref a11, v43, v44, v45, v46, v47, v48])), (a2, .inl (cT 2, 1, .inr (.inl f49))), (a10, .inl (cT 5, 8, .inr (.inr (.inr (.inr f64))))), (a11, .inl (cT 1, 8, .inl f68)), (a12, .inl (cT 0, 4096, .inl f71)), (a13, .inl (cT 4, 1024, .inr (.inr (.inr (.inr f76))))), (a14, .inl (cT 0, 1024, .inl f80)), (a15, .inl (cT 0, 4096, .inl f81)), (a0, .inr (0, [v16, v17, .ref a8, .ref a4, v18, .ref b55, v19, v20])), (a3, .inr (2, [.ref a7, .int 1, .int 0])), (a4, .inl (cT 3, 8, .inr (.inr (.inr (.inr (va_up f52 (xs 1).toNatClampNeg (some a3))))))), (a5, .inr (2, [.ref a6, .int 1, v57])), (a6, .inl (cT 2, 4096, .inr (.inl f58))), (a7, .inl (cT 2, 4096, .inr (.inl (vp_updL f60 0 2)))), (a8, .inr (1, [.ref a9, .int 4, .int 0])), (a9, .inl (cT 0, 4096, .inl (upd (upd (upd (upd f63 0 (vp_nar .byte y2)) 1 (vp_nar .byte y3)) 2 (vp_nar .byte y4)) 3 (vp_nar .byte y5))))]) hP hD [0, 3, 4, 5, 6, 7, 8, 9] [1, 2, 10, 11, 12, 13, 14, 15] 8 rfl rfl (by decide) (by decide) hk1 hFc hP1 hD1
  generalize H1 = H at hP hS ⊢
  rw [hr9]
  refine W.eq (g2 := F0 m 679 ls [.int 0]) rfl ?_
  refine lv_istore (lv' := [(5, .int 0), (4, .int 0), (3, .ref a2), (2, .ref a1), (1, .ref a0), (0, .ref b)]) hx hb dL_law_679 hl (by decide) rfl (fun ls hl => ?_)
  refine lv_aload_n hx hb dL_law_681 rfl (lv_at hl 3 rfl) ?_
  refine lv_aload_n hx hb dL_law_682 rfl (lv_at hl 5 rfl) ?_
  refine lv_iload hx hb dL_law_683 (lv_at hl 1 rfl) ?_
  refine lv_iconst (v := 1) hx hb dL_law_685 (by decide) ?_
  refine lv_iadd hx hb dL_law_686 ?_
  refine W.eq (g2 := F0 m 687 ls [.int 1, .ref b, .ref a1]) rfl ?_
  refine va_sld hx hb hXs hbl hbA hS (i := 1) (show ¬ ((1 : Int32) < 0 ∨ 6 ≤ (1 : Int32).toNatClampNeg) by decide) dL_law_687 ?_
  refine W.eq (g2 := F0 m 688 ls [.int (xs 1), .ref a1]) rfl ?_
  refine lv_aload_n hx hb dL_law_688 rfl (lv_at hl 5 rfl) ?_
  refine lv_iload hx hb dL_law_689 (lv_at hl 1 rfl) ?_
  refine lv_iconst (v := 2) hx hb dL_law_691 (by decide) ?_
  refine lv_iadd hx hb dL_law_692 ?_
  refine W.eq (g2 := F0 m 693 ls [.int 2, .ref b, .int (xs 1), .ref a1]) rfl ?_
  refine va_sld hx hb hXs hbl hbA hS (i := 2) (show ¬ ((2 : Int32) < 0 ∨ 6 ≤ (2 : Int32).toNatClampNeg) by decide) dL_law_693 ?_
  refine W.eq (g2 := F0 m 694 ls [.int (xs 2), .int (xs 1), .ref a1]) rfl ?_
  rw [hf]
  refine W.eq (g2 := F0 m 694 ls [.int 1, .int (xs 1), .ref a1]) rfl ?_
  refine lv_aload_n hx hb dL_law_694 rfl (lv_at hl 5 rfl) ?_
  refine lv_iload hx hb dL_law_695 (lv_at hl 1 rfl) ?_
  refine lv_iconst (v := 3) hx hb dL_law_697 (by decide) ?_
  refine lv_iadd hx hb dL_law_698 ?_
  refine W.eq (g2 := F0 m 699 ls [.int 3, .ref b, .int 1, .int (xs 1), .ref a1]) rfl ?_
  refine va_sld hx hb hXs hbl hbA hS (i := 3) (show ¬ ((3 : Int32) < 0 ∨ 6 ≤ (3 : Int32).toNatClampNeg) by decide) dL_law_699 ?_
  refine W.eq (g2 := F0 m 700 ls [.int (xs 3), .int 1, .int (xs 1), .ref a1]) rfl ?_
  refine lv_aload_n hx hb dL_law_700 rfl (lv_at hl 5 rfl) ?_
  refine lv_iload hx hb dL_law_701 (lv_at hl 1 rfl) ?_
  refine lv_iconst (v := 4) hx hb dL_law_703 (by decide) ?_
  refine lv_iadd hx hb dL_law_704 ?_
  refine W.eq (g2 := F0 m 705 ls [.int 4, .ref b, .int (xs 3), .int 1, .int (xs 1), .ref a1]) rfl ?_
  refine va_sld hx hb hXs hbl hbA hS (i := 4) (show ¬ ((4 : Int32) < 0 ∨ 6 ≤ (4 : Int32).toNatClampNeg) by decide) dL_law_705 ?_
  refine W.eq (g2 := F0 m 706 ls [.int (xs 4), .int (xs 3), .int 1, .int (xs 1), .ref a1]) rfl ?_
  obtain ⟨hPc, hDc, hFc⟩ := xcut (wc := [(a1, .inr (5, [v21, .ref a13, v22, v23, v24, v25, v26, v27, v28, v29, v30, v31, v32, v33, v34, v35, v36, v37, v38, v39, v40, .ref a14, v41, v42, .ref a10, .ref a11, v43, v44, v45, v46, v47, v48])), (a10, .inl (cT 5, 8, .inr (.inr (.inr (.inr f64))))), (a11, .inl (cT 1, 8, .inl f68)), (a12, .inl (cT 0, 4096, .inl f71)), (a13, .inl (cT 4, 1024, .inr (.inr (.inr (.inr f76))))), (a14, .inl (cT 0, 1024, .inl f80)), (a15, .inl (cT 0, 4096, .inl f81))]) hP hD hS hA [0, 2, 3, 4, 5, 6, 7] rfl rfl (by decide)
  refine va_callv (va_runV (C := "ValueBenchModel") (As := [.int (xs 1), .int 1, .int (xs 3), .int (xs 4)]) (rest := []) ⟨hx, hb, hml, hown, htx⟩ (cM_two0_11 l hl9 D cT aK aV H.size a1 a10 a11 a12 a13 a14 a15 (xs 1) (xs 3) (xs 4) v21 v22 v23 v24 v25 v26 v27 v28 v29 v30 v31 v32 v33 v34 v35 v36 v37 v38 v39 v40 v41 v42 v43 v44 v45 v46 v47 v48 f64 f68 f71 f76 f80 f81 hto1 hto2 hto3 hto4 ha1 ha2 ha3 ha4 hb1 hb2 hb3 hb4 (by first | rfl | exact h53 | exact h54 | exact h59 | exact h65 | exact h66 | exact h67 | exact h69 | exact h70 | exact h72 | exact h73 | exact h74 | exact h75 | exact h77 | exact h78 | exact h79) (by first | rfl | exact h53 | exact h54 | exact h59 | exact h65 | exact h66 | exact h67 | exact h69 | exact h70 | exact h72 | exact h73 | exact h74 | exact h75 | exact h77 | exact h78 | exact h79) (by first | rfl | exact h53 | exact h54 | exact h59 | exact h65 | exact h66 | exact h67 | exact h69 | exact h70 | exact h72 | exact h73 | exact h74 | exact h75 | exact h77 | exact h78 | exact h79) (by first | rfl | exact h53 | exact h54 | exact h59 | exact h65 | exact h66 | exact h67 | exact h69 | exact h70 | exact h72 | exact h73 | exact h74 | exact h75 | exact h77 | exact h78 | exact h79) (by first | rfl | exact h53 | exact h54 | exact h59 | exact h65 | exact h66 | exact h67 | exact h69 | exact h70 | exact h72 | exact h73 | exact h74 | exact h75 | exact h77 | exact h78 | exact h79) (by first | rfl | exact h53 | exact h54 | exact h59 | exact h65 | exact h66 | exact h67 | exact h69 | exact h70 | exact h72 | exact h73 | exact h74 | exact h75 | exact h77 | exact h78 | exact h79) (by first | rfl | exact h53 | exact h54 | exact h59 | exact h65 | exact h66 | exact h67 | exact h69 | exact h70 | exact h72 | exact h73 | exact h74 | exact h75 | exact h77 | exact h78 | exact h79) (by first | rfl | exact h53 | exact h54 | exact h59 | exact h65 | exact h66 | exact h67 | exact h69 | exact h70 | exact h72 | exact h73 | exact h74 | exact h75 | exact h77 | exact h78 | exact h79) (by first | rfl | exact h53 | exact h54 | exact h59 | exact h65 | exact h66 | exact h67 | exact h69 | exact h70 | exact h72 | exact h73 | exact h74 | exact h75 | exact h77 | exact h78 | exact h79) (by first | rfl | exact h53 | exact h54 | exact h59 | exact h65 | exact h66 | exact h67 | exact h69 | exact h70 | exact h72 | exact h73 | exact h74 | exact h75 | exact h77 | exact h78 | exact h79) (by first | rfl | exact h53 | exact h54 | exact h59 | exact h65 | exact h66 | exact h67 | exact h69 | exact h70 | exact h72 | exact h73 | exact h74 | exact h75 | exact h77 | exact h78 | exact h79) (by first | rfl | exact h53 | exact h54 | exact h59 | exact h65 | exact h66 | exact h67 | exact h69 | exact h70 | exact h72 | exact h73 | exact h74 | exact h75 | exact h77 | exact h78 | exact h79)) ⟨callB_of 4 htx (xw_goodC kw_7_127) rfl rfl rfl (htx _ kw_1_5) (htx _ kw_7_124) ⟨by decide, by decide, by decide +kernel⟩ ⟨Nat.le_of_ble_eq_true rfl, Nat.le_of_ble_eq_true rfl⟩, (htx _ kw_7_125), (htx _ kw_7_126)⟩ ⟨xPre_blind, va_recv hK hP (ci := 5) rfl (q0 := 0) rfl, (fun U hU hW => ⟨rfl, xPre_of hZ hS hFc hPc hDc hK U hU hW⟩)⟩ rfl rfl hl.1 rfl (lv_room (Nat.le_of_ble_eq_true rfl)) dL_law_706 ⟨Nat.le_of_ble_eq_true rfl, Nat.le_of_ble_eq_true rfl⟩) hS (fun q _ h => hFc q h) hFc (fun u9 t H1 locs ht hvm hr9 hB hz1 hk1 hS => ?_)
  obtain ⟨q6, q7, q8, y9, y10, y11, y12, hP1, hK1, hD1⟩ := hB
  rw [ht] at hP1
  obtain ⟨hP, hD⟩ := xjoin (W := [(a2, .inl (cT 2, 1, .inr (.inl f49))), (a0, .inr (0, [v16, v17, .ref a8, .ref a4, v18, .ref b55, v19, v20])), (a3, .inr (2, [.ref a7, .int 1, .int 0])), (a4, .inl (cT 3, 8, .inr (.inr (.inr (.inr (va_up f52 (xs 1).toNatClampNeg (some a3))))))), (a5, .inr (2, [.ref a6, .int 1, v57])), (a6, .inl (cT 2, 4096, .inr (.inl f58))), (a7, .inl (cT 2, 4096, .inr (.inl (vp_updL f60 0 2)))), (a8, .inr (1, [.ref a9, .int 4, .int 0])), (a9, .inl (cT 0, 4096, .inl (upd (upd (upd (upd f63 0 (vp_nar .byte y2)) 1 (vp_nar .byte y3)) 2 (vp_nar .byte y4)) 3 (vp_nar .byte y5)))), (a1, .inr (5, [.int 0, .ref a13, .int 3, v23, .int 0, v25, v26, .int 0, v28, .int 0, v30, v31, .int 0, v33, v34, .ref a12, .int 4, .int 4, .int 0, .int 100, v40, .ref a14, .int 4, .int 4096, .ref a10, .ref a11, v43, v44, v45, v46, v47, v48])), (a10, .inl (cT 5, 8, .inr (.inr (.inr (.inr f64))))), (a11, .inl (cT 1, 8, .inl (upd f68 (xs 1).toNatClampNeg 4))), (a12, .inl (cT 0, 4096, .inl f71)), (a13, .inl (cT 4, 1024, .inr (.inr (.inr (.inr (va_up (va_up (va_up f76 0 (some q6)) 1 (some q7)) 2 (some q8))))))), (a14, .inl (cT 0, 1024, .inl (upd (upd (upd (upd f80 0 (vp_nar .byte y9)) 1 (vp_nar .byte y10)) 2 (vp_nar .byte y11)) 3 (vp_nar .byte y12)))), (a15, .inl (cT 0, 4096, .inl (upd (upd (upd (upd f81 0 (vp_nar .byte (vp_nar .byte y9))) 1 (vp_nar .byte (vp_nar .byte y10))) 2 (vp_nar .byte (vp_nar .byte y11))) 3 (vp_nar .byte (vp_nar .byte y12))))), (q6, .inr (6, [.int 0, .long 0, .int 0, .int 0, .int 0, .int 1])), (q7, .inr (6, [.int 0, .long 0, .int 0, .int 0, .int 0, .int 1])), (q8, .inr (6, [.int 2, .long 0, .int 0, .int 0, .int 0, .int 1]))]) hP hD [0, 2, 3, 4, 5, 6, 7] [1, 8, 9, 10, 11, 12, 13, 14, 15] 9 rfl rfl (by decide) (by decide) hk1 hFc hP1 hD1
  generalize H1 = H at hP hS ⊢
  refine lv_aload_n hx hb dL_law_709 rfl (lv_at hl 3 rfl) ?_
  obtain ⟨hPc, hDc, hFc⟩ := xcut (wc := [(a1, .inr (5, [.int 0, .ref a13, .int 3, v23, .int 0, v25, v26, .int 0, v28, .int 0, v30, v31, .int 0, v33, v34, .ref a12, .int 4, .int 4, .int 0, .int 100, v40, .ref a14, .int 4, .int 4096, .ref a10, .ref a11, v43, v44, v45, v46, v47, v48]))]) hP hD hS hA [9] rfl rfl (by decide)
  refine va_calli (va_runV (C := "ValueBenchModel") (As := []) (rest := []) ⟨hx, hb, hml, hown, htx⟩ (cM_thrown_0 l hl9 D cT aK aV H.size a1 (.ref a13) (.int 3) v23 (.int 0) v25 v26 (.int 0) v28 (.int 0) v30 v31 (.int 0) v33 v34 (.ref a12) (.int 4) (.int 4) (.int 0) (.int 100) v40 (.ref a14) (.int 4) (.int 4096) (.ref a10) (.ref a11) v43 v44 v45 v46 v47 v48) ⟨callB_of 0 htx (xw_goodC kw_5_187) rfl rfl rfl (htx _ kw_1_5) (htx _ kw_5_184) ⟨by decide, by decide, by decide +kernel⟩ ⟨Nat.le_of_ble_eq_true rfl, Nat.le_of_ble_eq_true rfl⟩, (htx _ kw_5_185), (htx _ kw_5_186)⟩ ⟨xPre_blind, va_recv hK hP (ci := 5) rfl (q0 := 9) rfl, (fun U hU hW => ⟨rfl, xPre_of hZ hS hFc hPc hDc hK U hU hW⟩)⟩ rfl rfl hl.1 rfl (lv_room (Nat.le_of_ble_eq_true rfl)) dL_law_710 ⟨Nat.le_of_ble_eq_true rfl, Nat.le_of_ble_eq_true rfl⟩) hS (fun q _ h => hFc q h) hFc (fun r13 u9 t H1 locs ht hvm hr9 hB hz1 hk1 hS => ?_)
  obtain ⟨hP1, hK1, hD1⟩ := hB
  rw [ht] at hP1
  obtain ⟨hP, hD⟩ := xjoin (W := [(a2, .inl (cT 2, 1, .inr (.inl f49))), (a0, .inr (0, [v16, v17, .ref a8, .ref a4, v18, .ref b55, v19, v20])), (a3, .inr (2, [.ref a7, .int 1, .int 0])), (a4, .inl (cT 3, 8, .inr (.inr (.inr (.inr (va_up f52 (xs 1).toNatClampNeg (some a3))))))), (a5, .inr (2, [.ref a6, .int 1, v57])), (a6, .inl (cT 2, 4096, .inr (.inl f58))), (a7, .inl (cT 2, 4096, .inr (.inl (vp_updL f60 0 2)))), (a8, .inr (1, [.ref a9, .int 4, .int 0])), (a9, .inl (cT 0, 4096, .inl (upd (upd (upd (upd f63 0 (vp_nar .byte y2)) 1 (vp_nar .byte y3)) 2 (vp_nar .byte y4)) 3 (vp_nar .byte y5)))), (a10, .inl (cT 5, 8, .inr (.inr (.inr (.inr f64))))), (a11, .inl (cT 1, 8, .inl (upd f68 (xs 1).toNatClampNeg 4))), (a12, .inl (cT 0, 4096, .inl f71)), (a13, .inl (cT 4, 1024, .inr (.inr (.inr (.inr (va_up (va_up (va_up f76 0 (some q6)) 1 (some q7)) 2 (some q8))))))), (a14, .inl (cT 0, 1024, .inl (upd (upd (upd (upd f80 0 (vp_nar .byte y9)) 1 (vp_nar .byte y10)) 2 (vp_nar .byte y11)) 3 (vp_nar .byte y12)))), (a15, .inl (cT 0, 4096, .inl (upd (upd (upd (upd f81 0 (vp_nar .byte (vp_nar .byte y9))) 1 (vp_nar .byte (vp_nar .byte y10))) 2 (vp_nar .byte (vp_nar .byte y11))) 3 (vp_nar .byte (vp_nar .byte y12))))), (q6, .inr (6, [.int 0, .long 0, .int 0, .int 0, .int 0, .int 1])), (q7, .inr (6, [.int 0, .long 0, .int 0, .int 0, .int 0, .int 1])), (q8, .inr (6, [.int 2, .long 0, .int 0, .int 0, .int 0, .int 1])), (a1, .inr (5, [.int 0, .ref a13, .int 3, v23, .int 0, v25, v26, .int 0, v28, .int 0, v30, v31, .int 0, v33, v34, .ref a12, .int 4, .int 4, .int 0, .int 100, v40, .ref a14, .int 4, .int 4096, .ref a10, .ref a11, v43, v44, v45, v46, v47, v48]))]) hP hD [9] [0, 1, 2, 3, 4, 5, 6, 7, 8, 10, 11, 12, 13, 14, 15, 16, 17, 18] 18 rfl rfl (by decide) (by decide) hk1 hFc hP1 hD1
  generalize H1 = H at hP hS ⊢
  rw [hr9]
  refine W.eq (g2 := F0 m 713 ls [.int 0]) rfl ?_
  refine lv_iload hx hb dL_law_713 (lv_at hl 0 rfl) ?_
  refine lv_icmp_eq (tgt := 720) hx hb dL_law_715 (by decide) (fun _ => ?_) (fun h => ((by revert h; decide : False)).elim)
  refine lv_goto (tgt := 906) hx hb dL_law_720 (by decide) ?_
  refine lv_iinc (v := 6) (lv' := [(4, .int 6), (5, .int 0), (3, .ref a2), (2, .ref a1), (1, .ref a0), (0, .ref b)]) hx hb dL_law_906 hl (k := 1) rfl (by decide) (by decide) rfl (fun ls hl => ?_)
  refine lv_goto (tgt := 23) hx hb dL_law_909 (by decide) ?_
  refine lv_iload hx hb dL_law_23 (lv_at hl 0 rfl) ?_
  refine lv_aload_n hx hb dL_law_25 rfl (lv_at hl 5 rfl) ?_
  refine va_slen hx hb hXs hbl hbA hS dL_law_26 ?_
  refine W.eq (g2 := F0 m 27 ls [.int 6, .int 6]) rfl ?_
  refine lv_bipush (v := 6) hx hb dL_law_27 (by decide) ?_
  refine lv_isub hx hb dL_law_29 ?_
  refine W.eq (g2 := F0 m 30 ls [.int 0, .int 6]) rfl ?_
  refine lv_icmp_gt (tgt := 912) hx hb dL_law_30 (by decide) (fun _ => ?_) (fun h => ((by revert h; decide : False)).elim)
  refine lv_iconst (v := 1) hx hb dL_law_912 (by decide) ?_
  exact va_forget (fun q h => hA2 _ (hS.2.2 q h)) (W.widen (k := 600002) (n := 7302232) (Nat.le_of_ble_eq_true rfl) (Nat.le_of_ble_eq_true rfl) (lw_ret hx hb hr hlocks dL_law_913))
set_option maxHeartbeats 400000000 in
set_option maxRecDepth 100000 in
theorem lf_two1_p2 {p : Program} {e : Env} {s : State} {m : MethodId} {below : List Frame} {meth : Method} {c : Code} (l : Launch) (hl9 : l.stackTraces = false) (D : va_G) (cT : Nat → ClassId) (aK aV : Nat → Nat) {A : Nat → Prop} {b : Nat} {xs : Nat → Int32} (C : xLw p s m meth c b D cT aK aV A) {H : Heap} {locs : List Loc} {ls : Array Slot} (a0 : Nat) (a1 : Nat) (a2 : Nat) (a3 : Nat) (a4 : Nat) (a5 : Nat) (a6 : Nat) (a7 : Nat) (a8 : Nat) (a9 : Nat) (a10 : Nat) (a11 : Nat) (a12 : Nat) (a13 : Nat) (a14 : Nat) (a15 : Nat) (a16 : Nat) (a17 : Nat) (v18 : Value) (v19 : Value) (v20 : Value) (v21 : Value) (v22 : Value) (v23 : Value) (v24 : Value) (v25 : Value) (v26 : Value) (v27 : Value) (v28 : Value) (v29 : Value) (v30 : Value) (v31 : Value) (v32 : Value) (v33 : Value) (v34 : Value) (v35 : Value) (v36 : Value) (v37 : Value) (v38 : Value) (v39 : Value) (v40 : Value) (v41 : Value) (v42 : Value) (v43 : Value) (v44 : Value) (v45 : Value) (v46 : Value) (v47 : Value) (v48 : Value) (v49 : Value) (v50 : Value) (f51 : Nat → Int64) (v52 : Value) (v53 : Value) (f54 : Nat → Option Nat) (b57 : Nat) (v59 : Value) (f60 : Nat → Int64) (v62 : Value) (f63 : Nat → Int64) (f65 : Nat → Int64) (v66 : Value) (v67 : Value) (f68 : Nat → Int32) (f69 : Nat → Option Nat) (f73 : Nat → Int32) (f76 : Nat → Int32) (f81 : Nat → Option Nat) (f85 : Nat → Int32) (f90 : Nat → Int32) (h55 : f54 (xs 3).toNatClampNeg = some a5) (h56 : f54 (xs 4).toNatClampNeg = some a7) (h58 : f54 (xs 1).toNatClampNeg = some b57) (h61 : f60 0 = 0) (h64 : f63 0 = 0) (h70 : f69 (xs 3).toNatClampNeg = some a14) (h71 : f69 (xs 4).toNatClampNeg = some a16) (h72 : f69 (xs 1).toNatClampNeg = some a14) (h74 : f73 (xs 3).toNatClampNeg = 4) (h75 : f73 (xs 4).toNatClampNeg = 4) (h77 : f76 0 = 110) (h78 : f76 1 = 117) (h79 : f76 2 = 108) (h80 : f76 3 = 108) (h82 : f81 0 = none) (h83 : f81 1 = none) (h84 : f81 2 = none) (h86 : f85 0 = 110) (h87 : f85 1 = 117) (h88 : f85 2 = 108) (h89 : f85 3 = 108) (hto1 : ¬ (xs 1) < 0) (hto2 : ¬ 7 < (xs 1)) (hto3 : (xs 1) ≤ 7) (hto4 : vp_in (xs 1) 8) (hf : xs 2 = 1) (ha1 : ¬ (xs 3) < 0) (ha2 : ¬ 7 < (xs 3)) (ha3 : (xs 3) ≤ 7) (ha4 : vp_in (xs 3) 8) (hb1 : ¬ (xs 4) < 0) (hb2 : ¬ 7 < (xs 4)) (hb3 : (xs 4) ≤ 7) (hb4 : vp_in (xs 4) 8) (hXs : va_X b 6 xs s s.heap) (hP : va_P D xcl [(a0, .inr (0, [v18, v19, .ref a10, .ref a4, v20, .ref a3, v21, v22])), (a1, .inr (5, [v23, .ref a15, v24, v25, v26, v27, v28, v29, v30, v31, v32, v33, v34, v35, v36, v37, v38, v39, v40, v41, v42, .ref a17, v43, v44, .ref a12, .ref a13, v45, v46, v47, v48, v49, v50])), (a2, .inl (cT 2, 1, .inr (.inl f51))), (a3, .inr (2, [.ref a9, v52, v53])), (a4, .inl (cT 3, 8, .inr (.inr (.inr (.inr f54))))), (a5, .inr (2, [.ref a6, .int 1, v59])), (a6, .inl (cT 2, 4096, .inr (.inl f60))), (a7, .inr (2, [.ref a8, .int 1, v62])), (a8, .inl (cT 2, 4096, .inr (.inl f63))), (a9, .inl (cT 2, 4096, .inr (.inl f65))), (a10, .inr (1, [.ref a11, v66, v67])), (a11, .inl (cT 0, 4096, .inl f68)), (a12, .inl (cT 5, 8, .inr (.inr (.inr (.inr f69))))), (a13, .inl (cT 1, 8, .inl f73)), (a14, .inl (cT 0, 4096, .inl f76)), (a15, .inl (cT 4, 1024, .inr (.inr (.inr (.inr f81))))), (a16, .inl (cT 0, 4096, .inl f85)), (a17, .inl (cT 0, 1024, .inl f90))] H) (hD : va_D A [(a0, .inr (0, [v18, v19, .ref a10, .ref a4, v20, .ref a3, v21, v22])), (a1, .inr (5, [v23, .ref a15, v24, v25, v26, v27, v28, v29, v30, v31, v32, v33, v34, v35, v36, v37, v38, v39, v40, v41, v42, .ref a17, v43, v44, .ref a12, .ref a13, v45, v46, v47, v48, v49, v50])), (a2, .inl (cT 2, 1, .inr (.inl f51))), (a3, .inr (2, [.ref a9, v52, v53])), (a4, .inl (cT 3, 8, .inr (.inr (.inr (.inr f54))))), (a5, .inr (2, [.ref a6, .int 1, v59])), (a6, .inl (cT 2, 4096, .inr (.inl f60))), (a7, .inr (2, [.ref a8, .int 1, v62])), (a8, .inl (cT 2, 4096, .inr (.inl f63))), (a9, .inl (cT 2, 4096, .inr (.inl f65))), (a10, .inr (1, [.ref a11, v66, v67])), (a11, .inl (cT 0, 4096, .inl f68)), (a12, .inl (cT 5, 8, .inr (.inr (.inr (.inr f69))))), (a13, .inl (cT 1, 8, .inl f73)), (a14, .inl (cT 0, 4096, .inl f76)), (a15, .inl (cT 4, 1024, .inr (.inr (.inr (.inr f81))))), (a16, .inl (cT 0, 4096, .inl f85)), (a17, .inl (cT 0, 1024, .inl f90))]) (hS : va_S A s.heap H locs) (hl : lv_has ls 8 [(4, .int 0), (3, .ref a2), (2, .ref a1), (1, .ref a0), (0, .ref b)]) : W p l e room_1 s m #[Value.ref b] below meth c H locs 54 107242 (lw_Z below #[Value.ref b] s) (F0 m 651 ls []) := by
  obtain ⟨hx, hb, hr, hml, hown, htx, hbl, hbA, hlocks, hK, hZ, hA, hA2⟩ := C
  refine lv_aload_n hx hb dL_law_651 rfl (lv_at hl 3 rfl) ?_
  refine lv_aload_n hx hb dL_law_652 rfl (lv_at hl 4 rfl) ?_
  refine lv_iload hx hb dL_law_653 (lv_at hl 0 rfl) ?_
  refine lv_iconst (v := 1) hx hb dL_law_655 (by decide) ?_
  refine lv_iadd hx hb dL_law_656 ?_
  refine W.eq (g2 := F0 m 657 ls [.int 1, .ref b, .ref a0]) rfl ?_
  refine va_sld hx hb hXs hbl hbA hS (i := 1) (show ¬ ((1 : Int32) < 0 ∨ 6 ≤ (1 : Int32).toNatClampNeg) by decide) dL_law_657 ?_
  refine W.eq (g2 := F0 m 658 ls [.int (xs 1), .ref a0]) rfl ?_
  refine lv_aload_n hx hb dL_law_658 rfl (lv_at hl 4 rfl) ?_
  refine lv_iload hx hb dL_law_659 (lv_at hl 0 rfl) ?_
  refine lv_iconst (v := 2) hx hb dL_law_661 (by decide) ?_
  refine lv_iadd hx hb dL_law_662 ?_
  refine W.eq (g2 := F0 m 663 ls [.int 2, .ref b, .int (xs 1), .ref a0]) rfl ?_
  refine va_sld hx hb hXs hbl hbA hS (i := 2) (show ¬ ((2 : Int32) < 0 ∨ 6 ≤ (2 : Int32).toNatClampNeg) by decide) dL_law_663 ?_
  refine W.eq (g2 := F0 m 664 ls [.int (xs 2), .int (xs 1), .ref a0]) rfl ?_
  rw [hf]
  refine W.eq (g2 := F0 m 664 ls [.int 1, .int (xs 1), .ref a0]) rfl ?_
  refine lv_aload_n hx hb dL_law_664 rfl (lv_at hl 4 rfl) ?_
  refine lv_iload hx hb dL_law_665 (lv_at hl 0 rfl) ?_
  refine lv_iconst (v := 3) hx hb dL_law_667 (by decide) ?_
  refine lv_iadd hx hb dL_law_668 ?_
  refine W.eq (g2 := F0 m 669 ls [.int 3, .ref b, .int 1, .int (xs 1), .ref a0]) rfl ?_
  refine va_sld hx hb hXs hbl hbA hS (i := 3) (show ¬ ((3 : Int32) < 0 ∨ 6 ≤ (3 : Int32).toNatClampNeg) by decide) dL_law_669 ?_
  refine W.eq (g2 := F0 m 670 ls [.int (xs 3), .int 1, .int (xs 1), .ref a0]) rfl ?_
  refine lv_aload_n hx hb dL_law_670 rfl (lv_at hl 4 rfl) ?_
  refine lv_iload hx hb dL_law_671 (lv_at hl 0 rfl) ?_
  refine lv_iconst (v := 4) hx hb dL_law_673 (by decide) ?_
  refine lv_iadd hx hb dL_law_674 ?_
  refine W.eq (g2 := F0 m 675 ls [.int 4, .ref b, .int (xs 3), .int 1, .int (xs 1), .ref a0]) rfl ?_
  refine va_sld hx hb hXs hbl hbA hS (i := 4) (show ¬ ((4 : Int32) < 0 ∨ 6 ≤ (4 : Int32).toNatClampNeg) by decide) dL_law_675 ?_
  refine W.eq (g2 := F0 m 676 ls [.int (xs 4), .int (xs 3), .int 1, .int (xs 1), .ref a0]) rfl ?_
  obtain ⟨hPc, hDc, hFc⟩ := xcut (wc := [(a0, .inr (0, [v18, v19, .ref a10, .ref a4, v20, .ref a3, v21, v22])), (a3, .inr (2, [.ref a9, v52, v53])), (a4, .inl (cT 3, 8, .inr (.inr (.inr (.inr f54))))), (a5, .inr (2, [.ref a6, .int 1, v59])), (a6, .inl (cT 2, 4096, .inr (.inl f60))), (a7, .inr (2, [.ref a8, .int 1, v62])), (a8, .inl (cT 2, 4096, .inr (.inl f63))), (a9, .inl (cT 2, 4096, .inr (.inl f65))), (a10, .inr (1, [.ref a11, v66, v67])), (a11, .inl (cT 0, 4096, .inl f68))]) hP hD hS hA [0, 3, 4, 5, 6, 7, 8, 9, 10, 11] rfl rfl (by decide)
  refine va_calli (vx_runSW (As := [.ref a0, .int (xs 1), .int 1, .int (xs 3), .int (xs 4)]) (rest := []) ⟨hx, hb, hml, hown, htx⟩ (cL_two_11 l hl9 D cT aK aV H.size a0 a3 a4 a5 a6 a7 a8 a9 a10 a11 (xs 1) (xs 3) (xs 4) v18 v19 v20 v21 v22 v52 v53 f54 b57 v59 f60 v62 f63 f65 v66 v67 f68 hto1 hto2 hto3 hto4 ha1 ha2 ha3 ha4 hb1 hb2 hb3 hb4 (by first | rfl | exact h55 | exact h56 | exact h58 | exact h61 | exact h64 | exact h70 | exact h71 | exact h72 | exact h74 | exact h75 | exact h77 | exact h78 | exact h79 | exact h80 | exact h82 | exact h83 | exact h84 | exact h86 | exact h87 | exact h88 | exact h89) (by first | rfl | exact h55 | exact h56 | exact h58 | exact h61 | exact h64 | exact h70 | exact h71 | exact h72 | exact h74 | exact h75 | exact h77 | exact h78 | exact h79 | exact h80 | exact h82 | exact h83 | exact h84 | exact h86 | exact h87 | exact h88 | exact h89) (by first | rfl | exact h55 | exact h56 | exact h58 | exact h61 | exact h64 | exact h70 | exact h71 | exact h72 | exact h74 | exact h75 | exact h77 | exact h78 | exact h79 | exact h80 | exact h82 | exact h83 | exact h84 | exact h86 | exact h87 | exact h88 | exact h89) (by first | rfl | exact h55 | exact h56 | exact h58 | exact h61 | exact h64 | exact h70 | exact h71 | exact h72 | exact h74 | exact h75 | exact h77 | exact h78 | exact h79 | exact h80 | exact h82 | exact h83 | exact h84 | exact h86 | exact h87 | exact h88 | exact h89) (by first | rfl | exact h55 | exact h56 | exact h58 | exact h61 | exact h64 | exact h70 | exact h71 | exact h72 | exact h74 | exact h75 | exact h77 | exact h78 | exact h79 | exact h80 | exact h82 | exact h83 | exact h84 | exact h86 | exact h87 | exact h88 | exact h89)) (xcSW 5 htx (xw_goodC kw_4_139) rfl rfl rfl (htx _ kw_1_0) (htx _ kw_4_137) ⟨by decide, by decide, by decide +kernel⟩ ⟨Nat.le_of_ble_eq_true rfl, Nat.le_of_ble_eq_true rfl⟩ (htx _ kw_4_138)) ⟨xPre_blind, (fun U hU hW => ⟨rfl, xPre_of hZ hS hFc hPc hDc hK U hU hW⟩)⟩ rfl rfl hl.1 rfl (lv_room (Nat.le_of_ble_eq_true rfl)) dL_law_676 ⟨Nat.le_of_ble_eq_true rfl, Nat.le_of_ble_eq_true rfl⟩) hS (fun q _ h => hFc q h) hFc (fun r1 u9 t H1 locs ht hvm hr9 hB hz1 hk1 hS => ?_)
  obtain ⟨y2, y3, y4, y5, hP1, hK1, hD1⟩ := hB
  rw [ht] at hP1
  obtain ⟨hP, hD⟩ := xjoin (W := [(a1, .inr (5, [v23, .ref a15, v24, v25, v26, v27, v28, v29, v30, v31, v32, v33, v34, v35, v36, v37, v38, v39, v40, v41, v42, .ref a17, v43, v44, .ref a12, .ref a13, v45, v46, v47, v48, v49, v50])), (a2, .inl (cT 2, 1, .inr (.inl f51))), (a12, .inl (cT 5, 8, .inr (.inr (.inr (.inr f69))))), (a13, .inl (cT 1, 8, .inl f73)), (a14, .inl (cT 0, 4096, .inl f76)), (a15, .inl (cT 4, 1024, .inr (.inr (.inr (.inr f81))))), (a16, .inl (cT 0, 4096, .inl f85)), (a17, .inl (cT 0, 1024, .inl f90)), (a0, .inr (0, [v18, v19, .ref a10, .ref a4, v20, .ref b57, v21, v22])), (a3, .inr (2, [.ref a9, .int 1, .int 0])), (a4, .inl (cT 3, 8, .inr (.inr (.inr (.inr (va_up f54 (xs 1).toNatClampNeg (some a3))))))), (a5, .inr (2, [.ref a6, .int 1, v59])), (a6, .inl (cT 2, 4096, .inr (.inl f60))), (a7, .inr (2, [.ref a8, .int 1, v62])), (a8, .inl (cT 2, 4096, .inr (.inl f63))), (a9, .inl (cT 2, 4096, .inr (.inl (vp_updL f65 0 2)))), (a10, .inr (1, [.ref a11, .int 4, .int 0])), (a11, .inl (cT 0, 4096, .inl (upd (upd (upd (upd f68 0 (vp_nar .byte y2)) 1 (vp_nar .byte y3)) 2 (vp_nar .byte y4)) 3 (vp_nar .byte y5))))]) hP hD [0, 3, 4, 5, 6, 7, 8, 9, 10, 11] [1, 2, 12, 13, 14, 15, 16, 17] 8 rfl rfl (by decide) (by decide) hk1 hFc hP1 hD1
  generalize H1 = H at hP hS ⊢
  rw [hr9]
  refine W.eq (g2 := F0 m 679 ls [.int 0]) rfl ?_
  refine lv_istore (lv' := [(5, .int 0), (4, .int 0), (3, .ref a2), (2, .ref a1), (1, .ref a0), (0, .ref b)]) hx hb dL_law_679 hl (by decide) rfl (fun ls hl => ?_)
  refine lv_aload_n hx hb dL_law_681 rfl (lv_at hl 3 rfl) ?_
  refine lv_aload_n hx hb dL_law_682 rfl (lv_at hl 5 rfl) ?_
  refine lv_iload hx hb dL_law_683 (lv_at hl 1 rfl) ?_
  refine lv_iconst (v := 1) hx hb dL_law_685 (by decide) ?_
  refine lv_iadd hx hb dL_law_686 ?_
  refine W.eq (g2 := F0 m 687 ls [.int 1, .ref b, .ref a1]) rfl ?_
  refine va_sld hx hb hXs hbl hbA hS (i := 1) (show ¬ ((1 : Int32) < 0 ∨ 6 ≤ (1 : Int32).toNatClampNeg) by decide) dL_law_687 ?_
  refine W.eq (g2 := F0 m 688 ls [.int (xs 1), .ref a1]) rfl ?_
  refine lv_aload_n hx hb dL_law_688 rfl (lv_at hl 5 rfl) ?_
  refine lv_iload hx hb dL_law_689 (lv_at hl 1 rfl) ?_
  refine lv_iconst (v := 2) hx hb dL_law_691 (by decide) ?_
  refine lv_iadd hx hb dL_law_692 ?_
  refine W.eq (g2 := F0 m 693 ls [.int 2, .ref b, .int (xs 1), .ref a1]) rfl ?_
  refine va_sld hx hb hXs hbl hbA hS (i := 2) (show ¬ ((2 : Int32) < 0 ∨ 6 ≤ (2 : Int32).toNatClampNeg) by decide) dL_law_693 ?_
  refine W.eq (g2 := F0 m 694 ls [.int (xs 2), .int (xs 1), .ref a1]) rfl ?_
  rw [hf]
  refine W.eq (g2 := F0 m 694 ls [.int 1, .int (xs 1), .ref a1]) rfl ?_
  refine lv_aload_n hx hb dL_law_694 rfl (lv_at hl 5 rfl) ?_
  refine lv_iload hx hb dL_law_695 (lv_at hl 1 rfl) ?_
  refine lv_iconst (v := 3) hx hb dL_law_697 (by decide) ?_
  refine lv_iadd hx hb dL_law_698 ?_
  refine W.eq (g2 := F0 m 699 ls [.int 3, .ref b, .int 1, .int (xs 1), .ref a1]) rfl ?_
  refine va_sld hx hb hXs hbl hbA hS (i := 3) (show ¬ ((3 : Int32) < 0 ∨ 6 ≤ (3 : Int32).toNatClampNeg) by decide) dL_law_699 ?_
  refine W.eq (g2 := F0 m 700 ls [.int (xs 3), .int 1, .int (xs 1), .ref a1]) rfl ?_
  refine lv_aload_n hx hb dL_law_700 rfl (lv_at hl 5 rfl) ?_
  refine lv_iload hx hb dL_law_701 (lv_at hl 1 rfl) ?_
  refine lv_iconst (v := 4) hx hb dL_law_703 (by decide) ?_
  refine lv_iadd hx hb dL_law_704 ?_
  refine W.eq (g2 := F0 m 705 ls [.int 4, .ref b, .int (xs 3), .int 1, .int (xs 1), .ref a1]) rfl ?_
  refine va_sld hx hb hXs hbl hbA hS (i := 4) (show ¬ ((4 : Int32) < 0 ∨ 6 ≤ (4 : Int32).toNatClampNeg) by decide) dL_law_705 ?_
  refine W.eq (g2 := F0 m 706 ls [.int (xs 4), .int (xs 3), .int 1, .int (xs 1), .ref a1]) rfl ?_
  obtain ⟨hPc, hDc, hFc⟩ := xcut (wc := [(a1, .inr (5, [v23, .ref a15, v24, v25, v26, v27, v28, v29, v30, v31, v32, v33, v34, v35, v36, v37, v38, v39, v40, v41, v42, .ref a17, v43, v44, .ref a12, .ref a13, v45, v46, v47, v48, v49, v50])), (a12, .inl (cT 5, 8, .inr (.inr (.inr (.inr f69))))), (a13, .inl (cT 1, 8, .inl f73)), (a14, .inl (cT 0, 4096, .inl f76)), (a15, .inl (cT 4, 1024, .inr (.inr (.inr (.inr f81))))), (a16, .inl (cT 0, 4096, .inl f85)), (a17, .inl (cT 0, 1024, .inl f90))]) hP hD hS hA [0, 2, 3, 4, 5, 6, 7] rfl rfl (by decide)
  refine va_callv (va_runV (C := "ValueBenchModel") (As := [.int (xs 1), .int 1, .int (xs 3), .int (xs 4)]) (rest := []) ⟨hx, hb, hml, hown, htx⟩ (cM_two0_12 l hl9 D cT aK aV H.size a1 a12 a13 a14 a15 a16 a17 (xs 1) (xs 3) (xs 4) v23 v24 v25 v26 v27 v28 v29 v30 v31 v32 v33 v34 v35 v36 v37 v38 v39 v40 v41 v42 v43 v44 v45 v46 v47 v48 v49 v50 f69 f73 f76 f81 f85 f90 hto1 hto2 hto3 hto4 ha1 ha2 ha3 ha4 hb1 hb2 hb3 hb4 (by first | rfl | exact h55 | exact h56 | exact h61 | exact h64 | exact h70 | exact h71 | exact h72 | exact h74 | exact h75 | exact h77 | exact h78 | exact h79 | exact h80 | exact h82 | exact h83 | exact h84 | exact h86 | exact h87 | exact h88 | exact h89) (by first | rfl | exact h55 | exact h56 | exact h61 | exact h64 | exact h70 | exact h71 | exact h72 | exact h74 | exact h75 | exact h77 | exact h78 | exact h79 | exact h80 | exact h82 | exact h83 | exact h84 | exact h86 | exact h87 | exact h88 | exact h89) (by first | rfl | exact h55 | exact h56 | exact h61 | exact h64 | exact h70 | exact h71 | exact h72 | exact h74 | exact h75 | exact h77 | exact h78 | exact h79 | exact h80 | exact h82 | exact h83 | exact h84 | exact h86 | exact h87 | exact h88 | exact h89) (by first | rfl | exact h55 | exact h56 | exact h61 | exact h64 | exact h70 | exact h71 | exact h72 | exact h74 | exact h75 | exact h77 | exact h78 | exact h79 | exact h80 | exact h82 | exact h83 | exact h84 | exact h86 | exact h87 | exact h88 | exact h89) (by first | rfl | exact h55 | exact h56 | exact h61 | exact h64 | exact h70 | exact h71 | exact h72 | exact h74 | exact h75 | exact h77 | exact h78 | exact h79 | exact h80 | exact h82 | exact h83 | exact h84 | exact h86 | exact h87 | exact h88 | exact h89) (by first | rfl | exact h55 | exact h56 | exact h61 | exact h64 | exact h70 | exact h71 | exact h72 | exact h74 | exact h75 | exact h77 | exact h78 | exact h79 | exact h80 | exact h82 | exact h83 | exact h84 | exact h86 | exact h87 | exact h88 | exact h89) (by first | rfl | exact h55 | exact h56 | exact h61 | exact h64 | exact h70 | exact h71 | exact h72 | exact h74 | exact h75 | exact h77 | exact h78 | exact h79 | exact h80 | exact h82 | exact h83 | exact h84 | exact h86 | exact h87 | exact h88 | exact h89) (by first | rfl | exact h55 | exact h56 | exact h61 | exact h64 | exact h70 | exact h71 | exact h72 | exact h74 | exact h75 | exact h77 | exact h78 | exact h79 | exact h80 | exact h82 | exact h83 | exact h84 | exact h86 | exact h87 | exact h88 | exact h89) (by first | rfl | exact h55 | exact h56 | exact h61 | exact h64 | exact h70 | exact h71 | exact h72 | exact h74 | exact h75 | exact h77 | exact h78 | exact h79 | exact h80 | exact h82 | exact h83 | exact h84 | exact h86 | exact h87 | exact h88 | exact h89) (by first | rfl | exact h55 | exact h56 | exact h61 | exact h64 | exact h70 | exact h71 | exact h72 | exact h74 | exact h75 | exact h77 | exact h78 | exact h79 | exact h80 | exact h82 | exact h83 | exact h84 | exact h86 | exact h87 | exact h88 | exact h89) (by first | rfl | exact h55 | exact h56 | exact h61 | exact h64 | exact h70 | exact h71 | exact h72 | exact h74 | exact h75 | exact h77 | exact h78 | exact h79 | exact h80 | exact h82 | exact h83 | exact h84 | exact h86 | exact h87 | exact h88 | exact h89) (by first | rfl | exact h55 | exact h56 | exact h61 | exact h64 | exact h70 | exact h71 | exact h72 | exact h74 | exact h75 | exact h77 | exact h78 | exact h79 | exact h80 | exact h82 | exact h83 | exact h84 | exact h86 | exact h87 | exact h88 | exact h89) (by first | rfl | exact h55 | exact h56 | exact h61 | exact h64 | exact h70 | exact h71 | exact h72 | exact h74 | exact h75 | exact h77 | exact h78 | exact h79 | exact h80 | exact h82 | exact h83 | exact h84 | exact h86 | exact h87 | exact h88 | exact h89) (by first | rfl | exact h55 | exact h56 | exact h61 | exact h64 | exact h70 | exact h71 | exact h72 | exact h74 | exact h75 | exact h77 | exact h78 | exact h79 | exact h80 | exact h82 | exact h83 | exact h84 | exact h86 | exact h87 | exact h88 | exact h89) (by first | rfl | exact h55 | exact h56 | exact h61 | exact h64 | exact h70 | exact h71 | exact h72 | exact h74 | exact h75 | exact h77 | exact h78 | exact h79 | exact h80 | exact h82 | exact h83 | exact h84 | exact h86 | exact h87 | exact h88 | exact h89) (by first | rfl | exact h55 | exact h56 | exact h61 | exact h64 | exact h70 | exact h71 | exact h72 | exact h74 | exact h75 | exact h77 | exact h78 | exact h79 | exact h80 | exact h82 | exact h83 | exact h84 | exact h86 | exact h87 | exact h88 | exact h89)) ⟨callB_of 4 htx (xw_goodC kw_7_127) rfl rfl rfl (htx _ kw_1_5) (htx _ kw_7_124) ⟨by decide, by decide, by decide +kernel⟩ ⟨Nat.le_of_ble_eq_true rfl, Nat.le_of_ble_eq_true rfl⟩, (htx _ kw_7_125), (htx _ kw_7_126)⟩ ⟨xPre_blind, va_recv hK hP (ci := 5) rfl (q0 := 0) rfl, (fun U hU hW => ⟨rfl, xPre_of hZ hS hFc hPc hDc hK U hU hW⟩)⟩ rfl rfl hl.1 rfl (lv_room (Nat.le_of_ble_eq_true rfl)) dL_law_706 ⟨Nat.le_of_ble_eq_true rfl, Nat.le_of_ble_eq_true rfl⟩) hS (fun q _ h => hFc q h) hFc (fun u9 t H1 locs ht hvm hr9 hB hz1 hk1 hS => ?_)
  obtain ⟨q6, q7, q8, y9, y10, y11, y12, hP1, hK1, hD1⟩ := hB
  rw [ht] at hP1
  obtain ⟨hP, hD⟩ := xjoin (W := [(a2, .inl (cT 2, 1, .inr (.inl f51))), (a0, .inr (0, [v18, v19, .ref a10, .ref a4, v20, .ref b57, v21, v22])), (a3, .inr (2, [.ref a9, .int 1, .int 0])), (a4, .inl (cT 3, 8, .inr (.inr (.inr (.inr (va_up f54 (xs 1).toNatClampNeg (some a3))))))), (a5, .inr (2, [.ref a6, .int 1, v59])), (a6, .inl (cT 2, 4096, .inr (.inl f60))), (a7, .inr (2, [.ref a8, .int 1, v62])), (a8, .inl (cT 2, 4096, .inr (.inl f63))), (a9, .inl (cT 2, 4096, .inr (.inl (vp_updL f65 0 2)))), (a10, .inr (1, [.ref a11, .int 4, .int 0])), (a11, .inl (cT 0, 4096, .inl (upd (upd (upd (upd f68 0 (vp_nar .byte y2)) 1 (vp_nar .byte y3)) 2 (vp_nar .byte y4)) 3 (vp_nar .byte y5)))), (a1, .inr (5, [.int 0, .ref a15, .int 3, v25, .int 0, v27, v28, .int 0, v30, .int 0, v32, v33, .int 0, v35, v36, .ref a16, .int 4, .int 4, .int 0, .int 100, v42, .ref a17, .int 4, .int 4096, .ref a12, .ref a13, v45, v46, v47, v48, v49, v50])), (a12, .inl (cT 5, 8, .inr (.inr (.inr (.inr f69))))), (a13, .inl (cT 1, 8, .inl (upd f73 (xs 1).toNatClampNeg 4))), (a14, .inl (cT 0, 4096, .inl (upd (upd (upd (upd f76 0 (vp_nar .byte (vp_nar .byte y9))) 1 (vp_nar .byte (vp_nar .byte y10))) 2 (vp_nar .byte (vp_nar .byte y11))) 3 (vp_nar .byte (vp_nar .byte y12))))), (a15, .inl (cT 4, 1024, .inr (.inr (.inr (.inr (va_up (va_up (va_up f81 0 (some q6)) 1 (some q7)) 2 (some q8))))))), (a16, .inl (cT 0, 4096, .inl f85)), (a17, .inl (cT 0, 1024, .inl (upd (upd (upd (upd f90 0 (vp_nar .byte y9)) 1 (vp_nar .byte y10)) 2 (vp_nar .byte y11)) 3 (vp_nar .byte y12)))), (q6, .inr (6, [.int 0, .long 0, .int 0, .int 0, .int 0, .int 1])), (q7, .inr (6, [.int 0, .long 0, .int 0, .int 0, .int 0, .int 1])), (q8, .inr (6, [.int 2, .long 0, .int 0, .int 0, .int 0, .int 1]))]) hP hD [0, 2, 3, 4, 5, 6, 7] [1, 8, 9, 10, 11, 12, 13, 14, 15, 16, 17] 11 rfl rfl (by decide) (by decide) hk1 hFc hP1 hD1
  generalize H1 = H at hP hS ⊢
  refine lv_aload_n hx hb dL_law_709 rfl (lv_at hl 3 rfl) ?_
  obtain ⟨hPc, hDc, hFc⟩ := xcut (wc := [(a1, .inr (5, [.int 0, .ref a15, .int 3, v25, .int 0, v27, v28, .int 0, v30, .int 0, v32, v33, .int 0, v35, v36, .ref a16, .int 4, .int 4, .int 0, .int 100, v42, .ref a17, .int 4, .int 4096, .ref a12, .ref a13, v45, v46, v47, v48, v49, v50]))]) hP hD hS hA [11] rfl rfl (by decide)
  refine va_calli (va_runV (C := "ValueBenchModel") (As := []) (rest := []) ⟨hx, hb, hml, hown, htx⟩ (cM_thrown_0 l hl9 D cT aK aV H.size a1 (.ref a15) (.int 3) v25 (.int 0) v27 v28 (.int 0) v30 (.int 0) v32 v33 (.int 0) v35 v36 (.ref a16) (.int 4) (.int 4) (.int 0) (.int 100) v42 (.ref a17) (.int 4) (.int 4096) (.ref a12) (.ref a13) v45 v46 v47 v48 v49 v50) ⟨callB_of 0 htx (xw_goodC kw_5_187) rfl rfl rfl (htx _ kw_1_5) (htx _ kw_5_184) ⟨by decide, by decide, by decide +kernel⟩ ⟨Nat.le_of_ble_eq_true rfl, Nat.le_of_ble_eq_true rfl⟩, (htx _ kw_5_185), (htx _ kw_5_186)⟩ ⟨xPre_blind, va_recv hK hP (ci := 5) rfl (q0 := 11) rfl, (fun U hU hW => ⟨rfl, xPre_of hZ hS hFc hPc hDc hK U hU hW⟩)⟩ rfl rfl hl.1 rfl (lv_room (Nat.le_of_ble_eq_true rfl)) dL_law_710 ⟨Nat.le_of_ble_eq_true rfl, Nat.le_of_ble_eq_true rfl⟩) hS (fun q _ h => hFc q h) hFc (fun r13 u9 t H1 locs ht hvm hr9 hB hz1 hk1 hS => ?_)
  obtain ⟨hP1, hK1, hD1⟩ := hB
  rw [ht] at hP1
  obtain ⟨hP, hD⟩ := xjoin (W := [(a2, .inl (cT 2, 1, .inr (.inl f51))), (a0, .inr (0, [v18, v19, .ref a10, .ref a4, v20, .ref b57, v21, v22])), (a3, .inr (2, [.ref a9, .int 1, .int 0])), (a4, .inl (cT 3, 8, .inr (.inr (.inr (.inr (va_up f54 (xs 1).toNatClampNeg (some a3))))))), (a5, .inr (2, [.ref a6, .int 1, v59])), (a6, .inl (cT 2, 4096, .inr (.inl f60))), (a7, .inr (2, [.ref a8, .int 1, v62])), (a8, .inl (cT 2, 4096, .inr (.inl f63))), (a9, .inl (cT 2, 4096, .inr (.inl (vp_updL f65 0 2)))), (a10, .inr (1, [.ref a11, .int 4, .int 0])), (a11, .inl (cT 0, 4096, .inl (upd (upd (upd (upd f68 0 (vp_nar .byte y2)) 1 (vp_nar .byte y3)) 2 (vp_nar .byte y4)) 3 (vp_nar .byte y5)))), (a12, .inl (cT 5, 8, .inr (.inr (.inr (.inr f69))))), (a13, .inl (cT 1, 8, .inl (upd f73 (xs 1).toNatClampNeg 4))), (a14, .inl (cT 0, 4096, .inl (upd (upd (upd (upd f76 0 (vp_nar .byte (vp_nar .byte y9))) 1 (vp_nar .byte (vp_nar .byte y10))) 2 (vp_nar .byte (vp_nar .byte y11))) 3 (vp_nar .byte (vp_nar .byte y12))))), (a15, .inl (cT 4, 1024, .inr (.inr (.inr (.inr (va_up (va_up (va_up f81 0 (some q6)) 1 (some q7)) 2 (some q8))))))), (a16, .inl (cT 0, 4096, .inl f85)), (a17, .inl (cT 0, 1024, .inl (upd (upd (upd (upd f90 0 (vp_nar .byte y9)) 1 (vp_nar .byte y10)) 2 (vp_nar .byte y11)) 3 (vp_nar .byte y12)))), (q6, .inr (6, [.int 0, .long 0, .int 0, .int 0, .int 0, .int 1])), (q7, .inr (6, [.int 0, .long 0, .int 0, .int 0, .int 0, .int 1])), (q8, .inr (6, [.int 2, .long 0, .int 0, .int 0, .int 0, .int 1])), (a1, .inr (5, [.int 0, .ref a15, .int 3, v25, .int 0, v27, v28, .int 0, v30, .int 0, v32, v33, .int 0, v35, v36, .ref a16, .int 4, .int 4, .int 0, .int 100, v42, .ref a17, .int 4, .int 4096, .ref a12, .ref a13, v45, v46, v47, v48, v49, v50]))]) hP hD [11] [0, 1, 2, 3, 4, 5, 6, 7, 8, 9, 10, 12, 13, 14, 15, 16, 17, 18, 19, 20] 20 rfl rfl (by decide) (by decide) hk1 hFc hP1 hD1
  generalize H1 = H at hP hS ⊢
  rw [hr9]
  refine W.eq (g2 := F0 m 713 ls [.int 0]) rfl ?_
  refine lv_iload hx hb dL_law_713 (lv_at hl 0 rfl) ?_
  refine lv_icmp_eq (tgt := 720) hx hb dL_law_715 (by decide) (fun _ => ?_) (fun h => ((by revert h; decide : False)).elim)
  refine lv_goto (tgt := 906) hx hb dL_law_720 (by decide) ?_
  refine lv_iinc (v := 6) (lv' := [(4, .int 6), (5, .int 0), (3, .ref a2), (2, .ref a1), (1, .ref a0), (0, .ref b)]) hx hb dL_law_906 hl (k := 1) rfl (by decide) (by decide) rfl (fun ls hl => ?_)
  refine lv_goto (tgt := 23) hx hb dL_law_909 (by decide) ?_
  refine lv_iload hx hb dL_law_23 (lv_at hl 0 rfl) ?_
  refine lv_aload_n hx hb dL_law_25 rfl (lv_at hl 5 rfl) ?_
  refine va_slen hx hb hXs hbl hbA hS dL_law_26 ?_
  refine W.eq (g2 := F0 m 27 ls [.int 6, .int 6]) rfl ?_
  refine lv_bipush (v := 6) hx hb dL_law_27 (by decide) ?_
  refine lv_isub hx hb dL_law_29 ?_
  refine W.eq (g2 := F0 m 30 ls [.int 0, .int 6]) rfl ?_
  refine lv_icmp_gt (tgt := 912) hx hb dL_law_30 (by decide) (fun _ => ?_) (fun h => ((by revert h; decide : False)).elim)
  refine lv_iconst (v := 1) hx hb dL_law_912 (by decide) ?_
  exact va_forget (fun q h => hA2 _ (hS.2.2 q h)) (W.widen (k := 600002) (n := 7302232) (Nat.le_of_ble_eq_true rfl) (Nat.le_of_ble_eq_true rfl) (lw_ret hx hb hr hlocks dL_law_913))
set_option maxHeartbeats 400000000 in
set_option maxRecDepth 100000 in
theorem lf_two1_p3 {p : Program} {e : Env} {s : State} {m : MethodId} {below : List Frame} {meth : Method} {c : Code} (l : Launch) (hl9 : l.stackTraces = false) (D : va_G) (cT : Nat → ClassId) (aK aV : Nat → Nat) {A : Nat → Prop} {b : Nat} {xs : Nat → Int32} (C : xLw p s m meth c b D cT aK aV A) {H : Heap} {locs : List Loc} {ls : Array Slot} (a0 : Nat) (a1 : Nat) (a2 : Nat) (a3 : Nat) (a4 : Nat) (a5 : Nat) (a6 : Nat) (a7 : Nat) (a8 : Nat) (a9 : Nat) (a10 : Nat) (a11 : Nat) (a12 : Nat) (a13 : Nat) (a14 : Nat) (a15 : Nat) (a16 : Nat) (a17 : Nat) (v18 : Value) (v19 : Value) (v20 : Value) (v21 : Value) (v22 : Value) (v23 : Value) (v24 : Value) (v25 : Value) (v26 : Value) (v27 : Value) (v28 : Value) (v29 : Value) (v30 : Value) (v31 : Value) (v32 : Value) (v33 : Value) (v34 : Value) (v35 : Value) (v36 : Value) (v37 : Value) (v38 : Value) (v39 : Value) (v40 : Value) (v41 : Value) (v42 : Value) (v43 : Value) (v44 : Value) (v45 : Value) (v46 : Value) (v47 : Value) (v48 : Value) (v49 : Value) (v50 : Value) (f51 : Nat → Int64) (v52 : Value) (v53 : Value) (f54 : Nat → Option Nat) (b57 : Nat) (v59 : Value) (f60 : Nat → Int64) (v62 : Value) (f63 : Nat → Int64) (f65 : Nat → Int64) (v66 : Value) (v67 : Value) (f68 : Nat → Int32) (f69 : Nat → Option Nat) (f73 : Nat → Int32) (f76 : Nat → Int32) (f81 : Nat → Option Nat) (f85 : Nat → Int32) (f90 : Nat → Int32) (h55 : f54 (xs 3).toNatClampNeg = some a5) (h56 : f54 (xs 4).toNatClampNeg = some a7) (h58 : f54 (xs 1).toNatClampNeg = some b57) (h61 : f60 0 = 0) (h64 : f63 0 = 0) (h70 : f69 (xs 3).toNatClampNeg = some a14) (h71 : f69 (xs 4).toNatClampNeg = some a16) (h72 : f69 (xs 1).toNatClampNeg = some a16) (h74 : f73 (xs 3).toNatClampNeg = 4) (h75 : f73 (xs 4).toNatClampNeg = 4) (h77 : f76 0 = 110) (h78 : f76 1 = 117) (h79 : f76 2 = 108) (h80 : f76 3 = 108) (h82 : f81 0 = none) (h83 : f81 1 = none) (h84 : f81 2 = none) (h86 : f85 0 = 110) (h87 : f85 1 = 117) (h88 : f85 2 = 108) (h89 : f85 3 = 108) (hto1 : ¬ (xs 1) < 0) (hto2 : ¬ 7 < (xs 1)) (hto3 : (xs 1) ≤ 7) (hto4 : vp_in (xs 1) 8) (hf : xs 2 = 1) (ha1 : ¬ (xs 3) < 0) (ha2 : ¬ 7 < (xs 3)) (ha3 : (xs 3) ≤ 7) (ha4 : vp_in (xs 3) 8) (hb1 : ¬ (xs 4) < 0) (hb2 : ¬ 7 < (xs 4)) (hb3 : (xs 4) ≤ 7) (hb4 : vp_in (xs 4) 8) (hXs : va_X b 6 xs s s.heap) (hP : va_P D xcl [(a0, .inr (0, [v18, v19, .ref a10, .ref a4, v20, .ref a3, v21, v22])), (a1, .inr (5, [v23, .ref a15, v24, v25, v26, v27, v28, v29, v30, v31, v32, v33, v34, v35, v36, v37, v38, v39, v40, v41, v42, .ref a17, v43, v44, .ref a12, .ref a13, v45, v46, v47, v48, v49, v50])), (a2, .inl (cT 2, 1, .inr (.inl f51))), (a3, .inr (2, [.ref a9, v52, v53])), (a4, .inl (cT 3, 8, .inr (.inr (.inr (.inr f54))))), (a5, .inr (2, [.ref a6, .int 1, v59])), (a6, .inl (cT 2, 4096, .inr (.inl f60))), (a7, .inr (2, [.ref a8, .int 1, v62])), (a8, .inl (cT 2, 4096, .inr (.inl f63))), (a9, .inl (cT 2, 4096, .inr (.inl f65))), (a10, .inr (1, [.ref a11, v66, v67])), (a11, .inl (cT 0, 4096, .inl f68)), (a12, .inl (cT 5, 8, .inr (.inr (.inr (.inr f69))))), (a13, .inl (cT 1, 8, .inl f73)), (a14, .inl (cT 0, 4096, .inl f76)), (a15, .inl (cT 4, 1024, .inr (.inr (.inr (.inr f81))))), (a16, .inl (cT 0, 4096, .inl f85)), (a17, .inl (cT 0, 1024, .inl f90))] H) (hD : va_D A [(a0, .inr (0, [v18, v19, .ref a10, .ref a4, v20, .ref a3, v21, v22])), (a1, .inr (5, [v23, .ref a15, v24, v25, v26, v27, v28, v29, v30, v31, v32, v33, v34, v35, v36, v37, v38, v39, v40, v41, v42, .ref a17, v43, v44, .ref a12, .ref a13, v45, v46, v47, v48, v49, v50])), (a2, .inl (cT 2, 1, .inr (.inl f51))), (a3, .inr (2, [.ref a9, v52, v53])), (a4, .inl (cT 3, 8, .inr (.inr (.inr (.inr f54))))), (a5, .inr (2, [.ref a6, .int 1, v59])), (a6, .inl (cT 2, 4096, .inr (.inl f60))), (a7, .inr (2, [.ref a8, .int 1, v62])), (a8, .inl (cT 2, 4096, .inr (.inl f63))), (a9, .inl (cT 2, 4096, .inr (.inl f65))), (a10, .inr (1, [.ref a11, v66, v67])), (a11, .inl (cT 0, 4096, .inl f68)), (a12, .inl (cT 5, 8, .inr (.inr (.inr (.inr f69))))), (a13, .inl (cT 1, 8, .inl f73)), (a14, .inl (cT 0, 4096, .inl f76)), (a15, .inl (cT 4, 1024, .inr (.inr (.inr (.inr f81))))), (a16, .inl (cT 0, 4096, .inl f85)), (a17, .inl (cT 0, 1024, .inl f90))]) (hS : va_S A s.heap H locs) (hl : lv_has ls 8 [(4, .int 0), (3, .ref a2), (2, .ref a1), (1, .ref a0), (0, .ref b)]) : W p l e room_1 s m #[Value.ref b] below meth c H locs 54 107242 (lw_Z below #[Value.ref b] s) (F0 m 651 ls []) := by
  obtain ⟨hx, hb, hr, hml, hown, htx, hbl, hbA, hlocks, hK, hZ, hA, hA2⟩ := C
  refine lv_aload_n hx hb dL_law_651 rfl (lv_at hl 3 rfl) ?_
  refine lv_aload_n hx hb dL_law_652 rfl (lv_at hl 4 rfl) ?_
  refine lv_iload hx hb dL_law_653 (lv_at hl 0 rfl) ?_
  refine lv_iconst (v := 1) hx hb dL_law_655 (by decide) ?_
  refine lv_iadd hx hb dL_law_656 ?_
  refine W.eq (g2 := F0 m 657 ls [.int 1, .ref b, .ref a0]) rfl ?_
  refine va_sld hx hb hXs hbl hbA hS (i := 1) (show ¬ ((1 : Int32) < 0 ∨ 6 ≤ (1 : Int32).toNatClampNeg) by decide) dL_law_657 ?_
  refine W.eq (g2 := F0 m 658 ls [.int (xs 1), .ref a0]) rfl ?_
  refine lv_aload_n hx hb dL_law_658 rfl (lv_at hl 4 rfl) ?_
  refine lv_iload hx hb dL_law_659 (lv_at hl 0 rfl) ?_
  refine lv_iconst (v := 2) hx hb dL_law_661 (by decide) ?_
  refine lv_iadd hx hb dL_law_662 ?_
  refine W.eq (g2 := F0 m 663 ls [.int 2, .ref b, .int (xs 1), .ref a0]) rfl ?_
  refine va_sld hx hb hXs hbl hbA hS (i := 2) (show ¬ ((2 : Int32) < 0 ∨ 6 ≤ (2 : Int32).toNatClampNeg) by decide) dL_law_663 ?_
  refine W.eq (g2 := F0 m 664 ls [.int (xs 2), .int (xs 1), .ref a0]) rfl ?_
  rw [hf]
  refine W.eq (g2 := F0 m 664 ls [.int 1, .int (xs 1), .ref a0]) rfl ?_
  refine lv_aload_n hx hb dL_law_664 rfl (lv_at hl 4 rfl) ?_
  refine lv_iload hx hb dL_law_665 (lv_at hl 0 rfl) ?_
  refine lv_iconst (v := 3) hx hb dL_law_667 (by decide) ?_
  refine lv_iadd hx hb dL_law_668 ?_
  refine W.eq (g2 := F0 m 669 ls [.int 3, .ref b, .int 1, .int (xs 1), .ref a0]) rfl ?_
  refine va_sld hx hb hXs hbl hbA hS (i := 3) (show ¬ ((3 : Int32) < 0 ∨ 6 ≤ (3 : Int32).toNatClampNeg) by decide) dL_law_669 ?_
  refine W.eq (g2 := F0 m 670 ls [.int (xs 3), .int 1, .int (xs 1), .ref a0]) rfl ?_
  refine lv_aload_n hx hb dL_law_670 rfl (lv_at hl 4 rfl) ?_
  refine lv_iload hx hb dL_law_671 (lv_at hl 0 rfl) ?_
  refine lv_iconst (v := 4) hx hb dL_law_673 (by decide) ?_
  refine lv_iadd hx hb dL_law_674 ?_
  refine W.eq (g2 := F0 m 675 ls [.int 4, .ref b, .int (xs 3), .int 1, .int (xs 1), .ref a0]) rfl ?_
  refine va_sld hx hb hXs hbl hbA hS (i := 4) (show ¬ ((4 : Int32) < 0 ∨ 6 ≤ (4 : Int32).toNatClampNeg) by decide) dL_law_675 ?_
  refine W.eq (g2 := F0 m 676 ls [.int (xs 4), .int (xs 3), .int 1, .int (xs 1), .ref a0]) rfl ?_
  obtain ⟨hPc, hDc, hFc⟩ := xcut (wc := [(a0, .inr (0, [v18, v19, .ref a10, .ref a4, v20, .ref a3, v21, v22])), (a3, .inr (2, [.ref a9, v52, v53])), (a4, .inl (cT 3, 8, .inr (.inr (.inr (.inr f54))))), (a5, .inr (2, [.ref a6, .int 1, v59])), (a6, .inl (cT 2, 4096, .inr (.inl f60))), (a7, .inr (2, [.ref a8, .int 1, v62])), (a8, .inl (cT 2, 4096, .inr (.inl f63))), (a9, .inl (cT 2, 4096, .inr (.inl f65))), (a10, .inr (1, [.ref a11, v66, v67])), (a11, .inl (cT 0, 4096, .inl f68))]) hP hD hS hA [0, 3, 4, 5, 6, 7, 8, 9, 10, 11] rfl rfl (by decide)
  refine va_calli (vx_runSW (As := [.ref a0, .int (xs 1), .int 1, .int (xs 3), .int (xs 4)]) (rest := []) ⟨hx, hb, hml, hown, htx⟩ (cL_two_11 l hl9 D cT aK aV H.size a0 a3 a4 a5 a6 a7 a8 a9 a10 a11 (xs 1) (xs 3) (xs 4) v18 v19 v20 v21 v22 v52 v53 f54 b57 v59 f60 v62 f63 f65 v66 v67 f68 hto1 hto2 hto3 hto4 ha1 ha2 ha3 ha4 hb1 hb2 hb3 hb4 (by first | rfl | exact h55 | exact h56 | exact h58 | exact h61 | exact h64 | exact h70 | exact h71 | exact h72 | exact h74 | exact h75 | exact h77 | exact h78 | exact h79 | exact h80 | exact h82 | exact h83 | exact h84 | exact h86 | exact h87 | exact h88 | exact h89) (by first | rfl | exact h55 | exact h56 | exact h58 | exact h61 | exact h64 | exact h70 | exact h71 | exact h72 | exact h74 | exact h75 | exact h77 | exact h78 | exact h79 | exact h80 | exact h82 | exact h83 | exact h84 | exact h86 | exact h87 | exact h88 | exact h89) (by first | rfl | exact h55 | exact h56 | exact h58 | exact h61 | exact h64 | exact h70 | exact h71 | exact h72 | exact h74 | exact h75 | exact h77 | exact h78 | exact h79 | exact h80 | exact h82 | exact h83 | exact h84 | exact h86 | exact h87 | exact h88 | exact h89) (by first | rfl | exact h55 | exact h56 | exact h58 | exact h61 | exact h64 | exact h70 | exact h71 | exact h72 | exact h74 | exact h75 | exact h77 | exact h78 | exact h79 | exact h80 | exact h82 | exact h83 | exact h84 | exact h86 | exact h87 | exact h88 | exact h89) (by first | rfl | exact h55 | exact h56 | exact h58 | exact h61 | exact h64 | exact h70 | exact h71 | exact h72 | exact h74 | exact h75 | exact h77 | exact h78 | exact h79 | exact h80 | exact h82 | exact h83 | exact h84 | exact h86 | exact h87 | exact h88 | exact h89)) (xcSW 5 htx (xw_goodC kw_4_139) rfl rfl rfl (htx _ kw_1_0) (htx _ kw_4_137) ⟨by decide, by decide, by decide +kernel⟩ ⟨Nat.le_of_ble_eq_true rfl, Nat.le_of_ble_eq_true rfl⟩ (htx _ kw_4_138)) ⟨xPre_blind, (fun U hU hW => ⟨rfl, xPre_of hZ hS hFc hPc hDc hK U hU hW⟩)⟩ rfl rfl hl.1 rfl (lv_room (Nat.le_of_ble_eq_true rfl)) dL_law_676 ⟨Nat.le_of_ble_eq_true rfl, Nat.le_of_ble_eq_true rfl⟩) hS (fun q _ h => hFc q h) hFc (fun r1 u9 t H1 locs ht hvm hr9 hB hz1 hk1 hS => ?_)
  obtain ⟨y2, y3, y4, y5, hP1, hK1, hD1⟩ := hB
  rw [ht] at hP1
  obtain ⟨hP, hD⟩ := xjoin (W := [(a1, .inr (5, [v23, .ref a15, v24, v25, v26, v27, v28, v29, v30, v31, v32, v33, v34, v35, v36, v37, v38, v39, v40, v41, v42, .ref a17, v43, v44, .ref a12, .ref a13, v45, v46, v47, v48, v49, v50])), (a2, .inl (cT 2, 1, .inr (.inl f51))), (a12, .inl (cT 5, 8, .inr (.inr (.inr (.inr f69))))), (a13, .inl (cT 1, 8, .inl f73)), (a14, .inl (cT 0, 4096, .inl f76)), (a15, .inl (cT 4, 1024, .inr (.inr (.inr (.inr f81))))), (a16, .inl (cT 0, 4096, .inl f85)), (a17, .inl (cT 0, 1024, .inl f90)), (a0, .inr (0, [v18, v19, .ref a10, .ref a4, v20, .ref b57, v21, v22])), (a3, .inr (2, [.ref a9, .int 1, .int 0])), (a4, .inl (cT 3, 8, .inr (.inr (.inr (.inr (va_up f54 (xs 1).toNatClampNeg (some a3))))))), (a5, .inr (2, [.ref a6, .int 1, v59])), (a6, .inl (cT 2, 4096, .inr (.inl f60))), (a7, .inr (2, [.ref a8, .int 1, v62])), (a8, .inl (cT 2, 4096, .inr (.inl f63))), (a9, .inl (cT 2, 4096, .inr (.inl (vp_updL f65 0 2)))), (a10, .inr (1, [.ref a11, .int 4, .int 0])), (a11, .inl (cT 0, 4096, .inl (upd (upd (upd (upd f68 0 (vp_nar .byte y2)) 1 (vp_nar .byte y3)) 2 (vp_nar .byte y4)) 3 (vp_nar .byte y5))))]) hP hD [0, 3, 4, 5, 6, 7, 8, 9, 10, 11] [1, 2, 12, 13, 14, 15, 16, 17] 8 rfl rfl (by decide) (by decide) hk1 hFc hP1 hD1
  generalize H1 = H at hP hS ⊢
  rw [hr9]
  refine W.eq (g2 := F0 m 679 ls [.int 0]) rfl ?_
  refine lv_istore (lv' := [(5, .int 0), (4, .int 0), (3, .ref a2), (2, .ref a1), (1, .ref a0), (0, .ref b)]) hx hb dL_law_679 hl (by decide) rfl (fun ls hl => ?_)
  refine lv_aload_n hx hb dL_law_681 rfl (lv_at hl 3 rfl) ?_
  refine lv_aload_n hx hb dL_law_682 rfl (lv_at hl 5 rfl) ?_
  refine lv_iload hx hb dL_law_683 (lv_at hl 1 rfl) ?_
  refine lv_iconst (v := 1) hx hb dL_law_685 (by decide) ?_
  refine lv_iadd hx hb dL_law_686 ?_
  refine W.eq (g2 := F0 m 687 ls [.int 1, .ref b, .ref a1]) rfl ?_
  refine va_sld hx hb hXs hbl hbA hS (i := 1) (show ¬ ((1 : Int32) < 0 ∨ 6 ≤ (1 : Int32).toNatClampNeg) by decide) dL_law_687 ?_
  refine W.eq (g2 := F0 m 688 ls [.int (xs 1), .ref a1]) rfl ?_
  refine lv_aload_n hx hb dL_law_688 rfl (lv_at hl 5 rfl) ?_
  refine lv_iload hx hb dL_law_689 (lv_at hl 1 rfl) ?_
  refine lv_iconst (v := 2) hx hb dL_law_691 (by decide) ?_
  refine lv_iadd hx hb dL_law_692 ?_
  refine W.eq (g2 := F0 m 693 ls [.int 2, .ref b, .int (xs 1), .ref a1]) rfl ?_
  refine va_sld hx hb hXs hbl hbA hS (i := 2) (show ¬ ((2 : Int32) < 0 ∨ 6 ≤ (2 : Int32).toNatClampNeg) by decide) dL_law_693 ?_
  refine W.eq (g2 := F0 m 694 ls [.int (xs 2), .int (xs 1), .ref a1]) rfl ?_
  rw [hf]
  refine W.eq (g2 := F0 m 694 ls [.int 1, .int (xs 1), .ref a1]) rfl ?_
  refine lv_aload_n hx hb dL_law_694 rfl (lv_at hl 5 rfl) ?_
  refine lv_iload hx hb dL_law_695 (lv_at hl 1 rfl) ?_
  refine lv_iconst (v := 3) hx hb dL_law_697 (by decide) ?_
  refine lv_iadd hx hb dL_law_698 ?_
  refine W.eq (g2 := F0 m 699 ls [.int 3, .ref b, .int 1, .int (xs 1), .ref a1]) rfl ?_
  refine va_sld hx hb hXs hbl hbA hS (i := 3) (show ¬ ((3 : Int32) < 0 ∨ 6 ≤ (3 : Int32).toNatClampNeg) by decide) dL_law_699 ?_
  refine W.eq (g2 := F0 m 700 ls [.int (xs 3), .int 1, .int (xs 1), .ref a1]) rfl ?_
  refine lv_aload_n hx hb dL_law_700 rfl (lv_at hl 5 rfl) ?_
  refine lv_iload hx hb dL_law_701 (lv_at hl 1 rfl) ?_
  refine lv_iconst (v := 4) hx hb dL_law_703 (by decide) ?_
  refine lv_iadd hx hb dL_law_704 ?_
  refine W.eq (g2 := F0 m 705 ls [.int 4, .ref b, .int (xs 3), .int 1, .int (xs 1), .ref a1]) rfl ?_
  refine va_sld hx hb hXs hbl hbA hS (i := 4) (show ¬ ((4 : Int32) < 0 ∨ 6 ≤ (4 : Int32).toNatClampNeg) by decide) dL_law_705 ?_
  refine W.eq (g2 := F0 m 706 ls [.int (xs 4), .int (xs 3), .int 1, .int (xs 1), .ref a1]) rfl ?_
  obtain ⟨hPc, hDc, hFc⟩ := xcut (wc := [(a1, .inr (5, [v23, .ref a15, v24, v25, v26, v27, v28, v29, v30, v31, v32, v33, v34, v35, v36, v37, v38, v39, v40, v41, v42, .ref a17, v43, v44, .ref a12, .ref a13, v45, v46, v47, v48, v49, v50])), (a12, .inl (cT 5, 8, .inr (.inr (.inr (.inr f69))))), (a13, .inl (cT 1, 8, .inl f73)), (a14, .inl (cT 0, 4096, .inl f76)), (a15, .inl (cT 4, 1024, .inr (.inr (.inr (.inr f81))))), (a16, .inl (cT 0, 4096, .inl f85)), (a17, .inl (cT 0, 1024, .inl f90))]) hP hD hS hA [0, 2, 3, 4, 5, 6, 7] rfl rfl (by decide)
  refine va_callv (va_runV (C := "ValueBenchModel") (As := [.int (xs 1), .int 1, .int (xs 3), .int (xs 4)]) (rest := []) ⟨hx, hb, hml, hown, htx⟩ (cM_two0_13 l hl9 D cT aK aV H.size a1 a12 a13 a14 a15 a16 a17 (xs 1) (xs 3) (xs 4) v23 v24 v25 v26 v27 v28 v29 v30 v31 v32 v33 v34 v35 v36 v37 v38 v39 v40 v41 v42 v43 v44 v45 v46 v47 v48 v49 v50 f69 f73 f76 f81 f85 f90 hto1 hto2 hto3 hto4 ha1 ha2 ha3 ha4 hb1 hb2 hb3 hb4 (by first | rfl | exact h55 | exact h56 | exact h61 | exact h64 | exact h70 | exact h71 | exact h72 | exact h74 | exact h75 | exact h77 | exact h78 | exact h79 | exact h80 | exact h82 | exact h83 | exact h84 | exact h86 | exact h87 | exact h88 | exact h89) (by first | rfl | exact h55 | exact h56 | exact h61 | exact h64 | exact h70 | exact h71 | exact h72 | exact h74 | exact h75 | exact h77 | exact h78 | exact h79 | exact h80 | exact h82 | exact h83 | exact h84 | exact h86 | exact h87 | exact h88 | exact h89) (by first | rfl | exact h55 | exact h56 | exact h61 | exact h64 | exact h70 | exact h71 | exact h72 | exact h74 | exact h75 | exact h77 | exact h78 | exact h79 | exact h80 | exact h82 | exact h83 | exact h84 | exact h86 | exact h87 | exact h88 | exact h89) (by first | rfl | exact h55 | exact h56 | exact h61 | exact h64 | exact h70 | exact h71 | exact h72 | exact h74 | exact h75 | exact h77 | exact h78 | exact h79 | exact h80 | exact h82 | exact h83 | exact h84 | exact h86 | exact h87 | exact h88 | exact h89) (by first | rfl | exact h55 | exact h56 | exact h61 | exact h64 | exact h70 | exact h71 | exact h72 | exact h74 | exact h75 | exact h77 | exact h78 | exact h79 | exact h80 | exact h82 | exact h83 | exact h84 | exact h86 | exact h87 | exact h88 | exact h89) (by first | rfl | exact h55 | exact h56 | exact h61 | exact h64 | exact h70 | exact h71 | exact h72 | exact h74 | exact h75 | exact h77 | exact h78 | exact h79 | exact h80 | exact h82 | exact h83 | exact h84 | exact h86 | exact h87 | exact h88 | exact h89) (by first | rfl | exact h55 | exact h56 | exact h61 | exact h64 | exact h70 | exact h71 | exact h72 | exact h74 | exact h75 | exact h77 | exact h78 | exact h79 | exact h80 | exact h82 | exact h83 | exact h84 | exact h86 | exact h87 | exact h88 | exact h89) (by first | rfl | exact h55 | exact h56 | exact h61 | exact h64 | exact h70 | exact h71 | exact h72 | exact h74 | exact h75 | exact h77 | exact h78 | exact h79 | exact h80 | exact h82 | exact h83 | exact h84 | exact h86 | exact h87 | exact h88 | exact h89) (by first | rfl | exact h55 | exact h56 | exact h61 | exact h64 | exact h70 | exact h71 | exact h72 | exact h74 | exact h75 | exact h77 | exact h78 | exact h79 | exact h80 | exact h82 | exact h83 | exact h84 | exact h86 | exact h87 | exact h88 | exact h89) (by first | rfl | exact h55 | exact h56 | exact h61 | exact h64 | exact h70 | exact h71 | exact h72 | exact h74 | exact h75 | exact h77 | exact h78 | exact h79 | exact h80 | exact h82 | exact h83 | exact h84 | exact h86 | exact h87 | exact h88 | exact h89) (by first | rfl | exact h55 | exact h56 | exact h61 | exact h64 | exact h70 | exact h71 | exact h72 | exact h74 | exact h75 | exact h77 | exact h78 | exact h79 | exact h80 | exact h82 | exact h83 | exact h84 | exact h86 | exact h87 | exact h88 | exact h89) (by first | rfl | exact h55 | exact h56 | exact h61 | exact h64 | exact h70 | exact h71 | exact h72 | exact h74 | exact h75 | exact h77 | exact h78 | exact h79 | exact h80 | exact h82 | exact h83 | exact h84 | exact h86 | exact h87 | exact h88 | exact h89) (by first | rfl | exact h55 | exact h56 | exact h61 | exact h64 | exact h70 | exact h71 | exact h72 | exact h74 | exact h75 | exact h77 | exact h78 | exact h79 | exact h80 | exact h82 | exact h83 | exact h84 | exact h86 | exact h87 | exact h88 | exact h89) (by first | rfl | exact h55 | exact h56 | exact h61 | exact h64 | exact h70 | exact h71 | exact h72 | exact h74 | exact h75 | exact h77 | exact h78 | exact h79 | exact h80 | exact h82 | exact h83 | exact h84 | exact h86 | exact h87 | exact h88 | exact h89) (by first | rfl | exact h55 | exact h56 | exact h61 | exact h64 | exact h70 | exact h71 | exact h72 | exact h74 | exact h75 | exact h77 | exact h78 | exact h79 | exact h80 | exact h82 | exact h83 | exact h84 | exact h86 | exact h87 | exact h88 | exact h89) (by first | rfl | exact h55 | exact h56 | exact h61 | exact h64 | exact h70 | exact h71 | exact h72 | exact h74 | exact h75 | exact h77 | exact h78 | exact h79 | exact h80 | exact h82 | exact h83 | exact h84 | exact h86 | exact h87 | exact h88 | exact h89)) ⟨callB_of 4 htx (xw_goodC kw_7_127) rfl rfl rfl (htx _ kw_1_5) (htx _ kw_7_124) ⟨by decide, by decide, by decide +kernel⟩ ⟨Nat.le_of_ble_eq_true rfl, Nat.le_of_ble_eq_true rfl⟩, (htx _ kw_7_125), (htx _ kw_7_126)⟩ ⟨xPre_blind, va_recv hK hP (ci := 5) rfl (q0 := 0) rfl, (fun U hU hW => ⟨rfl, xPre_of hZ hS hFc hPc hDc hK U hU hW⟩)⟩ rfl rfl hl.1 rfl (lv_room (Nat.le_of_ble_eq_true rfl)) dL_law_706 ⟨Nat.le_of_ble_eq_true rfl, Nat.le_of_ble_eq_true rfl⟩) hS (fun q _ h => hFc q h) hFc (fun u9 t H1 locs ht hvm hr9 hB hz1 hk1 hS => ?_)
  obtain ⟨q6, q7, q8, y9, y10, y11, y12, hP1, hK1, hD1⟩ := hB
  rw [ht] at hP1
  obtain ⟨hP, hD⟩ := xjoin (W := [(a2, .inl (cT 2, 1, .inr (.inl f51))), (a0, .inr (0, [v18, v19, .ref a10, .ref a4, v20, .ref b57, v21, v22])), (a3, .inr (2, [.ref a9, .int 1, .int 0])), (a4, .inl (cT 3, 8, .inr (.inr (.inr (.inr (va_up f54 (xs 1).toNatClampNeg (some a3))))))), (a5, .inr (2, [.ref a6, .int 1, v59])), (a6, .inl (cT 2, 4096, .inr (.inl f60))), (a7, .inr (2, [.ref a8, .int 1, v62])), (a8, .inl (cT 2, 4096, .inr (.inl f63))), (a9, .inl (cT 2, 4096, .inr (.inl (vp_updL f65 0 2)))), (a10, .inr (1, [.ref a11, .int 4, .int 0])), (a11, .inl (cT 0, 4096, .inl (upd (upd (upd (upd f68 0 (vp_nar .byte y2)) 1 (vp_nar .byte y3)) 2 (vp_nar .byte y4)) 3 (vp_nar .byte y5)))), (a1, .inr (5, [.int 0, .ref a15, .int 3, v25, .int 0, v27, v28, .int 0, v30, .int 0, v32, v33, .int 0, v35, v36, .ref a16, .int 4, .int 4, .int 0, .int 100, v42, .ref a17, .int 4, .int 4096, .ref a12, .ref a13, v45, v46, v47, v48, v49, v50])), (a12, .inl (cT 5, 8, .inr (.inr (.inr (.inr f69))))), (a13, .inl (cT 1, 8, .inl (upd f73 (xs 1).toNatClampNeg 4))), (a14, .inl (cT 0, 4096, .inl f76)), (a15, .inl (cT 4, 1024, .inr (.inr (.inr (.inr (va_up (va_up (va_up f81 0 (some q6)) 1 (some q7)) 2 (some q8))))))), (a16, .inl (cT 0, 4096, .inl (upd (upd (upd (upd f85 0 (vp_nar .byte (vp_nar .byte y9))) 1 (vp_nar .byte (vp_nar .byte y10))) 2 (vp_nar .byte (vp_nar .byte y11))) 3 (vp_nar .byte (vp_nar .byte y12))))), (a17, .inl (cT 0, 1024, .inl (upd (upd (upd (upd f90 0 (vp_nar .byte y9)) 1 (vp_nar .byte y10)) 2 (vp_nar .byte y11)) 3 (vp_nar .byte y12)))), (q6, .inr (6, [.int 0, .long 0, .int 0, .int 0, .int 0, .int 1])), (q7, .inr (6, [.int 0, .long 0, .int 0, .int 0, .int 0, .int 1])), (q8, .inr (6, [.int 2, .long 0, .int 0, .int 0, .int 0, .int 1]))]) hP hD [0, 2, 3, 4, 5, 6, 7] [1, 8, 9, 10, 11, 12, 13, 14, 15, 16, 17] 11 rfl rfl (by decide) (by decide) hk1 hFc hP1 hD1
  generalize H1 = H at hP hS ⊢
  refine lv_aload_n hx hb dL_law_709 rfl (lv_at hl 3 rfl) ?_
  obtain ⟨hPc, hDc, hFc⟩ := xcut (wc := [(a1, .inr (5, [.int 0, .ref a15, .int 3, v25, .int 0, v27, v28, .int 0, v30, .int 0, v32, v33, .int 0, v35, v36, .ref a16, .int 4, .int 4, .int 0, .int 100, v42, .ref a17, .int 4, .int 4096, .ref a12, .ref a13, v45, v46, v47, v48, v49, v50]))]) hP hD hS hA [11] rfl rfl (by decide)
  refine va_calli (va_runV (C := "ValueBenchModel") (As := []) (rest := []) ⟨hx, hb, hml, hown, htx⟩ (cM_thrown_0 l hl9 D cT aK aV H.size a1 (.ref a15) (.int 3) v25 (.int 0) v27 v28 (.int 0) v30 (.int 0) v32 v33 (.int 0) v35 v36 (.ref a16) (.int 4) (.int 4) (.int 0) (.int 100) v42 (.ref a17) (.int 4) (.int 4096) (.ref a12) (.ref a13) v45 v46 v47 v48 v49 v50) ⟨callB_of 0 htx (xw_goodC kw_5_187) rfl rfl rfl (htx _ kw_1_5) (htx _ kw_5_184) ⟨by decide, by decide, by decide +kernel⟩ ⟨Nat.le_of_ble_eq_true rfl, Nat.le_of_ble_eq_true rfl⟩, (htx _ kw_5_185), (htx _ kw_5_186)⟩ ⟨xPre_blind, va_recv hK hP (ci := 5) rfl (q0 := 11) rfl, (fun U hU hW => ⟨rfl, xPre_of hZ hS hFc hPc hDc hK U hU hW⟩)⟩ rfl rfl hl.1 rfl (lv_room (Nat.le_of_ble_eq_true rfl)) dL_law_710 ⟨Nat.le_of_ble_eq_true rfl, Nat.le_of_ble_eq_true rfl⟩) hS (fun q _ h => hFc q h) hFc (fun r13 u9 t H1 locs ht hvm hr9 hB hz1 hk1 hS => ?_)
  obtain ⟨hP1, hK1, hD1⟩ := hB
  rw [ht] at hP1
  obtain ⟨hP, hD⟩ := xjoin (W := [(a2, .inl (cT 2, 1, .inr (.inl f51))), (a0, .inr (0, [v18, v19, .ref a10, .ref a4, v20, .ref b57, v21, v22])), (a3, .inr (2, [.ref a9, .int 1, .int 0])), (a4, .inl (cT 3, 8, .inr (.inr (.inr (.inr (va_up f54 (xs 1).toNatClampNeg (some a3))))))), (a5, .inr (2, [.ref a6, .int 1, v59])), (a6, .inl (cT 2, 4096, .inr (.inl f60))), (a7, .inr (2, [.ref a8, .int 1, v62])), (a8, .inl (cT 2, 4096, .inr (.inl f63))), (a9, .inl (cT 2, 4096, .inr (.inl (vp_updL f65 0 2)))), (a10, .inr (1, [.ref a11, .int 4, .int 0])), (a11, .inl (cT 0, 4096, .inl (upd (upd (upd (upd f68 0 (vp_nar .byte y2)) 1 (vp_nar .byte y3)) 2 (vp_nar .byte y4)) 3 (vp_nar .byte y5)))), (a12, .inl (cT 5, 8, .inr (.inr (.inr (.inr f69))))), (a13, .inl (cT 1, 8, .inl (upd f73 (xs 1).toNatClampNeg 4))), (a14, .inl (cT 0, 4096, .inl f76)), (a15, .inl (cT 4, 1024, .inr (.inr (.inr (.inr (va_up (va_up (va_up f81 0 (some q6)) 1 (some q7)) 2 (some q8))))))), (a16, .inl (cT 0, 4096, .inl (upd (upd (upd (upd f85 0 (vp_nar .byte (vp_nar .byte y9))) 1 (vp_nar .byte (vp_nar .byte y10))) 2 (vp_nar .byte (vp_nar .byte y11))) 3 (vp_nar .byte (vp_nar .byte y12))))), (a17, .inl (cT 0, 1024, .inl (upd (upd (upd (upd f90 0 (vp_nar .byte y9)) 1 (vp_nar .byte y10)) 2 (vp_nar .byte y11)) 3 (vp_nar .byte y12)))), (q6, .inr (6, [.int 0, .long 0, .int 0, .int 0, .int 0, .int 1])), (q7, .inr (6, [.int 0, .long 0, .int 0, .int 0, .int 0, .int 1])), (q8, .inr (6, [.int 2, .long 0, .int 0, .int 0, .int 0, .int 1])), (a1, .inr (5, [.int 0, .ref a15, .int 3, v25, .int 0, v27, v28, .int 0, v30, .int 0, v32, v33, .int 0, v35, v36, .ref a16, .int 4, .int 4, .int 0, .int 100, v42, .ref a17, .int 4, .int 4096, .ref a12, .ref a13, v45, v46, v47, v48, v49, v50]))]) hP hD [11] [0, 1, 2, 3, 4, 5, 6, 7, 8, 9, 10, 12, 13, 14, 15, 16, 17, 18, 19, 20] 20 rfl rfl (by decide) (by decide) hk1 hFc hP1 hD1
  generalize H1 = H at hP hS ⊢
  rw [hr9]
  refine W.eq (g2 := F0 m 713 ls [.int 0]) rfl ?_
  refine lv_iload hx hb dL_law_713 (lv_at hl 0 rfl) ?_
  refine lv_icmp_eq (tgt := 720) hx hb dL_law_715 (by decide) (fun _ => ?_) (fun h => ((by revert h; decide : False)).elim)
  refine lv_goto (tgt := 906) hx hb dL_law_720 (by decide) ?_
  refine lv_iinc (v := 6) (lv' := [(4, .int 6), (5, .int 0), (3, .ref a2), (2, .ref a1), (1, .ref a0), (0, .ref b)]) hx hb dL_law_906 hl (k := 1) rfl (by decide) (by decide) rfl (fun ls hl => ?_)
  refine lv_goto (tgt := 23) hx hb dL_law_909 (by decide) ?_
  refine lv_iload hx hb dL_law_23 (lv_at hl 0 rfl) ?_
  refine lv_aload_n hx hb dL_law_25 rfl (lv_at hl 5 rfl) ?_
  refine va_slen hx hb hXs hbl hbA hS dL_law_26 ?_
  refine W.eq (g2 := F0 m 27 ls [.int 6, .int 6]) rfl ?_
  refine lv_bipush (v := 6) hx hb dL_law_27 (by decide) ?_
  refine lv_isub hx hb dL_law_29 ?_
  refine W.eq (g2 := F0 m 30 ls [.int 0, .int 6]) rfl ?_
  refine lv_icmp_gt (tgt := 912) hx hb dL_law_30 (by decide) (fun _ => ?_) (fun h => ((by revert h; decide : False)).elim)
  refine lv_iconst (v := 1) hx hb dL_law_912 (by decide) ?_
  exact va_forget (fun q h => hA2 _ (hS.2.2 q h)) (W.widen (k := 600002) (n := 7302232) (Nat.le_of_ble_eq_true rfl) (Nat.le_of_ble_eq_true rfl) (lw_ret hx hb hr hlocks dL_law_913))
set_option maxHeartbeats 400000000 in
set_option maxRecDepth 100000 in
theorem lf_two1_p0 {p : Program} {e : Env} {s : State} {m : MethodId} {below : List Frame} {meth : Method} {c : Code} (l : Launch) (hl9 : l.stackTraces = false) (D : va_G) (cT : Nat → ClassId) (aK aV : Nat → Nat) {A : Nat → Prop} {b : Nat} {xs : Nat → Int32} (C : xLw p s m meth c b D cT aK aV A) {H : Heap} {locs : List Loc} {ls : Array Slot} (a0 : Nat) (a1 : Nat) (a2 : Nat) (a3 : Nat) (a4 : Nat) (a5 : Nat) (a6 : Nat) (a7 : Nat) (a8 : Nat) (a9 : Nat) (a10 : Nat) (a11 : Nat) (a12 : Nat) (a13 : Nat) (a14 : Nat) (a15 : Nat) (a16 : Nat) (a17 : Nat) (a18 : Nat) (v19 : Value) (v20 : Value) (v21 : Value) (v22 : Value) (v23 : Value) (v24 : Value) (v25 : Value) (v26 : Value) (v27 : Value) (v28 : Value) (v29 : Value) (v30 : Value) (v31 : Value) (v32 : Value) (v33 : Value) (v34 : Value) (v35 : Value) (v36 : Value) (v37 : Value) (v38 : Value) (v39 : Value) (v40 : Value) (v41 : Value) (v42 : Value) (v43 : Value) (v44 : Value) (v45 : Value) (v46 : Value) (v47 : Value) (v48 : Value) (v49 : Value) (v50 : Value) (v51 : Value) (f52 : Nat → Int64) (v53 : Value) (v54 : Value) (f55 : Nat → Option Nat) (b58 : Nat) (v60 : Value) (f61 : Nat → Int64) (v63 : Value) (f64 : Nat → Int64) (f66 : Nat → Int64) (v67 : Value) (v68 : Value) (f69 : Nat → Int32) (f70 : Nat → Option Nat) (f74 : Nat → Int32) (f77 : Nat → Int32) (f82 : Nat → Option Nat) (f86 : Nat → Int32) (f91 : Nat → Int32) (f92 : Nat → Int32) (h56 : f55 (xs 3).toNatClampNeg = some a5) (h57 : f55 (xs 4).toNatClampNeg = some a7) (h59 : f55 (xs 1).toNatClampNeg = some b58) (h62 : f61 0 = 0) (h65 : f64 0 = 0) (h71 : f70 (xs 3).toNatClampNeg = some a14) (h72 : f70 (xs 4).toNatClampNeg = some a16) (h73 : f70 (xs 1).toNatClampNeg = some a18) (h75 : f74 (xs 3).toNatClampNeg = 4) (h76 : f74 (xs 4).toNatClampNeg = 4) (h78 : f77 0 = 110) (h79 : f77 1 = 117) (h80 : f77 2 = 108) (h81 : f77 3 = 108) (h83 : f82 0 = none) (h84 : f82 1 = none) (h85 : f82 2 = none) (h87 : f86 0 = 110) (h88 : f86 1 = 117) (h89 : f86 2 = 108) (h90 : f86 3 = 108) (hto1 : ¬ (xs 1) < 0) (hto2 : ¬ 7 < (xs 1)) (hto3 : (xs 1) ≤ 7) (hto4 : vp_in (xs 1) 8) (hf : xs 2 = 1) (ha1 : ¬ (xs 3) < 0) (ha2 : ¬ 7 < (xs 3)) (ha3 : (xs 3) ≤ 7) (ha4 : vp_in (xs 3) 8) (hb1 : ¬ (xs 4) < 0) (hb2 : ¬ 7 < (xs 4)) (hb3 : (xs 4) ≤ 7) (hb4 : vp_in (xs 4) 8) (hXs : va_X b 6 xs s s.heap) (hP : va_P D xcl [(a0, .inr (0, [v19, v20, .ref a10, .ref a4, v21, .ref a3, v22, v23])), (a1, .inr (5, [v24, .ref a15, v25, v26, v27, v28, v29, v30, v31, v32, v33, v34, v35, v36, v37, v38, v39, v40, v41, v42, v43, .ref a17, v44, v45, .ref a12, .ref a13, v46, v47, v48, v49, v50, v51])), (a2, .inl (cT 2, 1, .inr (.inl f52))), (a3, .inr (2, [.ref a9, v53, v54])), (a4, .inl (cT 3, 8, .inr (.inr (.inr (.inr f55))))), (a5, .inr (2, [.ref a6, .int 1, v60])), (a6, .inl (cT 2, 4096, .inr (.inl f61))), (a7, .inr (2, [.ref a8, .int 1, v63])), (a8, .inl (cT 2, 4096, .inr (.inl f64))), (a9, .inl (cT 2, 4096, .inr (.inl f66))), (a10, .inr (1, [.ref a11, v67, v68])), (a11, .inl (cT 0, 4096, .inl f69)), (a12, .inl (cT 5, 8, .inr (.inr (.inr (.inr f70))))), (a13, .inl (cT 1, 8, .inl f74)), (a14, .inl (cT 0, 4096, .inl f77)), (a15, .inl (cT 4, 1024, .inr (.inr (.inr (.inr f82))))), (a16, .inl (cT 0, 4096, .inl f86)), (a17, .inl (cT 0, 1024, .inl f91)), (a18, .inl (cT 0, 4096, .inl f92))] H) (hD : va_D A [(a0, .inr (0, [v19, v20, .ref a10, .ref a4, v21, .ref a3, v22, v23])), (a1, .inr (5, [v24, .ref a15, v25, v26, v27, v28, v29, v30, v31, v32, v33, v34, v35, v36, v37, v38, v39, v40, v41, v42, v43, .ref a17, v44, v45, .ref a12, .ref a13, v46, v47, v48, v49, v50, v51])), (a2, .inl (cT 2, 1, .inr (.inl f52))), (a3, .inr (2, [.ref a9, v53, v54])), (a4, .inl (cT 3, 8, .inr (.inr (.inr (.inr f55))))), (a5, .inr (2, [.ref a6, .int 1, v60])), (a6, .inl (cT 2, 4096, .inr (.inl f61))), (a7, .inr (2, [.ref a8, .int 1, v63])), (a8, .inl (cT 2, 4096, .inr (.inl f64))), (a9, .inl (cT 2, 4096, .inr (.inl f66))), (a10, .inr (1, [.ref a11, v67, v68])), (a11, .inl (cT 0, 4096, .inl f69)), (a12, .inl (cT 5, 8, .inr (.inr (.inr (.inr f70))))), (a13, .inl (cT 1, 8, .inl f74)), (a14, .inl (cT 0, 4096, .inl f77)), (a15, .inl (cT 4, 1024, .inr (.inr (.inr (.inr f82))))), (a16, .inl (cT 0, 4096, .inl f86)), (a17, .inl (cT 0, 1024, .inl f91)), (a18, .inl (cT 0, 4096, .inl f92))]) (hS : va_S A s.heap H locs) (hl : lv_has ls 8 [(4, .int 0), (3, .ref a2), (2, .ref a1), (1, .ref a0), (0, .ref b)]) : W p l e room_1 s m #[Value.ref b] below meth c H locs 54 107242 (lw_Z below #[Value.ref b] s) (F0 m 651 ls []) := by
  obtain ⟨hx, hb, hr, hml, hown, htx, hbl, hbA, hlocks, hK, hZ, hA, hA2⟩ := C
  refine lv_aload_n hx hb dL_law_651 rfl (lv_at hl 3 rfl) ?_
  refine lv_aload_n hx hb dL_law_652 rfl (lv_at hl 4 rfl) ?_
  refine lv_iload hx hb dL_law_653 (lv_at hl 0 rfl) ?_
  refine lv_iconst (v := 1) hx hb dL_law_655 (by decide) ?_
  refine lv_iadd hx hb dL_law_656 ?_
  refine W.eq (g2 := F0 m 657 ls [.int 1, .ref b, .ref a0]) rfl ?_
  refine va_sld hx hb hXs hbl hbA hS (i := 1) (show ¬ ((1 : Int32) < 0 ∨ 6 ≤ (1 : Int32).toNatClampNeg) by decide) dL_law_657 ?_
  refine W.eq (g2 := F0 m 658 ls [.int (xs 1), .ref a0]) rfl ?_
  refine lv_aload_n hx hb dL_law_658 rfl (lv_at hl 4 rfl) ?_
  refine lv_iload hx hb dL_law_659 (lv_at hl 0 rfl) ?_
  refine lv_iconst (v := 2) hx hb dL_law_661 (by decide) ?_
  refine lv_iadd hx hb dL_law_662 ?_
  refine W.eq (g2 := F0 m 663 ls [.int 2, .ref b, .int (xs 1), .ref a0]) rfl ?_
  refine va_sld hx hb hXs hbl hbA hS (i := 2) (show ¬ ((2 : Int32) < 0 ∨ 6 ≤ (2 : Int32).toNatClampNeg) by decide) dL_law_663 ?_
  refine W.eq (g2 := F0 m 664 ls [.int (xs 2), .int (xs 1), .ref a0]) rfl ?_
  rw [hf]
  refine W.eq (g2 := F0 m 664 ls [.int 1, .int (xs 1), .ref a0]) rfl ?_
  refine lv_aload_n hx hb dL_law_664 rfl (lv_at hl 4 rfl) ?_
  refine lv_iload hx hb dL_law_665 (lv_at hl 0 rfl) ?_
  refine lv_iconst (v := 3) hx hb dL_law_667 (by decide) ?_
  refine lv_iadd hx hb dL_law_668 ?_
  refine W.eq (g2 := F0 m 669 ls [.int 3, .ref b, .int 1, .int (xs 1), .ref a0]) rfl ?_
  refine va_sld hx hb hXs hbl hbA hS (i := 3) (show ¬ ((3 : Int32) < 0 ∨ 6 ≤ (3 : Int32).toNatClampNeg) by decide) dL_law_669 ?_
  refine W.eq (g2 := F0 m 670 ls [.int (xs 3), .int 1, .int (xs 1), .ref a0]) rfl ?_
  refine lv_aload_n hx hb dL_law_670 rfl (lv_at hl 4 rfl) ?_
  refine lv_iload hx hb dL_law_671 (lv_at hl 0 rfl) ?_
  refine lv_iconst (v := 4) hx hb dL_law_673 (by decide) ?_
  refine lv_iadd hx hb dL_law_674 ?_
  refine W.eq (g2 := F0 m 675 ls [.int 4, .ref b, .int (xs 3), .int 1, .int (xs 1), .ref a0]) rfl ?_
  refine va_sld hx hb hXs hbl hbA hS (i := 4) (show ¬ ((4 : Int32) < 0 ∨ 6 ≤ (4 : Int32).toNatClampNeg) by decide) dL_law_675 ?_
  refine W.eq (g2 := F0 m 676 ls [.int (xs 4), .int (xs 3), .int 1, .int (xs 1), .ref a0]) rfl ?_
  obtain ⟨hPc, hDc, hFc⟩ := xcut (wc := [(a0, .inr (0, [v19, v20, .ref a10, .ref a4, v21, .ref a3, v22, v23])), (a3, .inr (2, [.ref a9, v53, v54])), (a4, .inl (cT 3, 8, .inr (.inr (.inr (.inr f55))))), (a5, .inr (2, [.ref a6, .int 1, v60])), (a6, .inl (cT 2, 4096, .inr (.inl f61))), (a7, .inr (2, [.ref a8, .int 1, v63])), (a8, .inl (cT 2, 4096, .inr (.inl f64))), (a9, .inl (cT 2, 4096, .inr (.inl f66))), (a10, .inr (1, [.ref a11, v67, v68])), (a11, .inl (cT 0, 4096, .inl f69))]) hP hD hS hA [0, 3, 4, 5, 6, 7, 8, 9, 10, 11] rfl rfl (by decide)
  refine va_calli (vx_runSW (As := [.ref a0, .int (xs 1), .int 1, .int (xs 3), .int (xs 4)]) (rest := []) ⟨hx, hb, hml, hown, htx⟩ (cL_two_11 l hl9 D cT aK aV H.size a0 a3 a4 a5 a6 a7 a8 a9 a10 a11 (xs 1) (xs 3) (xs 4) v19 v20 v21 v22 v23 v53 v54 f55 b58 v60 f61 v63 f64 f66 v67 v68 f69 hto1 hto2 hto3 hto4 ha1 ha2 ha3 ha4 hb1 hb2 hb3 hb4 (by first | rfl | exact h56 | exact h57 | exact h59 | exact h62 | exact h65 | exact h71 | exact h72 | exact h73 | exact h75 | exact h76 | exact h78 | exact h79 | exact h80 | exact h81 | exact h83 | exact h84 | exact h85 | exact h87 | exact h88 | exact h89 | exact h90) (by first | rfl | exact h56 | exact h57 | exact h59 | exact h62 | exact h65 | exact h71 | exact h72 | exact h73 | exact h75 | exact h76 | exact h78 | exact h79 | exact h80 | exact h81 | exact h83 | exact h84 | exact h85 | exact h87 | exact h88 | exact h89 | exact h90) (by first | rfl | exact h56 | exact h57 | exact h59 | exact h62 | exact h65 | exact h71 | exact h72 | exact h73 | exact h75 | exact h76 | exact h78 | exact h79 | exact h80 | exact h81 | exact h83 | exact h84 | exact h85 | exact h87 | exact h88 | exact h89 | exact h90) (by first | rfl | exact h56 | exact h57 | exact h59 | exact h62 | exact h65 | exact h71 | exact h72 | exact h73 | exact h75 | exact h76 | exact h78 | exact h79 | exact h80 | exact h81 | exact h83 | exact h84 | exact h85 | exact h87 | exact h88 | exact h89 | exact h90) (by first | rfl | exact h56 | exact h57 | exact h59 | exact h62 | exact h65 | exact h71 | exact h72 | exact h73 | exact h75 | exact h76 | exact h78 | exact h79 | exact h80 | exact h81 | exact h83 | exact h84 | exact h85 | exact h87 | exact h88 | exact h89 | exact h90)) (xcSW 5 htx (xw_goodC kw_4_139) rfl rfl rfl (htx _ kw_1_0) (htx _ kw_4_137) ⟨by decide, by decide, by decide +kernel⟩ ⟨Nat.le_of_ble_eq_true rfl, Nat.le_of_ble_eq_true rfl⟩ (htx _ kw_4_138)) ⟨xPre_blind, (fun U hU hW => ⟨rfl, xPre_of hZ hS hFc hPc hDc hK U hU hW⟩)⟩ rfl rfl hl.1 rfl (lv_room (Nat.le_of_ble_eq_true rfl)) dL_law_676 ⟨Nat.le_of_ble_eq_true rfl, Nat.le_of_ble_eq_true rfl⟩) hS (fun q _ h => hFc q h) hFc (fun r1 u9 t H1 locs ht hvm hr9 hB hz1 hk1 hS => ?_)
  obtain ⟨y2, y3, y4, y5, hP1, hK1, hD1⟩ := hB
  rw [ht] at hP1
  obtain ⟨hP, hD⟩ := xjoin (W := [(a1, .inr (5, [v24, .ref a15, v25, v26, v27, v28, v29, v30, v31, v32, v33, v34, v35, v36, v37, v38, v39, v40, v41, v42, v43, .ref a17, v44, v45, .ref a12, .ref a13, v46, v47, v48, v49, v50, v51])), (a2, .inl (cT 2, 1, .inr (.inl f52))), (a12, .inl (cT 5, 8, .inr (.inr (.inr (.inr f70))))), (a13, .inl (cT 1, 8, .inl f74)), (a14, .inl (cT 0, 4096, .inl f77)), (a15, .inl (cT 4, 1024, .inr (.inr (.inr (.inr f82))))), (a16, .inl (cT 0, 4096, .inl f86)), (a17, .inl (cT 0, 1024, .inl f91)), (a18, .inl (cT 0, 4096, .inl f92)), (a0, .inr (0, [v19, v20, .ref a10, .ref a4, v21, .ref b58, v22, v23])), (a3, .inr (2, [.ref a9, .int 1, .int 0])), (a4, .inl (cT 3, 8, .inr (.inr (.inr (.inr (va_up f55 (xs 1).toNatClampNeg (some a3))))))), (a5, .inr (2, [.ref a6, .int 1, v60])), (a6, .inl (cT 2, 4096, .inr (.inl f61))), (a7, .inr (2, [.ref a8, .int 1, v63])), (a8, .inl (cT 2, 4096, .inr (.inl f64))), (a9, .inl (cT 2, 4096, .inr (.inl (vp_updL f66 0 2)))), (a10, .inr (1, [.ref a11, .int 4, .int 0])), (a11, .inl (cT 0, 4096, .inl (upd (upd (upd (upd f69 0 (vp_nar .byte y2)) 1 (vp_nar .byte y3)) 2 (vp_nar .byte y4)) 3 (vp_nar .byte y5))))]) hP hD [0, 3, 4, 5, 6, 7, 8, 9, 10, 11] [1, 2, 12, 13, 14, 15, 16, 17, 18] 9 rfl rfl (by decide) (by decide) hk1 hFc hP1 hD1
  generalize H1 = H at hP hS ⊢
  rw [hr9]
  refine W.eq (g2 := F0 m 679 ls [.int 0]) rfl ?_
  refine lv_istore (lv' := [(5, .int 0), (4, .int 0), (3, .ref a2), (2, .ref a1), (1, .ref a0), (0, .ref b)]) hx hb dL_law_679 hl (by decide) rfl (fun ls hl => ?_)
  refine lv_aload_n hx hb dL_law_681 rfl (lv_at hl 3 rfl) ?_
  refine lv_aload_n hx hb dL_law_682 rfl (lv_at hl 5 rfl) ?_
  refine lv_iload hx hb dL_law_683 (lv_at hl 1 rfl) ?_
  refine lv_iconst (v := 1) hx hb dL_law_685 (by decide) ?_
  refine lv_iadd hx hb dL_law_686 ?_
  refine W.eq (g2 := F0 m 687 ls [.int 1, .ref b, .ref a1]) rfl ?_
  refine va_sld hx hb hXs hbl hbA hS (i := 1) (show ¬ ((1 : Int32) < 0 ∨ 6 ≤ (1 : Int32).toNatClampNeg) by decide) dL_law_687 ?_
  refine W.eq (g2 := F0 m 688 ls [.int (xs 1), .ref a1]) rfl ?_
  refine lv_aload_n hx hb dL_law_688 rfl (lv_at hl 5 rfl) ?_
  refine lv_iload hx hb dL_law_689 (lv_at hl 1 rfl) ?_
  refine lv_iconst (v := 2) hx hb dL_law_691 (by decide) ?_
  refine lv_iadd hx hb dL_law_692 ?_
  refine W.eq (g2 := F0 m 693 ls [.int 2, .ref b, .int (xs 1), .ref a1]) rfl ?_
  refine va_sld hx hb hXs hbl hbA hS (i := 2) (show ¬ ((2 : Int32) < 0 ∨ 6 ≤ (2 : Int32).toNatClampNeg) by decide) dL_law_693 ?_
  refine W.eq (g2 := F0 m 694 ls [.int (xs 2), .int (xs 1), .ref a1]) rfl ?_
  rw [hf]
  refine W.eq (g2 := F0 m 694 ls [.int 1, .int (xs 1), .ref a1]) rfl ?_
  refine lv_aload_n hx hb dL_law_694 rfl (lv_at hl 5 rfl) ?_
  refine lv_iload hx hb dL_law_695 (lv_at hl 1 rfl) ?_
  refine lv_iconst (v := 3) hx hb dL_law_697 (by decide) ?_
  refine lv_iadd hx hb dL_law_698 ?_
  refine W.eq (g2 := F0 m 699 ls [.int 3, .ref b, .int 1, .int (xs 1), .ref a1]) rfl ?_
  refine va_sld hx hb hXs hbl hbA hS (i := 3) (show ¬ ((3 : Int32) < 0 ∨ 6 ≤ (3 : Int32).toNatClampNeg) by decide) dL_law_699 ?_
  refine W.eq (g2 := F0 m 700 ls [.int (xs 3), .int 1, .int (xs 1), .ref a1]) rfl ?_
  refine lv_aload_n hx hb dL_law_700 rfl (lv_at hl 5 rfl) ?_
  refine lv_iload hx hb dL_law_701 (lv_at hl 1 rfl) ?_
  refine lv_iconst (v := 4) hx hb dL_law_703 (by decide) ?_
  refine lv_iadd hx hb dL_law_704 ?_
  refine W.eq (g2 := F0 m 705 ls [.int 4, .ref b, .int (xs 3), .int 1, .int (xs 1), .ref a1]) rfl ?_
  refine va_sld hx hb hXs hbl hbA hS (i := 4) (show ¬ ((4 : Int32) < 0 ∨ 6 ≤ (4 : Int32).toNatClampNeg) by decide) dL_law_705 ?_
  refine W.eq (g2 := F0 m 706 ls [.int (xs 4), .int (xs 3), .int 1, .int (xs 1), .ref a1]) rfl ?_
  obtain ⟨hPc, hDc, hFc⟩ := xcut (wc := [(a1, .inr (5, [v24, .ref a15, v25, v26, v27, v28, v29, v30, v31, v32, v33, v34, v35, v36, v37, v38, v39, v40, v41, v42, v43, .ref a17, v44, v45, .ref a12, .ref a13, v46, v47, v48, v49, v50, v51])), (a12, .inl (cT 5, 8, .inr (.inr (.inr (.inr f70))))), (a13, .inl (cT 1, 8, .inl f74)), (a14, .inl (cT 0, 4096, .inl f77)), (a15, .inl (cT 4, 1024, .inr (.inr (.inr (.inr f82))))), (a16, .inl (cT 0, 4096, .inl f86)), (a17, .inl (cT 0, 1024, .inl f91)), (a18, .inl (cT 0, 4096, .inl f92))]) hP hD hS hA [0, 2, 3, 4, 5, 6, 7, 8] rfl rfl (by decide)
  refine va_callv (va_runV (C := "ValueBenchModel") (As := [.int (xs 1), .int 1, .int (xs 3), .int (xs 4)]) (rest := []) ⟨hx, hb, hml, hown, htx⟩ (cM_two0_14 l hl9 D cT aK aV H.size a1 a12 a13 a14 a15 a16 a17 a18 (xs 1) (xs 3) (xs 4) v24 v25 v26 v27 v28 v29 v30 v31 v32 v33 v34 v35 v36 v37 v38 v39 v40 v41 v42 v43 v44 v45 v46 v47 v48 v49 v50 v51 f70 f74 f77 f82 f86 f91 f92 hto1 hto2 hto3 hto4 ha1 ha2 ha3 ha4 hb1 hb2 hb3 hb4 (by first | rfl | exact h56 | exact h57 | exact h62 | exact h65 | exact h71 | exact h72 | exact h73 | exact h75 | exact h76 | exact h78 | exact h79 | exact h80 | exact h81 | exact h83 | exact h84 | exact h85 | exact h87 | exact h88 | exact h89 | exact h90) (by first | rfl | exact h56 | exact h57 | exact h62 | exact h65 | exact h71 | exact h72 | exact h73 | exact h75 | exact h76 | exact h78 | exact h79 | exact h80 | exact h81 | exact h83 | exact h84 | exact h85 | exact h87 | exact h88 | exact h89 | exact h90) (by first | rfl | exact h56 | exact h57 | exact h62 | exact h65 | exact h71 | exact h72 | exact h73 | exact h75 | exact h76 | exact h78 | exact h79 | exact h80 | exact h81 | exact h83 | exact h84 | exact h85 | exact h87 | exact h88 | exact h89 | exact h90) (by first | rfl | exact h56 | exact h57 | exact h62 | exact h65 | exact h71 | exact h72 | exact h73 | exact h75 | exact h76 | exact h78 | exact h79 | exact h80 | exact h81 | exact h83 | exact h84 | exact h85 | exact h87 | exact h88 | exact h89 | exact h90) (by first | rfl | exact h56 | exact h57 | exact h62 | exact h65 | exact h71 | exact h72 | exact h73 | exact h75 | exact h76 | exact h78 | exact h79 | exact h80 | exact h81 | exact h83 | exact h84 | exact h85 | exact h87 | exact h88 | exact h89 | exact h90) (by first | rfl | exact h56 | exact h57 | exact h62 | exact h65 | exact h71 | exact h72 | exact h73 | exact h75 | exact h76 | exact h78 | exact h79 | exact h80 | exact h81 | exact h83 | exact h84 | exact h85 | exact h87 | exact h88 | exact h89 | exact h90) (by first | rfl | exact h56 | exact h57 | exact h62 | exact h65 | exact h71 | exact h72 | exact h73 | exact h75 | exact h76 | exact h78 | exact h79 | exact h80 | exact h81 | exact h83 | exact h84 | exact h85 | exact h87 | exact h88 | exact h89 | exact h90) (by first | rfl | exact h56 | exact h57 | exact h62 | exact h65 | exact h71 | exact h72 | exact h73 | exact h75 | exact h76 | exact h78 | exact h79 | exact h80 | exact h81 | exact h83 | exact h84 | exact h85 | exact h87 | exact h88 | exact h89 | exact h90) (by first | rfl | exact h56 | exact h57 | exact h62 | exact h65 | exact h71 | exact h72 | exact h73 | exact h75 | exact h76 | exact h78 | exact h79 | exact h80 | exact h81 | exact h83 | exact h84 | exact h85 | exact h87 | exact h88 | exact h89 | exact h90) (by first | rfl | exact h56 | exact h57 | exact h62 | exact h65 | exact h71 | exact h72 | exact h73 | exact h75 | exact h76 | exact h78 | exact h79 | exact h80 | exact h81 | exact h83 | exact h84 | exact h85 | exact h87 | exact h88 | exact h89 | exact h90) (by first | rfl | exact h56 | exact h57 | exact h62 | exact h65 | exact h71 | exact h72 | exact h73 | exact h75 | exact h76 | exact h78 | exact h79 | exact h80 | exact h81 | exact h83 | exact h84 | exact h85 | exact h87 | exact h88 | exact h89 | exact h90) (by first | rfl | exact h56 | exact h57 | exact h62 | exact h65 | exact h71 | exact h72 | exact h73 | exact h75 | exact h76 | exact h78 | exact h79 | exact h80 | exact h81 | exact h83 | exact h84 | exact h85 | exact h87 | exact h88 | exact h89 | exact h90) (by first | rfl | exact h56 | exact h57 | exact h62 | exact h65 | exact h71 | exact h72 | exact h73 | exact h75 | exact h76 | exact h78 | exact h79 | exact h80 | exact h81 | exact h83 | exact h84 | exact h85 | exact h87 | exact h88 | exact h89 | exact h90) (by first | rfl | exact h56 | exact h57 | exact h62 | exact h65 | exact h71 | exact h72 | exact h73 | exact h75 | exact h76 | exact h78 | exact h79 | exact h80 | exact h81 | exact h83 | exact h84 | exact h85 | exact h87 | exact h88 | exact h89 | exact h90) (by first | rfl | exact h56 | exact h57 | exact h62 | exact h65 | exact h71 | exact h72 | exact h73 | exact h75 | exact h76 | exact h78 | exact h79 | exact h80 | exact h81 | exact h83 | exact h84 | exact h85 | exact h87 | exact h88 | exact h89 | exact h90) (by first | rfl | exact h56 | exact h57 | exact h62 | exact h65 | exact h71 | exact h72 | exact h73 | exact h75 | exact h76 | exact h78 | exact h79 | exact h80 | exact h81 | exact h83 | exact h84 | exact h85 | exact h87 | exact h88 | exact h89 | exact h90)) ⟨callB_of 4 htx (xw_goodC kw_7_127) rfl rfl rfl (htx _ kw_1_5) (htx _ kw_7_124) ⟨by decide, by decide, by decide +kernel⟩ ⟨Nat.le_of_ble_eq_true rfl, Nat.le_of_ble_eq_true rfl⟩, (htx _ kw_7_125), (htx _ kw_7_126)⟩ ⟨xPre_blind, va_recv hK hP (ci := 5) rfl (q0 := 0) rfl, (fun U hU hW => ⟨rfl, xPre_of hZ hS hFc hPc hDc hK U hU hW⟩)⟩ rfl rfl hl.1 rfl (lv_room (Nat.le_of_ble_eq_true rfl)) dL_law_706 ⟨Nat.le_of_ble_eq_true rfl, Nat.le_of_ble_eq_true rfl⟩) hS (fun q _ h => hFc q h) hFc (fun u9 t H1 locs ht hvm hr9 hB hz1 hk1 hS => ?_)
  obtain ⟨q6, q7, q8, y9, y10, y11, y12, hP1, hK1, hD1⟩ := hB
  rw [ht] at hP1
  obtain ⟨hP, hD⟩ := xjoin (W := [(a2, .inl (cT 2, 1, .inr (.inl f52))), (a0, .inr (0, [v19, v20, .ref a10, .ref a4, v21, .ref b58, v22, v23])), (a3, .inr (2, [.ref a9, .int 1, .int 0])), (a4, .inl (cT 3, 8, .inr (.inr (.inr (.inr (va_up f55 (xs 1).toNatClampNeg (some a3))))))), (a5, .inr (2, [.ref a6, .int 1, v60])), (a6, .inl (cT 2, 4096, .inr (.inl f61))), (a7, .inr (2, [.ref a8, .int 1, v63])), (a8, .inl (cT 2, 4096, .inr (.inl f64))), (a9, .inl (cT 2, 4096, .inr (.inl (vp_updL f66 0 2)))), (a10, .inr (1, [.ref a11, .int 4, .int 0])), (a11, .inl (cT 0, 4096, .inl (upd (upd (upd (upd f69 0 (vp_nar .byte y2)) 1 (vp_nar .byte y3)) 2 (vp_nar .byte y4)) 3 (vp_nar .byte y5)))), (a1, .inr (5, [.int 0, .ref a15, .int 3, v26, .int 0, v28, v29, .int 0, v31, .int 0, v33, v34, .int 0, v36, v37, .ref a16, .int 4, .int 4, .int 0, .int 100, v43, .ref a17, .int 4, .int 4096, .ref a12, .ref a13, v46, v47, v48, v49, v50, v51])), (a12, .inl (cT 5, 8, .inr (.inr (.inr (.inr f70))))), (a13, .inl (cT 1, 8, .inl (upd f74 (xs 1).toNatClampNeg 4))), (a14, .inl (cT 0, 4096, .inl f77)), (a15, .inl (cT 4, 1024, .inr (.inr (.inr (.inr (va_up (va_up (va_up f82 0 (some q6)) 1 (some q7)) 2 (some q8))))))), (a16, .inl (cT 0, 4096, .inl f86)), (a17, .inl (cT 0, 1024, .inl (upd (upd (upd (upd f91 0 (vp_nar .byte y9)) 1 (vp_nar .byte y10)) 2 (vp_nar .byte y11)) 3 (vp_nar .byte y12)))), (a18, .inl (cT 0, 4096, .inl (upd (upd (upd (upd f92 0 (vp_nar .byte (vp_nar .byte y9))) 1 (vp_nar .byte (vp_nar .byte y10))) 2 (vp_nar .byte (vp_nar .byte y11))) 3 (vp_nar .byte (vp_nar .byte y12))))), (q6, .inr (6, [.int 0, .long 0, .int 0, .int 0, .int 0, .int 1])), (q7, .inr (6, [.int 0, .long 0, .int 0, .int 0, .int 0, .int 1])), (q8, .inr (6, [.int 2, .long 0, .int 0, .int 0, .int 0, .int 1]))]) hP hD [0, 2, 3, 4, 5, 6, 7, 8] [1, 9, 10, 11, 12, 13, 14, 15, 16, 17, 18] 11 rfl rfl (by decide) (by decide) hk1 hFc hP1 hD1
  generalize H1 = H at hP hS ⊢
  refine lv_aload_n hx hb dL_law_709 rfl (lv_at hl 3 rfl) ?_
  obtain ⟨hPc, hDc, hFc⟩ := xcut (wc := [(a1, .inr (5, [.int 0, .ref a15, .int 3, v26, .int 0, v28, v29, .int 0, v31, .int 0, v33, v34, .int 0, v36, v37, .ref a16, .int 4, .int 4, .int 0, .int 100, v43, .ref a17, .int 4, .int 4096, .ref a12, .ref a13, v46, v47, v48, v49, v50, v51]))]) hP hD hS hA [11] rfl rfl (by decide)
  refine va_calli (va_runV (C := "ValueBenchModel") (As := []) (rest := []) ⟨hx, hb, hml, hown, htx⟩ (cM_thrown_0 l hl9 D cT aK aV H.size a1 (.ref a15) (.int 3) v26 (.int 0) v28 v29 (.int 0) v31 (.int 0) v33 v34 (.int 0) v36 v37 (.ref a16) (.int 4) (.int 4) (.int 0) (.int 100) v43 (.ref a17) (.int 4) (.int 4096) (.ref a12) (.ref a13) v46 v47 v48 v49 v50 v51) ⟨callB_of 0 htx (xw_goodC kw_5_187) rfl rfl rfl (htx _ kw_1_5) (htx _ kw_5_184) ⟨by decide, by decide, by decide +kernel⟩ ⟨Nat.le_of_ble_eq_true rfl, Nat.le_of_ble_eq_true rfl⟩, (htx _ kw_5_185), (htx _ kw_5_186)⟩ ⟨xPre_blind, va_recv hK hP (ci := 5) rfl (q0 := 11) rfl, (fun U hU hW => ⟨rfl, xPre_of hZ hS hFc hPc hDc hK U hU hW⟩)⟩ rfl rfl hl.1 rfl (lv_room (Nat.le_of_ble_eq_true rfl)) dL_law_710 ⟨Nat.le_of_ble_eq_true rfl, Nat.le_of_ble_eq_true rfl⟩) hS (fun q _ h => hFc q h) hFc (fun r13 u9 t H1 locs ht hvm hr9 hB hz1 hk1 hS => ?_)
  obtain ⟨hP1, hK1, hD1⟩ := hB
  rw [ht] at hP1
  obtain ⟨hP, hD⟩ := xjoin (W := [(a2, .inl (cT 2, 1, .inr (.inl f52))), (a0, .inr (0, [v19, v20, .ref a10, .ref a4, v21, .ref b58, v22, v23])), (a3, .inr (2, [.ref a9, .int 1, .int 0])), (a4, .inl (cT 3, 8, .inr (.inr (.inr (.inr (va_up f55 (xs 1).toNatClampNeg (some a3))))))), (a5, .inr (2, [.ref a6, .int 1, v60])), (a6, .inl (cT 2, 4096, .inr (.inl f61))), (a7, .inr (2, [.ref a8, .int 1, v63])), (a8, .inl (cT 2, 4096, .inr (.inl f64))), (a9, .inl (cT 2, 4096, .inr (.inl (vp_updL f66 0 2)))), (a10, .inr (1, [.ref a11, .int 4, .int 0])), (a11, .inl (cT 0, 4096, .inl (upd (upd (upd (upd f69 0 (vp_nar .byte y2)) 1 (vp_nar .byte y3)) 2 (vp_nar .byte y4)) 3 (vp_nar .byte y5)))), (a12, .inl (cT 5, 8, .inr (.inr (.inr (.inr f70))))), (a13, .inl (cT 1, 8, .inl (upd f74 (xs 1).toNatClampNeg 4))), (a14, .inl (cT 0, 4096, .inl f77)), (a15, .inl (cT 4, 1024, .inr (.inr (.inr (.inr (va_up (va_up (va_up f82 0 (some q6)) 1 (some q7)) 2 (some q8))))))), (a16, .inl (cT 0, 4096, .inl f86)), (a17, .inl (cT 0, 1024, .inl (upd (upd (upd (upd f91 0 (vp_nar .byte y9)) 1 (vp_nar .byte y10)) 2 (vp_nar .byte y11)) 3 (vp_nar .byte y12)))), (a18, .inl (cT 0, 4096, .inl (upd (upd (upd (upd f92 0 (vp_nar .byte (vp_nar .byte y9))) 1 (vp_nar .byte (vp_nar .byte y10))) 2 (vp_nar .byte (vp_nar .byte y11))) 3 (vp_nar .byte (vp_nar .byte y12))))), (q6, .inr (6, [.int 0, .long 0, .int 0, .int 0, .int 0, .int 1])), (q7, .inr (6, [.int 0, .long 0, .int 0, .int 0, .int 0, .int 1])), (q8, .inr (6, [.int 2, .long 0, .int 0, .int 0, .int 0, .int 1])), (a1, .inr (5, [.int 0, .ref a15, .int 3, v26, .int 0, v28, v29, .int 0, v31, .int 0, v33, v34, .int 0, v36, v37, .ref a16, .int 4, .int 4, .int 0, .int 100, v43, .ref a17, .int 4, .int 4096, .ref a12, .ref a13, v46, v47, v48, v49, v50, v51]))]) hP hD [11] [0, 1, 2, 3, 4, 5, 6, 7, 8, 9, 10, 12, 13, 14, 15, 16, 17, 18, 19, 20, 21] 21 rfl rfl (by decide) (by decide) hk1 hFc hP1 hD1
  generalize H1 = H at hP hS ⊢
  rw [hr9]
  refine W.eq (g2 := F0 m 713 ls [.int 0]) rfl ?_
  refine lv_iload hx hb dL_law_713 (lv_at hl 0 rfl) ?_
  refine lv_icmp_eq (tgt := 720) hx hb dL_law_715 (by decide) (fun _ => ?_) (fun h => ((by revert h; decide : False)).elim)
  refine lv_goto (tgt := 906) hx hb dL_law_720 (by decide) ?_
  refine lv_iinc (v := 6) (lv' := [(4, .int 6), (5, .int 0), (3, .ref a2), (2, .ref a1), (1, .ref a0), (0, .ref b)]) hx hb dL_law_906 hl (k := 1) rfl (by decide) (by decide) rfl (fun ls hl => ?_)
  refine lv_goto (tgt := 23) hx hb dL_law_909 (by decide) ?_
  refine lv_iload hx hb dL_law_23 (lv_at hl 0 rfl) ?_
  refine lv_aload_n hx hb dL_law_25 rfl (lv_at hl 5 rfl) ?_
  refine va_slen hx hb hXs hbl hbA hS dL_law_26 ?_
  refine W.eq (g2 := F0 m 27 ls [.int 6, .int 6]) rfl ?_
  refine lv_bipush (v := 6) hx hb dL_law_27 (by decide) ?_
  refine lv_isub hx hb dL_law_29 ?_
  refine W.eq (g2 := F0 m 30 ls [.int 0, .int 6]) rfl ?_
  refine lv_icmp_gt (tgt := 912) hx hb dL_law_30 (by decide) (fun _ => ?_) (fun h => ((by revert h; decide : False)).elim)
  refine lv_iconst (v := 1) hx hb dL_law_912 (by decide) ?_
  exact va_forget (fun q h => hA2 _ (hS.2.2 q h)) (W.widen (k := 600002) (n := 7302232) (Nat.le_of_ble_eq_true rfl) (Nat.le_of_ble_eq_true rfl) (lw_ret hx hb hr hlocks dL_law_913))
set_option maxHeartbeats 400000000 in
set_option maxRecDepth 100000 in
theorem lf_two2_p4 {p : Program} {e : Env} {s : State} {m : MethodId} {below : List Frame} {meth : Method} {c : Code} (l : Launch) (hl9 : l.stackTraces = false) (D : va_G) (cT : Nat → ClassId) (aK aV : Nat → Nat) {A : Nat → Prop} {b : Nat} {xs : Nat → Int32} (C : xLw p s m meth c b D cT aK aV A) {H : Heap} {locs : List Loc} {ls : Array Slot} (a0 : Nat) (a1 : Nat) (a2 : Nat) (a3 : Nat) (a4 : Nat) (a5 : Nat) (a6 : Nat) (a7 : Nat) (a8 : Nat) (a9 : Nat) (a10 : Nat) (v11 : Value) (v12 : Value) (b13 : Nat) (v14 : Value) (v15 : Value) (v16 : Value) (v17 : Value) (v18 : Value) (v19 : Value) (v20 : Value) (v21 : Value) (v22 : Value) (v23 : Value) (v24 : Value) (v25 : Value) (v26 : Value) (v27 : Value) (v28 : Value) (v29 : Value) (v30 : Value) (v31 : Value) (v32 : Value) (v33 : Value) (v34 : Value) (v35 : Value) (v36 : Value) (v37 : Value) (v38 : Value) (v39 : Value) (v40 : Value) (v41 : Value) (v42 : Value) (v43 : Value) (v44 : Value) (v45 : Value) (f46 : Nat → Int64) (v47 : Value) (v48 : Value) (v49 : Value) (f50 : Nat → Option Nat) (v53 : Value) (f54 : Nat → Int64) (f56 : Nat → Option Nat) (f59 : Nat → Int32) (f62 : Nat → Int32) (f67 : Nat → Option Nat) (h51 : f50 (xs 3).toNatClampNeg = some a5) (h52 : f50 (xs 4).toNatClampNeg = some a5) (h55 : f54 0 = 0) (h57 : f56 (xs 3).toNatClampNeg = some a9) (h58 : f56 (xs 4).toNatClampNeg = some a9) (h60 : f59 (xs 3).toNatClampNeg = 4) (h61 : f59 (xs 4).toNatClampNeg = 4) (h63 : f62 0 = 110) (h64 : f62 1 = 117) (h65 : f62 2 = 108) (h66 : f62 3 = 108) (h68 : f67 0 = none) (h69 : f67 1 = none) (hto1 : ¬ (xs 1) < 0) (hto2 : ¬ 7 < (xs 1)) (hto3 : (xs 1) ≤ 7) (hto4 : vp_in (xs 1) 8) (hf : xs 2 = 2) (ha1 : ¬ (xs 3) < 0) (ha2 : ¬ 7 < (xs 3)) (ha3 : (xs 3) ≤ 7) (ha4 : vp_in (xs 3) 8) (hb1 : ¬ (xs 4) < 0) (hb2 : ¬ 7 < (xs 4)) (hb3 : (xs 4) ≤ 7) (hb4 : vp_in (xs 4) 8) (hXs : va_X b 6 xs s s.heap) (hP : va_P D xcl [(a0, .inr (0, [v11, v12, .ref b13, .ref a4, v14, .ref a3, v15, v16])), (a1, .inr (5, [v17, .ref a10, v18, v19, v20, v21, v22, v23, v24, v25, v26, v27, v28, v29, v30, v31, v32, v33, v34, v35, v36, v37, v38, v39, .ref a7, .ref a8, v40, v41, v42, v43, v44, v45])), (a2, .inl (cT 2, 1, .inr (.inl f46))), (a3, .inr (2, [v47, v48, v49])), (a4, .inl (cT 3, 8, .inr (.inr (.inr (.inr f50))))), (a5, .inr (2, [.ref a6, .int 1, v53])), (a6, .inl (cT 2, 4096, .inr (.inl f54))), (a7, .inl (cT 5, 8, .inr (.inr (.inr (.inr f56))))), (a8, .inl (cT 1, 8, .inl f59)), (a9, .inl (cT 0, 4096, .inl f62)), (a10, .inl (cT 4, 1024, .inr (.inr (.inr (.inr f67)))))] H) (hD : va_D A [(a0, .inr (0, [v11, v12, .ref b13, .ref a4, v14, .ref a3, v15, v16])), (a1, .inr (5, [v17, .ref a10, v18, v19, v20, v21, v22, v23, v24, v25, v26, v27, v28, v29, v30, v31, v32, v33, v34, v35, v36, v37, v38, v39, .ref a7, .ref a8, v40, v41, v42, v43, v44, v45])), (a2, .inl (cT 2, 1, .inr (.inl f46))), (a3, .inr (2, [v47, v48, v49])), (a4, .inl (cT 3, 8, .inr (.inr (.inr (.inr f50))))), (a5, .inr (2, [.ref a6, .int 1, v53])), (a6, .inl (cT 2, 4096, .inr (.inl f54))), (a7, .inl (cT 5, 8, .inr (.inr (.inr (.inr f56))))), (a8, .inl (cT 1, 8, .inl f59)), (a9, .inl (cT 0, 4096, .inl f62)), (a10, .inl (cT 4, 1024, .inr (.inr (.inr (.inr f67)))))]) (hS : va_S A s.heap H locs) (hl : lv_has ls 8 [(4, .int 0), (3, .ref a2), (2, .ref a1), (1, .ref a0), (0, .ref b)]) : W p l e room_1 s m #[Value.ref b] below meth c H locs 54 107242 (lw_Z below #[Value.ref b] s) (F0 m 651 ls []) := by
  obtain ⟨hx, hb, hr, hml, hown, htx, hbl, hbA, hlocks, hK, hZ, hA, hA2⟩ := C
  refine lv_aload_n hx hb dL_law_651 rfl (lv_at hl 3 rfl) ?_
  refine lv_aload_n hx hb dL_law_652 rfl (lv_at hl 4 rfl) ?_
  refine lv_iload hx hb dL_law_653 (lv_at hl 0 rfl) ?_
  refine lv_iconst (v := 1) hx hb dL_law_655 (by decide) ?_
  refine lv_iadd hx hb dL_law_656 ?_
  refine W.eq (g2 := F0 m 657 ls [.int 1, .ref b, .ref a0]) rfl ?_
  refine va_sld hx hb hXs hbl hbA hS (i := 1) (show ¬ ((1 : Int32) < 0 ∨ 6 ≤ (1 : Int32).toNatClampNeg) by decide) dL_law_657 ?_
  refine W.eq (g2 := F0 m 658 ls [.int (xs 1), .ref a0]) rfl ?_
  refine lv_aload_n hx hb dL_law_658 rfl (lv_at hl 4 rfl) ?_
  refine lv_iload hx hb dL_law_659 (lv_at hl 0 rfl) ?_
  refine lv_iconst (v := 2) hx hb dL_law_661 (by decide) ?_
  refine lv_iadd hx hb dL_law_662 ?_
  refine W.eq (g2 := F0 m 663 ls [.int 2, .ref b, .int (xs 1), .ref a0]) rfl ?_
  refine va_sld hx hb hXs hbl hbA hS (i := 2) (show ¬ ((2 : Int32) < 0 ∨ 6 ≤ (2 : Int32).toNatClampNeg) by decide) dL_law_663 ?_
  refine W.eq (g2 := F0 m 664 ls [.int (xs 2), .int (xs 1), .ref a0]) rfl ?_
  rw [hf]
  refine W.eq (g2 := F0 m 664 ls [.int 2, .int (xs 1), .ref a0]) rfl ?_
  refine lv_aload_n hx hb dL_law_664 rfl (lv_at hl 4 rfl) ?_
  refine lv_iload hx hb dL_law_665 (lv_at hl 0 rfl) ?_
  refine lv_iconst (v := 3) hx hb dL_law_667 (by decide) ?_
  refine lv_iadd hx hb dL_law_668 ?_
  refine W.eq (g2 := F0 m 669 ls [.int 3, .ref b, .int 2, .int (xs 1), .ref a0]) rfl ?_
  refine va_sld hx hb hXs hbl hbA hS (i := 3) (show ¬ ((3 : Int32) < 0 ∨ 6 ≤ (3 : Int32).toNatClampNeg) by decide) dL_law_669 ?_
  refine W.eq (g2 := F0 m 670 ls [.int (xs 3), .int 2, .int (xs 1), .ref a0]) rfl ?_
  refine lv_aload_n hx hb dL_law_670 rfl (lv_at hl 4 rfl) ?_
  refine lv_iload hx hb dL_law_671 (lv_at hl 0 rfl) ?_
  refine lv_iconst (v := 4) hx hb dL_law_673 (by decide) ?_
  refine lv_iadd hx hb dL_law_674 ?_
  refine W.eq (g2 := F0 m 675 ls [.int 4, .ref b, .int (xs 3), .int 2, .int (xs 1), .ref a0]) rfl ?_
  refine va_sld hx hb hXs hbl hbA hS (i := 4) (show ¬ ((4 : Int32) < 0 ∨ 6 ≤ (4 : Int32).toNatClampNeg) by decide) dL_law_675 ?_
  refine W.eq (g2 := F0 m 676 ls [.int (xs 4), .int (xs 3), .int 2, .int (xs 1), .ref a0]) rfl ?_
  obtain ⟨hPc, hDc, hFc⟩ := xcut (wc := [(a0, .inr (0, [v11, v12, .ref b13, .ref a4, v14, .ref a3, v15, v16])), (a3, .inr (2, [v47, v48, v49])), (a4, .inl (cT 3, 8, .inr (.inr (.inr (.inr f50))))), (a5, .inr (2, [.ref a6, .int 1, v53])), (a6, .inl (cT 2, 4096, .inr (.inl f54)))]) hP hD hS hA [0, 3, 4, 5, 6] rfl rfl (by decide)
  refine va_calli (vx_runSW (As := [.ref a0, .int (xs 1), .int 2, .int (xs 3), .int (xs 4)]) (rest := []) ⟨hx, hb, hml, hown, htx⟩ (cL_two_12 l hl9 D cT aK aV H.size a0 a3 a4 a5 a6 (xs 1) (xs 3) (xs 4) v11 v12 b13 v14 v15 v16 v47 v48 v49 f50 v53 f54 hto1 hto2 hto3 hto4 ha1 ha2 ha3 ha4 hb1 hb2 hb3 hb4 (by first | rfl | exact h51 | exact h52 | exact h55 | exact h57 | exact h58 | exact h60 | exact h61 | exact h63 | exact h64 | exact h65 | exact h66 | exact h68 | exact h69) (by first | rfl | exact h51 | exact h52 | exact h55 | exact h57 | exact h58 | exact h60 | exact h61 | exact h63 | exact h64 | exact h65 | exact h66 | exact h68 | exact h69) (by first | rfl | exact h51 | exact h52 | exact h55 | exact h57 | exact h58 | exact h60 | exact h61 | exact h63 | exact h64 | exact h65 | exact h66 | exact h68 | exact h69)) (xcSW 5 htx (xw_goodC kw_4_139) rfl rfl rfl (htx _ kw_1_0) (htx _ kw_4_137) ⟨by decide, by decide, by decide +kernel⟩ ⟨Nat.le_of_ble_eq_true rfl, Nat.le_of_ble_eq_true rfl⟩ (htx _ kw_4_138)) ⟨xPre_blind, (fun U hU hW => ⟨rfl, xPre_of hZ hS hFc hPc hDc hK U hU hW⟩)⟩ rfl rfl hl.1 rfl (lv_room (Nat.le_of_ble_eq_true rfl)) dL_law_676 ⟨Nat.le_of_ble_eq_true rfl, Nat.le_of_ble_eq_true rfl⟩) hS (fun q _ h => hFc q h) hFc (fun r1 u9 t H1 locs ht hvm hr9 hB hz1 hk1 hS => ?_)
  obtain ⟨hP1, hK1, hD1⟩ := hB
  rw [ht] at hP1
  obtain ⟨hP, hD⟩ := xjoin (W := [(a1, .inr (5, [v17, .ref a10, v18, v19, v20, v21, v22, v23, v24, v25, v26, v27, v28, v29, v30, v31, v32, v33, v34, v35, v36, v37, v38, v39, .ref a7, .ref a8, v40, v41, v42, v43, v44, v45])), (a2, .inl (cT 2, 1, .inr (.inl f46))), (a7, .inl (cT 5, 8, .inr (.inr (.inr (.inr f56))))), (a8, .inl (cT 1, 8, .inl f59)), (a9, .inl (cT 0, 4096, .inl f62)), (a10, .inl (cT 4, 1024, .inr (.inr (.inr (.inr f67))))), (a0, .inr (0, [v11, v12, .ref b13, .ref a4, v14, .ref a3, v15, .int 1])), (a3, .inr (2, [v47, .int 0, .int 0])), (a4, .inl (cT 3, 8, .inr (.inr (.inr (.inr f50))))), (a5, .inr (2, [.ref a6, .int 1, v53])), (a6, .inl (cT 2, 4096, .inr (.inl f54)))]) hP hD [0, 3, 4, 5, 6] [1, 2, 7, 8, 9, 10] 6 rfl rfl (by decide) (by decide) hk1 hFc hP1 hD1
  generalize H1 = H at hP hS ⊢
  rw [hr9]
  refine W.eq (g2 := F0 m 679 ls [.int 2]) rfl ?_
  refine lv_istore (lv' := [(5, .int 2), (4, .int 0), (3, .ref a2), (2, .ref a1), (1, .ref a0), (0, .ref b)]) hx hb dL_law_679 hl (by decide) rfl (fun ls hl => ?_)
  refine lv_aload_n hx hb dL_law_681 rfl (lv_at hl 3 rfl) ?_
  refine lv_aload_n hx hb dL_law_682 rfl (lv_at hl 5 rfl) ?_
  refine lv_iload hx hb dL_law_683 (lv_at hl 1 rfl) ?_
  refine lv_iconst (v := 1) hx hb dL_law_685 (by decide) ?_
  refine lv_iadd hx hb dL_law_686 ?_
  refine W.eq (g2 := F0 m 687 ls [.int 1, .ref b, .ref a1]) rfl ?_
  refine va_sld hx hb hXs hbl hbA hS (i := 1) (show ¬ ((1 : Int32) < 0 ∨ 6 ≤ (1 : Int32).toNatClampNeg) by decide) dL_law_687 ?_
  refine W.eq (g2 := F0 m 688 ls [.int (xs 1), .ref a1]) rfl ?_
  refine lv_aload_n hx hb dL_law_688 rfl (lv_at hl 5 rfl) ?_
  refine lv_iload hx hb dL_law_689 (lv_at hl 1 rfl) ?_
  refine lv_iconst (v := 2) hx hb dL_law_691 (by decide) ?_
  refine lv_iadd hx hb dL_law_692 ?_
  refine W.eq (g2 := F0 m 693 ls [.int 2, .ref b, .int (xs 1), .ref a1]) rfl ?_
  refine va_sld hx hb hXs hbl hbA hS (i := 2) (show ¬ ((2 : Int32) < 0 ∨ 6 ≤ (2 : Int32).toNatClampNeg) by decide) dL_law_693 ?_
  refine W.eq (g2 := F0 m 694 ls [.int (xs 2), .int (xs 1), .ref a1]) rfl ?_
  rw [hf]
  refine W.eq (g2 := F0 m 694 ls [.int 2, .int (xs 1), .ref a1]) rfl ?_
  refine lv_aload_n hx hb dL_law_694 rfl (lv_at hl 5 rfl) ?_
  refine lv_iload hx hb dL_law_695 (lv_at hl 1 rfl) ?_
  refine lv_iconst (v := 3) hx hb dL_law_697 (by decide) ?_
  refine lv_iadd hx hb dL_law_698 ?_
  refine W.eq (g2 := F0 m 699 ls [.int 3, .ref b, .int 2, .int (xs 1), .ref a1]) rfl ?_
  refine va_sld hx hb hXs hbl hbA hS (i := 3) (show ¬ ((3 : Int32) < 0 ∨ 6 ≤ (3 : Int32).toNatClampNeg) by decide) dL_law_699 ?_
  refine W.eq (g2 := F0 m 700 ls [.int (xs 3), .int 2, .int (xs 1), .ref a1]) rfl ?_
  refine lv_aload_n hx hb dL_law_700 rfl (lv_at hl 5 rfl) ?_
  refine lv_iload hx hb dL_law_701 (lv_at hl 1 rfl) ?_
  refine lv_iconst (v := 4) hx hb dL_law_703 (by decide) ?_
  refine lv_iadd hx hb dL_law_704 ?_
  refine W.eq (g2 := F0 m 705 ls [.int 4, .ref b, .int (xs 3), .int 2, .int (xs 1), .ref a1]) rfl ?_
  refine va_sld hx hb hXs hbl hbA hS (i := 4) (show ¬ ((4 : Int32) < 0 ∨ 6 ≤ (4 : Int32).toNatClampNeg) by decide) dL_law_705 ?_
  refine W.eq (g2 := F0 m 706 ls [.int (xs 4), .int (xs 3), .int 2, .int (xs 1), .ref a1]) rfl ?_
  obtain ⟨hPc, hDc, hFc⟩ := xcut (wc := [(a1, .inr (5, [v17, .ref a10, v18, v19, v20, v21, v22, v23, v24, v25, v26, v27, v28, v29, v30, v31, v32, v33, v34, v35, v36, v37, v38, v39, .ref a7, .ref a8, v40, v41, v42, v43, v44, v45])), (a7, .inl (cT 5, 8, .inr (.inr (.inr (.inr f56))))), (a8, .inl (cT 1, 8, .inl f59)), (a9, .inl (cT 0, 4096, .inl f62)), (a10, .inl (cT 4, 1024, .inr (.inr (.inr (.inr f67)))))]) hP hD hS hA [0, 2, 3, 4, 5] rfl rfl (by decide)
  refine va_callv (va_runV (C := "ValueBenchModel") (As := [.int (xs 1), .int 2, .int (xs 3), .int (xs 4)]) (rest := []) ⟨hx, hb, hml, hown, htx⟩ (cM_two0_15 l hl9 D cT aK aV H.size a1 a7 a8 a9 a10 (xs 1) (xs 3) (xs 4) v17 v18 v19 v20 v21 v22 v23 v24 v25 v26 v27 v28 v29 v30 v31 v32 v33 v34 v35 v36 v37 v38 v39 v40 v41 v42 v43 v44 v45 f56 f59 f62 f67 hto1 hto2 hto3 hto4 ha1 ha2 ha3 ha4 hb1 hb2 hb3 hb4 (by first | rfl | exact h51 | exact h52 | exact h55 | exact h57 | exact h58 | exact h60 | exact h61 | exact h63 | exact h64 | exact h65 | exact h66 | exact h68 | exact h69) (by first | rfl | exact h51 | exact h52 | exact h55 | exact h57 | exact h58 | exact h60 | exact h61 | exact h63 | exact h64 | exact h65 | exact h66 | exact h68 | exact h69) (by first | rfl | exact h51 | exact h52 | exact h55 | exact h57 | exact h58 | exact h60 | exact h61 | exact h63 | exact h64 | exact h65 | exact h66 | exact h68 | exact h69) (by first | rfl | exact h51 | exact h52 | exact h55 | exact h57 | exact h58 | exact h60 | exact h61 | exact h63 | exact h64 | exact h65 | exact h66 | exact h68 | exact h69) (by first | rfl | exact h51 | exact h52 | exact h55 | exact h57 | exact h58 | exact h60 | exact h61 | exact h63 | exact h64 | exact h65 | exact h66 | exact h68 | exact h69) (by first | rfl | exact h51 | exact h52 | exact h55 | exact h57 | exact h58 | exact h60 | exact h61 | exact h63 | exact h64 | exact h65 | exact h66 | exact h68 | exact h69) (by first | rfl | exact h51 | exact h52 | exact h55 | exact h57 | exact h58 | exact h60 | exact h61 | exact h63 | exact h64 | exact h65 | exact h66 | exact h68 | exact h69) (by first | rfl | exact h51 | exact h52 | exact h55 | exact h57 | exact h58 | exact h60 | exact h61 | exact h63 | exact h64 | exact h65 | exact h66 | exact h68 | exact h69) (by first | rfl | exact h51 | exact h52 | exact h55 | exact h57 | exact h58 | exact h60 | exact h61 | exact h63 | exact h64 | exact h65 | exact h66 | exact h68 | exact h69) (by first | rfl | exact h51 | exact h52 | exact h55 | exact h57 | exact h58 | exact h60 | exact h61 | exact h63 | exact h64 | exact h65 | exact h66 | exact h68 | exact h69)) ⟨callB_of 4 htx (xw_goodC kw_7_127) rfl rfl rfl (htx _ kw_1_5) (htx _ kw_7_124) ⟨by decide, by decide, by decide +kernel⟩ ⟨Nat.le_of_ble_eq_true rfl, Nat.le_of_ble_eq_true rfl⟩, (htx _ kw_7_125), (htx _ kw_7_126)⟩ ⟨xPre_blind, va_recv hK hP (ci := 5) rfl (q0 := 0) rfl, (fun U hU hW => ⟨rfl, xPre_of hZ hS hFc hPc hDc hK U hU hW⟩)⟩ rfl rfl hl.1 rfl (lv_room (Nat.le_of_ble_eq_true rfl)) dL_law_706 ⟨Nat.le_of_ble_eq_true rfl, Nat.le_of_ble_eq_true rfl⟩) hS (fun q _ h => hFc q h) hFc (fun u9 t H1 locs ht hvm hr9 hB hz1 hk1 hS => ?_)
  obtain ⟨q2, q3, hP1, hK1, hD1⟩ := hB
  rw [ht] at hP1
  obtain ⟨hP, hD⟩ := xjoin (W := [(a2, .inl (cT 2, 1, .inr (.inl f46))), (a0, .inr (0, [v11, v12, .ref b13, .ref a4, v14, .ref a3, v15, .int 1])), (a3, .inr (2, [v47, .int 0, .int 0])), (a4, .inl (cT 3, 8, .inr (.inr (.inr (.inr f50))))), (a5, .inr (2, [.ref a6, .int 1, v53])), (a6, .inl (cT 2, 4096, .inr (.inl f54))), (a1, .inr (5, [.int 2, .ref a10, .int 2, v19, .int 0, v21, v22, .int 0, .int 1, .int 0, v26, v27, .int 0, v29, v30, .ref a9, .int 4, .int 4, .int 0, .int 100, v36, v37, .int 0, .int 1000000000, .ref a7, .ref a8, v40, v41, v42, v43, .int 1, v45])), (a7, .inl (cT 5, 8, .inr (.inr (.inr (.inr f56))))), (a8, .inl (cT 1, 8, .inl f59)), (a9, .inl (cT 0, 4096, .inl f62)), (a10, .inl (cT 4, 1024, .inr (.inr (.inr (.inr (va_up (va_up f67 0 (some q2)) 1 (some q3))))))), (q2, .inr (6, [.int 0, .long 0, .int 0, .int 0, .int 0, .int 1])), (q3, .inr (6, [.int 0, .long 0, .int 0, .int 0, .int 0, .int 1]))]) hP hD [0, 2, 3, 4, 5] [1, 6, 7, 8, 9, 10] 6 rfl rfl (by decide) (by decide) hk1 hFc hP1 hD1
  generalize H1 = H at hP hS ⊢
  refine lv_aload_n hx hb dL_law_709 rfl (lv_at hl 3 rfl) ?_
  obtain ⟨hPc, hDc, hFc⟩ := xcut (wc := [(a1, .inr (5, [.int 2, .ref a10, .int 2, v19, .int 0, v21, v22, .int 0, .int 1, .int 0, v26, v27, .int 0, v29, v30, .ref a9, .int 4, .int 4, .int 0, .int 100, v36, v37, .int 0, .int 1000000000, .ref a7, .ref a8, v40, v41, v42, v43, .int 1, v45]))]) hP hD hS hA [6] rfl rfl (by decide)
  refine va_calli (va_runV (C := "ValueBenchModel") (As := []) (rest := []) ⟨hx, hb, hml, hown, htx⟩ (cM_thrown_2 l hl9 D cT aK aV H.size a1 (.ref a10) (.int 2) v19 (.int 0) v21 v22 (.int 0) (.int 1) (.int 0) v26 v27 (.int 0) v29 v30 (.ref a9) (.int 4) (.int 4) (.int 0) (.int 100) v36 v37 (.int 0) (.int 1000000000) (.ref a7) (.ref a8) v40 v41 v42 v43 (.int 1) v45) ⟨callB_of 0 htx (xw_goodC kw_5_187) rfl rfl rfl (htx _ kw_1_5) (htx _ kw_5_184) ⟨by decide, by decide, by decide +kernel⟩ ⟨Nat.le_of_ble_eq_true rfl, Nat.le_of_ble_eq_true rfl⟩, (htx _ kw_5_185), (htx _ kw_5_186)⟩ ⟨xPre_blind, va_recv hK hP (ci := 5) rfl (q0 := 6) rfl, (fun U hU hW => ⟨rfl, xPre_of hZ hS hFc hPc hDc hK U hU hW⟩)⟩ rfl rfl hl.1 rfl (lv_room (Nat.le_of_ble_eq_true rfl)) dL_law_710 ⟨Nat.le_of_ble_eq_true rfl, Nat.le_of_ble_eq_true rfl⟩) hS (fun q _ h => hFc q h) hFc (fun r4 u9 t H1 locs ht hvm hr9 hB hz1 hk1 hS => ?_)
  obtain ⟨hP1, hK1, hD1⟩ := hB
  rw [ht] at hP1
  obtain ⟨hP, hD⟩ := xjoin (W := [(a2, .inl (cT 2, 1, .inr (.inl f46))), (a0, .inr (0, [v11, v12, .ref b13, .ref a4, v14, .ref a3, v15, .int 1])), (a3, .inr (2, [v47, .int 0, .int 0])), (a4, .inl (cT 3, 8, .inr (.inr (.inr (.inr f50))))), (a5, .inr (2, [.ref a6, .int 1, v53])), (a6, .inl (cT 2, 4096, .inr (.inl f54))), (a7, .inl (cT 5, 8, .inr (.inr (.inr (.inr f56))))), (a8, .inl (cT 1, 8, .inl f59)), (a9, .inl (cT 0, 4096, .inl f62)), (a10, .inl (cT 4, 1024, .inr (.inr (.inr (.inr (va_up (va_up f67 0 (some q2)) 1 (some q3))))))), (q2, .inr (6, [.int 0, .long 0, .int 0, .int 0, .int 0, .int 1])), (q3, .inr (6, [.int 0, .long 0, .int 0, .int 0, .int 0, .int 1])), (a1, .inr (5, [.int 2, .ref a10, .int 2, v19, .int 0, v21, v22, .int 0, .int 1, .int 0, v26, v27, .int 0, v29, v30, .ref a9, .int 4, .int 4, .int 0, .int 100, v36, v37, .int 0, .int 1000000000, .ref a7, .ref a8, v40, v41, v42, v43, .int 1, v45]))]) hP hD [6] [0, 1, 2, 3, 4, 5, 7, 8, 9, 10, 11, 12] 12 rfl rfl (by decide) (by decide) hk1 hFc hP1 hD1
  generalize H1 = H at hP hS ⊢
  rw [hr9]
  refine W.eq (g2 := F0 m 713 ls [.int 2]) rfl ?_
  refine lv_iload hx hb dL_law_713 (lv_at hl 0 rfl) ?_
  refine lv_icmp_eq (tgt := 720) hx hb dL_law_715 (by decide) (fun _ => ?_) (fun h => ((by revert h; decide : False)).elim)
  refine lv_goto (tgt := 906) hx hb dL_law_720 (by decide) ?_
  refine lv_iinc (v := 6) (lv' := [(4, .int 6), (5, .int 2), (3, .ref a2), (2, .ref a1), (1, .ref a0), (0, .ref b)]) hx hb dL_law_906 hl (k := 1) rfl (by decide) (by decide) rfl (fun ls hl => ?_)
  refine lv_goto (tgt := 23) hx hb dL_law_909 (by decide) ?_
  refine lv_iload hx hb dL_law_23 (lv_at hl 0 rfl) ?_
  refine lv_aload_n hx hb dL_law_25 rfl (lv_at hl 5 rfl) ?_
  refine va_slen hx hb hXs hbl hbA hS dL_law_26 ?_
  refine W.eq (g2 := F0 m 27 ls [.int 6, .int 6]) rfl ?_
  refine lv_bipush (v := 6) hx hb dL_law_27 (by decide) ?_
  refine lv_isub hx hb dL_law_29 ?_
  refine W.eq (g2 := F0 m 30 ls [.int 0, .int 6]) rfl ?_
  refine lv_icmp_gt (tgt := 912) hx hb dL_law_30 (by decide) (fun _ => ?_) (fun h => ((by revert h; decide : False)).elim)
  refine lv_iconst (v := 1) hx hb dL_law_912 (by decide) ?_
  exact va_forget (fun q h => hA2 _ (hS.2.2 q h)) (W.widen (k := 600002) (n := 7302232) (Nat.le_of_ble_eq_true rfl) (Nat.le_of_ble_eq_true rfl) (lw_ret hx hb hr hlocks dL_law_913))
