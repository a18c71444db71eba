set_option maxHeartbeats 400000000 in
set_option maxRecDepth 100000 in
theorem lf_sort0_p2 {p : Program} {e : Env} {s : State} {m : MethodId} {below : List Frame} {meth : Method} {c : Code} (l : Launch) (hl9 : l.stackTraces = false) (D : va_G) (cT : Nat → ClassId) (aK aV : Nat → Nat) {A : Nat → Prop} {b : Nat} {xs : Nat → Int32} (C : xLw p s m meth c b D cT aK aV A) {H : Heap} {locs : List Loc} {ls : Array Slot} (a0 : Nat) (a1 : Nat) (a2 : Nat) (a3 : Nat) (a4 : Nat) (a5 : Nat) (a6 : Nat) (a7 : Nat) (a8 : Nat) (a9 : Nat) (a10 : Nat) (a11 : Nat) (v12 : Value) (v13 : Value) (v14 : Value) (b15 : Nat) (v16 : Value) (v17 : Value) (v18 : Value) (v19 : Value) (v20 : Value) (v21 : Value) (v22 : Value) (v23 : Value) (v24 : Value) (v25 : Value) (v26 : Value) (v27 : Value) (v28 : Value) (v29 : Value) (v30 : Value) (v31 : Value) (v32 : Value) (v33 : Value) (v34 : Value) (v35 : Value) (v36 : Value) (v37 : Value) (v38 : Value) (v39 : Value) (v40 : Value) (v41 : Value) (v42 : Value) (v43 : Value) (v44 : Value) (v45 : Value) (v46 : Value) (f47 : Nat → Int64) (v48 : Value) (v49 : Value) (v50 : Value) (f51 : Nat → Option Nat) (b53 : Nat) (v55 : Value) (f56 : Nat → Int64) (f58 : Nat → Option Nat) (f61 : Nat → Int32) (f64 : Nat → Int32) (f69 : Nat → Option Nat) (f72 : Nat → Int32) (h52 : f51 (xs 3).toNatClampNeg = some a5) (h54 : f51 (xs 4).toNatClampNeg = some b53) (h57 : f56 0 = 0) (h59 : f58 (xs 3).toNatClampNeg = some a9) (h60 : f58 (xs 4).toNatClampNeg = some a11) (h62 : f61 (xs 3).toNatClampNeg = 4) (h63 : f61 (xs 4).toNatClampNeg = 4) (h65 : f64 0 = 110) (h66 : f64 1 = 117) (h67 : f64 2 = 108) (h68 : f64 3 = 108) (h70 : f69 0 = none) (h71 : f69 1 = none) (h73 : f72 0 = 110) (h74 : f72 1 = 117) (h75 : f72 2 = 108) (h76 : f72 3 = 108) (hto1 : ¬ (xs 1) < 0) (hto2 : ¬ 7 < (xs 1)) (hto3 : (xs 1) ≤ 7) (hto4 : vp_in (xs 1) 8) (hf : xs 2 = 0) (ha1 : ¬ (xs 3) < 0) (ha2 : ¬ 7 < (xs 3)) (ha3 : (xs 3) ≤ 7) (ha4 : vp_in (xs 3) 8) (hb1 : ¬ (xs 4) < 0) (hb2 : ¬ 7 < (xs 4)) (hb3 : (xs 4) ≤ 7) (hb4 : vp_in (xs 4) 8) (hXs : va_X b 6 xs s s.heap) (hP : va_P D xcl [(a0, .inr (0, [v12, v13, v14, .ref a4, .ref b15, .ref a3, v16, v17])), (a1, .inr (5, [v18, .ref a10, v19, v20, v21, v22, v23, v24, v25, v26, v27, v28, v29, v30, v31, v32, v33, v34, v35, v36, v37, v38, v39, v40, .ref a7, .ref a8, v41, v42, v43, v44, v45, v46])), (a2, .inl (cT 2, 1, .inr (.inl f47))), (a3, .inr (2, [v48, v49, v50])), (a4, .inl (cT 3, 8, .inr (.inr (.inr (.inr f51))))), (a5, .inr (2, [.ref a6, .int 1, v55])), (a6, .inl (cT 2, 4096, .inr (.inl f56))), (a7, .inl (cT 5, 8, .inr (.inr (.inr (.inr f58))))), (a8, .inl (cT 1, 8, .inl f61)), (a9, .inl (cT 0, 4096, .inl f64)), (a10, .inl (cT 4, 1024, .inr (.inr (.inr (.inr f69))))), (a11, .inl (cT 0, 4096, .inl f72))] H) (hD : va_D A [(a0, .inr (0, [v12, v13, v14, .ref a4, .ref b15, .ref a3, v16, v17])), (a1, .inr (5, [v18, .ref a10, v19, v20, v21, v22, v23, v24, v25, v26, v27, v28, v29, v30, v31, v32, v33, v34, v35, v36, v37, v38, v39, v40, .ref a7, .ref a8, v41, v42, v43, v44, v45, v46])), (a2, .inl (cT 2, 1, .inr (.inl f47))), (a3, .inr (2, [v48, v49, v50])), (a4, .inl (cT 3, 8, .inr (.inr (.inr (.inr f51))))), (a5, .inr (2, [.ref a6, .int 1, v55])), (a6, .inl (cT 2, 4096, .inr (.inl f56))), (a7, .inl (cT 5, 8, .inr (.inr (.inr (.inr f58))))), (a8, .inl (cT 1, 8, .inl f61)), (a9, .inl (cT 0, 4096, .inl f64)), (a10, .inl (cT 4, 1024, .inr (.inr (.inr (.inr f69))))), (a11, .inl (cT 0, 4096, .inl f72))]) (hS : va_S A s.heap H locs) (hl : lv_has ls 8 [(4, .int 0), (3, .ref a2), (2, .ref a1), (1, .ref a0), (0, .ref b)]) : W p l e room_1 s m #[Value.ref b] below meth c H locs 54 107242 (lw_Z below #[Value.ref b] s) (F0 m 723 ls []) := by
  obtain ⟨hx, hb, hr, hml, hown, htx, hbl, hbA, hlocks, hK, hZ, hA, hA2⟩ := C
  refine lv_aload_n hx hb dL_law_723 rfl (lv_at hl 3 rfl) ?_
  refine lv_aload_n hx hb dL_law_724 rfl (lv_at hl 4 rfl) ?_
  refine lv_iload hx hb dL_law_725 (lv_at hl 0 rfl) ?_
  refine lv_iconst (v := 1) hx hb dL_law_727 (by decide) ?_
  refine lv_iadd hx hb dL_law_728 ?_
  refine W.eq (g2 := F0 m 729 ls [.int 1, .ref b, .ref a0]) rfl ?_
  refine va_sld hx hb hXs hbl hbA hS (i := 1) (show ¬ ((1 : Int32) < 0 ∨ 6 ≤ (1 : Int32).toNatClampNeg) by decide) dL_law_729 ?_
  refine W.eq (g2 := F0 m 730 ls [.int (xs 1), .ref a0]) rfl ?_
  refine lv_aload_n hx hb dL_law_730 rfl (lv_at hl 4 rfl) ?_
  refine lv_iload hx hb dL_law_731 (lv_at hl 0 rfl) ?_
  refine lv_iconst (v := 2) hx hb dL_law_733 (by decide) ?_
  refine lv_iadd hx hb dL_law_734 ?_
  refine W.eq (g2 := F0 m 735 ls [.int 2, .ref b, .int (xs 1), .ref a0]) rfl ?_
  refine va_sld hx hb hXs hbl hbA hS (i := 2) (show ¬ ((2 : Int32) < 0 ∨ 6 ≤ (2 : Int32).toNatClampNeg) by decide) dL_law_735 ?_
  refine W.eq (g2 := F0 m 736 ls [.int (xs 2), .int (xs 1), .ref a0]) rfl ?_
  rw [hf]
  refine W.eq (g2 := F0 m 736 ls [.int 0, .int (xs 1), .ref a0]) rfl ?_
  refine lv_aload_n hx hb dL_law_736 rfl (lv_at hl 4 rfl) ?_
  refine lv_iload hx hb dL_law_737 (lv_at hl 0 rfl) ?_
  refine lv_iconst (v := 3) hx hb dL_law_739 (by decide) ?_
  refine lv_iadd hx hb dL_law_740 ?_
  refine W.eq (g2 := F0 m 741 ls [.int 3, .ref b, .int 0, .int (xs 1), .ref a0]) rfl ?_
  refine va_sld hx hb hXs hbl hbA hS (i := 3) (show ¬ ((3 : Int32) < 0 ∨ 6 ≤ (3 : Int32).toNatClampNeg) by decide) dL_law_741 ?_
  refine W.eq (g2 := F0 m 742 ls [.int (xs 3), .int 0, .int (xs 1), .ref a0]) rfl ?_
  refine lv_aload_n hx hb dL_law_742 rfl (lv_at hl 4 rfl) ?_
  refine lv_iload hx hb dL_law_743 (lv_at hl 0 rfl) ?_
  refine lv_iconst (v := 4) hx hb dL_law_745 (by decide) ?_
  refine lv_iadd hx hb dL_law_746 ?_
  refine W.eq (g2 := F0 m 747 ls [.int 4, .ref b, .int (xs 3), .int 0, .int (xs 1), .ref a0]) rfl ?_
  refine va_sld hx hb hXs hbl hbA hS (i := 4) (show ¬ ((4 : Int32) < 0 ∨ 6 ≤ (4 : Int32).toNatClampNeg) by decide) dL_law_747 ?_
  refine W.eq (g2 := F0 m 748 ls [.int (xs 4), .int (xs 3), .int 0, .int (xs 1), .ref a0]) rfl ?_
  obtain ⟨hPc, hDc, hFc⟩ := xcut (wc := [(a0, .inr (0, [v12, v13, v14, .ref a4, .ref b15, .ref a3, v16, v17])), (a3, .inr (2, [v48, v49, v50])), (a4, .inl (cT 3, 8, .inr (.inr (.inr (.inr f51))))), (a5, .inr (2, [.ref a6, .int 1, v55])), (a6, .inl (cT 2, 4096, .inr (.inl f56)))]) hP hD hS hA [0, 3, 4, 5, 6] rfl rfl (by decide)
  refine va_calli (vx_runSW (As := [.ref a0, .int (xs 1), .int 0, .int (xs 3), .int (xs 4)]) (rest := []) ⟨hx, hb, hml, hown, htx⟩ (cL_sort_9 l hl9 D cT aK aV H.size a0 a3 a4 a5 a6 (xs 1) (xs 3) (xs 4) v12 v13 v14 b15 v16 v17 v48 v49 v50 f51 b53 v55 f56 hto1 hto2 hto3 hto4 ha1 ha2 ha3 ha4 hb1 hb2 hb3 hb4 (by first | rfl | exact h52 | exact h54 | exact h57 | exact h59 | exact h60 | exact h62 | exact h63 | exact h65 | exact h66 | exact h67 | exact h68 | exact h70 | exact h71 | exact h73 | exact h74 | exact h75 | exact h76) (by first | rfl | exact h52 | exact h54 | exact h57 | exact h59 | exact h60 | exact h62 | exact h63 | exact h65 | exact h66 | exact h67 | exact h68 | exact h70 | exact h71 | exact h73 | exact h74 | exact h75 | exact h76) (by first | rfl | exact h52 | exact h54 | exact h57 | exact h59 | exact h60 | exact h62 | exact h63 | exact h65 | exact h66 | exact h67 | exact h68 | exact h70 | exact h71 | exact h73 | exact h74 | exact h75 | exact h76)) (xcSW 5 htx (xw_goodC kw_5_14) rfl rfl rfl (htx _ kw_1_0) (htx _ kw_5_12) ⟨by decide, by decide, by decide +kernel⟩ ⟨Nat.le_of_ble_eq_true rfl, Nat.le_of_ble_eq_true rfl⟩ (htx _ kw_5_13)) ⟨xPre_blind, (fun U hU hW => ⟨rfl, xPre_of hZ hS hFc hPc hDc hK U hU hW⟩)⟩ rfl rfl hl.1 rfl (lv_room (Nat.le_of_ble_eq_true rfl)) dL_law_748 ⟨Nat.le_of_ble_eq_true rfl, Nat.le_of_ble_eq_true rfl⟩) hS (fun q _ h => hFc q h) hFc (fun r1 u9 t H1 locs ht hvm hr9 hB hz1 hk1 hS => ?_)
  obtain ⟨hP1, hK1, hD1⟩ := hB
  rw [ht] at hP1
  obtain ⟨hP, hD⟩ := xjoin (W := [(a1, .inr (5, [v18, .ref a10, v19, v20, v21, v22, v23, v24, v25, v26, v27, v28, v29, v30, v31, v32, v33, v34, v35, v36, v37, v38, v39, v40, .ref a7, .ref a8, v41, v42, v43, v44, v45, v46])), (a2, .inl (cT 2, 1, .inr (.inl f47))), (a7, .inl (cT 5, 8, .inr (.inr (.inr (.inr f58))))), (a8, .inl (cT 1, 8, .inl f61)), (a9, .inl (cT 0, 4096, .inl f64)), (a10, .inl (cT 4, 1024, .inr (.inr (.inr (.inr f69))))), (a11, .inl (cT 0, 4096, .inl f72)), (a0, .inr (0, [v12, v13, v14, .ref a4, .ref b15, .ref a3, v16, .int 1])), (a3, .inr (2, [v48, .int 0, .int 0])), (a4, .inl (cT 3, 8, .inr (.inr (.inr (.inr f51))))), (a5, .inr (2, [.ref a6, .int 1, v55])), (a6, .inl (cT 2, 4096, .inr (.inl f56)))]) hP hD [0, 3, 4, 5, 6] [1, 2, 7, 8, 9, 10, 11] 7 rfl rfl (by decide) (by decide) hk1 hFc hP1 hD1
  generalize H1 = H at hP hS ⊢
  rw [hr9]
  refine W.eq (g2 := F0 m 751 ls [.int 2]) rfl ?_
  refine lv_istore (lv' := [(5, .int 2), (4, .int 0), (3, .ref a2), (2, .ref a1), (1, .ref a0), (0, .ref b)]) hx hb dL_law_751 hl (by decide) rfl (fun ls hl => ?_)
  refine lv_aload_n hx hb dL_law_753 rfl (lv_at hl 3 rfl) ?_
  refine lv_aload_n hx hb dL_law_754 rfl (lv_at hl 5 rfl) ?_
  refine lv_iload hx hb dL_law_755 (lv_at hl 1 rfl) ?_
  refine lv_iconst (v := 1) hx hb dL_law_757 (by decide) ?_
  refine lv_iadd hx hb dL_law_758 ?_
  refine W.eq (g2 := F0 m 759 ls [.int 1, .ref b, .ref a1]) rfl ?_
  refine va_sld hx hb hXs hbl hbA hS (i := 1) (show ¬ ((1 : Int32) < 0 ∨ 6 ≤ (1 : Int32).toNatClampNeg) by decide) dL_law_759 ?_
  refine W.eq (g2 := F0 m 760 ls [.int (xs 1), .ref a1]) rfl ?_
  refine lv_aload_n hx hb dL_law_760 rfl (lv_at hl 5 rfl) ?_
  refine lv_iload hx hb dL_law_761 (lv_at hl 1 rfl) ?_
  refine lv_iconst (v := 2) hx hb dL_law_763 (by decide) ?_
  refine lv_iadd hx hb dL_law_764 ?_
  refine W.eq (g2 := F0 m 765 ls [.int 2, .ref b, .int (xs 1), .ref a1]) rfl ?_
  refine va_sld hx hb hXs hbl hbA hS (i := 2) (show ¬ ((2 : Int32) < 0 ∨ 6 ≤ (2 : Int32).toNatClampNeg) by decide) dL_law_765 ?_
  refine W.eq (g2 := F0 m 766 ls [.int (xs 2), .int (xs 1), .ref a1]) rfl ?_
  rw [hf]
  refine W.eq (g2 := F0 m 766 ls [.int 0, .int (xs 1), .ref a1]) rfl ?_
  refine lv_aload_n hx hb dL_law_766 rfl (lv_at hl 5 rfl) ?_
  refine lv_iload hx hb dL_law_767 (lv_at hl 1 rfl) ?_
  refine lv_iconst (v := 3) hx hb dL_law_769 (by decide) ?_
  refine lv_iadd hx hb dL_law_770 ?_
  refine W.eq (g2 := F0 m 771 ls [.int 3, .ref b, .int 0, .int (xs 1), .ref a1]) rfl ?_
  refine va_sld hx hb hXs hbl hbA hS (i := 3) (show ¬ ((3 : Int32) < 0 ∨ 6 ≤ (3 : Int32).toNatClampNeg) by decide) dL_law_771 ?_
  refine W.eq (g2 := F0 m 772 ls [.int (xs 3), .int 0, .int (xs 1), .ref a1]) rfl ?_
  refine lv_aload_n hx hb dL_law_772 rfl (lv_at hl 5 rfl) ?_
  refine lv_iload hx hb dL_law_773 (lv_at hl 1 rfl) ?_
  refine lv_iconst (v := 4) hx hb dL_law_775 (by decide) ?_
  refine lv_iadd hx hb dL_law_776 ?_
  refine W.eq (g2 := F0 m 777 ls [.int 4, .ref b, .int (xs 3), .int 0, .int (xs 1), .ref a1]) rfl ?_
  refine va_sld hx hb hXs hbl hbA hS (i := 4) (show ¬ ((4 : Int32) < 0 ∨ 6 ≤ (4 : Int32).toNatClampNeg) by decide) dL_law_777 ?_
  refine W.eq (g2 := F0 m 778 ls [.int (xs 4), .int (xs 3), .int 0, .int (xs 1), .ref a1]) rfl ?_
  obtain ⟨hPc, hDc, hFc⟩ := xcut (wc := [(a1, .inr (5, [v18, .ref a10, v19, v20, v21, v22, v23, v24, v25, v26, v27, v28, v29, v30, v31, v32, v33, v34, v35, v36, v37, v38, v39, v40, .ref a7, .ref a8, v41, v42, v43, v44, v45, v46])), (a7, .inl (cT 5, 8, .inr (.inr (.inr (.inr f58))))), (a8, .inl (cT 1, 8, .inl f61)), (a9, .inl (cT 0, 4096, .inl f64)), (a10, .inl (cT 4, 1024, .inr (.inr (.inr (.inr f69))))), (a11, .inl (cT 0, 4096, .inl f72))]) hP hD hS hA [0, 2, 3, 4, 5, 6] rfl rfl (by decide)
  refine va_callv (va_runV (C := "ValueBenchModel") (As := [.int (xs 1), .int 0, .int (xs 3), .int (xs 4)]) (rest := []) ⟨hx, hb, hml, hown, htx⟩ (cM_sort0_9 l hl9 D cT aK aV H.size a1 a7 a8 a9 a10 a11 (xs 1) (xs 3) (xs 4) v18 v19 v20 v21 v22 v23 v24 v25 v26 v27 v28 v29 v30 v31 v32 v33 v34 v35 v36 v37 v38 v39 v40 v41 v42 v43 v44 v45 v46 f58 f61 f64 f69 f72 hto1 hto2 hto3 hto4 ha1 ha2 ha3 ha4 hb1 hb2 hb3 hb4 (by first | rfl | exact h52 | exact h54 | exact h57 | exact h59 | exact h60 | exact h62 | exact h63 | exact h65 | exact h66 | exact h67 | exact h68 | exact h70 | exact h71 | exact h73 | exact h74 | exact h75 | exact h76) (by first | rfl | exact h52 | exact h54 | exact h57 | exact h59 | exact h60 | exact h62 | exact h63 | exact h65 | exact h66 | exact h67 | exact h68 | exact h70 | exact h71 | exact h73 | exact h74 | exact h75 | exact h76) (by first | rfl | exact h52 | exact h54 | exact h57 | exact h59 | exact h60 | exact h62 | exact h63 | exact h65 | exact h66 | exact h67 | exact h68 | exact h70 | exact h71 | exact h73 | exact h74 | exact h75 | exact h76) (by first | rfl | exact h52 | exact h54 | exact h57 | exact h59 | exact h60 | exact h62 | exact h63 | exact h65 | exact h66 | exact h67 | exact h68 | exact h70 | exact h71 | exact h73 | exact h74 | exact h75 | exact h76) (by first | rfl | exact h52 | exact h54 | exact h57 | exact h59 | exact h60 | exact h62 | exact h63 | exact h65 | exact h66 | exact h67 | exact h68 | exact h70 | exact h71 | exact h73 | exact h74 | exact h75 | exact h76) (by first | rfl | exact h52 | exact h54 | exact h57 | exact h59 | exact h60 | exact h62 | exact h63 | exact h65 | exact h66 | exact h67 | exact h68 | exact h70 | exact h71 | exact h73 | exact h74 | exact h75 | exact h76) (by first | rfl | exact h52 | exact h54 | exact h57 | exact h59 | exact h60 | exact h62 | exact h63 | exact h65 | exact h66 | exact h67 | exact h68 | exact h70 | exact h71 | exact h73 | exact h74 | exact h75 | exact h76) (by first | rfl | exact h52 | exact h54 | exact h57 | exact h59 | exact h60 | exact h62 | exact h63 | exact h65 | exact h66 | exact h67 | exact h68 | exact h70 | exact h71 | exact h73 | exact h74 | exact h75 | exact h76) (by first | rfl | exact h52 | exact h54 | exact h57 | exact h59 | exact h60 | exact h62 | exact h63 | exact h65 | exact h66 | exact h67 | exact h68 | exact h70 | exact h71 | exact h73 | exact h74 | exact h75 | exact h76) (by first | rfl | exact h52 | exact h54 | exact h57 | exact h59 | exact h60 | exact h62 | exact h63 | exact h65 | exact h66 | exact h67 | exact h68 | exact h70 | exact h71 | exact h73 | exact h74 | exact h75 | exact h76) (by first | rfl | exact h52 | exact h54 | exact h57 | exact h59 | exact h60 | exact h62 | exact h63 | exact h65 | exact h66 | exact h67 | exact h68 | exact h70 | exact h71 | exact h73 | exact h74 | exact h75 | exact h76) (by first | rfl | exact h52 | exact h54 | exact h57 | exact h59 | exact h60 | exact h62 | exact h63 | exact h65 | exact h66 | exact h67 | exact h68 | exact h70 | exact h71 | exact h73 | exact h74 | exact h75 | exact h76) (by first | rfl | exact h52 | exact h54 | exact h57 | exact h59 | exact h60 | exact h62 | exact h63 | exact h65 | exact h66 | exact h67 | exact h68 | exact h70 | exact h71 | exact h73 | exact h74 | exact h75 | exact h76) (by first | rfl | exact h52 | exact h54 | exact h57 | exact h59 | exact h60 | exact h62 | exact h63 | exact h65 | exact h66 | exact h67 | exact h68 | exact h70 | exact h71 | exact h73 | exact h74 | exact h75 | exact h76)) ⟨callB_of 4 htx (xw_goodC kw_7_131) rfl rfl rfl (htx _ kw_1_5) (htx _ kw_7_128) ⟨by decide, by decide, by decide +kernel⟩ ⟨Nat.le_of_ble_eq_true rfl, Nat.le_of_ble_eq_true rfl⟩, (htx _ kw_7_129), (htx _ kw_7_130)⟩ ⟨xPre_blind, va_recv hK hP (ci := 5) rfl (q0 := 0) rfl, (fun U hU hW => ⟨rfl, xPre_of hZ hS hFc hPc hDc hK U hU hW⟩)⟩ rfl rfl hl.1 rfl (lv_room (Nat.le_of_ble_eq_true rfl)) dL_law_778 ⟨Nat.le_of_ble_eq_true rfl, Nat.le_of_ble_eq_true rfl⟩) hS (fun q _ h => hFc q h) hFc (fun u9 t H1 locs ht hvm hr9 hB hz1 hk1 hS => ?_)
  obtain ⟨q2, q3, hP1, hK1, hD1⟩ := hB
  rw [ht] at hP1
  obtain ⟨hP, hD⟩ := xjoin (W := [(a2, .inl (cT 2, 1, .inr (.inl f47))), (a0, .inr (0, [v12, v13, v14, .ref a4, .ref b15, .ref a3, v16, .int 1])), (a3, .inr (2, [v48, .int 0, .int 0])), (a4, .inl (cT 3, 8, .inr (.inr (.inr (.inr f51))))), (a5, .inr (2, [.ref a6, .int 1, v55])), (a6, .inl (cT 2, 4096, .inr (.inl f56))), (a1, .inr (5, [.int 2, .ref a10, .int 2, v20, .int 0, v22, v23, .int 0, .int 1, .int 0, v27, v28, .int 0, v30, v31, .ref a11, .int 4, .int 4, .int 0, .int 100, v37, v38, .int 0, .int 1000000000, .ref a7, .ref a8, v41, v42, v43, v44, .int 1, v46])), (a7, .inl (cT 5, 8, .inr (.inr (.inr (.inr f58))))), (a8, .inl (cT 1, 8, .inl f61)), (a9, .inl (cT 0, 4096, .inl f64)), (a10, .inl (cT 4, 1024, .inr (.inr (.inr (.inr (va_up (va_up f69 0 (some q2)) 1 (some q3))))))), (a11, .inl (cT 0, 4096, .inl f72)), (q2, .inr (6, [.int 0, .long 0, .int 0, .int 0, .int 0, .int 1])), (q3, .inr (6, [.int 0, .long 0, .int 0, .int 0, .int 0, .int 1]))]) hP hD [0, 2, 3, 4, 5, 6] [1, 7, 8, 9, 10, 11] 6 rfl rfl (by decide) (by decide) hk1 hFc hP1 hD1
  generalize H1 = H at hP hS ⊢
  refine lv_aload_n hx hb dL_law_781 rfl (lv_at hl 3 rfl) ?_
  obtain ⟨hPc, hDc, hFc⟩ := xcut (wc := [(a1, .inr (5, [.int 2, .ref a10, .int 2, v20, .int 0, v22, v23, .int 0, .int 1, .int 0, v27, v28, .int 0, v30, v31, .ref a11, .int 4, .int 4, .int 0, .int 100, v37, v38, .int 0, .int 1000000000, .ref a7, .ref a8, v41, v42, v43, v44, .int 1, v46]))]) hP hD hS hA [6] rfl rfl (by decide)
  refine va_calli (va_runV (C := "ValueBenchModel") (As := []) (rest := []) ⟨hx, hb, hml, hown, htx⟩ (cM_thrown_2 l hl9 D cT aK aV H.size a1 (.ref a10) (.int 2) v20 (.int 0) v22 v23 (.int 0) (.int 1) (.int 0) v27 v28 (.int 0) v30 v31 (.ref a11) (.int 4) (.int 4) (.int 0) (.int 100) v37 v38 (.int 0) (.int 1000000000) (.ref a7) (.ref a8) v41 v42 v43 v44 (.int 1) v46) ⟨callB_of 0 htx (xw_goodC kw_5_187) rfl rfl rfl (htx _ kw_1_5) (htx _ kw_5_184) ⟨by decide, by decide, by decide +kernel⟩ ⟨Nat.le_of_ble_eq_true rfl, Nat.le_of_ble_eq_true rfl⟩, (htx _ kw_5_185), (htx _ kw_5_186)⟩ ⟨xPre_blind, va_recv hK hP (ci := 5) rfl (q0 := 6) rfl, (fun U hU hW => ⟨rfl, xPre_of hZ hS hFc hPc hDc hK U hU hW⟩)⟩ rfl rfl hl.1 rfl (lv_room (Nat.le_of_ble_eq_true rfl)) dL_law_782 ⟨Nat.le_of_ble_eq_true rfl, Nat.le_of_ble_eq_true rfl⟩) hS (fun q _ h => hFc q h) hFc (fun r4 u9 t H1 locs ht hvm hr9 hB hz1 hk1 hS => ?_)
  obtain ⟨hP1, hK1, hD1⟩ := hB
  rw [ht] at hP1
  obtain ⟨hP, hD⟩ := xjoin (W := [(a2, .inl (cT 2, 1, .inr (.inl f47))), (a0, .inr (0, [v12, v13, v14, .ref a4, .ref b15, .ref a3, v16, .int 1])), (a3, .inr (2, [v48, .int 0, .int 0])), (a4, .inl (cT 3, 8, .inr (.inr (.inr (.inr f51))))), (a5, .inr (2, [.ref a6, .int 1, v55])), (a6, .inl (cT 2, 4096, .inr (.inl f56))), (a7, .inl (cT 5, 8, .inr (.inr (.inr (.inr f58))))), (a8, .inl (cT 1, 8, .inl f61)), (a9, .inl (cT 0, 4096, .inl f64)), (a10, .inl (cT 4, 1024, .inr (.inr (.inr (.inr (va_up (va_up f69 0 (some q2)) 1 (some q3))))))), (a11, .inl (cT 0, 4096, .inl f72)), (q2, .inr (6, [.int 0, .long 0, .int 0, .int 0, .int 0, .int 1])), (q3, .inr (6, [.int 0, .long 0, .int 0, .int 0, .int 0, .int 1])), (a1, .inr (5, [.int 2, .ref a10, .int 2, v20, .int 0, v22, v23, .int 0, .int 1, .int 0, v27, v28, .int 0, v30, v31, .ref a11, .int 4, .int 4, .int 0, .int 100, v37, v38, .int 0, .int 1000000000, .ref a7, .ref a8, v41, v42, v43, v44, .int 1, v46]))]) hP hD [6] [0, 1, 2, 3, 4, 5, 7, 8, 9, 10, 11, 12, 13] 13 rfl rfl (by decide) (by decide) hk1 hFc hP1 hD1
  generalize H1 = H at hP hS ⊢
  rw [hr9]
  refine W.eq (g2 := F0 m 785 ls [.int 2]) rfl ?_
  refine lv_iload hx hb dL_law_785 (lv_at hl 0 rfl) ?_
  refine lv_icmp_eq (tgt := 792) hx hb dL_law_787 (by decide) (fun _ => ?_) (fun h => ((by revert h; decide : False)).elim)
  refine lv_goto (tgt := 906) hx hb dL_law_792 (by decide) ?_
  refine lv_iinc (v := 6) (lv' := [(4, .int 6), (5, .int 2), (3, .ref a2), (2, .ref a1), (1, .ref a0), (0, .ref b)]) hx hb dL_law_906 hl (k := 1) rfl (by decide) (by decide) rfl (fun ls hl => ?_)
  refine lv_goto (tgt := 23) hx hb dL_law_909 (by decide) ?_
  refine lv_iload hx hb dL_law_23 (lv_at hl 0 rfl) ?_
  refine lv_aload_n hx hb dL_law_25 rfl (lv_at hl 5 rfl) ?_
  refine va_slen hx hb hXs hbl hbA hS dL_law_26 ?_
  refine W.eq (g2 := F0 m 27 ls [.int 6, .int 6]) rfl ?_
  refine lv_bipush (v := 6) hx hb dL_law_27 (by decide) ?_
  refine lv_isub hx hb dL_law_29 ?_
  refine W.eq (g2 := F0 m 30 ls [.int 0, .int 6]) rfl ?_
  refine lv_icmp_gt (tgt := 912) hx hb dL_law_30 (by decide) (fun _ => ?_) (fun h => ((by revert h; decide : False)).elim)
  refine lv_iconst (v := 1) hx hb dL_law_912 (by decide) ?_
  exact va_forget (fun q h => hA2 _ (hS.2.2 q h)) (W.widen (k := 600002) (n := 7302232) (Nat.le_of_ble_eq_true rfl) (Nat.le_of_ble_eq_true rfl) (lw_ret hx hb hr hlocks dL_law_913))
set_option maxHeartbeats 400000000 in
set_option maxRecDepth 100000 in
theorem lf_sort0_p3 {p : Program} {e : Env} {s : State} {m : MethodId} {below : List Frame} {meth : Method} {c : Code} (l : Launch) (hl9 : l.stackTraces = false) (D : va_G) (cT : Nat → ClassId) (aK aV : Nat → Nat) {A : Nat → Prop} {b : Nat} {xs : Nat → Int32} (C : xLw p s m meth c b D cT aK aV A) {H : Heap} {locs : List Loc} {ls : Array Slot} (a0 : Nat) (a1 : Nat) (a2 : Nat) (a3 : Nat) (a4 : Nat) (a5 : Nat) (a6 : Nat) (a7 : Nat) (a8 : Nat) (a9 : Nat) (a10 : Nat) (a11 : Nat) (v12 : Value) (v13 : Value) (v14 : Value) (b15 : Nat) (v16 : Value) (v17 : Value) (v18 : Value) (v19 : Value) (v20 : Value) (v21 : Value) (v22 : Value) (v23 : Value) (v24 : Value) (v25 : Value) (v26 : Value) (v27 : Value) (v28 : Value) (v29 : Value) (v30 : Value) (v31 : Value) (v32 : Value) (v33 : Value) (v34 : Value) (v35 : Value) (v36 : Value) (v37 : Value) (v38 : Value) (v39 : Value) (v40 : Value) (v41 : Value) (v42 : Value) (v43 : Value) (v44 : Value) (v45 : Value) (v46 : Value) (f47 : Nat → Int64) (v48 : Value) (v49 : Value) (v50 : Value) (f51 : Nat → Option Nat) (b53 : Nat) (v55 : Value) (f56 : Nat → Int64) (f58 : Nat → Option Nat) (f61 : Nat → Int32) (f64 : Nat → Int32) (f69 : Nat → Option Nat) (f72 : Nat → Int32) (h52 : f51 (xs 3).toNatClampNeg = some a5) (h54 : f51 (xs 4).toNatClampNeg = some b53) (h57 : f56 0 = 0) (h59 : f58 (xs 3).toNatClampNeg = some a9) (h60 : f58 (xs 4).toNatClampNeg = some a11) (h62 : f61 (xs 3).toNatClampNeg = 4) (h63 : f61 (xs 4).toNatClampNeg = 4) (h65 : f64 0 = 110) (h66 : f64 1 = 117) (h67 : f64 2 = 108) (h68 : f64 3 = 108) (h70 : f69 0 = none) (h71 : f69 1 = none) (h73 : f72 0 = 110) (h74 : f72 1 = 117) (h75 : f72 2 = 108) (h76 : f72 3 = 108) (hto1 : ¬ (xs 1) < 0) (hto2 : ¬ 7 < (xs 1)) (hto3 : (xs 1) ≤ 7) (hto4 : vp_in (xs 1) 8) (hf : xs 2 = 0) (ha1 : ¬ (xs 3) < 0) (ha2 : ¬ 7 < (xs 3)) (ha3 : (xs 3) ≤ 7) (ha4 : vp_in (xs 3) 8) (hb1 : ¬ (xs 4) < 0) (hb2 : ¬ 7 < (xs 4)) (hb3 : (xs 4) ≤ 7) (hb4 : vp_in (xs 4) 8) (hXs : va_X b 6 xs s s.heap) (hP : va_P D xcl [(a0, .inr (0, [v12, v13, v14, .ref a4, .ref b15, .ref a3, v16, v17])), (a1, .inr (5, [v18, .ref a10, v19, v20, v21, v22, v23, v24, v25, v26, v27, v28, v29, v30, v31, v32, v33, v34, v35, v36, v37, v38, v39, v40, .ref a7, .ref a8, v41, v42, v43, v44, v45, v46])), (a2, .inl (cT 2, 1, .inr (.inl f47))), (a3, .inr (2, [v48, v49, v50])), (a4, .inl (cT 3, 8, .inr (.inr (.inr (.inr f51))))), (a5, .inr (2, [.ref a6, .int 1, v55])), (a6, .inl (cT 2, 4096, .inr (.inl f56))), (a7, .inl (cT 5, 8, .inr (.inr (.inr (.inr f58))))), (a8, .inl (cT 1, 8, .inl f61)), (a9, .inl (cT 0, 4096, .inl f64)), (a10, .inl (cT 4, 1024, .inr (.inr (.inr (.inr f69))))), (a11, .inl (cT 0, 4096, .inl f72))] H) (hD : va_D A [(a0, .inr (0, [v12, v13, v14, .ref a4, .ref b15, .ref a3, v16, v17])), (a1, .inr (5, [v18, .ref a10, v19, v20, v21, v22, v23, v24, v25, v26, v27, v28, v29, v30, v31, v32, v33, v34, v35, v36, v37, v38, v39, v40, .ref a7, .ref a8, v41, v42, v43, v44, v45, v46])), (a2, .inl (cT 2, 1, .inr (.inl f47))), (a3, .inr (2, [v48, v49, v50])), (a4, .inl (cT 3, 8, .inr (.inr (.inr (.inr f51))))), (a5, .inr (2, [.ref a6, .int 1, v55])), (a6, .inl (cT 2, 4096, .inr (.inl f56))), (a7, .inl (cT 5, 8, .inr (.inr (.inr (.inr f58))))), (a8, .inl (cT 1, 8, .inl f61)), (a9, .inl (cT 0, 4096, .inl f64)), (a10, .inl (cT 4, 1024, .inr (.inr (.inr (.inr f69))))), (a11, .inl (cT 0, 4096, .inl f72))]) (hS : va_S A s.heap H locs) (hl : lv_has ls 8 [(4, .int 0), (3, .ref a2), (2, .ref a1), (1, .ref a0), (0, .ref b)]) : W p l e room_1 s m #[Value.ref b] below meth c H locs 54 107242 (lw_Z below #[Value.ref b] s) (F0 m 723 ls []) := by
  obtain ⟨hx, hb, hr, hml, hown, htx, hbl, hbA, hlocks, hK, hZ, hA, hA2⟩ := C
  refine lv_aload_n hx hb dL_law_723 rfl (lv_at hl 3 rfl) ?_
  refine lv_aload_n hx hb dL_law_724 rfl (lv_at hl 4 rfl) ?_
  refine lv_iload hx hb dL_law_725 (lv_at hl 0 rfl) ?_
  refine lv_iconst (v := 1) hx hb dL_law_727 (by decide) ?_
  refine lv_iadd hx hb dL_law_728 ?_
  refine W.eq (g2 := F0 m 729 ls [.int 1, .ref b, .ref a0]) rfl ?_
  refine va_sld hx hb hXs hbl hbA hS (i := 1) (show ¬ ((1 : Int32) < 0 ∨ 6 ≤ (1 : Int32).toNatClampNeg) by decide) dL_law_729 ?_
  refine W.eq (g2 := F0 m 730 ls [.int (xs 1), .ref a0]) rfl ?_
  refine lv_aload_n hx hb dL_law_730 rfl (lv_at hl 4 rfl) ?_
  refine lv_iload hx hb dL_law_731 (lv_at hl 0 rfl) ?_
  refine lv_iconst (v := 2) hx hb dL_law_733 (by decide) ?_
  refine lv_iadd hx hb dL_law_734 ?_
  refine W.eq (g2 := F0 m 735 ls [.int 2, .ref b, .int (xs 1), .ref a0]) rfl ?_
  refine va_sld hx hb hXs hbl hbA hS (i := 2) (show ¬ ((2 : Int32) < 0 ∨ 6 ≤ (2 : Int32).toNatClampNeg) by decide) dL_law_735 ?_
  refine W.eq (g2 := F0 m 736 ls [.int (xs 2), .int (xs 1), .ref a0]) rfl ?_
  rw [hf]
  refine W.eq (g2 := F0 m 736 ls [.int 0, .int (xs 1), .ref a0]) rfl ?_
  refine lv_aload_n hx hb dL_law_736 rfl (lv_at hl 4 rfl) ?_
  refine lv_iload hx hb dL_law_737 (lv_at hl 0 rfl) ?_
  refine lv_iconst (v := 3) hx hb dL_law_739 (by decide) ?_
  refine lv_iadd hx hb dL_law_740 ?_
  refine W.eq (g2 := F0 m 741 ls [.int 3, .ref b, .int 0, .int (xs 1), .ref a0]) rfl ?_
  refine va_sld hx hb hXs hbl hbA hS (i := 3) (show ¬ ((3 : Int32) < 0 ∨ 6 ≤ (3 : Int32).toNatClampNeg) by decide) dL_law_741 ?_
  refine W.eq (g2 := F0 m 742 ls [.int (xs 3), .int 0, .int (xs 1), .ref a0]) rfl ?_
  refine lv_aload_n hx hb dL_law_742 rfl (lv_at hl 4 rfl) ?_
  refine lv_iload hx hb dL_law_743 (lv_at hl 0 rfl) ?_
  refine lv_iconst (v := 4) hx hb dL_law_745 (by decide) ?_
  refine lv_iadd hx hb dL_law_746 ?_
  refine W.eq (g2 := F0 m 747 ls [.int 4, .ref b, .int (xs 3), .int 0, .int (xs 1), .ref a0]) rfl ?_
  refine va_sld hx hb hXs hbl hbA hS (i := 4) (show ¬ ((4 : Int32) < 0 ∨ 6 ≤ (4 : Int32).toNatClampNeg) by decide) dL_law_747 ?_
  refine W.eq (g2 := F0 m 748 ls [.int (xs 4), .int (xs 3), .int 0, .int (xs 1), .ref a0]) rfl ?_
  obtain ⟨hPc, hDc, hFc⟩ := xcut (wc := [(a0, .inr (0, [v12, v13, v14, .ref a4, .ref b15, .ref a3, v16, v17])), (a3, .inr (2, [v48, v49, v50])), (a4, .inl (cT 3, 8, .inr (.inr (.inr (.inr f51))))), (a5, .inr (2, [.ref a6, .int 1, v55])), (a6, .inl (cT 2, 4096, .inr (.inl f56)))]) hP hD hS hA [0, 3, 4, 5, 6] rfl rfl (by decide)
  refine va_calli (vx_runSW (As := [.ref a0, .int (xs 1), .int 0, .int (xs 3), .int (xs 4)]) (rest := []) ⟨hx, hb, hml, hown, htx⟩ (cL_sort_9 l hl9 D cT aK aV H.size a0 a3 a4 a5 a6 (xs 1) (xs 3) (xs 4) v12 v13 v14 b15 v16 v17 v48 v49 v50 f51 b53 v55 f56 hto1 hto2 hto3 hto4 ha1 ha2 ha3 ha4 hb1 hb2 hb3 hb4 (by first | rfl | exact h52 | exact h54 | exact h57 | exact h59 | exact h60 | exact h62 | exact h63 | exact h65 | exact h66 | exact h67 | exact h68 | exact h70 | exact h71 | exact h73 | exact h74 | exact h75 | exact h76) (by first | rfl | exact h52 | exact h54 | exact h57 | exact h59 | exact h60 | exact h62 | exact h63 | exact h65 | exact h66 | exact h67 | exact h68 | exact h70 | exact h71 | exact h73 | exact h74 | exact h75 | exact h76) (by first | rfl | exact h52 | exact h54 | exact h57 | exact h59 | exact h60 | exact h62 | exact h63 | exact h65 | exact h66 | exact h67 | exact h68 | exact h70 | exact h71 | exact h73 | exact h74 | exact h75 | exact h76)) (xcSW 5 htx (xw_goodC kw_5_14) rfl rfl rfl (htx _ kw_1_0) (htx _ kw_5_12) ⟨by decide, by decide, by decide +kernel⟩ ⟨Nat.le_of_ble_eq_true rfl, Nat.le_of_ble_eq_true rfl⟩ (htx _ kw_5_13)) ⟨xPre_blind, (fun U hU hW => ⟨rfl, xPre_of hZ hS hFc hPc hDc hK U hU hW⟩)⟩ rfl rfl hl.1 rfl (lv_room (Nat.le_of_ble_eq_true rfl)) dL_law_748 ⟨Nat.le_of_ble_eq_true rfl, Nat.le_of_ble_eq_true rfl⟩) hS (fun q _ h => hFc q h) hFc (fun r1 u9 t H1 locs ht hvm hr9 hB hz1 hk1 hS => ?_)
  obtain ⟨hP1, hK1, hD1⟩ := hB
  rw [ht] at hP1
  obtain ⟨hP, hD⟩ := xjoin (W := [(a1, .inr (5, [v18, .ref a10, v19, v20, v21, v22, v23, v24, v25, v26, v27, v28, v29, v30, v31, v32, v33, v34, v35, v36, v37, v38, v39, v40, .ref a7, .ref a8, v41, v42, v43, v44, v45, v46])), (a2, .inl (cT 2, 1, .inr (.inl f47))), (a7, .inl (cT 5, 8, .inr (.inr (.inr (.inr f58))))), (a8, .inl (cT 1, 8, .inl f61)), (a9, .inl (cT 0, 4096, .inl f64)), (a10, .inl (cT 4, 1024, .inr (.inr (.inr (.inr f69))))), (a11, .inl (cT 0, 4096, .inl f72)), (a0, .inr (0, [v12, v13, v14, .ref a4, .ref b15, .ref a3, v16, .int 1])), (a3, .inr (2, [v48, .int 0, .int 0])), (a4, .inl (cT 3, 8, .inr (.inr (.inr (.inr f51))))), (a5, .inr (2, [.ref a6, .int 1, v55])), (a6, .inl (cT 2, 4096, .inr (.inl f56)))]) hP hD [0, 3, 4, 5, 6] [1, 2, 7, 8, 9, 10, 11] 7 rfl rfl (by decide) (by decide) hk1 hFc hP1 hD1
  generalize H1 = H at hP hS ⊢
  rw [hr9]
  refine W.eq (g2 := F0 m 751 ls [.int 2]) rfl ?_
  refine lv_istore (lv' := [(5, .int 2), (4, .int 0), (3, .ref a2), (2, .ref a1), (1, .ref a0), (0, .ref b)]) hx hb dL_law_751 hl (by decide) rfl (fun ls hl => ?_)
  refine lv_aload_n hx hb dL_law_753 rfl (lv_at hl 3 rfl) ?_
  refine lv_aload_n hx hb dL_law_754 rfl (lv_at hl 5 rfl) ?_
  refine lv_iload hx hb dL_law_755 (lv_at hl 1 rfl) ?_
  refine lv_iconst (v := 1) hx hb dL_law_757 (by decide) ?_
  refine lv_iadd hx hb dL_law_758 ?_
  refine W.eq (g2 := F0 m 759 ls [.int 1, .ref b, .ref a1]) rfl ?_
  refine va_sld hx hb hXs hbl hbA hS (i := 1) (show ¬ ((1 : Int32) < 0 ∨ 6 ≤ (1 : Int32).toNatClampNeg) by decide) dL_law_759 ?_
  refine W.eq (g2 := F0 m 760 ls [.int (xs 1), .ref a1]) rfl ?_
  refine lv_aload_n hx hb dL_law_760 rfl (lv_at hl 5 rfl) ?_
  refine lv_iload hx hb dL_law_761 (lv_at hl 1 rfl) ?_
  refine lv_iconst (v := 2) hx hb dL_law_763 (by decide) ?_
  refine lv_iadd hx hb dL_law_764 ?_
  refine W.eq (g2 := F0 m 765 ls [.int 2, .ref b, .int (xs 1), .ref a1]) rfl ?_
  refine va_sld hx hb hXs hbl hbA hS (i := 2) (show ¬ ((2 : Int32) < 0 ∨ 6 ≤ (2 : Int32).toNatClampNeg) by decide) dL_law_765 ?_
  refine W.eq (g2 := F0 m 766 ls [.int (xs 2), .int (xs 1), .ref a1]) rfl ?_
  rw [hf]
  refine W.eq (g2 := F0 m 766 ls [.int 0, .int (xs 1), .ref a1]) rfl ?_
  refine lv_aload_n hx hb dL_law_766 rfl (lv_at hl 5 rfl) ?_
  refine lv_iload hx hb dL_law_767 (lv_at hl 1 rfl) ?_
  refine lv_iconst (v := 3) hx hb dL_law_769 (by decide) ?_
  refine lv_iadd hx hb dL_law_770 ?_
  refine W.eq (g2 := F0 m 771 ls [.int 3, .ref b, .int 0, .int (xs 1), .ref a1]) rfl ?_
  refine va_sld hx hb hXs hbl hbA hS (i := 3) (show ¬ ((3 : Int32) < 0 ∨ 6 ≤ (3 : Int32).toNatClampNeg) by decide) dL_law_771 ?_
  refine W.eq (g2 := F0 m 772 ls [.int (xs 3), .int 0, .int (xs 1), .ref a1]) rfl ?_
  refine lv_aload_n hx hb dL_law_772 rfl (lv_at hl 5 rfl) ?_
  refine lv_iload hx hb dL_law_773 (lv_at hl 1 rfl) ?_
  refine lv_iconst (v := 4) hx hb dL_law_775 (by decide) ?_
  refine lv_iadd hx hb dL_law_776 ?_
  refine W.eq (g2 := F0 m 777 ls [.int 4, .ref b, .int (xs 3), .int 0, .int (xs 1), .ref a1]) rfl ?_
  refine va_sld hx hb hXs hbl hbA hS (i := 4) (show ¬ ((4 : Int32) < 0 ∨ 6 ≤ (4 : Int32).toNatClampNeg) by decide) dL_law_777 ?_
  refine W.eq (g2 := F0 m 778 ls [.int (xs 4), .int (xs 3), .int 0, .int (xs 1), .ref a1]) rfl ?_
  obtain ⟨hPc, hDc, hFc⟩ := xcut (wc := [(a1, .inr (5, [v18, .ref a10, v19, v20, v21, v22, v23, v24, v25, v26, v27, v28, v29, v30, v31, v32, v33, v34, v35, v36, v37, v38, v39, v40, .ref a7, .ref a8, v41, v42, v43, v44, v45, v46])), (a7, .inl (cT 5, 8, .inr (.inr (.inr (.inr f58))))), (a8, .inl (cT 1, 8, .inl f61)), (a9, .inl (cT 0, 4096, .inl f64)), (a10, .inl (cT 4, 1024, .inr (.inr (.inr (.inr f69))))), (a11, .inl (cT 0, 4096, .inl f72))]) hP hD hS hA [0, 2, 3, 4, 5, 6] rfl rfl (by decide)
  refine va_callv (va_runV (C := "ValueBenchModel") (As := [.int (xs 1), .int 0, .int (xs 3), .int (xs 4)]) (rest := []) ⟨hx, hb, hml, hown, htx⟩ (cM_sort0_9 l hl9 D cT aK aV H.size a1 a7 a8 a9 a10 a11 (xs 1) (xs 3) (xs 4) v18 v19 v20 v21 v22 v23 v24 v25 v26 v27 v28 v29 v30 v31 v32 v33 v34 v35 v36 v37 v38 v39 v40 v41 v42 v43 v44 v45 v46 f58 f61 f64 f69 f72 hto1 hto2 hto3 hto4 ha1 ha2 ha3 ha4 hb1 hb2 hb3 hb4 (by first | rfl | exact h52 | exact h54 | exact h57 | exact h59 | exact h60 | exact h62 | exact h63 | exact h65 | exact h66 | exact h67 | exact h68 | exact h70 | exact h71 | exact h73 | exact h74 | exact h75 | exact h76) (by first | rfl | exact h52 | exact h54 | exact h57 | exact h59 | exact h60 | exact h62 | exact h63 | exact h65 | exact h66 | exact h67 | exact h68 | exact h70 | exact h71 | exact h73 | exact h74 | exact h75 | exact h76) (by first | rfl | exact h52 | exact h54 | exact h57 | exact h59 | exact h60 | exact h62 | exact h63 | exact h65 | exact h66 | exact h67 | exact h68 | exact h70 | exact h71 | exact h73 | exact h74 | exact h75 | exact h76) (by first | rfl | exact h52 | exact h54 | exact h57 | exact h59 | exact h60 | exact h62 | exact h63 | exact h65 | exact h66 | exact h67 | exact h68 | exact h70 | exact h71 | exact h73 | exact h74 | exact h75 | exact h76) (by first | rfl | exact h52 | exact h54 | exact h57 | exact h59 | exact h60 | exact h62 | exact h63 | exact h65 | exact h66 | exact h67 | exact h68 | exact h70 | exact h71 | exact h73 | exact h74 | exact h75 | exact h76) (by first | rfl | exact h52 | exact h54 | exact h57 | exact h59 | exact h60 | exact h62 | exact h63 | exact h65 | exact h66 | exact h67 | exact h68 | exact h70 | exact h71 | exact h73 | exact h74 | exact h75 | exact h76) (by first | rfl | exact h52 | exact h54 | exact h57 | exact h59 | exact h60 | exact h62 | exact h63 | exact h65 | exact h66 | exact h67 | exact h68 | exact h70 | exact h71 | exact h73 | exact h74 | exact h75 | exact h76) (by first | rfl | exact h52 | exact h54 | exact h57 | exact h59 | exact h60 | exact h62 | exact h63 | exact h65 | exact h66 | exact h67 | exact h68 | exact h70 | exact h71 | exact h73 | exact h74 | exact h75 | exact h76) (by first | rfl | exact h52 | exact h54 | exact h57 | exact h59 | exact h60 | exact h62 | exact h63 | exact h65 | exact h66 | exact h67 | exact h68 | exact h70 | exact h71 | exact h73 | exact h74 | exact h75 | exact h76) (by first | rfl | exact h52 | exact h54 | exact h57 | exact h59 | exact h60 | exact h62 | exact h63 | exact h65 | exact h66 | exact h67 | exact h68 | exact h70 | exact h71 | exact h73 | exact h74 | exact h75 | exact h76) (by first | rfl | exact h52 | exact h54 | exact h57 | exact h59 | exact h60 | exact h62 | exact h63 | exact h65 | exact h66 | exact h67 | exact h68 | exact h70 | exact h71 | exact h73 | exact h74 | exact h75 | exact h76) (by first | rfl | exact h52 | exact h54 | exact h57 | exact h59 | exact h60 | exact h62 | exact h63 | exact h65 | exact h66 | exact h67 | exact h68 | exact h70 | exact h71 | exact h73 | exact h74 | exact h75 | exact h76) (by first | rfl | exact h52 | exact h54 | exact h57 | exact h59 | exact h60 | exact h62 | exact h63 | exact h65 | exact h66 | exact h67 | exact h68 | exact h70 | exact h71 | exact h73 | exact h74 | exact h75 | exact h76) (by first | rfl | exact h52 | exact h54 | exact h57 | exact h59 | exact h60 | exact h62 | exact h63 | exact h65 | exact h66 | exact h67 | exact h68 | exact h70 | exact h71 | exact h73 | exact h74 | exact h75 | exact h76)) ⟨callB_of 4 htx (xw_goodC kw_7_131) rfl rfl rfl (htx _ kw_1_5) (htx _ kw_7_128) ⟨by decide, by decide, by decide +kernel⟩ ⟨Nat.le_of_ble_eq_true rfl, Nat.le_of_ble_eq_true rfl⟩, (htx _ kw_7_129), (htx _ kw_7_130)⟩ ⟨xPre_blind, va_recv hK hP (ci := 5) rfl (q0 := 0) rfl, (fun U hU hW => ⟨rfl, xPre_of hZ hS hFc hPc hDc hK U hU hW⟩)⟩ rfl rfl hl.1 rfl (lv_room (Nat.le_of_ble_eq_true rfl)) dL_law_778 ⟨Nat.le_of_ble_eq_true rfl, Nat.le_of_ble_eq_true rfl⟩) hS (fun q _ h => hFc q h) hFc (fun u9 t H1 locs ht hvm hr9 hB hz1 hk1 hS => ?_)
  obtain ⟨q2, q3, hP1, hK1, hD1⟩ := hB
  rw [ht] at hP1
  obtain ⟨hP, hD⟩ := xjoin (W := [(a2, .inl (cT 2, 1, .inr (.inl f47))), (a0, .inr (0, [v12, v13, v14, .ref a4, .ref b15, .ref a3, v16, .int 1])), (a3, .inr (2, [v48, .int 0, .int 0])), (a4, .inl (cT 3, 8, .inr (.inr (.inr (.inr f51))))), (a5, .inr (2, [.ref a6, .int 1, v55])), (a6, .inl (cT 2, 4096, .inr (.inl f56))), (a1, .inr (5, [.int 2, .ref a10, .int 2, v20, .int 0, v22, v23, .int 0, .int 1, .int 0, v27, v28, .int 0, v30, v31, .ref a11, .int 4, .int 4, .int 0, .int 100, v37, v38, .int 0, .int 1000000000, .ref a7, .ref a8, v41, v42, v43, v44, .int 1, v46])), (a7, .inl (cT 5, 8, .inr (.inr (.inr (.inr f58))))), (a8, .inl (cT 1, 8, .inl f61)), (a9, .inl (cT 0, 4096, .inl f64)), (a10, .inl (cT 4, 1024, .inr (.inr (.inr (.inr (va_up (va_up f69 0 (some q2)) 1 (some q3))))))), (a11, .inl (cT 0, 4096, .inl f72)), (q2, .inr (6, [.int 0, .long 0, .int 0, .int 0, .int 0, .int 1])), (q3, .inr (6, [.int 0, .long 0, .int 0, .int 0, .int 0, .int 1]))]) hP hD [0, 2, 3, 4, 5, 6] [1, 7, 8, 9, 10, 11] 6 rfl rfl (by decide) (by decide) hk1 hFc hP1 hD1
  generalize H1 = H at hP hS ⊢
  refine lv_aload_n hx hb dL_law_781 rfl (lv_at hl 3 rfl) ?_
  obtain ⟨hPc, hDc, hFc⟩ := xcut (wc := [(a1, .inr (5, [.int 2, .ref a10, .int 2, v20, .int 0, v22, v23, .int 0, .int 1, .int 0, v27, v28, .int 0, v30, v31, .ref a11, .int 4, .int 4, .int 0, .int 100, v37, v38, .int 0, .int 1000000000, .ref a7, .ref a8, v41, v42, v43, v44, .int 1, v46]))]) hP hD hS hA [6] rfl rfl (by decide)
  refine va_calli (va_runV (C := "ValueBenchModel") (As := []) (rest := []) ⟨hx, hb, hml, hown, htx⟩ (cM_thrown_2 l hl9 D cT aK aV H.size a1 (.ref a10) (.int 2) v20 (.int 0) v22 v23 (.int 0) (.int 1) (.int 0) v27 v28 (.int 0) v30 v31 (.ref a11) (.int 4) (.int 4) (.int 0) (.int 100) v37 v38 (.int 0) (.int 1000000000) (.ref a7) (.ref a8) v41 v42 v43 v44 (.int 1) v46) ⟨callB_of 0 htx (xw_goodC kw_5_187) rfl rfl rfl (htx _ kw_1_5) (htx _ kw_5_184) ⟨by decide, by decide, by decide +kernel⟩ ⟨Nat.le_of_ble_eq_true rfl, Nat.le_of_ble_eq_true rfl⟩, (htx _ kw_5_185), (htx _ kw_5_186)⟩ ⟨xPre_blind, va_recv hK hP (ci := 5) rfl (q0 := 6) rfl, (fun U hU hW => ⟨rfl, xPre_of hZ hS hFc hPc hDc hK U hU hW⟩)⟩ rfl rfl hl.1 rfl (lv_room (Nat.le_of_ble_eq_true rfl)) dL_law_782 ⟨Nat.le_of_ble_eq_true rfl, Nat.le_of_ble_eq_true rfl⟩) hS (fun q _ h => hFc q h) hFc (fun r4 u9 t H1 locs ht hvm hr9 hB hz1 hk1 hS => ?_)
  obtain ⟨hP1, hK1, hD1⟩ := hB
  rw [ht] at hP1
  obtain ⟨hP, hD⟩ := xjoin (W := [(a2, .inl (cT 2, 1, .inr (.inl f47))), (a0, .inr (0, [v12, v13, v14, .ref a4, .ref b15, .ref a3, v16, .int 1])), (a3, .inr (2, [v48, .int 0, .int 0])), (a4, .inl (cT 3, 8, .inr (.inr (.inr (.inr f51))))), (a5, .inr (2, [.ref a6, .int 1, v55])), (a6, .inl (cT 2, 4096, .inr (.inl f56))), (a7, .inl (cT 5, 8, .inr (.inr (.inr (.inr f58))))), (a8, .inl (cT 1, 8, .inl f61)), (a9, .inl (cT 0, 4096, .inl f64)), (a10, .inl (cT 4, 1024, .inr (.inr (.inr (.inr (va_up (va_up f69 0 (some q2)) 1 (some q3))))))), (a11, .inl (cT 0, 4096, .inl f72)), (q2, .inr (6, [.int 0, .long 0, .int 0, .int 0, .int 0, .int 1])), (q3, .inr (6, [.int 0, .long 0, .int 0, .int 0, .int 0, .int 1])), (a1, .inr (5, [.int 2, .ref a10, .int 2, v20, .int 0, v22, v23, .int 0, .int 1, .int 0, v27, v28, .int 0, v30, v31, .ref a11, .int 4, .int 4, .int 0, .int 100, v37, v38, .int 0, .int 1000000000, .ref a7, .ref a8, v41, v42, v43, v44, .int 1, v46]))]) hP hD [6] [0, 1, 2, 3, 4, 5, 7, 8, 9, 10, 11, 12, 13] 13 rfl rfl (by decide) (by decide) hk1 hFc hP1 hD1
  generalize H1 = H at hP hS ⊢
  rw [hr9]
  refine W.eq (g2 := F0 m 785 ls [.int 2]) rfl ?_
  refine lv_iload hx hb dL_law_785 (lv_at hl 0 rfl) ?_
  refine lv_icmp_eq (tgt := 792) hx hb dL_law_787 (by decide) (fun _ => ?_) (fun h => ((by revert h; decide : False)).elim)
  refine lv_goto (tgt := 906) hx hb dL_law_792 (by decide) ?_
  refine lv_iinc (v := 6) (lv' := [(4, .int 6), (5, .int 2), (3, .ref a2), (2, .ref a1), (1, .ref a0), (0, .ref b)]) hx hb dL_law_906 hl (k := 1) rfl (by decide) (by decide) rfl (fun ls hl => ?_)
  refine lv_goto (tgt := 23) hx hb dL_law_909 (by decide) ?_
  refine lv_iload hx hb dL_law_23 (lv_at hl 0 rfl) ?_
  refine lv_aload_n hx hb dL_law_25 rfl (lv_at hl 5 rfl) ?_
  refine va_slen hx hb hXs hbl hbA hS dL_law_26 ?_
  refine W.eq (g2 := F0 m 27 ls [.int 6, .int 6]) rfl ?_
  refine lv_bipush (v := 6) hx hb dL_law_27 (by decide) ?_
  refine lv_isub hx hb dL_law_29 ?_
  refine W.eq (g2 := F0 m 30 ls [.int 0, .int 6]) rfl ?_
  refine lv_icmp_gt (tgt := 912) hx hb dL_law_30 (by decide) (fun _ => ?_) (fun h => ((by revert h; decide : False)).elim)
  refine lv_iconst (v := 1) hx hb dL_law_912 (by decide) ?_
  exact va_forget (fun q h => hA2 _ (hS.2.2 q h)) (W.widen (k := 600002) (n := 7302232) (Nat.le_of_ble_eq_true rfl) (Nat.le_of_ble_eq_true rfl) (lw_ret hx hb hr hlocks dL_law_913))
set_option maxHeartbeats 400000000 in
set_option maxRecDepth 100000 in
theorem lf_sort0_p0 {p : Program} {e : Env} {s : State} {m : MethodId} {below : List Frame} {meth : Method} {c : Code} (l : Launch) (hl9 : l.stackTraces = false) (D : va_G) (cT : Nat → ClassId) (aK aV : Nat → Nat) {A : Nat → Prop} {b : Nat} {xs : Nat → Int32} (C : xLw p s m meth c b D cT aK aV A) {H : Heap} {locs : List Loc} {ls : Array Slot} (a0 : Nat) (a1 : Nat) (a2 : Nat) (a3 : Nat) (a4 : Nat) (a5 : Nat) (a6 : Nat) (a7 : Nat) (a8 : Nat) (a9 : Nat) (a10 : Nat) (a11 : Nat) (v12 : Value) (v13 : Value) (v14 : Value) (b15 : Nat) (v16 : Value) (v17 : Value) (v18 : Value) (v19 : Value) (v20 : Value) (v21 : Value) (v22 : Value) (v23 : Value) (v24 : Value) (v25 : Value) (v26 : Value) (v27 : Value) (v28 : Value) (v29 : Value) (v30 : Value) (v31 : Value) (v32 : Value) (v33 : Value) (v34 : Value) (v35 : Value) (v36 : Value) (v37 : Value) (v38 : Value) (v39 : Value) (v40 : Value) (v41 : Value) (v42 : Value) (v43 : Value) (v44 : Value) (v45 : Value) (v46 : Value) (f47 : Nat → Int64) (v48 : Value) (v49 : Value) (v50 : Value) (f51 : Nat → Option Nat) (b53 : Nat) (v55 : Value) (f56 : Nat → Int64) (f58 : Nat → Option Nat) (f61 : Nat → Int32) (f64 : Nat → Int32) (f69 : Nat → Option Nat) (f72 : Nat → Int32) (h52 : f51 (xs 3).toNatClampNeg = some a5) (h54 : f51 (xs 4).toNatClampNeg = some b53) (h57 : f56 0 = 0) (h59 : f58 (xs 3).toNatClampNeg = some a9) (h60 : f58 (xs 4).toNatClampNeg = some a11) (h62 : f61 (xs 3).toNatClampNeg = 4) (h63 : f61 (xs 4).toNatClampNeg = 4) (h65 : f64 0 = 110) (h66 : f64 1 = 117) (h67 : f64 2 = 108) (h68 : f64 3 = 108) (h70 : f69 0 = none) (h71 : f69 1 = none) (h73 : f72 0 = 110) (h74 : f72 1 = 117) (h75 : f72 2 = 108) (h76 : f72 3 = 108) (hto1 : ¬ (xs 1) < 0) (hto2 : ¬ 7 < (xs 1)) (hto3 : (xs 1) ≤ 7) (hto4 : vp_in (xs 1) 8) (hf : xs 2 = 0) (ha1 : ¬ (xs 3) < 0) (ha2 : ¬ 7 < (xs 3)) (ha3 : (xs 3) ≤ 7) (ha4 : vp_in (xs 3) 8) (hb1 : ¬ (xs 4) < 0) (hb2 : ¬ 7 < (xs 4)) (hb3 : (xs 4) ≤ 7) (hb4 : vp_in (xs 4) 8) (hXs : va_X b 6 xs s s.heap) (hP : va_P D xcl [(a0, .inr (0, [v12, v13, v14, .ref a4, .ref b15, .ref a3, v16, v17])), (a1, .inr (5, [v18, .ref a10, v19, v20, v21, v22, v23, v24, v25, v26, v27, v28, v29, v30, v31, v32, v33, v34, v35, v36, v37, v38, v39, v40, .ref a7, .ref a8, v41, v42, v43, v44, v45, v46])), (a2, .inl (cT 2, 1, .inr (.inl f47))), (a3, .inr (2, [v48, v49, v50])), (a4, .inl (cT 3, 8, .inr (.inr (.inr (.inr f51))))), (a5, .inr (2, [.ref a6, .int 1, v55])), (a6, .inl (cT 2, 4096, .inr (.inl f56))), (a7, .inl (cT 5, 8, .inr (.inr (.inr (.inr f58))))), (a8, .inl (cT 1, 8, .inl f61)), (a9, .inl (cT 0, 4096, .inl f64)), (a10, .inl (cT 4, 1024, .inr (.inr (.inr (.inr f69))))), (a11, .inl (cT 0, 4096, .inl f72))] H) (hD : va_D A [(a0, .inr (0, [v12, v13, v14, .ref a4, .ref b15, .ref a3, v16, v17])), (a1, .inr (5, [v18, .ref a10, v19, v20, v21, v22, v23, v24, v25, v26, v27, v28, v29, v30, v31, v32, v33, v34, v35, v36, v37, v38, v39, v40, .ref a7, .ref a8, v41, v42, v43, v44, v45, v46])), (a2, .inl (cT 2, 1, .inr (.inl f47))), (a3, .inr (2, [v48, v49, v50])), (a4, .inl (cT 3, 8, .inr (.inr (.inr (.inr f51))))), (a5, .inr (2, [.ref a6, .int 1, v55])), (a6, .inl (cT 2, 4096, .inr (.inl f56))), (a7, .inl (cT 5, 8, .inr (.inr (.inr (.inr f58))))), (a8, .inl (cT 1, 8, .inl f61)), (a9, .inl (cT 0, 4096, .inl f64)), (a10, .inl (cT 4, 1024, .inr (.inr (.inr (.inr f69))))), (a11, .inl (cT 0, 4096, .inl f72))]) (hS : va_S A s.heap H locs) (hl : lv_has ls 8 [(4, .int 0), (3, .ref a2), (2, .ref a1), (1, .ref a0), (0, .ref b)]) : W p l e room_1 s m #[Value.ref b] below meth c H locs 54 107242 (lw_Z below #[Value.ref b] s) (F0 m 723 ls []) := by
  obtain ⟨hx, hb, hr, hml, hown, htx, hbl, hbA, hlocks, hK, hZ, hA, hA2⟩ := C
  refine lv_aload_n hx hb dL_law_723 rfl (lv_at hl 3 rfl) ?_
  refine lv_aload_n hx hb dL_law_724 rfl (lv_at hl 4 rfl) ?_
  refine lv_iload hx hb dL_law_725 (lv_at hl 0 rfl) ?_
  refine lv_iconst (v := 1) hx hb dL_law_727 (by decide) ?_
  refine lv_iadd hx hb dL_law_728 ?_
  refine W.eq (g2 := F0 m 729 ls [.int 1, .ref b, .ref a0]) rfl ?_
  refine va_sld hx hb hXs hbl hbA hS (i := 1) (show ¬ ((1 : Int32) < 0 ∨ 6 ≤ (1 : Int32).toNatClampNeg) by decide) dL_law_729 ?_
  refine W.eq (g2 := F0 m 730 ls [.int (xs 1), .ref a0]) rfl ?_
  refine lv_aload_n hx hb dL_law_730 rfl (lv_at hl 4 rfl) ?_
  refine lv_iload hx hb dL_law_731 (lv_at hl 0 rfl) ?_
  refine lv_iconst (v := 2) hx hb dL_law_733 (by decide) ?_
  refine lv_iadd hx hb dL_law_734 ?_
  refine W.eq (g2 := F0 m 735 ls [.int 2, .ref b, .int (xs 1), .ref a0]) rfl ?_
  refine va_sld hx hb hXs hbl hbA hS (i := 2) (show ¬ ((2 : Int32) < 0 ∨ 6 ≤ (2 : Int32).toNatClampNeg) by decide) dL_law_735 ?_
  refine W.eq (g2 := F0 m 736 ls [.int (xs 2), .int (xs 1), .ref a0]) rfl ?_
  rw [hf]
  refine W.eq (g2 := F0 m 736 ls [.int 0, .int (xs 1), .ref a0]) rfl ?_
  refine lv_aload_n hx hb dL_law_736 rfl (lv_at hl 4 rfl) ?_
  refine lv_iload hx hb dL_law_737 (lv_at hl 0 rfl) ?_
  refine lv_iconst (v := 3) hx hb dL_law_739 (by decide) ?_
  refine lv_iadd hx hb dL_law_740 ?_
  refine W.eq (g2 := F0 m 741 ls [.int 3, .ref b, .int 0, .int (xs 1), .ref a0]) rfl ?_
  refine va_sld hx hb hXs hbl hbA hS (i := 3) (show ¬ ((3 : Int32) < 0 ∨ 6 ≤ (3 : Int32).toNatClampNeg) by decide) dL_law_741 ?_
  refine W.eq (g2 := F0 m 742 ls [.int (xs 3), .int 0, .int (xs 1), .ref a0]) rfl ?_
  refine lv_aload_n hx hb dL_law_742 rfl (lv_at hl 4 rfl) ?_
  refine lv_iload hx hb dL_law_743 (lv_at hl 0 rfl) ?_
  refine lv_iconst (v := 4) hx hb dL_law_745 (by decide) ?_
  refine lv_iadd hx hb dL_law_746 ?_
  refine W.eq (g2 := F0 m 747 ls [.int 4, .ref b, .int (xs 3), .int 0, .int (xs 1), .ref a0]) rfl ?_
  refine va_sld hx hb hXs hbl hbA hS (i := 4) (show ¬ ((4 : Int32) < 0 ∨ 6 ≤ (4 : Int32).toNatClampNeg) by decide) dL_law_747 ?_
  refine W.eq (g2 := F0 m 748 ls [.int (xs 4), .int (xs 3), .int 0, .int (xs 1), .ref a0]) rfl ?_
  obtain ⟨hPc, hDc, hFc⟩ := xcut (wc := [(a0, .inr (0, [v12, v13, v14, .ref a4, .ref b15, .ref a3, v16, v17])), (a3, .inr (2, [v48, v49, v50])), (a4, .inl (cT 3, 8, .inr (.inr (.inr (.inr f51))))), (a5, .inr (2, [.ref a6, .int 1, v55])), (a6, .inl (cT 2, 4096, .inr (.inl f56)))]) hP hD hS hA [0, 3, 4, 5, 6] rfl rfl (by decide)
  refine va_calli (vx_runSW (As := [.ref a0, .int (xs 1), .int 0, .int (xs 3), .int (xs 4)]) (rest := []) ⟨hx, hb, hml, hown, htx⟩ (cL_sort_9 l hl9 D cT aK aV H.size a0 a3 a4 a5 a6 (xs 1) (xs 3) (xs 4) v12 v13 v14 b15 v16 v17 v48 v49 v50 f51 b53 v55 f56 hto1 hto2 hto3 hto4 ha1 ha2 ha3 ha4 hb1 hb2 hb3 hb4 (by first | rfl | exact h52 | exact h54 | exact h57 | exact h59 | exact h60 | exact h62 | exact h63 | exact h65 | exact h66 | exact h67 | exact h68 | exact h70 | exact h71 | exact h73 | exact h74 | exact h75 | exact h76) (by first | rfl | exact h52 | exact h54 | exact h57 | exact h59 | exact h60 | exact h62 | exact h63 | exact h65 | exact h66 | exact h67 | exact h68 | exact h70 | exact h71 | exact h73 | exact h74 | exact h75 | exact h76) (by first | rfl | exact h52 | exact h54 | exact h57 | exact h59 | exact h60 | exact h62 | exact h63 | exact h65 | exact h66 | exact h67 | exact h68 | exact h70 | exact h71 | exact h73 | exact h74 | exact h75 | exact h76)) (xcSW 5 htx (xw_goodC kw_5_14) rfl rfl rfl (htx _ kw_1_0) (htx _ kw_5_12) ⟨by decide, by decide, by decide +kernel⟩ ⟨Nat.le_of_ble_eq_true rfl, Nat.le_of_ble_eq_true rfl⟩ (htx _ kw_5_13)) ⟨xPre_blind, (fun U hU hW => ⟨rfl, xPre_of hZ hS hFc hPc hDc hK U hU hW⟩)⟩ rfl rfl hl.1 rfl (lv_room (Nat.le_of_ble_eq_true rfl)) dL_law_748 ⟨Nat.le_of_ble_eq_true rfl, Nat.le_of_ble_eq_true rfl⟩) hS (fun q _ h => hFc q h) hFc (fun r1 u9 t H1 locs ht hvm hr9 hB hz1 hk1 hS => ?_)
  obtain ⟨hP1, hK1, hD1⟩ := hB
  rw [ht] at hP1
  obtain ⟨hP, hD⟩ := xjoin (W := [(a1, .inr (5, [v18, .ref a10, v19, v20, v21, v22, v23, v24, v25, v26, v27, v28, v29, v30, v31, v32, v33, v34, v35, v36, v37, v38, v39, v40, .ref a7, .ref a8, v41, v42, v43, v44, v45, v46])), (a2, .inl (cT 2, 1, .inr (.inl f47))), (a7, .inl (cT 5, 8, .inr (.inr (.inr (.inr f58))))), (a8, .inl (cT 1, 8, .inl f61)), (a9, .inl (cT 0, 4096, .inl f64)), (a10, .inl (cT 4, 1024, .inr (.inr (.inr (.inr f69))))), (a11, .inl (cT 0, 4096, .inl f72)), (a0, .inr (0, [v12, v13, v14, .ref a4, .ref b15, .ref a3, v16, .int 1])), (a3, .inr (2, [v48, .int 0, .int 0])), (a4, .inl (cT 3, 8, .inr (.inr (.inr (.inr f51))))), (a5, .inr (2, [.ref a6, .int 1, v55])), (a6, .inl (cT 2, 4096, .inr (.inl f56)))]) hP hD [0, 3, 4, 5, 6] [1, 2, 7, 8, 9, 10, 11] 7 rfl rfl (by decide) (by decide) hk1 hFc hP1 hD1
  generalize H1 = H at hP hS ⊢
  rw [hr9]
  refine W.eq (g2 := F0 m 751 ls [.int 2]) rfl ?_
  refine lv_istore (lv' := [(5, .int 2), (4, .int 0), (3, .ref a2), (2, .ref a1), (1, .ref a0), (0, .ref b)]) hx hb dL_law_751 hl (by decide) rfl (fun ls hl => ?_)
  refine lv_aload_n hx hb dL_law_753 rfl (lv_at hl 3 rfl) ?_
  refine lv_aload_n hx hb dL_law_754 rfl (lv_at hl 5 rfl) ?_
  refine lv_iload hx hb dL_law_755 (lv_at hl 1 rfl) ?_
  refine lv_iconst (v := 1) hx hb dL_law_757 (by decide) ?_
  refine lv_iadd hx hb dL_law_758 ?_
  refine W.eq (g2 := F0 m 759 ls [.int 1, .ref b, .ref a1]) rfl ?_
  refine va_sld hx hb hXs hbl hbA hS (i := 1) (show ¬ ((1 : Int32) < 0 ∨ 6 ≤ (1 : Int32).toNatClampNeg) by decide) dL_law_759 ?_
  refine W.eq (g2 := F0 m 760 ls [.int (xs 1), .ref a1]) rfl ?_
  refine lv_aload_n hx hb dL_law_760 rfl (lv_at hl 5 rfl) ?_
  refine lv_iload hx hb dL_law_761 (lv_at hl 1 rfl) ?_
  refine lv_iconst (v := 2) hx hb dL_law_763 (by decide) ?_
  refine lv_iadd hx hb dL_law_764 ?_
  refine W.eq (g2 := F0 m 765 ls [.int 2, .ref b, .int (xs 1), .ref a1]) rfl ?_
  refine va_sld hx hb hXs hbl hbA hS (i := 2) (show ¬ ((2 : Int32) < 0 ∨ 6 ≤ (2 : Int32).toNatClampNeg) by decide) dL_law_765 ?_
  refine W.eq (g2 := F0 m 766 ls [.int (xs 2), .int (xs 1), .ref a1]) rfl ?_
  rw [hf]
  refine W.eq (g2 := F0 m 766 ls [.int 0, .int (xs 1), .ref a1]) rfl ?_
  refine lv_aload_n hx hb dL_law_766 rfl (lv_at hl 5 rfl) ?_
  refine lv_iload hx hb dL_law_767 (lv_at hl 1 rfl) ?_
  refine lv_iconst (v := 3) hx hb dL_law_769 (by decide) ?_
  refine lv_iadd hx hb dL_law_770 ?_
  refine W.eq (g2 := F0 m 771 ls [.int 3, .ref b, .int 0, .int (xs 1), .ref a1]) rfl ?_
  refine va_sld hx hb hXs hbl hbA hS (i := 3) (show ¬ ((3 : Int32) < 0 ∨ 6 ≤ (3 : Int32).toNatClampNeg) by decide) dL_law_771 ?_
  refine W.eq (g2 := F0 m 772 ls [.int (xs 3), .int 0, .int (xs 1), .ref a1]) rfl ?_
  refine lv_aload_n hx hb dL_law_772 rfl (lv_at hl 5 rfl) ?_
  refine lv_iload hx hb dL_law_773 (lv_at hl 1 rfl) ?_
  refine lv_iconst (v := 4) hx hb dL_law_775 (by decide) ?_
  refine lv_iadd hx hb dL_law_776 ?_
  refine W.eq (g2 := F0 m 777 ls [.int 4, .ref b, .int (xs 3), .int 0, .int (xs 1), .ref a1]) rfl ?_
  refine va_sld hx hb hXs hbl hbA hS (i := 4) (show ¬ ((4 : Int32) < 0 ∨ 6 ≤ (4 : Int32).toNatClampNeg) by decide) dL_law_777 ?_
  refine W.eq (g2 := F0 m 778 ls [.int (xs 4), .int (xs 3), .int 0, .int (xs 1), .ref a1]) rfl ?_
  obtain ⟨hPc, hDc, hFc⟩ := xcut (wc := [(a1, .inr (5, [v18, .ref a10, v19, v20, v21, v22, v23, v24, v25, v26, v27, v28, v29, v30, v31, v32, v33, v34, v35, v36, v37, v38, v39, v40, .ref a7, .ref a8, v41, v42, v43, v44, v45, v46])), (a7, .inl (cT 5, 8, .inr (.inr (.inr (.inr f58))))), (a8, .inl (cT 1, 8, .inl f61)), (a9, .inl (cT 0, 4096, .inl f64)), (a10, .inl (cT 4, 1024, .inr (.inr (.inr (.inr f69))))), (a11, .inl (cT 0, 4096, .inl f72))]) hP hD hS hA [0, 2, 3, 4, 5, 6] rfl rfl (by decide)
  refine va_callv (va_runV (C := "ValueBenchModel") (As := [.int (xs 1), .int 0, .int (xs 3), .int (xs 4)]) (rest := []) ⟨hx, hb, hml, hown, htx⟩ (cM_sort0_9 l hl9 D cT aK aV H.size a1 a7 a8 a9 a10 a11 (xs 1) (xs 3) (xs 4) v18 v19 v20 v21 v22 v23 v24 v25 v26 v27 v28 v29 v30 v31 v32 v33 v34 v35 v36 v37 v38 v39 v40 v41 v42 v43 v44 v45 v46 f58 f61 f64 f69 f72 hto1 hto2 hto3 hto4 ha1 ha2 ha3 ha4 hb1 hb2 hb3 hb4 (by first | rfl | exact h52 | exact h54 | exact h57 | exact h59 | exact h60 | exact h62 | exact h63 | exact h65 | exact h66 | exact h67 | exact h68 | exact h70 | exact h71 | exact h73 | exact h74 | exact h75 | exact h76) (by first | rfl | exact h52 | exact h54 | exact h57 | exact h59 | exact h60 | exact h62 | exact h63 | exact h65 | exact h66 | exact h67 | exact h68 | exact h70 | exact h71 | exact h73 | exact h74 | exact h75 | exact h76) (by first | rfl | exact h52 | exact h54 | exact h57 | exact h59 | exact h60 | exact h62 | exact h63 | exact h65 | exact h66 | exact h67 | exact h68 | exact h70 | exact h71 | exact h73 | exact h74 | exact h75 | exact h76) (by first | rfl | exact h52 | exact h54 | exact h57 | exact h59 | exact h60 | exact h62 | exact h63 | exact h65 | exact h66 | exact h67 | exact h68 | exact h70 | exact h71 | exact h73 | exact h74 | exact h75 | exact h76) (by first | rfl | exact h52 | exact h54 | exact h57 | exact h59 | exact h60 | exact h62 | exact h63 | exact h65 | exact h66 | exact h67 | exact h68 | exact h70 | exact h71 | exact h73 | exact h74 | exact h75 | exact h76) (by first | rfl | exact h52 | exact h54 | exact h57 | exact h59 | exact h60 | exact h62 | exact h63 | exact h65 | exact h66 | exact h67 | exact h68 | exact h70 | exact h71 | exact h73 | exact h74 | exact h75 | exact h76) (by first | rfl | exact h52 | exact h54 | exact h57 | exact h59 | exact h60 | exact h62 | exact h63 | exact h65 | exact h66 | exact h67 | exact h68 | exact h70 | exact h71 | exact h73 | exact h74 | exact h75 | exact h76) (by first | rfl | exact h52 | exact h54 | exact h57 | exact h59 | exact h60 | exact h62 | exact h63 | exact h65 | exact h66 | exact h67 | exact h68 | exact h70 | exact h71 | exact h73 | exact h74 | exact h75 | exact h76) (by first | rfl | exact h52 | exact h54 | exact h57 | exact h59 | exact h60 | exact h62 | exact h63 | exact h65 | exact h66 | exact h67 | exact h68 | exact h70 | exact h71 | exact h73 | exact h74 | exact h75 | exact h76) (by first | rfl | exact h52 | exact h54 | exact h57 | exact h59 | exact h60 | exact h62 | exact h63 | exact h65 | exact h66 | exact h67 | exact h68 | exact h70 | exact h71 | exact h73 | exact h74 | exact h75 | exact h76) (by first | rfl | exact h52 | exact h54 | exact h57 | exact h59 | exact h60 | exact h62 | exact h63 | exact h65 | exact h66 | exact h67 | exact h68 | exact h70 | exact h71 | exact h73 | exact h74 | exact h75 | exact h76) (by first | rfl | exact h52 | exact h54 | exact h57 | exact h59 | exact h60 | exact h62 | exact h63 | exact h65 | exact h66 | exact h67 | exact h68 | exact h70 | exact h71 | exact h73 | exact h74 | exact h75 | exact h76) (by first | rfl | exact h52 | exact h54 | exact h57 | exact h59 | exact h60 | exact h62 | exact h63 | exact h65 | exact h66 | exact h67 | exact h68 | exact h70 | exact h71 | exact h73 | exact h74 | exact h75 | exact h76) (by first | rfl | exact h52 | exact h54 | exact h57 | exact h59 | exact h60 | exact h62 | exact h63 | exact h65 | exact h66 | exact h67 | exact h68 | exact h70 | exact h71 | exact h73 | exact h74 | exact h75 | exact h76)) ⟨callB_of 4 htx (xw_goodC kw_7_131) rfl rfl rfl (htx _ kw_1_5) (htx _ kw_7_128) ⟨by decide, by decide, by decide +kernel⟩ ⟨Nat.le_of_ble_eq_true rfl, Nat.le_of_ble_eq_true rfl⟩, (htx _ kw_7_129), (htx _ kw_7_130)⟩ ⟨xPre_blind, va_recv hK hP (ci := 5) rfl (q0 := 0) rfl, (fun U hU hW => ⟨rfl, xPre_of hZ hS hFc hPc hDc hK U hU hW⟩)⟩ rfl rfl hl.1 rfl (lv_room (Nat.le_of_ble_eq_true rfl)) dL_law_778 ⟨Nat.le_of_ble_eq_true rfl, Nat.le_of_ble_eq_true rfl⟩) hS (fun q _ h => hFc q h) hFc (fun u9 t H1 locs ht hvm hr9 hB hz1 hk1 hS => ?_)
  obtain ⟨q2, q3, hP1, hK1, hD1⟩ := hB
  rw [ht] at hP1
  obtain ⟨hP, hD⟩ := xjoin (W := [(a2, .inl (cT 2, 1, .inr (.inl f47))), (a0, .inr (0, [v12, v13, v14, .ref a4, .ref b15, .ref a3, v16, .int 1])), (a3, .inr (2, [v48, .int 0, .int 0])), (a4, .inl (cT 3, 8, .inr (.inr (.inr (.inr f51))))), (a5, .inr (2, [.ref a6, .int 1, v55])), (a6, .inl (cT 2, 4096, .inr (.inl f56))), (a1, .inr (5, [.int 2, .ref a10, .int 2, v20, .int 0, v22, v23, .int 0, .int 1, .int 0, v27, v28, .int 0, v30, v31, .ref a11, .int 4, .int 4, .int 0, .int 100, v37, v38, .int 0, .int 1000000000, .ref a7, .ref a8, v41, v42, v43, v44, .int 1, v46])), (a7, .inl (cT 5, 8, .inr (.inr (.inr (.inr f58))))), (a8, .inl (cT 1, 8, .inl f61)), (a9, .inl (cT 0, 4096, .inl f64)), (a10, .inl (cT 4, 1024, .inr (.inr (.inr (.inr (va_up (va_up f69 0 (some q2)) 1 (some q3))))))), (a11, .inl (cT 0, 4096, .inl f72)), (q2, .inr (6, [.int 0, .long 0, .int 0, .int 0, .int 0, .int 1])), (q3, .inr (6, [.int 0, .long 0, .int 0, .int 0, .int 0, .int 1]))]) hP hD [0, 2, 3, 4, 5, 6] [1, 7, 8, 9, 10, 11] 6 rfl rfl (by decide) (by decide) hk1 hFc hP1 hD1
  generalize H1 = H at hP hS ⊢
  refine lv_aload_n hx hb dL_law_781 rfl (lv_at hl 3 rfl) ?_
  obtain ⟨hPc, hDc, hFc⟩ := xcut (wc := [(a1, .inr (5, [.int 2, .ref a10, .int 2, v20, .int 0, v22, v23, .int 0, .int 1, .int 0, v27, v28, .int 0, v30, v31, .ref a11, .int 4, .int 4, .int 0, .int 100, v37, v38, .int 0, .int 1000000000, .ref a7, .ref a8, v41, v42, v43, v44, .int 1, v46]))]) hP hD hS hA [6] rfl rfl (by decide)
  refine va_calli (va_runV (C := "ValueBenchModel") (As := []) (rest := []) ⟨hx, hb, hml, hown, htx⟩ (cM_thrown_2 l hl9 D cT aK aV H.size a1 (.ref a10) (.int 2) v20 (.int 0) v22 v23 (.int 0) (.int 1) (.int 0) v27 v28 (.int 0) v30 v31 (.ref a11) (.int 4) (.int 4) (.int 0) (.int 100) v37 v38 (.int 0) (.int 1000000000) (.ref a7) (.ref a8) v41 v42 v43 v44 (.int 1) v46) ⟨callB_of 0 htx (xw_goodC kw_5_187) rfl rfl rfl (htx _ kw_1_5) (htx _ kw_5_184) ⟨by decide, by decide, by decide +kernel⟩ ⟨Nat.le_of_ble_eq_true rfl, Nat.le_of_ble_eq_true rfl⟩, (htx _ kw_5_185), (htx _ kw_5_186)⟩ ⟨xPre_blind, va_recv hK hP (ci := 5) rfl (q0 := 6) rfl, (fun U hU hW => ⟨rfl, xPre_of hZ hS hFc hPc hDc hK U hU hW⟩)⟩ rfl rfl hl.1 rfl (lv_room (Nat.le_of_ble_eq_true rfl)) dL_law_782 ⟨Nat.le_of_ble_eq_true rfl, Nat.le_of_ble_eq_true rfl⟩) hS (fun q _ h => hFc q h) hFc (fun r4 u9 t H1 locs ht hvm hr9 hB hz1 hk1 hS => ?_)
  obtain ⟨hP1, hK1, hD1⟩ := hB
  rw [ht] at hP1
  obtain ⟨hP, hD⟩ := xjoin (W := [(a2, .inl (cT 2, 1, .inr (.inl f47))), (a0, .inr (0, [v12, v13, v14, .ref a4, .ref b15, .ref a3, v16, .int 1])), (a3, .inr (2, [v48, .int 0, .int 0])), (a4, .inl (cT 3, 8, .inr (.inr (.inr (.inr f51))))), (a5, .inr (2, [.ref a6, .int 1, v55])), (a6, .inl (cT 2, 4096, .inr (.inl f56))), (a7, .inl (cT 5, 8, .inr (.inr (.inr (.inr f58))))), (a8, .inl (cT 1, 8, .inl f61)), (a9, .inl (cT 0, 4096, .inl f64)), (a10, .inl (cT 4, 1024, .inr (.inr (.inr (.inr (va_up (va_up f69 0 (some q2)) 1 (some q3))))))), (a11, .inl (cT 0, 4096, .inl f72)), (q2, .inr (6, [.int 0, .long 0, .int 0, .int 0, .int 0, .int 1])), (q3, .inr (6, [.int 0, .long 0, .int 0, .int 0, .int 0, .int 1])), (a1, .inr (5, [.int 2, .ref a10, .int 2, v20, .int 0, v22, v23, .int 0, .int 1, .int 0, v27, v28, .int 0, v30, v31, .ref a11, .int 4, .int 4, .int 0, .int 100, v37, v38, .int 0, .int 1000000000, .ref a7, .ref a8, v41, v42, v43, v44, .int 1, v46]))]) hP hD [6] [0, 1, 2, 3, 4, 5, 7, 8, 9, 10, 11, 12, 13] 13 rfl rfl (by decide) (by decide) hk1 hFc hP1 hD1
  generalize H1 = H at hP hS ⊢
  rw [hr9]
  refine W.eq (g2 := F0 m 785 ls [.int 2]) rfl ?_
  refine lv_iload hx hb dL_law_785 (lv_at hl 0 rfl) ?_
  refine lv_icmp_eq (tgt := 792) hx hb dL_law_787 (by decide) (fun _ => ?_) (fun h => ((by revert h; decide : False)).elim)
  refine lv_goto (tgt := 906) hx hb dL_law_792 (by decide) ?_
  refine lv_iinc (v := 6) (lv' := [(4, .int 6), (5, .int 2), (3, .ref a2), (2, .ref a1), (1, .ref a0), (0, .ref b)]) hx hb dL_law_906 hl (k := 1) rfl (by decide) (by decide) rfl (fun ls hl => ?_)
  refine lv_goto (tgt := 23) hx hb dL_law_909 (by decide) ?_
  refine lv_iload hx hb dL_law_23 (lv_at hl 0 rfl) ?_
  refine lv_aload_n hx hb dL_law_25 rfl (lv_at hl 5 rfl) ?_
  refine va_slen hx hb hXs hbl hbA hS dL_law_26 ?_
  refine W.eq (g2 := F0 m 27 ls [.int 6, .int 6]) rfl ?_
  refine lv_bipush (v := 6) hx hb dL_law_27 (by decide) ?_
  refine lv_isub hx hb dL_law_29 ?_
  refine W.eq (g2 := F0 m 30 ls [.int 0, .int 6]) rfl ?_
  refine lv_icmp_gt (tgt := 912) hx hb dL_law_30 (by decide) (fun _ => ?_) (fun h => ((by revert h; decide : False)).elim)
  refine lv_iconst (v := 1) hx hb dL_law_912 (by decide) ?_
  exact va_forget (fun q h => hA2 _ (hS.2.2 q h)) (W.widen (k := 600002) (n := 7302232) (Nat.le_of_ble_eq_true rfl) (Nat.le_of_ble_eq_true rfl) (lw_ret hx hb hr hlocks dL_law_913))
set_option maxHeartbeats 400000000 in
set_option maxRecDepth 100000 in
theorem lf_sort1_p4 {p : Program} {e : Env} {s : State} {m : MethodId} {below : List Frame} {meth : Method} {c : Code} (l : Launch) (hl9 : l.stackTraces = false) (D : va_G) (cT : Nat → ClassId) (aK aV : Nat → Nat) {A : Nat → Prop} {b : Nat} {xs : Nat → Int32} (C : xLw p s m meth c b D cT aK aV A) {H : Heap} {locs : List Loc} {ls : Array Slot} (a0 : Nat) (a1 : Nat) (a2 : Nat) (a3 : Nat) (a4 : Nat) (a5 : Nat) (a6 : Nat) (a7 : Nat) (a8 : Nat) (a9 : Nat) (a10 : Nat) (v11 : Value) (v12 : Value) (v13 : Value) (b14 : Nat) (v15 : Value) (v16 : Value) (v17 : Value) (v18 : Value) (v19 : Value) (v20 : Value) (v21 : Value) (v22 : Value) (v23 : Value) (v24 : Value) (v25 : Value) (v26 : Value) (v27 : Value) (v28 : Value) (v29 : Value) (v30 : Value) (v31 : Value) (v32 : Value) (v33 : Value) (v34 : Value) (v35 : Value) (v36 : Value) (v37 : Value) (v38 : Value) (v39 : Value) (v40 : Value) (v41 : Value) (v42 : Value) (v43 : Value) (v44 : Value) (v45 : Value) (f46 : Nat → Int64) (v47 : Value) (v48 : Value) (v49 : Value) (f50 : Nat → Option Nat) (v53 : Value) (f54 : Nat → Int64) (f56 : Nat → Option Nat) (f59 : Nat → Int32) (f62 : Nat → Int32) (f67 : Nat → Option Nat) (h51 : f50 (xs 3).toNatClampNeg = some a5) (h52 : f50 (xs 4).toNatClampNeg = some a5) (h55 : f54 0 = 0) (h57 : f56 (xs 3).toNatClampNeg = some a9) (h58 : f56 (xs 4).toNatClampNeg = some a9) (h60 : f59 (xs 3).toNatClampNeg = 4) (h61 : f59 (xs 4).toNatClampNeg = 4) (h63 : f62 0 = 110) (h64 : f62 1 = 117) (h65 : f62 2 = 108) (h66 : f62 3 = 108) (h68 : f67 0 = none) (h69 : f67 1 = none) (hto1 : ¬ (xs 1) < 0) (hto2 : ¬ 7 < (xs 1)) (hto3 : (xs 1) ≤ 7) (hto4 : vp_in (xs 1) 8) (hf : xs 2 = 1) (ha1 : ¬ (xs 3) < 0) (ha2 : ¬ 7 < (xs 3)) (ha3 : (xs 3) ≤ 7) (ha4 : vp_in (xs 3) 8) (hb1 : ¬ (xs 4) < 0) (hb2 : ¬ 7 < (xs 4)) (hb3 : (xs 4) ≤ 7) (hb4 : vp_in (xs 4) 8) (hXs : va_X b 6 xs s s.heap) (hP : va_P D xcl [(a0, .inr (0, [v11, v12, v13, .ref a4, .ref b14, .ref a3, v15, v16])), (a1, .inr (5, [v17, .ref a10, v18, v19, v20, v21, v22, v23, v24, v25, v26, v27, v28, v29, v30, v31, v32, v33, v34, v35, v36, v37, v38, v39, .ref a7, .ref a8, v40, v41, v42, v43, v44, v45])), (a2, .inl (cT 2, 1, .inr (.inl f46))), (a3, .inr (2, [v47, v48, v49])), (a4, .inl (cT 3, 8, .inr (.inr (.inr (.inr f50))))), (a5, .inr (2, [.ref a6, .int 1, v53])), (a6, .inl (cT 2, 4096, .inr (.inl f54))), (a7, .inl (cT 5, 8, .inr (.inr (.inr (.inr f56))))), (a8, .inl (cT 1, 8, .inl f59)), (a9, .inl (cT 0, 4096, .inl f62)), (a10, .inl (cT 4, 1024, .inr (.inr (.inr (.inr f67)))))] H) (hD : va_D A [(a0, .inr (0, [v11, v12, v13, .ref a4, .ref b14, .ref a3, v15, v16])), (a1, .inr (5, [v17, .ref a10, v18, v19, v20, v21, v22, v23, v24, v25, v26, v27, v28, v29, v30, v31, v32, v33, v34, v35, v36, v37, v38, v39, .ref a7, .ref a8, v40, v41, v42, v43, v44, v45])), (a2, .inl (cT 2, 1, .inr (.inl f46))), (a3, .inr (2, [v47, v48, v49])), (a4, .inl (cT 3, 8, .inr (.inr (.inr (.inr f50))))), (a5, .inr (2, [.ref a6, .int 1, v53])), (a6, .inl (cT 2, 4096, .inr (.inl f54))), (a7, .inl (cT 5, 8, .inr (.inr (.inr (.inr f56))))), (a8, .inl (cT 1, 8, .inl f59)), (a9, .inl (cT 0, 4096, .inl f62)), (a10, .inl (cT 4, 1024, .inr (.inr (.inr (.inr f67)))))]) (hS : va_S A s.heap H locs) (hl : lv_has ls 8 [(4, .int 0), (3, .ref a2), (2, .ref a1), (1, .ref a0), (0, .ref b)]) : W p l e room_1 s m #[Value.ref b] below meth c H locs 54 107242 (lw_Z below #[Value.ref b] s) (F0 m 723 ls []) := by
  obtain ⟨hx, hb, hr, hml, hown, htx, hbl, hbA, hlocks, hK, hZ, hA, hA2⟩ := C
  refine lv_aload_n hx hb dL_law_723 rfl (lv_at hl 3 rfl) ?_
  refine lv_aload_n hx hb dL_law_724 rfl (lv_at hl 4 rfl) ?_
  refine lv_iload hx hb dL_law_725 (lv_at hl 0 rfl) ?_
  refine lv_iconst (v := 1) hx hb dL_law_727 (by decide) ?_
  refine lv_iadd hx hb dL_law_728 ?_
  refine W.eq (g2 := F0 m 729 ls [.int 1, .ref b, .ref a0]) rfl ?_
  refine va_sld hx hb hXs hbl hbA hS (i := 1) (show ¬ ((1 : Int32) < 0 ∨ 6 ≤ (1 : Int32).toNatClampNeg) by decide) dL_law_729 ?_
  refine W.eq (g2 := F0 m 730 ls [.int (xs 1), .ref a0]) rfl ?_
  refine lv_aload_n hx hb dL_law_730 rfl (lv_at hl 4 rfl) ?_
  refine lv_iload hx hb dL_law_731 (lv_at hl 0 rfl) ?_
  refine lv_iconst (v := 2) hx hb dL_law_733 (by decide) ?_
  refine lv_iadd hx hb dL_law_734 ?_
  refine W.eq (g2 := F0 m 735 ls [.int 2, .ref b, .int (xs 1), .ref a0]) rfl ?_
  refine va_sld hx hb hXs hbl hbA hS (i := 2) (show ¬ ((2 : Int32) < 0 ∨ 6 ≤ (2 : Int32).toNatClampNeg) by decide) dL_law_735 ?_
  refine W.eq (g2 := F0 m 736 ls [.int (xs 2), .int (xs 1), .ref a0]) rfl ?_
  rw [hf]
  refine W.eq (g2 := F0 m 736 ls [.int 1, .int (xs 1), .ref a0]) rfl ?_
  refine lv_aload_n hx hb dL_law_736 rfl (lv_at hl 4 rfl) ?_
  refine lv_iload hx hb dL_law_737 (lv_at hl 0 rfl) ?_
  refine lv_iconst (v := 3) hx hb dL_law_739 (by decide) ?_
  refine lv_iadd hx hb dL_law_740 ?_
  refine W.eq (g2 := F0 m 741 ls [.int 3, .ref b, .int 1, .int (xs 1), .ref a0]) rfl ?_
  refine va_sld hx hb hXs hbl hbA hS (i := 3) (show ¬ ((3 : Int32) < 0 ∨ 6 ≤ (3 : Int32).toNatClampNeg) by decide) dL_law_741 ?_
  refine W.eq (g2 := F0 m 742 ls [.int (xs 3), .int 1, .int (xs 1), .ref a0]) rfl ?_
  refine lv_aload_n hx hb dL_law_742 rfl (lv_at hl 4 rfl) ?_
  refine lv_iload hx hb dL_law_743 (lv_at hl 0 rfl) ?_
  refine lv_iconst (v := 4) hx hb dL_law_745 (by decide) ?_
  refine lv_iadd hx hb dL_law_746 ?_
  refine W.eq (g2 := F0 m 747 ls [.int 4, .ref b, .int (xs 3), .int 1, .int (xs 1), .ref a0]) rfl ?_
  refine va_sld hx hb hXs hbl hbA hS (i := 4) (show ¬ ((4 : Int32) < 0 ∨ 6 ≤ (4 : Int32).toNatClampNeg) by decide) dL_law_747 ?_
  refine W.eq (g2 := F0 m 748 ls [.int (xs 4), .int (xs 3), .int 1, .int (xs 1), .ref a0]) rfl ?_
  obtain ⟨hPc, hDc, hFc⟩ := xcut (wc := [(a0, .inr (0, [v11, v12, v13, .ref a4, .ref b14, .ref a3, v15, v16])), (a3, .inr (2, [v47, v48, v49])), (a4, .inl (cT 3, 8, .inr (.inr (.inr (.inr f50))))), (a5, .inr (2, [.ref a6, .int 1, v53])), (a6, .inl (cT 2, 4096, .inr (.inl f54)))]) hP hD hS hA [0, 3, 4, 5, 6] rfl rfl (by decide)
  refine va_calli (vx_runSW (As := [.ref a0, .int (xs 1), .int 1, .int (xs 3), .int (xs 4)]) (rest := []) ⟨hx, hb, hml, hown, htx⟩ (cL_sort_10 l hl9 D cT aK aV H.size a0 a3 a4 a5 a6 (xs 1) (xs 3) (xs 4) v11 v12 v13 b14 v15 v16 v47 v48 v49 f50 v53 f54 hto1 hto2 hto3 hto4 ha1 ha2 ha3 ha4 hb1 hb2 hb3 hb4 (by first | rfl | exact h51 | exact h52 | exact h55 | exact h57 | exact h58 | exact h60 | exact h61 | exact h63 | exact h64 | exact h65 | exact h66 | exact h68 | exact h69) (by first | rfl | exact h51 | exact h52 | exact h55 | exact h57 | exact h58 | exact h60 | exact h61 | exact h63 | exact h64 | exact h65 | exact h66 | exact h68 | exact h69) (by first | rfl | exact h51 | exact h52 | exact h55 | exact h57 | exact h58 | exact h60 | exact h61 | exact h63 | exact h64 | exact h65 | exact h66 | exact h68 | exact h69)) (xcSW 5 htx (xw_goodC kw_5_14) rfl rfl rfl (htx _ kw_1_0) (htx _ kw_5_12) ⟨by decide, by decide, by decide +kernel⟩ ⟨Nat.le_of_ble_eq_true rfl, Nat.le_of_ble_eq_true rfl⟩ (htx _ kw_5_13)) ⟨xPre_blind, (fun U hU hW => ⟨rfl, xPre_of hZ hS hFc hPc hDc hK U hU hW⟩)⟩ rfl rfl hl.1 rfl (lv_room (Nat.le_of_ble_eq_true rfl)) dL_law_748 ⟨Nat.le_of_ble_eq_true rfl, Nat.le_of_ble_eq_true rfl⟩) hS (fun q _ h => hFc q h) hFc (fun r1 u9 t H1 locs ht hvm hr9 hB hz1 hk1 hS => ?_)
  obtain ⟨hP1, hK1, hD1⟩ := hB
  rw [ht] at hP1
  obtain ⟨hP, hD⟩ := xjoin (W := [(a1, .inr (5, [v17, .ref a10, v18, v19, v20, v21, v22, v23, v24, v25, v26, v27, v28, v29, v30, v31, v32, v33, v34, v35, v36, v37, v38, v39, .ref a7, .ref a8, v40, v41, v42, v43, v44, v45])), (a2, .inl (cT 2, 1, .inr (.inl f46))), (a7, .inl (cT 5, 8, .inr (.inr (.inr (.inr f56))))), (a8, .inl (cT 1, 8, .inl f59)), (a9, .inl (cT 0, 4096, .inl f62)), (a10, .inl (cT 4, 1024, .inr (.inr (.inr (.inr f67))))), (a0, .inr (0, [v11, v12, v13, .ref a4, .ref b14, .ref a3, v15, .int 1])), (a3, .inr (2, [v47, .int 0, .int 0])), (a4, .inl (cT 3, 8, .inr (.inr (.inr (.inr f50))))), (a5, .inr (2, [.ref a6, .int 1, v53])), (a6, .inl (cT 2, 4096, .inr (.inl f54)))]) hP hD [0, 3, 4, 5, 6] [1, 2, 7, 8, 9, 10] 6 rfl rfl (by decide) (by decide) hk1 hFc hP1 hD1
  generalize H1 = H at hP hS ⊢
  rw [hr9]
  refine W.eq (g2 := F0 m 751 ls [.int 2]) rfl ?_
  refine lv_istore (lv' := [(5, .int 2), (4, .int 0), (3, .ref a2), (2, .ref a1), (1, .ref a0), (0, .ref b)]) hx hb dL_law_751 hl (by decide) rfl (fun ls hl => ?_)
  refine lv_aload_n hx hb dL_law_753 rfl (lv_at hl 3 rfl) ?_
  refine lv_aload_n hx hb dL_law_754 rfl (lv_at hl 5 rfl) ?_
  refine lv_iload hx hb dL_law_755 (lv_at hl 1 rfl) ?_
  refine lv_iconst (v := 1) hx hb dL_law_757 (by decide) ?_
  refine lv_iadd hx hb dL_law_758 ?_
  refine W.eq (g2 := F0 m 759 ls [.int 1, .ref b, .ref a1]) rfl ?_
  refine va_sld hx hb hXs hbl hbA hS (i := 1) (show ¬ ((1 : Int32) < 0 ∨ 6 ≤ (1 : Int32).toNatClampNeg) by decide) dL_law_759 ?_
  refine W.eq (g2 := F0 m 760 ls [.int (xs 1), .ref a1]) rfl ?_
  refine lv_aload_n hx hb dL_law_760 rfl (lv_at hl 5 rfl) ?_
  refine lv_iload hx hb dL_law_761 (lv_at hl 1 rfl) ?_
  refine lv_iconst (v := 2) hx hb dL_law_763 (by decide) ?_
  refine lv_iadd hx hb dL_law_764 ?_
  refine W.eq (g2 := F0 m 765 ls [.int 2, .ref b, .int (xs 1), .ref a1]) rfl ?_
  refine va_sld hx hb hXs hbl hbA hS (i := 2) (show ¬ ((2 : Int32) < 0 ∨ 6 ≤ (2 : Int32).toNatClampNeg) by decide) dL_law_765 ?_
  refine W.eq (g2 := F0 m 766 ls [.int (xs 2), .int (xs 1), .ref a1]) rfl ?_
  rw [hf]
  refine W.eq (g2 := F0 m 766 ls [.int 1, .int (xs 1), .ref a1]) rfl ?_
  refine lv_aload_n hx hb dL_law_766 rfl (lv_at hl 5 rfl) ?_
  refine lv_iload hx hb dL_law_767 (lv_at hl 1 rfl) ?_
  refine lv_iconst (v := 3) hx hb dL_law_769 (by decide) ?_
  refine lv_iadd hx hb dL_law_770 ?_
  refine W.eq (g2 := F0 m 771 ls [.int 3, .ref b, .int 1, .int (xs 1), .ref a1]) rfl ?_
  refine va_sld hx hb hXs hbl hbA hS (i := 3) (show ¬ ((3 : Int32) < 0 ∨ 6 ≤ (3 : Int32).toNatClampNeg) by decide) dL_law_771 ?_
  refine W.eq (g2 := F0 m 772 ls [.int (xs 3), .int 1, .int (xs 1), .ref a1]) rfl ?_
  refine lv_aload_n hx hb dL_law_772 rfl (lv_at hl 5 rfl) ?_
  refine lv_iload hx hb dL_law_773 (lv_at hl 1 rfl) ?_
  refine lv_iconst (v := 4) hx hb dL_law_775 (by decide) ?_
  refine lv_iadd hx hb dL_law_776 ?_
  refine W.eq (g2 := F0 m 777 ls [.int 4, .ref b, .int (xs 3), .int 1, .int (xs 1), .ref a1]) rfl ?_
  refine va_sld hx hb hXs hbl hbA hS (i := 4) (show ¬ ((4 : Int32) < 0 ∨ 6 ≤ (4 : Int32).toNatClampNeg) by decide) dL_law_777 ?_
  refine W.eq (g2 := F0 m 778 ls [.int (xs 4), .int (xs 3), .int 1, .int (xs 1), .ref a1]) rfl ?_
  obtain ⟨hPc, hDc, hFc⟩ := xcut (wc := [(a1, .inr (5, [v17, .ref a10, v18, v19, v20, v21, v22, v23, v24, v25, v26, v27, v28, v29, v30, v31, v32, v33, v34, v35, v36, v37, v38, v39, .ref a7, .ref a8, v40, v41, v42, v43, v44, v45])), (a7, .inl (cT 5, 8, .inr (.inr (.inr (.inr f56))))), (a8, .inl (cT 1, 8, .inl f59)), (a9, .inl (cT 0, 4096, .inl f62)), (a10, .inl (cT 4, 1024, .inr (.inr (.inr (.inr f67)))))]) hP hD hS hA [0, 2, 3, 4, 5] rfl rfl (by decide)
  refine va_callv (va_runV (C := "ValueBenchModel") (As := [.int (xs 1), .int 1, .int (xs 3), .int (xs 4)]) (rest := []) ⟨hx, hb, hml, hown, htx⟩ (cM_sort0_10 l hl9 D cT aK aV H.size a1 a7 a8 a9 a10 (xs 1) (xs 3) (xs 4) v17 v18 v19 v20 v21 v22 v23 v24 v25 v26 v27 v28 v29 v30 v31 v32 v33 v34 v35 v36 v37 v38 v39 v40 v41 v42 v43 v44 v45 f56 f59 f62 f67 hto1 hto2 hto3 hto4 ha1 ha2 ha3 ha4 hb1 hb2 hb3 hb4 (by first | rfl | exact h51 | exact h52 | exact h55 | exact h57 | exact h58 | exact h60 | exact h61 | exact h63 | exact h64 | exact h65 | exact h66 | exact h68 | exact h69) (by first | rfl | exact h51 | exact h52 | exact h55 | exact h57 | exact h58 | exact h60 | exact h61 | exact h63 | exact h64 | exact h65 | exact h66 | exact h68 | exact h69) (by first | rfl | exact h51 | exact h52 | exact h55 | exact h57 | exact h58 | exact h60 | exact h61 | exact h63 | exact h64 | exact h65 | exact h66 | exact h68 | exact h69) (by first | rfl | exact h51 | exact h52 | exact h55 | exact h57 | exact h58 | exact h60 | exact h61 | exact h63 | exact h64 | exact h65 | exact h66 | exact h68 | exact h69) (by first | rfl | exact h51 | exact h52 | exact h55 | exact h57 | exact h58 | exact h60 | exact h61 | exact h63 | exact h64 | exact h65 | exact h66 | exact h68 | exact h69) (by first | rfl | exact h51 | exact h52 | exact h55 | exact h57 | exact h58 | exact h60 | exact h61 | exact h63 | exact h64 | exact h65 | exact h66 | exact h68 | exact h69) (by first | rfl | exact h51 | exact h52 | exact h55 | exact h57 | exact h58 | exact h60 | exact h61 | exact h63 | exact h64 | exact h65 | exact h66 | exact h68 | exact h69) (by first | rfl | exact h51 | exact h52 | exact h55 | exact h57 | exact h58 | exact h60 | exact h61 | exact h63 | exact h64 | exact h65 | exact h66 | exact h68 | exact h69) (by first | rfl | exact h51 | exact h52 | exact h55 | exact h57 | exact h58 | exact h60 | exact h61 | exact h63 | exact h64 | exact h65 | exact h66 | exact h68 | exact h69) (by first | rfl | exact h51 | exact h52 | exact h55 | exact h57 | exact h58 | exact h60 | exact h61 | exact h63 | exact h64 | exact h65 | exact h66 | exact h68 | exact h69)) ⟨callB_of 4 htx (xw_goodC kw_7_131) rfl rfl rfl (htx _ kw_1_5) (htx _ kw_7_128) ⟨by decide, by decide, by decide +kernel⟩ ⟨Nat.le_of_ble_eq_true rfl, Nat.le_of_ble_eq_true rfl⟩, (htx _ kw_7_129), (htx _ kw_7_130)⟩ ⟨xPre_blind, va_recv hK hP (ci := 5) rfl (q0 := 0) rfl, (fun U hU hW => ⟨rfl, xPre_of hZ hS hFc hPc hDc hK U hU hW⟩)⟩ rfl rfl hl.1 rfl (lv_room (Nat.le_of_ble_eq_true rfl)) dL_law_778 ⟨Nat.le_of_ble_eq_true rfl, Nat.le_of_ble_eq_true rfl⟩) hS (fun q _ h => hFc q h) hFc (fun u9 t H1 locs ht hvm hr9 hB hz1 hk1 hS => ?_)
  obtain ⟨q2, q3, hP1, hK1, hD1⟩ := hB
  rw [ht] at hP1
  obtain ⟨hP, hD⟩ := xjoin (W := [(a2, .inl (cT 2, 1, .inr (.inl f46))), (a0, .inr (0, [v11, v12, v13, .ref a4, .ref b14, .ref a3, v15, .int 1])), (a3, .inr (2, [v47, .int 0, .int 0])), (a4, .inl (cT 3, 8, .inr (.inr (.inr (.inr f50))))), (a5, .inr (2, [.ref a6, .int 1, v53])), (a6, .inl (cT 2, 4096, .inr (.inl f54))), (a1, .inr (5, [.int 2, .ref a10, .int 2, v19, .int 0, v21, v22, .int 0, .int 1, .int 0, v26, v27, .int 0, v29, v30, .ref a9, .int 4, .int 4, .int 0, .int 100, v36, v37, .int 0, .int 1000000000, .ref a7, .ref a8, v40, v41, v42, v43, .int 1, v45])), (a7, .inl (cT 5, 8, .inr (.inr (.inr (.inr f56))))), (a8, .inl (cT 1, 8, .inl f59)), (a9, .inl (cT 0, 4096, .inl f62)), (a10, .inl (cT 4, 1024, .inr (.inr (.inr (.inr (va_up (va_up f67 0 (some q2)) 1 (some q3))))))), (q2, .inr (6, [.int 0, .long 0, .int 0, .int 0, .int 0, .int 1])), (q3, .inr (6, [.int 0, .long 0, .int 0, .int 0, .int 0, .int 1]))]) hP hD [0, 2, 3, 4, 5] [1, 6, 7, 8, 9, 10] 6 rfl rfl (by decide) (by decide) hk1 hFc hP1 hD1
  generalize H1 = H at hP hS ⊢
  refine lv_aload_n hx hb dL_law_781 rfl (lv_at hl 3 rfl) ?_
  obtain ⟨hPc, hDc, hFc⟩ := xcut (wc := [(a1, .inr (5, [.int 2, .ref a10, .int 2, v19, .int 0, v21, v22, .int 0, .int 1, .int 0, v26, v27, .int 0, v29, v30, .ref a9, .int 4, .int 4, .int 0, .int 100, v36, v37, .int 0, .int 1000000000, .ref a7, .ref a8, v40, v41, v42, v43, .int 1, v45]))]) hP hD hS hA [6] rfl rfl (by decide)
  refine va_calli (va_runV (C := "ValueBenchModel") (As := []) (rest := []) ⟨hx, hb, hml, hown, htx⟩ (cM_thrown_2 l hl9 D cT aK aV H.size a1 (.ref a10) (.int 2) v19 (.int 0) v21 v22 (.int 0) (.int 1) (.int 0) v26 v27 (.int 0) v29 v30 (.ref a9) (.int 4) (.int 4) (.int 0) (.int 100) v36 v37 (.int 0) (.int 1000000000) (.ref a7) (.ref a8) v40 v41 v42 v43 (.int 1) v45) ⟨callB_of 0 htx (xw_goodC kw_5_187) rfl rfl rfl (htx _ kw_1_5) (htx _ kw_5_184) ⟨by decide, by decide, by decide +kernel⟩ ⟨Nat.le_of_ble_eq_true rfl, Nat.le_of_ble_eq_true rfl⟩, (htx _ kw_5_185), (htx _ kw_5_186)⟩ ⟨xPre_blind, va_recv hK hP (ci := 5) rfl (q0 := 6) rfl, (fun U hU hW => ⟨rfl, xPre_of hZ hS hFc hPc hDc hK U hU hW⟩)⟩ rfl rfl hl.1 rfl (lv_room (Nat.le_of_ble_eq_true rfl)) dL_law_782 ⟨Nat.le_of_ble_eq_true rfl, Nat.le_of_ble_eq_true rfl⟩) hS (fun q _ h => hFc q h) hFc (fun r4 u9 t H1 locs ht hvm hr9 hB hz1 hk1 hS => ?_)
  obtain ⟨hP1, hK1, hD1⟩ := hB
  rw [ht] at hP1
  obtain ⟨hP, hD⟩ := xjoin (W := [(a2, .inl (cT 2, 1, .inr (.inl f46))), (a0, .inr (0, [v11, v12, v13, .ref a4, .ref b14, .ref a3, v15, .int 1])), (a3, .inr (2, [v47, .int 0, .int 0])), (a4, .inl (cT 3, 8, .inr (.inr (.inr (.inr f50))))), (a5, .inr (2, [.ref a6, .int 1, v53])), (a6, .inl (cT 2, 4096, .inr (.inl f54))), (a7, .inl (cT 5, 8, .inr (.inr (.inr (.inr f56))))), (a8, .inl (cT 1, 8, .inl f59)), (a9, .inl (cT 0, 4096, .inl f62)), (a10, .inl (cT 4, 1024, .inr (.inr (.inr (.inr (va_up (va_up f67 0 (some q2)) 1 (some q3))))))), (q2, .inr (6, [.int 0, .long 0, .int 0, .int 0, .int 0, .int 1])), (q3, .inr (6, [.int 0, .long 0, .int 0, .int 0, .int 0, .int 1])), (a1, .inr (5, [.int 2, .ref a10, .int 2, v19, .int 0, v21, v22, .int 0, .int 1, .int 0, v26, v27, .int 0, v29, v30, .ref a9, .int 4, .int 4, .int 0, .int 100, v36, v37, .int 0, .int 1000000000, .ref a7, .ref a8, v40, v41, v42, v43, .int 1, v45]))]) hP hD [6] [0, 1, 2, 3, 4, 5, 7, 8, 9, 10, 11, 12] 12 rfl rfl (by decide) (by decide) hk1 hFc hP1 hD1
  generalize H1 = H at hP hS ⊢
  rw [hr9]
  refine W.eq (g2 := F0 m 785 ls [.int 2]) rfl ?_
  refine lv_iload hx hb dL_law_785 (lv_at hl 0 rfl) ?_
  refine lv_icmp_eq (tgt := 792) hx hb dL_law_787 (by decide) (fun _ => ?_) (fun h => ((by revert h; decide : False)).elim)
  refine lv_goto (tgt := 906) hx hb dL_law_792 (by decide) ?_
  refine lv_iinc (v := 6) (lv' := [(4, .int 6), (5, .int 2), (3, .ref a2), (2, .ref a1), (1, .ref a0), (0, .ref b)]) hx hb dL_law_906 hl (k := 1) rfl (by decide) (by decide) rfl (fun ls hl => ?_)
  refine lv_goto (tgt := 23) hx hb dL_law_909 (by decide) ?_
  refine lv_iload hx hb dL_law_23 (lv_at hl 0 rfl) ?_
  refine lv_aload_n hx hb dL_law_25 rfl (lv_at hl 5 rfl) ?_
  refine va_slen hx hb hXs hbl hbA hS dL_law_26 ?_
  refine W.eq (g2 := F0 m 27 ls [.int 6, .int 6]) rfl ?_
  refine lv_bipush (v := 6) hx hb dL_law_27 (by decide) ?_
  refine lv_isub hx hb dL_law_29 ?_
  refine W.eq (g2 := F0 m 30 ls [.int 0, .int 6]) rfl ?_
  refine lv_icmp_gt (tgt := 912) hx hb dL_law_30 (by decide) (fun _ => ?_) (fun h => ((by revert h; decide : False)).elim)
  refine lv_iconst (v := 1) hx hb dL_law_912 (by decide) ?_
  exact va_forget (fun q h => hA2 _ (hS.2.2 q h)) (W.widen (k := 600002) (n := 7302232) (Nat.le_of_ble_eq_true rfl) (Nat.le_of_ble_eq_true rfl) (lw_ret hx hb hr hlocks dL_law_913))
set_option maxHeartbeats 400000000 in
set_option maxRecDepth 100000 in
theorem lf_sort1_p1 {p : Program} {e : Env} {s : State} {m : MethodId} {below : List Frame} {meth : Method} {c : Code} (l : Launch) (hl9 : l.stackTraces = false) (D : va_G) (cT : Nat → ClassId) (aK aV : Nat → Nat) {A : Nat → Prop} {b : Nat} {xs : Nat → Int32} (C : xLw p s m meth c b D cT aK aV A) {H : Heap} {locs : List Loc} {ls : Array Slot} (a0 : Nat) (a1 : Nat) (a2 : Nat) (a3 : Nat) (a4 : Nat) (a5 : Nat) (a6 : Nat) (a7 : Nat) (a8 : Nat) (a9 : Nat) (a10 : Nat) (v11 : Value) (v12 : Value) (v13 : Value) (b14 : Nat) (v15 : Value) (v16 : Value) (v17 : Value) (v18 : Value) (v19 : Value) (v20 : Value) (v21 : Value) (v22 : Value) (v23 : Value) (v24 : Value) (v25 : Value) (v26 : Value) (v27 : Value) (v28 : Value) (v29 : Value) (v30 : Value) (v31 : Value) (v32 : Value) (v33 : Value) (v34 : Value) (v35 : Value) (v36 : Value) (v37 : Value) (v38 : Value) (v39 : Value) (v40 : Value) (v41 : Value) (v42 : Value) (v43 : Value) (v44 : Value) (v45 : Value) (f46 : Nat → Int64) (v47 : Value) (v48 : Value) (v49 : Value) (f50 : Nat → Option Nat) (v53 : Value) (f54 : Nat → Int64) (f56 : Nat → Option Nat) (f59 : Nat → Int32) (f62 : Nat → Int32) (f67 : Nat → Option Nat) (h51 : f50 (xs 3).toNatClampNeg = some a5) (h52 : f50 (xs 4).toNatClampNeg = some a5) (h55 : f54 0 = 0) (h57 : f56 (xs 3).toNatClampNeg = some a9) (h58 : f56 (xs 4).toNatClampNeg = some a9) (h60 : f59 (xs 3).toNatClampNeg = 4) (h61 : f59 (xs 4).toNatClampNeg = 4) (h63 : f62 0 = 110) (h64 : f62 1 = 117) (h65 : f62 2 = 108) (h66 : f62 3 = 108) (h68 : f67 0 = none) (h69 : f67 1 = none) (hto1 : ¬ (xs 1) < 0) (hto2 : ¬ 7 < (xs 1)) (hto3 : (xs 1) ≤ 7) (hto4 : vp_in (xs 1) 8) (hf : xs 2 = 1) (ha1 : ¬ (xs 3) < 0) (ha2 : ¬ 7 < (xs 3)) (ha3 : (xs 3) ≤ 7) (ha4 : vp_in (xs 3) 8) (hb1 : ¬ (xs 4) < 0) (hb2 : ¬ 7 < (xs 4)) (hb3 : (xs 4) ≤ 7) (hb4 : vp_in (xs 4) 8) (hXs : va_X b 6 xs s s.heap) (hP : va_P D xcl [(a0, .inr (0, [v11, v12, v13, .ref a4, .ref b14, .ref a3, v15, v16])), (a1, .inr (5, [v17, .ref a10, v18, v19, v20, v21, v22, v23, v24, v25, v26, v27, v28, v29, v30, v31, v32, v33, v34, v35, v36, v37, v38, v39, .ref a7, .ref a8, v40, v41, v42, v43, v44, v45])), (a2, .inl (cT 2, 1, .inr (.inl f46))), (a3, .inr (2, [v47, v48, v49])), (a4, .inl (cT 3, 8, .inr (.inr (.inr (.inr f50))))), (a5, .inr (2, [.ref a6, .int 1, v53])), (a6, .inl (cT 2, 4096, .inr (.inl f54))), (a7, .inl (cT 5, 8, .inr (.inr (.inr (.inr f56))))), (a8, .inl (cT 1, 8, .inl f59)), (a9, .inl (cT 0, 4096, .inl f62)), (a10, .inl (cT 4, 1024, .inr (.inr (.inr (.inr f67)))))] H) (hD : va_D A [(a0, .inr (0, [v11, v12, v13, .ref a4, .ref b14, .ref a3, v15, v16])), (a1, .inr (5, [v17, .ref a10, v18, v19, v20, v21, v22, v23, v24, v25, v26, v27, v28, v29, v30, v31, v32, v33, v34, v35, v36, v37, v38, v39, .ref a7, .ref a8, v40, v41, v42, v43, v44, v45])), (a2, .inl (cT 2, 1, .inr (.inl f46))), (a3, .inr (2, [v47, v48, v49])), (a4, .inl (cT 3, 8, .inr (.inr (.inr (.inr f50))))), (a5, .inr (2, [.ref a6, .int 1, v53])), (a6, .inl (cT 2, 4096, .inr (.inl f54))), (a7, .inl (cT 5, 8, .inr (.inr (.inr (.inr f56))))), (a8, .inl (cT 1, 8, .inl f59)), (a9, .inl (cT 0, 4096, .inl f62)), (a10, .inl (cT 4, 1024, .inr (.inr (.inr (.inr f67)))))]) (hS : va_S A s.heap H locs) (hl : lv_has ls 8 [(4, .int 0), (3, .ref a2), (2, .ref a1), (1, .ref a0), (0, .ref b)]) : W p l e room_1 s m #[Value.ref b] below meth c H locs 54 107242 (lw_Z below #[Value.ref b] s) (F0 m 723 ls []) := by
  obtain ⟨hx, hb, hr, hml, hown, htx, hbl, hbA, hlocks, hK, hZ, hA, hA2⟩ := C
  refine lv_aload_n hx hb dL_law_723 rfl (lv_at hl 3 rfl) ?_
  refine lv_aload_n hx hb dL_law_724 rfl (lv_at hl 4 rfl) ?_
  refine lv_iload hx hb dL_law_725 (lv_at hl 0 rfl) ?_
  refine lv_iconst (v := 1) hx hb dL_law_727 (by decide) ?_
  refine lv_iadd hx hb dL_law_728 ?_
  refine W.eq (g2 := F0 m 729 ls [.int 1, .ref b, .ref a0]) rfl ?_
  refine va_sld hx hb hXs hbl hbA hS (i := 1) (show ¬ ((1 : Int32) < 0 ∨ 6 ≤ (1 : Int32).toNatClampNeg) by decide) dL_law_729 ?_
  refine W.eq (g2 := F0 m 730 ls [.int (xs 1), .ref a0]) rfl ?_
  refine lv_aload_n hx hb dL_law_730 rfl (lv_at hl 4 rfl) ?_
  refine lv_iload hx hb dL_law_731 (lv_at hl 0 rfl) ?_
  refine lv_iconst (v := 2) hx hb dL_law_733 (by decide) ?_
  refine lv_iadd hx hb dL_law_734 ?_
  refine W.eq (g2 := F0 m 735 ls [.int 2, .ref b, .int (xs 1), .ref a0]) rfl ?_
  refine va_sld hx hb hXs hbl hbA hS (i := 2) (show ¬ ((2 : Int32) < 0 ∨ 6 ≤ (2 : Int32).toNatClampNeg) by decide) dL_law_735 ?_
  refine W.eq (g2 := F0 m 736 ls [.int (xs 2), .int (xs 1), .ref a0]) rfl ?_
  rw [hf]
  refine W.eq (g2 := F0 m 736 ls [.int 1, .int (xs 1), .ref a0]) rfl ?_
  refine lv_aload_n hx hb dL_law_736 rfl (lv_at hl 4 rfl) ?_
  refine lv_iload hx hb dL_law_737 (lv_at hl 0 rfl) ?_
  refine lv_iconst (v := 3) hx hb dL_law_739 (by decide) ?_
  refine lv_iadd hx hb dL_law_740 ?_
  refine W.eq (g2 := F0 m 741 ls [.int 3, .ref b, .int 1, .int (xs 1), .ref a0]) rfl ?_
  refine va_sld hx hb hXs hbl hbA hS (i := 3) (show ¬ ((3 : Int32) < 0 ∨ 6 ≤ (3 : Int32).toNatClampNeg) by decide) dL_law_741 ?_
  refine W.eq (g2 := F0 m 742 ls [.int (xs 3), .int 1, .int (xs 1), .ref a0]) rfl ?_
  refine lv_aload_n hx hb dL_law_742 rfl (lv_at hl 4 rfl) ?_
  refine lv_iload hx hb dL_law_743 (lv_at hl 0 rfl) ?_
  refine lv_iconst (v := 4) hx hb dL_law_745 (by decide) ?_
  refine lv_iadd hx hb dL_law_746 ?_
  refine W.eq (g2 := F0 m 747 ls [.int 4, .ref b, .int (xs 3), .int 1, .int (xs 1), .ref a0]) rfl ?_
  refine va_sld hx hb hXs hbl hbA hS (i := 4) (show ¬ ((4 : Int32) < 0 ∨ 6 ≤ (4 : Int32).toNatClampNeg) by decide) dL_law_747 ?_
  refine W.eq (g2 := F0 m 748 ls [.int (xs 4), .int (xs 3), .int 1, .int (xs 1), .ref a0]) rfl ?_
  obtain ⟨hPc, hDc, hFc⟩ := xcut (wc := [(a0, .inr (0, [v11, v12, v13, .ref a4, .ref b14, .ref a3, v15, v16])), (a3, .inr (2, [v47, v48, v49])), (a4, .inl (cT 3, 8, .inr (.inr (.inr (.inr f50))))), (a5, .inr (2, [.ref a6, .int 1, v53])), (a6, .inl (cT 2, 4096, .inr (.inl f54)))]) hP hD hS hA [0, 3, 4, 5, 6] rfl rfl (by decide)
  refine va_calli (vx_runSW (As := [.ref a0, .int (xs 1), .int 1, .int (xs 3), .int (xs 4)]) (rest := []) ⟨hx, hb, hml, hown, htx⟩ (cL_sort_10 l hl9 D cT aK aV H.size a0 a3 a4 a5 a6 (xs 1) (xs 3) (xs 4) v11 v12 v13 b14 v15 v16 v47 v48 v49 f50 v53 f54 hto1 hto2 hto3 hto4 ha1 ha2 ha3 ha4 hb1 hb2 hb3 hb4 (by first | rfl | exact h51 | exact h52 | exact h55 | exact h57 | exact h58 | exact h60 | exact h61 | exact h63 | exact h64 | exact h65 | exact h66 | exact h68 | exact h69) (by first | rfl | exact h51 | exact h52 | exact h55 | exact h57 | exact h58 | exact h60 | exact h61 | exact h63 | exact h64 | exact h65 | exact h66 | exact h68 | exact h69) (by first | rfl | exact h51 | exact h52 | exact h55 | exact h57 | exact h58 | exact h60 | exact h61 | exact h63 | exact h64 | exact h65 | exact h66 | exact h68 | exact h69)) (xcSW 5 htx (xw_goodC kw_5_14) rfl rfl rfl (htx _ kw_1_0) (htx _ kw_5_12) ⟨by decide, by decide, by decide +kernel⟩ ⟨Nat.le_of_ble_eq_true rfl, Nat.le_of_ble_eq_true rfl⟩ (htx _ kw_5_13)) ⟨xPre_blind, (fun U hU hW => ⟨rfl, xPre_of hZ hS hFc hPc hDc hK U hU hW⟩)⟩ rfl rfl hl.1 rfl (lv_room (Nat.le_of_ble_eq_true rfl)) dL_law_748 ⟨Nat.le_of_ble_eq_true rfl, Nat.le_of_ble_eq_true rfl⟩) hS (fun q _ h => hFc q h) hFc (fun r1 u9 t H1 locs ht hvm hr9 hB hz1 hk1 hS => ?_)
  obtain ⟨hP1, hK1, hD1⟩ := hB
  rw [ht] at hP1
  obtain ⟨hP, hD⟩ := xjoin (W := [(a1, .inr (5, [v17, .ref a10, v18, v19, v20, v21, v22, v23, v24, v25, v26, v27, v28, v29, v30, v31, v32, v33, v34, v35, v36, v37, v38, v39, .ref a7, .ref a8, v40, v41, v42, v43, v44, v45])), (a2, .inl (cT 2, 1, .inr (.inl f46))), (a7, .inl (cT 5, 8, .inr (.inr (.inr (.inr f56))))), (a8, .inl (cT 1, 8, .inl f59)), (a9, .inl (cT 0, 4096, .inl f62)), (a10, .inl (cT 4, 1024, .inr (.inr (.inr (.inr f67))))), (a0, .inr (0, [v11, v12, v13, .ref a4, .ref b14, .ref a3, v15, .int 1])), (a3, .inr (2, [v47, .int 0, .int 0])), (a4, .inl (cT 3, 8, .inr (.inr (.inr (.inr f50))))), (a5, .inr (2, [.ref a6, .int 1, v53])), (a6, .inl (cT 2, 4096, .inr (.inl f54)))]) hP hD [0, 3, 4, 5, 6] [1, 2, 7, 8, 9, 10] 6 rfl rfl (by decide) (by decide) hk1 hFc hP1 hD1
  generalize H1 = H at hP hS ⊢
  rw [hr9]
  refine W.eq (g2 := F0 m 751 ls [.int 2]) rfl ?_
  refine lv_istore (lv' := [(5, .int 2), (4, .int 0), (3, .ref a2), (2, .ref a1), (1, .ref a0), (0, .ref b)]) hx hb dL_law_751 hl (by decide) rfl (fun ls hl => ?_)
  refine lv_aload_n hx hb dL_law_753 rfl (lv_at hl 3 rfl) ?_
  refine lv_aload_n hx hb dL_law_754 rfl (lv_at hl 5 rfl) ?_
  refine lv_iload hx hb dL_law_755 (lv_at hl 1 rfl) ?_
  refine lv_iconst (v := 1) hx hb dL_law_757 (by decide) ?_
  refine lv_iadd hx hb dL_law_758 ?_
  refine W.eq (g2 := F0 m 759 ls [.int 1, .ref b, .ref a1]) rfl ?_
  refine va_sld hx hb hXs hbl hbA hS (i := 1) (show ¬ ((1 : Int32) < 0 ∨ 6 ≤ (1 : Int32).toNatClampNeg) by decide) dL_law_759 ?_
  refine W.eq (g2 := F0 m 760 ls [.int (xs 1), .ref a1]) rfl ?_
  refine lv_aload_n hx hb dL_law_760 rfl (lv_at hl 5 rfl) ?_
  refine lv_iload hx hb dL_law_761 (lv_at hl 1 rfl) ?_
  refine lv_iconst (v := 2) hx hb dL_law_763 (by decide) ?_
  refine lv_iadd hx hb dL_law_764 ?_
  refine W.eq (g2 := F0 m 765 ls [.int 2, .ref b, .int (xs 1), .ref a1]) rfl ?_
  refine va_sld hx hb hXs hbl hbA hS (i := 2) (show ¬ ((2 : Int32) < 0 ∨ 6 ≤ (2 : Int32).toNatClampNeg) by decide) dL_law_765 ?_
  refine W.eq (g2 := F0 m 766 ls [.int (xs 2), .int (xs 1), .ref a1]) rfl ?_
  rw [hf]
  refine W.eq (g2 := F0 m 766 ls [.int 1, .int (xs 1), .ref a1]) rfl ?_
  refine lv_aload_n hx hb dL_law_766 rfl (lv_at hl 5 rfl) ?_
  refine lv_iload hx hb dL_law_767 (lv_at hl 1 rfl) ?_
  refine lv_iconst (v := 3) hx hb dL_law_769 (by decide) ?_
  refine lv_iadd hx hb dL_law_770 ?_
  refine W.eq (g2 := F0 m 771 ls [.int 3, .ref b, .int 1, .int (xs 1), .ref a1]) rfl ?_
  refine va_sld hx hb hXs hbl hbA hS (i := 3) (show ¬ ((3 : Int32) < 0 ∨ 6 ≤ (3 : Int32).toNatClampNeg) by decide) dL_law_771 ?_
  refine W.eq (g2 := F0 m 772 ls [.int (xs 3), .int 1, .int (xs 1), .ref a1]) rfl ?_
  refine lv_aload_n hx hb dL_law_772 rfl (lv_at hl 5 rfl) ?_
  refine lv_iload hx hb dL_law_773 (lv_at hl 1 rfl) ?_
  refine lv_iconst (v := 4) hx hb dL_law_775 (by decide) ?_
  refine lv_iadd hx hb dL_law_776 ?_
  refine W.eq (g2 := F0 m 777 ls [.int 4, .ref b, .int (xs 3), .int 1, .int (xs 1), .ref a1]) rfl ?_
  refine va_sld hx hb hXs hbl hbA hS (i := 4) (show ¬ ((4 : Int32) < 0 ∨ 6 ≤ (4 : Int32).toNatClampNeg) by decide) dL_law_777 ?_
  refine W.eq (g2 := F0 m 778 ls [.int (xs 4), .int (xs 3), .int 1, .int (xs 1), .ref a1]) rfl ?_
  obtain ⟨hPc, hDc, hFc⟩ := xcut (wc := [(a1, .inr (5, [v17, .ref a10, v18, v19, v20, v21, v22, v23, v24, v25, v26, v27, v28, v29, v30, v31, v32, v33, v34, v35, v36, v37, v38, v39, .ref a7, .ref a8, v40, v41, v42, v43, v44, v45])), (a7, .inl (cT 5, 8, .inr (.inr (.inr (.inr f56))))), (a8, .inl (cT 1, 8, .inl f59)), (a9, .inl (cT 0, 4096, .inl f62)), (a10, .inl (cT 4, 1024, .inr (.inr (.inr (.inr f67)))))]) hP hD hS hA [0, 2, 3, 4, 5] rfl rfl (by decide)
  refine va_callv (va_runV (C := "ValueBenchModel") (As := [.int (xs 1), .int 1, .int (xs 3), .int (xs 4)]) (rest := []) ⟨hx, hb, hml, hown, htx⟩ (cM_sort0_10 l hl9 D cT aK aV H.size a1 a7 a8 a9 a10 (xs 1) (xs 3) (xs 4) v17 v18 v19 v20 v21 v22 v23 v24 v25 v26 v27 v28 v29 v30 v31 v32 v33 v34 v35 v36 v37 v38 v39 v40 v41 v42 v43 v44 v45 f56 f59 f62 f67 hto1 hto2 hto3 hto4 ha1 ha2 ha3 ha4 hb1 hb2 hb3 hb4 (by first | rfl | exact h51 | exact h52 | exact h55 | exact h57 | exact h58 | exact h60 | exact h61 | exact h63 | exact h64 | exact h65 | exact h66 | exact h68 | exact h69) (by first | rfl | exact h51 | exact h52 | exact h55 | exact h57 | exact h58 | exact h60 | exact h61 | exact h63 | exact h64 | exact h65 | exact h66 | exact h68 | exact h69) (by first | rfl | exact h51 | exact h52 | exact h55 | exact h57 | exact h58 | exact h60 | exact h61 | exact h63 | exact h64 | exact h65 | exact h66 | exact h68 | exact h69) (by first | rfl | exact h51 | exact h52 | exact h55 | exact h57 | exact h58 | exact h60 | exact h61 | exact h63 | exact h64 | exact h65 | exact h66 | exact h68 | exact h69) (by first | rfl | exact h51 | exact h52 | exact h55 | exact h57 | exact h58 | exact h60 | exact h61 | exact h63 | exact h64 | exact h65 | exact h66 | exact h68 | exact h69) (by first | rfl | exact h51 | exact h52 | exact h55 | exact h57 | exact h58 | exact h60 | exact h61 | exact h63 | exact h64 | exact h65 | exact h66 | exact h68 | exact h69) (by first | rfl | exact h51 | exact h52 | exact h55 | exact h57 | exact h58 | exact h60 | exact h61 | exact h63 | exact h64 | exact h65 | exact h66 | exact h68 | exact h69) (by first | rfl | exact h51 | exact h52 | exact h55 | exact h57 | exact h58 | exact h60 | exact h61 | exact h63 | exact h64 | exact h65 | exact h66 | exact h68 | exact h69) (by first | rfl | exact h51 | exact h52 | exact h55 | exact h57 | exact h58 | exact h60 | exact h61 | exact h63 | exact h64 | exact h65 | exact h66 | exact h68 | exact h69) (by first | rfl | exact h51 | exact h52 | exact h55 | exact h57 | exact h58 | exact h60 | exact h61 | exact h63 | exact h64 | exact h65 | exact h66 | exact h68 | exact h69)) ⟨callB_of 4 htx (xw_goodC kw_7_131) rfl rfl rfl (htx _ kw_1_5) (htx _ kw_7_128) ⟨by decide, by decide, by decide +kernel⟩ ⟨Nat.le_of_ble_eq_true rfl, Nat.le_of_ble_eq_true rfl⟩, (htx _ kw_7_129), (htx _ kw_7_130)⟩ ⟨xPre_blind, va_recv hK hP (ci := 5) rfl (q0 := 0) rfl, (fun U hU hW => ⟨rfl, xPre_of hZ hS hFc hPc hDc hK U hU hW⟩)⟩ rfl rfl hl.1 rfl (lv_room (Nat.le_of_ble_eq_true rfl)) dL_law_778 ⟨Nat.le_of_ble_eq_true rfl, Nat.le_of_ble_eq_true rfl⟩) hS (fun q _ h => hFc q h) hFc (fun u9 t H1 locs ht hvm hr9 hB hz1 hk1 hS => ?_)
  obtain ⟨q2, q3, hP1, hK1, hD1⟩ := hB
  rw [ht] at hP1
  obtain ⟨hP, hD⟩ := xjoin (W := [(a2, .inl (cT 2, 1, .inr (.inl f46))), (a0, .inr (0, [v11, v12, v13, .ref a4, .ref b14, .ref a3, v15, .int 1])), (a3, .inr (2, [v47, .int 0, .int 0])), (a4, .inl (cT 3, 8, .inr (.inr (.inr (.inr f50))))), (a5, .inr (2, [.ref a6, .int 1, v53])), (a6, .inl (cT 2, 4096, .inr (.inl f54))), (a1, .inr (5, [.int 2, .ref a10, .int 2, v19, .int 0, v21, v22, .int 0, .int 1, .int 0, v26, v27, .int 0, v29, v30, .ref a9, .int 4, .int 4, .int 0, .int 100, v36, v37, .int 0, .int 1000000000, .ref a7, .ref a8, v40, v41, v42, v43, .int 1, v45])), (a7, .inl (cT 5, 8, .inr (.inr (.inr (.inr f56))))), (a8, .inl (cT 1, 8, .inl f59)), (a9, .inl (cT 0, 4096, .inl f62)), (a10, .inl (cT 4, 1024, .inr (.inr (.inr (.inr (va_up (va_up f67 0 (some q2)) 1 (some q3))))))), (q2, .inr (6, [.int 0, .long 0, .int 0, .int 0, .int 0, .int 1])), (q3, .inr (6, [.int 0, .long 0, .int 0, .int 0, .int 0, .int 1]))]) hP hD [0, 2, 3, 4, 5] [1, 6, 7, 8, 9, 10] 6 rfl rfl (by decide) (by decide) hk1 hFc hP1 hD1
  generalize H1 = H at hP hS ⊢
  refine lv_aload_n hx hb dL_law_781 rfl (lv_at hl 3 rfl) ?_
  obtain ⟨hPc, hDc, hFc⟩ := xcut (wc := [(a1, .inr (5, [.int 2, .ref a10, .int 2, v19, .int 0, v21, v22, .int 0, .int 1, .int 0, v26, v27, .int 0, v29, v30, .ref a9, .int 4, .int 4, .int 0, .int 100, v36, v37, .int 0, .int 1000000000, .ref a7, .ref a8, v40, v41, v42, v43, .int 1, v45]))]) hP hD hS hA [6] rfl rfl (by decide)
  refine va_calli (va_runV (C := "ValueBenchModel") (As := []) (rest := []) ⟨hx, hb, hml, hown, htx⟩ (cM_thrown_2 l hl9 D cT aK aV H.size a1 (.ref a10) (.int 2) v19 (.int 0) v21 v22 (.int 0) (.int 1) (.int 0) v26 v27 (.int 0) v29 v30 (.ref a9) (.int 4) (.int 4) (.int 0) (.int 100) v36 v37 (.int 0) (.int 1000000000) (.ref a7) (.ref a8) v40 v41 v42 v43 (.int 1) v45) ⟨callB_of 0 htx (xw_goodC kw_5_187) rfl rfl rfl (htx _ kw_1_5) (htx _ kw_5_184) ⟨by decide, by decide, by decide +kernel⟩ ⟨Nat.le_of_ble_eq_true rfl, Nat.le_of_ble_eq_true rfl⟩, (htx _ kw_5_185), (htx _ kw_5_186)⟩ ⟨xPre_blind, va_recv hK hP (ci := 5) rfl (q0 := 6) rfl, (fun U hU hW => ⟨rfl, xPre_of hZ hS hFc hPc hDc hK U hU hW⟩)⟩ rfl rfl hl.1 rfl (lv_room (Nat.le_of_ble_eq_true rfl)) dL_law_782 ⟨Nat.le_of_ble_eq_true rfl, Nat.le_of_ble_eq_true rfl⟩) hS (fun q _ h => hFc q h) hFc (fun r4 u9 t H1 locs ht hvm hr9 hB hz1 hk1 hS => ?_)
  obtain ⟨hP1, hK1, hD1⟩ := hB
  rw [ht] at hP1
  obtain ⟨hP, hD⟩ := xjoin (W := [(a2, .inl (cT 2, 1, .inr (.inl f46))), (a0, .inr (0, [v11, v12, v13, .ref a4, .ref b14, .ref a3, v15, .int 1])), (a3, .inr (2, [v47, .int 0, .int 0])), (a4, .inl (cT 3, 8, .inr (.inr (.inr (.inr f50))))), (a5, .inr (2, [.ref a6, .int 1, v53])), (a6, .inl (cT 2, 4096, .inr (.inl f54))), (a7, .inl (cT 5, 8, .inr (.inr (.inr (.inr f56))))), (a8, .inl (cT 1, 8, .inl f59)), (a9, .inl (cT 0, 4096, .inl f62)), (a10, .inl (cT 4, 1024, .inr (.inr (.inr (.inr (va_up (va_up f67 0 (some q2)) 1 (some q3))))))), (q2, .inr (6, [.int 0, .long 0, .int 0, .int 0, .int 0, .int 1])), (q3, .inr (6, [.int 0, .long 0, .int 0, .int 0, .int 0, .int 1])), (a1, .inr (5, [.int 2, .ref a10, .int 2, v19, .int 0, v21, v22, .int 0, .int 1, .int 0, v26, v27, .int 0, v29, v30, .ref a9, .int 4, .int 4, .int 0, .int 100, v36, v37, .int 0, .int 1000000000, .ref a7, .ref a8, v40, v41, v42, v43, .int 1, v45]))]) hP hD [6] [0, 1, 2, 3, 4, 5, 7, 8, 9, 10, 11, 12] 12 rfl rfl (by decide) (by decide) hk1 hFc hP1 hD1
  generalize H1 = H at hP hS ⊢
  rw [hr9]
  refine W.eq (g2 := F0 m 785 ls [.int 2]) rfl ?_
  refine lv_iload hx hb dL_law_785 (lv_at hl 0 rfl) ?_
  refine lv_icmp_eq (tgt := 792) hx hb dL_law_787 (by decide) (fun _ => ?_) (fun h => ((by revert h; decide : False)).elim)
  refine lv_goto (tgt := 906) hx hb dL_law_792 (by decide) ?_
  refine lv_iinc (v := 6) (lv' := [(4, .int 6), (5, .int 2), (3, .ref a2), (2, .ref a1), (1, .ref a0), (0, .ref b)]) hx hb dL_law_906 hl (k := 1) rfl (by decide) (by decide) rfl (fun ls hl => ?_)
  refine lv_goto (tgt := 23) hx hb dL_law_909 (by decide) ?_
  refine lv_iload hx hb dL_law_23 (lv_at hl 0 rfl) ?_
  refine lv_aload_n hx hb dL_law_25 rfl (lv_at hl 5 rfl) ?_
  refine va_slen hx hb hXs hbl hbA hS dL_law_26 ?_
  refine W.eq (g2 := F0 m 27 ls [.int 6, .int 6]) rfl ?_
  refine lv_bipush (v := 6) hx hb dL_law_27 (by decide) ?_
  refine lv_isub hx hb dL_law_29 ?_
  refine W.eq (g2 := F0 m 30 ls [.int 0, .int 6]) rfl ?_
  refine lv_icmp_gt (tgt := 912) hx hb dL_law_30 (by decide) (fun _ => ?_) (fun h => ((by revert h; decide : False)).elim)
  refine lv_iconst (v := 1) hx hb dL_law_912 (by decide) ?_
  exact va_forget (fun q h => hA2 _ (hS.2.2 q h)) (W.widen (k := 600002) (n := 7302232) (Nat.le_of_ble_eq_true rfl) (Nat.le_of_ble_eq_true rfl) (lw_ret hx hb hr hlocks dL_law_913))
set_option maxHeartbeats 400000000 in
set_option maxRecDepth 100000 in
theorem lf_sort1_p2 {p : Program} {e : Env} {s : State} {m : MethodId} {below : List Frame} {meth : Method} {c : Code} (l : Launch) (hl9 : l.stackTraces = false) (D : va_G) (cT : Nat → ClassId) (aK aV : Nat → Nat) {A : Nat → Prop} {b : Nat} {xs : Nat → Int32} (C : xLw p s m meth c b D cT aK aV A) {H : Heap} {locs : List Loc} {ls : Array Slot} (a0 : Nat) (a1 : Nat) (a2 : Nat) (a3 : Nat) (a4 : Nat) (a5 : Nat) (a6 : Nat) (a7 : Nat) (a8 : Nat) (a9 : Nat) (a10 : Nat) (a11 : Nat) (v12 : Value) (v13 : Value) (v14 : Value) (b15 : Nat) (v16 : Value) (v17 : Value) (v18 : Value) (v19 : Value) (v20 : Value) (v21 : Value) (v22 : Value) (v23 : Value) (v24 : Value) (v25 : Value) (v26 : Value) (v27 : Value) (v28 : Value) (v29 : Value) (v30 : Value) (v31 : Value) (v32 : Value) (v33 : Value) (v34 : Value) (v35 : Value) (v36 : Value) (v37 : Value) (v38 : Value) (v39 : Value) (v40 : Value) (v41 : Value) (v42 : Value) (v43 : Value) (v44 : Value) (v45 : Value) (v46 : Value) (f47 : Nat → Int64) (v48 : Value) (v49 : Value) (v50 : Value) (f51 : Nat → Option Nat) (b53 : Nat) (v55 : Value) (f56 : Nat → Int64) (f58 : Nat → Option Nat) (f61 : Nat → Int32) (f64 : Nat → Int32) (f69 : Nat → Option Nat) (f72 : Nat → Int32) (h52 : f51 (xs 3).toNatClampNeg = some a5) (h54 : f51 (xs 4).toNatClampNeg = some b53) (h57 : f56 0 = 0) (h59 : f58 (xs 3).toNatClampNeg = some a9) (h60 : f58 (xs 4).toNatClampNeg = some a11) (h62 : f61 (xs 3).toNatClampNeg = 4) (h63 : f61 (xs 4).toNatClampNeg = 4) (h65 : f64 0 = 110) (h66 : f64 1 = 117) (h67 : f64 2 = 108) (h68 : f64 3 = 108) (h70 : f69 0 = none) (h71 : f69 1 = none) (h73 : f72 0 = 110) (h74 : f72 1 = 117) (h75 : f72 2 = 108) (h76 : f72 3 = 108) (hto1 : ¬ (xs 1) < 0) (hto2 : ¬ 7 < (xs 1)) (hto3 : (xs 1) ≤ 7) (hto4 : vp_in (xs 1) 8) (hf : xs 2 = 1) (ha1 : ¬ (xs 3) < 0) (ha2 : ¬ 7 < (xs 3)) (ha3 : (xs 3) ≤ 7) (ha4 : vp_in (xs 3) 8) (hb1 : ¬ (xs 4) < 0) (hb2 : ¬ 7 < (xs 4)) (hb3 : (xs 4) ≤ 7) (hb4 : vp_in (xs 4) 8) (hXs : va_X b 6 xs s s.heap) (hP : va_P D xcl [(a0, .inr (0, [v12, v13, v14, .ref a4, .ref b15, .ref a3, v16, v17])), (a1, .inr (5, [v18, .ref a10, v19, v20, v21, v22, v23, v24, v25, v26, v27, v28, v29, v30, v31, v32, v33, v34, v35, v36, v37, v38, v39, v40, .ref a7, .ref a8, v41, v42, v43, v44, v45, v46])), (a2, .inl (cT 2, 1, .inr (.inl f47))), (a3, .inr (2, [v48, v49, v50])), (a4, .inl (cT 3, 8, .inr (.inr (.inr (.inr f51))))), (a5, .inr (2, [.ref a6, .int 1, v55])), (a6, .inl (cT 2, 4096, .inr (.inl f56))), (a7, .inl (cT 5, 8, .inr (.inr (.inr (.inr f58))))), (a8, .inl (cT 1, 8, .inl f61)), (a9, .inl (cT 0, 4096, .inl f64)), (a10, .inl (cT 4, 1024, .inr (.inr (.inr (.inr f69))))), (a11, .inl (cT 0, 4096, .inl f72))] H) (hD : va_D A [(a0, .inr (0, [v12, v13, v14, .ref a4, .ref b15, .ref a3, v16, v17])), (a1, .inr (5, [v18, .ref a10, v19, v20, v21, v22, v23, v24, v25, v26, v27, v28, v29, v30, v31, v32, v33, v34, v35, v36, v37, v38, v39, v40, .ref a7, .ref a8, v41, v42, v43, v44, v45, v46])), (a2, .inl (cT 2, 1, .inr (.inl f47))), (a3, .inr (2, [v48, v49, v50])), (a4, .inl (cT 3, 8, .inr (.inr (.inr (.inr f51))))), (a5, .inr (2, [.ref a6, .int 1, v55])), (a6, .inl (cT 2, 4096, .inr (.inl f56))), (a7, .inl (cT 5, 8, .inr (.inr (.inr (.inr f58))))), (a8, .inl (cT 1, 8, .inl f61)), (a9, .inl (cT 0, 4096, .inl f64)), (a10, .inl (cT 4, 1024, .inr (.inr (.inr (.inr f69))))), (a11, .inl (cT 0, 4096, .inl f72))]) (hS : va_S A s.heap H locs) (hl : lv_has ls 8 [(4, .int 0), (3, .ref a2), (2, .ref a1), (1, .ref a0), (0, .ref b)]) : W p l e room_1 s m #[Value.ref b] below meth c H locs 54 107242 (lw_Z below #[Value.ref b] s) (F0 m 723 ls []) := by
  obtain ⟨hx, hb, hr, hml, hown, htx, hbl, hbA, hlocks, hK, hZ, hA, hA2⟩ := C
  refine lv_aload_n hx hb dL_law_723 rfl (lv_at hl 3 rfl) ?_
  refine lv_aload_n hx hb dL_law_724 rfl (lv_at hl 4 rfl) ?_
  refine lv_iload hx hb dL_law_725 (lv_at hl 0 rfl) ?_
  refine lv_iconst (v := 1) hx hb dL_law_727 (by decide) ?_
  refine lv_iadd hx hb dL_law_728 ?_
  refine W.eq (g2 := F0 m 729 ls [.int 1, .ref b, .ref a0]) rfl ?_
  refine va_sld hx hb hXs hbl hbA hS (i := 1) (show ¬ ((1 : Int32) < 0 ∨ 6 ≤ (1 : Int32).toNatClampNeg) by decide) dL_law_729 ?_
  refine W.eq (g2 := F0 m 730 ls [.int (xs 1), .ref a0]) rfl ?_
  refine lv_aload_n hx hb dL_law_730 rfl (lv_at hl 4 rfl) ?_
  refine lv_iload hx hb dL_law_731 (lv_at hl 0 rfl) ?_
  refine lv_iconst (v := 2) hx hb dL_law_733 (by decide) ?_
  refine lv_iadd hx hb dL_law_734 ?_
  refine W.eq (g2 := F0 m 735 ls [.int 2, .ref b, .int (xs 1), .ref a0]) rfl ?_
  refine va_sld hx hb hXs hbl hbA hS (i := 2) (show ¬ ((2 : Int32) < 0 ∨ 6 ≤ (2 : Int32).toNatClampNeg) by decide) dL_law_735 ?_
  refine W.eq (g2 := F0 m 736 ls [.int (xs 2), .int (xs 1), .ref a0]) rfl ?_
  rw [hf]
  refine W.eq (g2 := F0 m 736 ls [.int 1, .int (xs 1), .ref a0]) rfl ?_
  refine lv_aload_n hx hb dL_law_736 rfl (lv_at hl 4 rfl) ?_
  refine lv_iload hx hb dL_law_737 (lv_at hl 0 rfl) ?_
  refine lv_iconst (v := 3) hx hb dL_law_739 (by decide) ?_
  refine lv_iadd hx hb dL_law_740 ?_
  refine W.eq (g2 := F0 m 741 ls [.int 3, .ref b, .int 1, .int (xs 1), .ref a0]) rfl ?_
  refine va_sld hx hb hXs hbl hbA hS (i := 3) (show ¬ ((3 : Int32) < 0 ∨ 6 ≤ (3 : Int32).toNatClampNeg) by decide) dL_law_741 ?_
  refine W.eq (g2 := F0 m 742 ls [.int (xs 3), .int 1, .int (xs 1), .ref a0]) rfl ?_
  refine lv_aload_n hx hb dL_law_742 rfl (lv_at hl 4 rfl) ?_
  refine lv_iload hx hb dL_law_743 (lv_at hl 0 rfl) ?_
  refine lv_iconst (v := 4) hx hb dL_law_745 (by decide) ?_
  refine lv_iadd hx hb dL_law_746 ?_
  refine W.eq (g2 := F0 m 747 ls [.int 4, .ref b, .int (xs 3), .int 1, .int (xs 1), .ref a0]) rfl ?_
  refine va_sld hx hb hXs hbl hbA hS (i := 4) (show ¬ ((4 : Int32) < 0 ∨ 6 ≤ (4 : Int32).toNatClampNeg) by decide) dL_law_747 ?_
  refine W.eq (g2 := F0 m 748 ls [.int (xs 4), .int (xs 3), .int 1, .int (xs 1), .ref a0]) rfl ?_
  obtain ⟨hPc, hDc, hFc⟩ := xcut (wc := [(a0, .inr (0, [v12, v13, v14, .ref a4, .ref b15, .ref a3, v16, v17])), (a3, .inr (2, [v48, v49, v50])), (a4, .inl (cT 3, 8, .inr (.inr (.inr (.inr f51))))), (a5, .inr (2, [.ref a6, .int 1, v55])), (a6, .inl (cT 2, 4096, .inr (.inl f56)))]) hP hD hS hA [0, 3, 4, 5, 6] rfl rfl (by decide)
  refine va_calli (vx_runSW (As := [.ref a0, .int (xs 1), .int 1, .int (xs 3), .int (xs 4)]) (rest := []) ⟨hx, hb, hml, hown, htx⟩ (cL_sort_11 l hl9 D cT aK aV H.size a0 a3 a4 a5 a6 (xs 1) (xs 3) (xs 4) v12 v13 v14 b15 v16 v17 v48 v49 v50 f51 b53 v55 f56 hto1 hto2 hto3 hto4 ha1 ha2 ha3 ha4 hb1 hb2 hb3 hb4 (by first | rfl | exact h52 | exact h54 | exact h57 | exact h59 | exact h60 | exact h62 | exact h63 | exact h65 | exact h66 | exact h67 | exact h68 | exact h70 | exact h71 | exact h73 | exact h74 | exact h75 | exact h76) (by first | rfl | exact h52 | exact h54 | exact h57 | exact h59 | exact h60 | exact h62 | exact h63 | exact h65 | exact h66 | exact h67 | exact h68 | exact h70 | exact h71 | exact h73 | exact h74 | exact h75 | exact h76) (by first | rfl | exact h52 | exact h54 | exact h57 | exact h59 | exact h60 | exact h62 | exact h63 | exact h65 | exact h66 | exact h67 | exact h68 | exact h70 | exact h71 | exact h73 | exact h74 | exact h75 | exact h76)) (xcSW 5 htx (xw_goodC kw_5_14) rfl rfl rfl (htx _ kw_1_0) (htx _ kw_5_12) ⟨by decide, by decide, by decide +kernel⟩ ⟨Nat.le_of_ble_eq_true rfl, Nat.le_of_ble_eq_true rfl⟩ (htx _ kw_5_13)) ⟨xPre_blind, (fun U hU hW => ⟨rfl, xPre_of hZ hS hFc hPc hDc hK U hU hW⟩)⟩ rfl rfl hl.1 rfl (lv_room (Nat.le_of_ble_eq_true rfl)) dL_law_748 ⟨Nat.le_of_ble_eq_true rfl, Nat.le_of_ble_eq_true rfl⟩) hS (fun q _ h => hFc q h) hFc (fun r1 u9 t H1 locs ht hvm hr9 hB hz1 hk1 hS => ?_)
  obtain ⟨hP1, hK1, hD1⟩ := hB
  rw [ht] at hP1
  obtain ⟨hP, hD⟩ := xjoin (W := [(a1, .inr (5, [v18, .ref a10, v19, v20, v21, v22, v23, v24, v25, v26, v27, v28, v29, v30, v31, v32, v33, v34, v35, v36, v37, v38, v39, v40, .ref a7, .ref a8, v41, v42, v43, v44, v45, v46])), (a2, .inl (cT 2, 1, .inr (.inl f47))), (a7, .inl (cT 5, 8, .inr (.inr (.inr (.inr f58))))), (a8, .inl (cT 1, 8, .inl f61)), (a9, .inl (cT 0, 4096, .inl f64)), (a10, .inl (cT 4, 1024, .inr (.inr (.inr (.inr f69))))), (a11, .inl (cT 0, 4096, .inl f72)), (a0, .inr (0, [v12, v13, v14, .ref a4, .ref b15, .ref a3, v16, .int 1])), (a3, .inr (2, [v48, .int 0, .int 0])), (a4, .inl (cT 3, 8, .inr (.inr (.inr (.inr f51))))), (a5, .inr (2, [.ref a6, .int 1, v55])), (a6, .inl (cT 2, 4096, .inr (.inl f56)))]) hP hD [0, 3, 4, 5, 6] [1, 2, 7, 8, 9, 10, 11] 7 rfl rfl (by decide) (by decide) hk1 hFc hP1 hD1
  generalize H1 = H at hP hS ⊢
  rw [hr9]
  refine W.eq (g2 := F0 m 751 ls [.int 2]) rfl ?_
  refine lv_istore (lv' := [(5, .int 2), (4, .int 0), (3, .ref a2), (2, .ref a1), (1, .ref a0), (0, .ref b)]) hx hb dL_law_751 hl (by decide) rfl (fun ls hl => ?_)
  refine lv_aload_n hx hb dL_law_753 rfl (lv_at hl 3 rfl) ?_
  refine lv_aload_n hx hb dL_law_754 rfl (lv_at hl 5 rfl) ?_
  refine lv_iload hx hb dL_law_755 (lv_at hl 1 rfl) ?_
  refine lv_iconst (v := 1) hx hb dL_law_757 (by decide) ?_
  refine lv_iadd hx hb dL_law_758 ?_
  refine W.eq (g2 := F0 m 759 ls [.int 1, .ref b, .ref a1]) rfl ?_
  refine va_sld hx hb hXs hbl hbA hS (i := 1) (show ¬ ((1 : Int32) < 0 ∨ 6 ≤ (1 : Int32).toNatClampNeg) by decide) dL_law_759 ?_
  refine W.eq (g2 := F0 m 760 ls [.int (xs 1), .ref a1]) rfl ?_
  refine lv_aload_n hx hb dL_law_760 rfl (lv_at hl 5 rfl) ?_
  refine lv_iload hx hb dL_law_761 (lv_at hl 1 rfl) ?_
  refine lv_iconst (v := 2) hx hb dL_law_763 (by decide) ?_
  refine lv_iadd hx hb dL_law_764 ?_
  refine W.eq (g2 := F0 m 765 ls [.int 2, .ref b, .int (xs 1), .ref a1]) rfl ?_
  refine va_sld hx hb hXs hbl hbA hS (i := 2) (show ¬ ((2 : Int32) < 0 ∨ 6 ≤ (2 : Int32).toNatClampNeg) by decide) dL_law_765 ?_
  refine W.eq (g2 := F0 m 766 ls [.int (xs 2), .int (xs 1), .ref a1]) rfl ?_
  rw [hf]
  refine W.eq (g2 := F0 m 766 ls [.int 1, .int (xs 1), .ref a1]) rfl ?_
  refine lv_aload_n hx hb dL_law_766 rfl (lv_at hl 5 rfl) ?_
  refine lv_iload hx hb dL_law_767 (lv_at hl 1 rfl) ?_
  refine lv_iconst (v := 3) hx hb dL_law_769 (by decide) ?_
  refine lv_iadd hx hb dL_law_770 ?_
  refine W.eq (g2 := F0 m 771 ls [.int 3, .ref b, .int 1, .int (xs 1), .ref a1]) rfl ?_
  refine va_sld hx hb hXs hbl hbA hS (i := 3) (show ¬ ((3 : Int32) < 0 ∨ 6 ≤ (3 : Int32).toNatClampNeg) by decide) dL_law_771 ?_
  refine W.eq (g2 := F0 m 772 ls [.int (xs 3), .int 1, .int (xs 1), .ref a1]) rfl ?_
  refine lv_aload_n hx hb dL_law_772 rfl (lv_at hl 5 rfl) ?_
  refine lv_iload hx hb dL_law_773 (lv_at hl 1 rfl) ?_
  refine lv_iconst (v := 4) hx hb dL_law_775 (by decide) ?_
  refine lv_iadd hx hb dL_law_776 ?_
  refine W.eq (g2 := F0 m 777 ls [.int 4, .ref b, .int (xs 3), .int 1, .int (xs 1), .ref a1]) rfl ?_
  refine va_sld hx hb hXs hbl hbA hS (i := 4) (show ¬ ((4 : Int32) < 0 ∨ 6 ≤ (4 : Int32).toNatClampNeg) by decide) dL_law_777 ?_
  refine W.eq (g2 := F0 m 778 ls [.int (xs 4), .int (xs 3), .int 1, .int (xs 1), .ref a1]) rfl ?_
  obtain ⟨hPc, hDc, hFc⟩ := xcut (wc := [(a1, .inr (5, [v18, .ref a10, v19, v20, v21, v22, v23, v24, v25, v26, v27, v28, v29, v30, v31, v32, v33, v34, v35, v36, v37, v38, v39, v40, .ref a7, .ref a8, v41, v42, v43, v44, v45, v46])), (a7, .inl (cT 5, 8, .inr (.inr (.inr (.inr f58))))), (a8, .inl (cT 1, 8, .inl f61)), (a9, .inl (cT 0, 4096, .inl f64)), (a10, .inl (cT 4, 1024, .inr (.inr (.inr (.inr f69))))), (a11, .inl (cT 0, 4096, .inl f72))]) hP hD hS hA [0, 2, 3, 4, 5, 6] rfl rfl (by decide)
  refine va_callv (va_runV (C := "ValueBenchModel") (As := [.int (xs 1), .int 1, .int (xs 3), .int (xs 4)]) (rest := []) ⟨hx, hb, hml, hown, htx⟩ (cM_sort0_11 l hl9 D cT aK aV H.size a1 a7 a8 a9 a10 a11 (xs 1) (xs 3) (xs 4) v18 v19 v20 v21 v22 v23 v24 v25 v26 v27 v28 v29 v30 v31 v32 v33 v34 v35 v36 v37 v38 v39 v40 v41 v42 v43 v44 v45 v46 f58 f61 f64 f69 f72 hto1 hto2 hto3 hto4 ha1 ha2 ha3 ha4 hb1 hb2 hb3 hb4 (by first | rfl | exact h52 | exact h54 | exact h57 | exact h59 | exact h60 | exact h62 | exact h63 | exact h65 | exact h66 | exact h67 | exact h68 | exact h70 | exact h71 | exact h73 | exact h74 | exact h75 | exact h76) (by first | rfl | exact h52 | exact h54 | exact h57 | exact h59 | exact h60 | exact h62 | exact h63 | exact h65 | exact h66 | exact h67 | exact h68 | exact h70 | exact h71 | exact h73 | exact h74 | exact h75 | exact h76) (by first | rfl | exact h52 | exact h54 | exact h57 | exact h59 | exact h60 | exact h62 | exact h63 | exact h65 | exact h66 | exact h67 | exact h68 | exact h70 | exact h71 | exact h73 | exact h74 | exact h75 | exact h76) (by first | rfl | exact h52 | exact h54 | exact h57 | exact h59 | exact h60 | exact h62 | exact h63 | exact h65 | exact h66 | exact h67 | exact h68 | exact h70 | exact h71 | exact h73 | exact h74 | exact h75 | exact h76) (by first | rfl | exact h52 | exact h54 | exact h57 | exact h59 | exact h60 | exact h62 | exact h63 | exact h65 | exact h66 | exact h67 | exact h68 | exact h70 | exact h71 | exact h73 | exact h74 | exact h75 | exact h76) (by first | rfl | exact h52 | exact h54 | exact h57 | exact h59 | exact h60 | exact h62 | exact h63 | exact h65 | exact h66 | exact h67 | exact h68 | exact h70 | exact h71 | exact h73 | exact h74 | exact h75 | exact h76) (by first | rfl | exact h52 | exact h54 | exact h57 | exact h59 | exact h60 | exact h62 | exact h63 | exact h65 | exact h66 | exact h67 | exact h68 | exact h70 | exact h71 | exact h73 | exact h74 | exact h75 | exact h76) (by first | rfl | exact h52 | exact h54 | exact h57 | exact h59 | exact h60 | exact h62 | exact h63 | exact h65 | exact h66 | exact h67 | exact h68 | exact h70 | exact h71 | exact h73 | exact h74 | exact h75 | exact h76) (by first | rfl | exact h52 | exact h54 | exact h57 | exact h59 | exact h60 | exact h62 | exact h63 | exact h65 | exact h66 | exact h67 | exact h68 | exact h70 | exact h71 | exact h73 | exact h74 | exact h75 | exact h76) (by first | rfl | exact h52 | exact h54 | exact h57 | exact h59 | exact h60 | exact h62 | exact h63 | exact h65 | exact h66 | exact h67 | exact h68 | exact h70 | exact h71 | exact h73 | exact h74 | exact h75 | exact h76) (by first | rfl | exact h52 | exact h54 | exact h57 | exact h59 | exact h60 | exact h62 | exact h63 | exact h65 | exact h66 | exact h67 | exact h68 | exact h70 | exact h71 | exact h73 | exact h74 | exact h75 | exact h76) (by first | rfl | exact h52 | exact h54 | exact h57 | exact h59 | exact h60 | exact h62 | exact h63 | exact h65 | exact h66 | exact h67 | exact h68 | exact h70 | exact h71 | exact h73 | exact h74 | exact h75 | exact h76) (by first | rfl | exact h52 | exact h54 | exact h57 | exact h59 | exact h60 | exact h62 | exact h63 | exact h65 | exact h66 | exact h67 | exact h68 | exact h70 | exact h71 | exact h73 | exact h74 | exact h75 | exact h76) (by first | rfl | exact h52 | exact h54 | exact h57 | exact h59 | exact h60 | exact h62 | exact h63 | exact h65 | exact h66 | exact h67 | exact h68 | exact h70 | exact h71 | exact h73 | exact h74 | exact h75 | exact h76)) ⟨callB_of 4 htx (xw_goodC kw_7_131) rfl rfl rfl (htx _ kw_1_5) (htx _ kw_7_128) ⟨by decide, by decide, by decide +kernel⟩ ⟨Nat.le_of_ble_eq_true rfl, Nat.le_of_ble_eq_true rfl⟩, (htx _ kw_7_129), (htx _ kw_7_130)⟩ ⟨xPre_blind, va_recv hK hP (ci := 5) rfl (q0 := 0) rfl, (fun U hU hW => ⟨rfl, xPre_of hZ hS hFc hPc hDc hK U hU hW⟩)⟩ rfl rfl hl.1 rfl (lv_room (Nat.le_of_ble_eq_true rfl)) dL_law_778 ⟨Nat.le_of_ble_eq_true rfl, Nat.le_of_ble_eq_true rfl⟩) hS (fun q _ h => hFc q h) hFc (fun u9 t H1 locs ht hvm hr9 hB hz1 hk1 hS => ?_)
  obtain ⟨q2, q3, hP1, hK1, hD1⟩ := hB
  rw [ht] at hP1
  obtain ⟨hP, hD⟩ := xjoin (W := [(a2, .inl (cT 2, 1, .inr (.inl f47))), (a0, .inr (0, [v12, v13, v14, .ref a4, .ref b15, .ref a3, v16, .int 1])), (a3, .inr (2, [v48, .int 0, .int 0])), (a4, .inl (cT 3, 8, .inr (.inr (.inr (.inr f51))))), (a5, .inr (2, [.ref a6, .int 1, v55])), (a6, .inl (cT 2, 4096, .inr (.inl f56))), (a1, .inr (5, [.int 2, .ref a10, .int 2, v20, .int 0, v22, v23, .int 0, .int 1, .int 0, v27, v28, .int 0, v30, v31, .ref a11, .int 4, .int 4, .int 0, .int 100, v37, v38, .int 0, .int 1000000000, .ref a7, .ref a8, v41, v42, v43, v44, .int 1, v46])), (a7, .inl (cT 5, 8, .inr (.inr (.inr (.inr f58))))), (a8, .inl (cT 1, 8, .inl f61)), (a9, .inl (cT 0, 4096, .inl f64)), (a10, .inl (cT 4, 1024, .inr (.inr (.inr (.inr (va_up (va_up f69 0 (some q2)) 1 (some q3))))))), (a11, .inl (cT 0, 4096, .inl f72)), (q2, .inr (6, [.int 0, .long 0, .int 0, .int 0, .int 0, .int 1])), (q3, .inr (6, [.int 0, .long 0, .int 0, .int 0, .int 0, .int 1]))]) hP hD [0, 2, 3, 4, 5, 6] [1, 7, 8, 9, 10, 11] 6 rfl rfl (by decide) (by decide) hk1 hFc hP1 hD1
  generalize H1 = H at hP hS ⊢
  refine lv_aload_n hx hb dL_law_781 rfl (lv_at hl 3 rfl) ?_
  obtain ⟨hPc, hDc, hFc⟩ := xcut (wc := [(a1, .inr (5, [.int 2, .ref a10, .int 2, v20, .int 0, v22, v23, .int 0, .int 1, .int 0, v27, v28, .int 0, v30, v31, .ref a11, .int 4, .int 4, .int 0, .int 100, v37, v38, .int 0, .int 1000000000, .ref a7, .ref a8, v41, v42, v43, v44, .int 1, v46]))]) hP hD hS hA [6] rfl rfl (by decide)
  refine va_calli (va_runV (C := "ValueBenchModel") (As := []) (rest := []) ⟨hx, hb, hml, hown, htx⟩ (cM_thrown_2 l hl9 D cT aK aV H.size a1 (.ref a10) (.int 2) v20 (.int 0) v22 v23 (.int 0) (.int 1) (.int 0) v27 v28 (.int 0) v30 v31 (.ref a11) (.int 4) (.int 4) (.int 0) (.int 100) v37 v38 (.int 0) (.int 1000000000) (.ref a7) (.ref a8) v41 v42 v43 v44 (.int 1) v46) ⟨callB_of 0 htx (xw_goodC kw_5_187) rfl rfl rfl (htx _ kw_1_5) (htx _ kw_5_184) ⟨by decide, by decide, by decide +kernel⟩ ⟨Nat.le_of_ble_eq_true rfl, Nat.le_of_ble_eq_true rfl⟩, (htx _ kw_5_185), (htx _ kw_5_186)⟩ ⟨xPre_blind, va_recv hK hP (ci := 5) rfl (q0 := 6) rfl, (fun U hU hW => ⟨rfl, xPre_of hZ hS hFc hPc hDc hK U hU hW⟩)⟩ rfl rfl hl.1 rfl (lv_room (Nat.le_of_ble_eq_true rfl)) dL_law_782 ⟨Nat.le_of_ble_eq_true rfl, Nat.le_of_ble_eq_true rfl⟩) hS (fun q _ h => hFc q h) hFc (fun r4 u9 t H1 locs ht hvm hr9 hB hz1 hk1 hS => ?_)
  obtain ⟨hP1, hK1, hD1⟩ := hB
  rw [ht] at hP1
  obtain ⟨hP, hD⟩ := xjoin (W := [(a2, .inl (cT 2, 1, .inr (.inl f47))), (a0, .inr (0, [v12, v13, v14, .ref a4, .ref b15, .ref a3, v16, .int 1])), (a3, .inr (2, [v48, .int 0, .int 0])), (a4, .inl (cT 3, 8, .inr (.inr (.inr (.inr f51))))), (a5, .inr (2, [.ref a6, .int 1, v55])), (a6, .inl (cT 2, 4096, .inr (.inl f56))), (a7, .inl (cT 5, 8, .inr (.inr (.inr (.inr f58))))), (a8, .inl (cT 1, 8, .inl f61)), (a9, .inl (cT 0, 4096, .inl f64)), (a10, .inl (cT 4, 1024, .inr (.inr (.inr (.inr (va_up (va_up f69 0 (some q2)) 1 (some q3))))))), (a11, .inl (cT 0, 4096, .inl f72)), (q2, .inr (6, [.int 0, .long 0, .int 0, .int 0, .int 0, .int 1])), (q3, .inr (6, [.int 0, .long 0, .int 0, .int 0, .int 0, .int 1])), (a1, .inr (5, [.int 2, .ref a10, .int 2, v20, .int 0, v22, v23, .int 0, .int 1, .int 0, v27, v28, .int 0, v30, v31, .ref a11, .int 4, .int 4, .int 0, .int 100, v37, v38, .int 0, .int 1000000000, .ref a7, .ref a8, v41, v42, v43, v44, .int 1, v46]))]) hP hD [6] [0, 1, 2, 3, 4, 5, 7, 8, 9, 10, 11, 12, 13] 13 rfl rfl (by decide) (by decide) hk1 hFc hP1 hD1
  generalize H1 = H at hP hS ⊢
  rw [hr9]
  refine W.eq (g2 := F0 m 785 ls [.int 2]) rfl ?_
  refine lv_iload hx hb dL_law_785 (lv_at hl 0 rfl) ?_
  refine lv_icmp_eq (tgt := 792) hx hb dL_law_787 (by decide) (fun _ => ?_) (fun h => ((by revert h; decide : False)).elim)
  refine lv_goto (tgt := 906) hx hb dL_law_792 (by decide) ?_
  refine lv_iinc (v := 6) (lv' := [(4, .int 6), (5, .int 2), (3, .ref a2), (2, .ref a1), (1, .ref a0), (0, .ref b)]) hx hb dL_law_906 hl (k := 1) rfl (by decide) (by decide) rfl (fun ls hl => ?_)
  refine lv_goto (tgt := 23) hx hb dL_law_909 (by decide) ?_
  refine lv_iload hx hb dL_law_23 (lv_at hl 0 rfl) ?_
  refine lv_aload_n hx hb dL_law_25 rfl (lv_at hl 5 rfl) ?_
  refine va_slen hx hb hXs hbl hbA hS dL_law_26 ?_
  refine W.eq (g2 := F0 m 27 ls [.int 6, .int 6]) rfl ?_
  refine lv_bipush (v := 6) hx hb dL_law_27 (by decide) ?_
  refine lv_isub hx hb dL_law_29 ?_
  refine W.eq (g2 := F0 m 30 ls [.int 0, .int 6]) rfl ?_
  refine lv_icmp_gt (tgt := 912) hx hb dL_law_30 (by decide) (fun _ => ?_) (fun h => ((by revert h; decide : False)).elim)
  refine lv_iconst (v := 1) hx hb dL_law_912 (by decide) ?_
  exact va_forget (fun q h => hA2 _ (hS.2.2 q h)) (W.widen (k := 600002) (n := 7302232) (Nat.le_of_ble_eq_true rfl) (Nat.le_of_ble_eq_true rfl) (lw_ret hx hb hr hlocks dL_law_913))
set_option maxHeartbeats 400000000 in
set_option maxRecDepth 100000 in
theorem lf_sort1_p3 {p : Program} {e : Env} {s : State} {m : MethodId} {below : List Frame} {meth : Method} {c : Code} (l : Launch) (hl9 : l.stackTraces = false) (D : va_G) (cT : Nat → ClassId) (aK aV : Nat → Nat) {A : Nat → Prop} {b : Nat} {xs : Nat → Int32} (C : xLw p s m meth c b D cT aK aV A) {H : Heap} {locs : List Loc} {ls : Array Slot} (a0 : Nat) (a1 : Nat) (a2 : Nat) (a3 : Nat) (a4 : Nat) (a5 : Nat) (a6 : Nat) (a7 : Nat) (a8 : Nat) (a9 : Nat) (a10 : Nat) (a11 : Nat) (v12 : Value) (v13 : Value) (v14 : Value) (b15 : Nat) (v16 : Value) (v17 : Value) (v18 : Value) (v19 : Value) (v20 : Value) (v21 : Value) (v22 : Value) (v23 : Value) (v24 : Value) (v25 : Value) (v26 : Value) (v27 : Value) (v28 : Value) (v29 : Value) (v30 : Value) (v31 : Value) (v32 : Value) (v33 : Value) (v34 : Value) (v35 : Value) (v36 : Value) (v37 : Value) (v38 : Value) (v39 : Value) (v40 : Value) (v41 : Value) (v42 : Value) (v43 : Value) (v44 : Value) (v45 : Value) (v46 : Value) (f47 : Nat → Int64) (v48 : Value) (v49 : Value) (v50 : Value) (f51 : Nat → Option Nat) (b53 : Nat) (v55 : Value) (f56 : Nat → Int64) (f58 : Nat → Option Nat) (f61 : Nat → Int32) (f64 : Nat → Int32) (f69 : Nat → Option Nat) (f72 : Nat → Int32) (h52 : f51 (xs 3).toNatClampNeg = some a5) (h54 : f51 (xs 4).toNatClampNeg = some b53) (h57 : f56 0 = 0) (h59 : f58 (xs 3).toNatClampNeg = some a9) (h60 : f58 (xs 4).toNatClampNeg = some a11) (h62 : f61 (xs 3).toNatClampNeg = 4) (h63 : f61 (xs 4).toNatClampNeg = 4) (h65 : f64 0 = 110) (h66 : f64 1 = 117) (h67 : f64 2 = 108) (h68 : f64 3 = 108) (h70 : f69 0 = none) (h71 : f69 1 = none) (h73 : f72 0 = 110) (h74 : f72 1 = 117) (h75 : f72 2 = 108) (h76 : f72 3 = 108) (hto1 : ¬ (xs 1) < 0) (hto2 : ¬ 7 < (xs 1)) (hto3 : (xs 1) ≤ 7) (hto4 : vp_in (xs 1) 8) (hf : xs 2 = 1) (ha1 : ¬ (xs 3) < 0) (ha2 : ¬ 7 < (xs 3)) (ha3 : (xs 3) ≤ 7) (ha4 : vp_in (xs 3) 8) (hb1 : ¬ (xs 4) < 0) (hb2 : ¬ 7 < (xs 4)) (hb3 : (xs 4) ≤ 7) (hb4 : vp_in (xs 4) 8) (hXs : va_X b 6 xs s s.heap) (hP : va_P D xcl [(a0, .inr (0, [v12, v13, v14, .ref a4, .ref b15, .ref a3, v16, v17])), (a1, .inr (5, [v18, .ref a10, v19, v20, v21, v22, v23, v24, v25, v26, v27, v28, v29, v30, v31, v32, v33, v34, v35, v36, v37, v38, v39, v40, .ref a7, .ref a8, v41, v42, v43, v44, v45, v46])), (a2, .inl (cT 2, 1, .inr (.inl f47))), (a3, .inr (2, [v48, v49, v50])), (a4, .inl (cT 3, 8, .inr (.inr (.inr (.inr f51))))), (a5, .inr (2, [.ref a6, .int 1, v55])), (a6, .inl (cT 2, 4096, .inr (.inl f56))), (a7, .inl (cT 5, 8, .inr (.inr (.inr (.inr f58))))), (a8, .inl (cT 1, 8, .inl f61)), (a9, .inl (cT 0, 4096, .inl f64)), (a10, .inl (cT 4, 1024, .inr (.inr (.inr (.inr f69))))), (a11, .inl (cT 0, 4096, .inl f72))] H) (hD : va_D A [(a0, .inr (0, [v12, v13, v14, .ref a4, .ref b15, .ref a3, v16, v17])), (a1, .inr (5, [v18, .ref a10, v19, v20, v21, v22, v23, v24, v25, v26, v27, v28, v29, v30, v31, v32, v33, v34, v35, v36, v37, v38, v39, v40, .ref a7, .ref a8, v41, v42, v43, v44, v45, v46])), (a2, .inl (cT 2, 1, .inr (.inl f47))), (a3, .inr (2, [v48, v49, v50])), (a4, .inl (cT 3, 8, .inr (.inr (.inr (.inr f51))))), (a5, .inr (2, [.ref a6, .int 1, v55])), (a6, .inl (cT 2, 4096, .inr (.inl f56))), (a7, .inl (cT 5, 8, .inr (.inr (.inr (.inr f58))))), (a8, .inl (cT 1, 8, .inl f61)), (a9, .inl (cT 0, 4096, .inl f64)), (a10, .inl (cT 4, 1024, .inr (.inr (.inr (.inr f69))))), (a11, .inl (cT 0, 4096, .inl f72))]) (hS : va_S A s.heap H locs) (hl : lv_has ls 8 [(4, .int 0), (3, .ref a2), (2, .ref a1), (1, .ref a0), (0, .ref b)]) : W p l e room_1 s m #[Value.ref b] below meth c H locs 54 107242 (lw_Z below #[Value.ref b] s) (F0 m 723 ls []) := by
  obtain ⟨hx, hb, hr, hml, hown, htx, hbl, hbA, hlocks, hK, hZ, hA, hA2⟩ := C
  refine lv_aload_n hx hb dL_law_723 rfl (lv_at hl 3 rfl) ?_
  refine lv_aload_n hx hb dL_law_724 rfl (lv_at hl 4 rfl) ?_
  refine lv_iload hx hb dL_law_725 (lv_at hl 0 rfl) ?_
  refine lv_iconst (v := 1) hx hb dL_law_727 (by decide) ?_
  refine lv_iadd hx hb dL_law_728 ?_
  refine W.eq (g2 := F0 m 729 ls [.int 1, .ref b, .ref a0]) rfl ?_
  refine va_sld hx hb hXs hbl hbA hS (i := 1) (show ¬ ((1 : Int32) < 0 ∨ 6 ≤ (1 : Int32).toNatClampNeg) by decide) dL_law_729 ?_
  refine W.eq (g2 := F0 m 730 ls [.int (xs 1), .ref a0]) rfl ?_
  refine lv_aload_n hx hb dL_law_730 rfl (lv_at hl 4 rfl) ?_
  refine lv_iload hx hb dL_law_731 (lv_at hl 0 rfl) ?_
  refine lv_iconst (v := 2) hx hb dL_law_733 (by decide) ?_
  refine lv_iadd hx hb dL_law_734 ?_
  refine W.eq (g2 := F0 m 735 ls [.int 2, .ref b, .int (xs 1), .ref a0]) rfl ?_
  refine va_sld hx hb hXs hbl hbA hS (i := 2) (show ¬ ((2 : Int32) < 0 ∨ 6 ≤ (2 : Int32).toNatClampNeg) by decide) dL_law_735 ?_
  refine W.eq (g2 := F0 m 736 ls [.int (xs 2), .int (xs 1), .ref a0]) rfl ?_
  rw [hf]
  refine W.eq (g2 := F0 m 736 ls [.int 1, .int (xs 1), .ref a0]) rfl ?_
  refine lv_aload_n hx hb dL_law_736 rfl (lv_at hl 4 rfl) ?_
  refine lv_iload hx hb dL_law_737 (lv_at hl 0 rfl) ?_
  refine lv_iconst (v := 3) hx hb dL_law_739 (by decide) ?_
  refine lv_iadd hx hb dL_law_740 ?_
  refine W.eq (g2 := F0 m 741 ls [.int 3, .ref b, .int 1, .int (xs 1), .ref a0]) rfl ?_
  refine va_sld hx hb hXs hbl hbA hS (i := 3) (show ¬ ((3 : Int32) < 0 ∨ 6 ≤ (3 : Int32).toNatClampNeg) by decide) dL_law_741 ?_
  refine W.eq (g2 := F0 m 742 ls [.int (xs 3), .int 1, .int (xs 1), .ref a0]) rfl ?_
  refine lv_aload_n hx hb dL_law_742 rfl (lv_at hl 4 rfl) ?_
  refine lv_iload hx hb dL_law_743 (lv_at hl 0 rfl) ?_
  refine lv_iconst (v := 4) hx hb dL_law_745 (by decide) ?_
  refine lv_iadd hx hb dL_law_746 ?_
  refine W.eq (g2 := F0 m 747 ls [.int 4, .ref b, .int (xs 3), .int 1, .int (xs 1), .ref a0]) rfl ?_
  refine va_sld hx hb hXs hbl hbA hS (i := 4) (show ¬ ((4 : Int32) < 0 ∨ 6 ≤ (4 : Int32).toNatClampNeg) by decide) dL_law_747 ?_
  refine W.eq (g2 := F0 m 748 ls [.int (xs 4), .int (xs 3), .int 1, .int (xs 1), .ref a0]) rfl ?_
  obtain ⟨hPc, hDc, hFc⟩ := xcut (wc := [(a0, .inr (0, [v12, v13, v14, .ref a4, .ref b15, .ref a3, v16, v17])), (a3, .inr (2, [v48, v49, v50])), (a4, .inl (cT 3, 8, .inr (.inr (.inr (.inr f51))))), (a5, .inr (2, [.ref a6, .int 1, v55])), (a6, .inl (cT 2, 4096, .inr (.inl f56)))]) hP hD hS hA [0, 3, 4, 5, 6] rfl rfl (by decide)
  refine va_calli (vx_runSW (As := [.ref a0, .int (xs 1), .int 1, .int (xs 3), .int (xs 4)]) (rest := []) ⟨hx, hb, hml, hown, htx⟩ (cL_sort_11 l hl9 D cT aK aV H.size a0 a3 a4 a5 a6 (xs 1) (xs 3) (xs 4) v12 v13 v14 b15 v16 v17 v48 v49 v50 f51 b53 v55 f56 hto1 hto2 hto3 hto4 ha1 ha2 ha3 ha4 hb1 hb2 hb3 hb4 (by first | rfl | exact h52 | exact h54 | exact h57 | exact h59 | exact h60 | exact h62 | exact h63 | exact h65 | exact h66 | exact h67 | exact h68 | exact h70 | exact h71 | exact h73 | exact h74 | exact h75 | exact h76) (by first | rfl | exact h52 | exact h54 | exact h57 | exact h59 | exact h60 | exact h62 | exact h63 | exact h65 | exact h66 | exact h67 | exact h68 | exact h70 | exact h71 | exact h73 | exact h74 | exact h75 | exact h76) (by first | rfl | exact h52 | exact h54 | exact h57 | exact h59 | exact h60 | exact h62 | exact h63 | exact h65 | exact h66 | exact h67 | exact h68 | exact h70 | exact h71 | exact h73 | exact h74 | exact h75 | exact h76)) (xcSW 5 htx (xw_goodC kw_5_14) rfl rfl rfl (htx _ kw_1_0) (htx _ kw_5_12) ⟨by decide, by decide, by decide +kernel⟩ ⟨Nat.le_of_ble_eq_true rfl, Nat.le_of_ble_eq_true rfl⟩ (htx _ kw_5_13)) ⟨xPre_blind, (fun U hU hW => ⟨rfl, xPre_of hZ hS hFc hPc hDc hK U hU hW⟩)⟩ rfl rfl hl.1 rfl (lv_room (Nat.le_of_ble_eq_true rfl)) dL_law_748 ⟨Nat.le_of_ble_eq_true rfl, Nat.le_of_ble_eq_true rfl⟩) hS (fun q _ h => hFc q h) hFc (fun r1 u9 t H1 locs ht hvm hr9 hB hz1 hk1 hS => ?_)
  obtain ⟨hP1, hK1, hD1⟩ := hB
  rw [ht] at hP1
  obtain ⟨hP, hD⟩ := xjoin (W := [(a1, .inr (5, [v18, .ref a10, v19, v20, v21, v22, v23, v24, v25, v26, v27, v28, v29, v30, v31, v32, v33, v34, v35, v36, v37, v38, v39, v40, .ref a7, .ref a8, v41, v42, v43, v44, v45, v46])), (a2, .inl (cT 2, 1, .inr (.inl f47))), (a7, .inl (cT 5, 8, .inr (.inr (.inr (.inr f58))))), (a8, .inl (cT 1, 8, .inl f61)), (a9, .inl (cT 0, 4096, .inl f64)), (a10, .inl (cT 4, 1024, .inr (.inr (.inr (.inr f69))))), (a11, .inl (cT 0, 4096, .inl f72)), (a0, .inr (0, [v12, v13, v14, .ref a4, .ref b15, .ref a3, v16, .int 1])), (a3, .inr (2, [v48, .int 0, .int 0])), (a4, .inl (cT 3, 8, .inr (.inr (.inr (.inr f51))))), (a5, .inr (2, [.ref a6, .int 1, v55])), (a6, .inl (cT 2, 4096, .inr (.inl f56)))]) hP hD [0, 3, 4, 5, 6] [1, 2, 7, 8, 9, 10, 11] 7 rfl rfl (by decide) (by decide) hk1 hFc hP1 hD1
  generalize H1 = H at hP hS ⊢
  rw [hr9]
  refine W.eq (g2 := F0 m 751 ls [.int 2]) rfl ?_
  refine lv_istore (lv' := [(5, .int 2), (4, .int 0), (3, .ref a2), (2, .ref a1), (1, .ref a0), (0, .ref b)]) hx hb dL_law_751 hl (by decide) rfl (fun ls hl => ?_)
  refine lv_aload_n hx hb dL_law_753 rfl (lv_at hl 3 rfl) ?_
  refine lv_aload_n hx hb dL_law_754 rfl (lv_at hl 5 rfl) ?_
  refine lv_iload hx hb dL_law_755 (lv_at hl 1 rfl) ?_
  refine lv_iconst (v := 1) hx hb dL_law_757 (by decide) ?_
  refine lv_iadd hx hb dL_law_758 ?_
  refine W.eq (g2 := F0 m 759 ls [.int 1, .ref b, .ref a1]) rfl ?_
  refine va_sld hx hb hXs hbl hbA hS (i := 1) (show ¬ ((1 : Int32) < 0 ∨ 6 ≤ (1 : Int32).toNatClampNeg) by decide) dL_law_759 ?_
  refine W.eq (g2 := F0 m 760 ls [.int (xs 1), .ref a1]) rfl ?_
  refine lv_aload_n hx hb dL_law_760 rfl (lv_at hl 5 rfl) ?_
  refine lv_iload hx hb dL_law_761 (lv_at hl 1 rfl) ?_
  refine lv_iconst (v := 2) hx hb dL_law_763 (by decide) ?_
  refine lv_iadd hx hb dL_law_764 ?_
  refine W.eq (g2 := F0 m 765 ls [.int 2, .ref b, .int (xs 1), .ref a1]) rfl ?_
  refine va_sld hx hb hXs hbl hbA hS (i := 2) (show ¬ ((2 : Int32) < 0 ∨ 6 ≤ (2 : Int32).toNatClampNeg) by decide) dL_law_765 ?_
  refine W.eq (g2 := F0 m 766 ls [.int (xs 2), .int (xs 1), .ref a1]) rfl ?_
  rw [hf]
  refine W.eq (g2 := F0 m 766 ls [.int 1, .int (xs 1), .ref a1]) rfl ?_
  refine lv_aload_n hx hb dL_law_766 rfl (lv_at hl 5 rfl) ?_
  refine lv_iload hx hb dL_law_767 (lv_at hl 1 rfl) ?_
  refine lv_iconst (v := 3) hx hb dL_law_769 (by decide) ?_
  refine lv_iadd hx hb dL_law_770 ?_
  refine W.eq (g2 := F0 m 771 ls [.int 3, .ref b, .int 1, .int (xs 1), .ref a1]) rfl ?_
  refine va_sld hx hb hXs hbl hbA hS (i := 3) (show ¬ ((3 : Int32) < 0 ∨ 6 ≤ (3 : Int32).toNatClampNeg) by decide) dL_law_771 ?_
  refine W.eq (g2 := F0 m 772 ls [.int (xs 3), .int 1, .int (xs 1), .ref a1]) rfl ?_
  refine lv_aload_n hx hb dL_law_772 rfl (lv_at hl 5 rfl) ?_
  refine lv_iload hx hb dL_law_773 (lv_at hl 1 rfl) ?_
  refine lv_iconst (v := 4) hx hb dL_law_775 (by decide) ?_
  refine lv_iadd hx hb dL_law_776 ?_
  refine W.eq (g2 := F0 m 777 ls [.int 4, .ref b, .int (xs 3), .int 1, .int (xs 1), .ref a1]) rfl ?_
  refine va_sld hx hb hXs hbl hbA hS (i := 4) (show ¬ ((4 : Int32) < 0 ∨ 6 ≤ (4 : Int32).toNatClampNeg) by decide) dL_law_777 ?_
  refine W.eq (g2 := F0 m 778 ls [.int (xs 4), .int (xs 3), .int 1, .int (xs 1), .ref a1]) rfl ?_
  obtain ⟨hPc, hDc, hFc⟩ := xcut (wc := [(a1, .inr (5, [v18, .ref a10, v19, v20, v21, v22, v23, v24, v25, v26, v27, v28, v29, v30, v31, v32, v33, v34, v35, v36, v37, v38, v39, v40, .ref a7, .ref a8, v41, v42, v43, v44, v45, v46])), (a7, .inl (cT 5, 8, .inr (.inr (.inr (.inr f58))))), (a8, .inl (cT 1, 8, .inl f61)), (a9, .inl (cT 0, 4096, .inl f64)), (a10, .inl (cT 4, 1024, .inr (.inr (.inr (.inr f69))))), (a11, .inl (cT 0, 4096, .inl f72))]) hP hD hS hA [0, 2, 3, 4, 5, 6] rfl rfl (by decide)
  refine va_callv (va_runV (C := "ValueBenchModel") (As := [.int (xs 1), .int 1, .int (xs 3), .int (xs 4)]) (rest := []) ⟨hx, hb, hml, hown, htx⟩ (cM_sort0_11 l hl9 D cT aK aV H.size a1 a7 a8 a9 a10 a11 (xs 1) (xs 3) (xs 4) v18 v19 v20 v21 v22 v23 v24 v25 v26 v27 v28 v29 v30 v31 v32 v33 v34 v35 v36 v37 v38 v39 v40 v41 v42 v43 v44 v45 v46 f58 f61 f64 f69 f72 hto1 hto2 hto3 hto4 ha1 ha2 ha3 ha4 hb1 hb2 hb3 hb4 (by first | rfl | exact h52 | exact h54 | exact h57 | exact h59 | exact h60 | exact h62 | exact h63 | exact h65 | exact h66 | exact h67 | exact h68 | exact h70 | exact h71 | exact h73 | exact h74 | exact h75 | exact h76) (by first | rfl | exact h52 | exact h54 | exact h57 | exact h59 | exact h60 | exact h62 | exact h63 | exact h65 | exact h66 | exact h67 | exact h68 | exact h70 | exact h71 | exact h73 | exact h74 | exact h75 | exact h76) (by first | rfl | exact h52 | exact h54 | exact h57 | exact h59 | exact h60 | exact h62 | exact h63 | exact h65 | exact h66 | exact h67 | exact h68 | exact h70 | exact h71 | exact h73 | exact h74 | exact h75 | exact h76) (by first | rfl | exact h52 | exact h54 | exact h57 | exact h59 | exact h60 | exact h62 | exact h63 | exact h65 | exact h66 | exact h67 | exact h68 | exact h70 | exact h71 | exact h73 | exact h74 | exact h75 | exact h76) (by first | rfl | exact h52 | exact h54 | exact h57 | exact h59 | exact h60 | exact h62 | exact h63 | exact h65 | exact h66 | exact h67 | exact h68 | exact h70 | exact h71 | exact h73 | exact h74 | exact h75 | exact h76) (by first | rfl | exact h52 | exact h54 | exact h57 | exact h59 | exact h60 | exact h62 | exact h63 | exact h65 | exact h66 | exact h67 | exact h68 | exact h70 | exact h71 | exact h73 | exact h74 | exact h75 | exact h76) (by first | rfl | exact h52 | exact h54 | exact h57 | exact h59 | exact h60 | exact h62 | exact h63 | exact h65 | exact h66 | exact h67 | exact h68 | exact h70 | exact h71 | exact h73 | exact h74 | exact h75 | exact h76) (by first | rfl | exact h52 | exact h54 | exact h57 | exact h59 | exact h60 | exact h62 | exact h63 | exact h65 | exact h66 | exact h67 | exact h68 | exact h70 | exact h71 | exact h73 | exact h74 | exact h75 | exact h76) (by first | rfl | exact h52 | exact h54 | exact h57 | exact h59 | exact h60 | exact h62 | exact h63 | exact h65 | exact h66 | exact h67 | exact h68 | exact h70 | exact h71 | exact h73 | exact h74 | exact h75 | exact h76) (by first | rfl | exact h52 | exact h54 | exact h57 | exact h59 | exact h60 | exact h62 | exact h63 | exact h65 | exact h66 | exact h67 | exact h68 | exact h70 | exact h71 | exact h73 | exact h74 | exact h75 | exact h76) (by first | rfl | exact h52 | exact h54 | exact h57 | exact h59 | exact h60 | exact h62 | exact h63 | exact h65 | exact h66 | exact h67 | exact h68 | exact h70 | exact h71 | exact h73 | exact h74 | exact h75 | exact h76) (by first | rfl | exact h52 | exact h54 | exact h57 | exact h59 | exact h60 | exact h62 | exact h63 | exact h65 | exact h66 | exact h67 | exact h68 | exact h70 | exact h71 | exact h73 | exact h74 | exact h75 | exact h76) (by first | rfl | exact h52 | exact h54 | exact h57 | exact h59 | exact h60 | exact h62 | exact h63 | exact h65 | exact h66 | exact h67 | exact h68 | exact h70 | exact h71 | exact h73 | exact h74 | exact h75 | exact h76) (by first | rfl | exact h52 | exact h54 | exact h57 | exact h59 | exact h60 | exact h62 | exact h63 | exact h65 | exact h66 | exact h67 | exact h68 | exact h70 | exact h71 | exact h73 | exact h74 | exact h75 | exact h76)) ⟨callB_of 4 htx (xw_goodC kw_7_131) rfl rfl rfl (htx _ kw_1_5) (htx _ kw_7_128) ⟨by decide, by decide, by decide +kernel⟩ ⟨Nat.le_of_ble_eq_true rfl, Nat.le_of_ble_eq_true rfl⟩, (htx _ kw_7_129), (htx _ kw_7_130)⟩ ⟨xPre_blind, va_recv hK hP (ci := 5) rfl (q0 := 0) rfl, (fun U hU hW => ⟨rfl, xPre_of hZ hS hFc hPc hDc hK U hU hW⟩)⟩ rfl rfl hl.1 rfl (lv_room (Nat.le_of_ble_eq_true rfl)) dL_law_778 ⟨Nat.le_of_ble_eq_true rfl, Nat.le_of_ble_eq_true rfl⟩) hS (fun q _ h => hFc q h) hFc (fun u9 t H1 locs ht hvm hr9 hB hz1 hk1 hS => ?_)
  obtain ⟨q2, q3, hP1, hK1, hD1⟩ := hB
  rw [ht] at hP1
  obtain ⟨hP, hD⟩ := xjoin (W := [(a2, .inl (cT 2, 1, .inr (.inl f47))), (a0, .inr (0, [v12, v13, v14, .ref a4, .ref b15, .ref a3, v16, .int 1])), (a3, .inr (2, [v48, .int 0, .int 0])), (a4, .inl (cT 3, 8, .inr (.inr (.inr (.inr f51))))), (a5, .inr (2, [.ref a6, .int 1, v55])), (a6, .inl (cT 2, 4096, .inr (.inl f56))), (a1, .inr (5, [.int 2, .ref a10, .int 2, v20, .int 0, v22, v23, .int 0, .int 1, .int 0, v27, v28, .int 0, v30, v31, .ref a11, .int 4, .int 4, .int 0, .int 100, v37, v38, .int 0, .int 1000000000, .ref a7, .ref a8, v41, v42, v43, v44, .int 1, v46])), (a7, .inl (cT 5, 8, .inr (.inr (.inr (.inr f58))))), (a8, .inl (cT 1, 8, .inl f61)), (a9, .inl (cT 0, 4096, .inl f64)), (a10, .inl (cT 4, 1024, .inr (.inr (.inr (.inr (va_up (va_up f69 0 (some q2)) 1 (some q3))))))), (a11, .inl (cT 0, 4096, .inl f72)), (q2, .inr (6, [.int 0, .long 0, .int 0, .int 0, .int 0, .int 1])), (q3, .inr (6, [.int 0, .long 0, .int 0, .int 0, .int 0, .int 1]))]) hP hD [0, 2, 3, 4, 5, 6] [1, 7, 8, 9, 10, 11] 6 rfl rfl (by decide) (by decide) hk1 hFc hP1 hD1
  generalize H1 = H at hP hS ⊢
  refine lv_aload_n hx hb dL_law_781 rfl (lv_at hl 3 rfl) ?_
  obtain ⟨hPc, hDc, hFc⟩ := xcut (wc := [(a1, .inr (5, [.int 2, .ref a10, .int 2, v20, .int 0, v22, v23, .int 0, .int 1, .int 0, v27, v28, .int 0, v30, v31, .ref a11, .int 4, .int 4, .int 0, .int 100, v37, v38, .int 0, .int 1000000000, .ref a7, .ref a8, v41, v42, v43, v44, .int 1, v46]))]) hP hD hS hA [6] rfl rfl (by decide)
  refine va_calli (va_runV (C := "ValueBenchModel") (As := []) (rest := []) ⟨hx, hb, hml, hown, htx⟩ (cM_thrown_2 l hl9 D cT aK aV H.size a1 (.ref a10) (.int 2) v20 (.int 0) v22 v23 (.int 0) (.int 1) (.int 0) v27 v28 (.int 0) v30 v31 (.ref a11) (.int 4) (.int 4) (.int 0) (.int 100) v37 v38 (.int 0) (.int 1000000000) (.ref a7) (.ref a8) v41 v42 v43 v44 (.int 1) v46) ⟨callB_of 0 htx (xw_goodC kw_5_187) rfl rfl rfl (htx _ kw_1_5) (htx _ kw_5_184) ⟨by decide, by decide, by decide +kernel⟩ ⟨Nat.le_of_ble_eq_true rfl, Nat.le_of_ble_eq_true rfl⟩, (htx _ kw_5_185), (htx _ kw_5_186)⟩ ⟨xPre_blind, va_recv hK hP (ci := 5) rfl (q0 := 6) rfl, (fun U hU hW => ⟨rfl, xPre_of hZ hS hFc hPc hDc hK U hU hW⟩)⟩ rfl rfl hl.1 rfl (lv_room (Nat.le_of_ble_eq_true rfl)) dL_law_782 ⟨Nat.le_of_ble_eq_true rfl, Nat.le_of_ble_eq_true rfl⟩) hS (fun q _ h => hFc q h) hFc (fun r4 u9 t H1 locs ht hvm hr9 hB hz1 hk1 hS => ?_)
  obtain ⟨hP1, hK1, hD1⟩ := hB
  rw [ht] at hP1
  obtain ⟨hP, hD⟩ := xjoin (W := [(a2, .inl (cT 2, 1, .inr (.inl f47))), (a0, .inr (0, [v12, v13, v14, .ref a4, .ref b15, .ref a3, v16, .int 1])), (a3, .inr (2, [v48, .int 0, .int 0])), (a4, .inl (cT 3, 8, .inr (.inr (.inr (.inr f51))))), (a5, .inr (2, [.ref a6, .int 1, v55])), (a6, .inl (cT 2, 4096, .inr (.inl f56))), (a7, .inl (cT 5, 8, .inr (.inr (.inr (.inr f58))))), (a8, .inl (cT 1, 8, .inl f61)), (a9, .inl (cT 0, 4096, .inl f64)), (a10, .inl (cT 4, 1024, .inr (.inr (.inr (.inr (va_up (va_up f69 0 (some q2)) 1 (some q3))))))), (a11, .inl (cT 0, 4096, .inl f72)), (q2, .inr (6, [.int 0, .long 0, .int 0, .int 0, .int 0, .int 1])), (q3, .inr (6, [.int 0, .long 0, .int 0, .int 0, .int 0, .int 1])), (a1, .inr (5, [.int 2, .ref a10, .int 2, v20, .int 0, v22, v23, .int 0, .int 1, .int 0, v27, v28, .int 0, v30, v31, .ref a11, .int 4, .int 4, .int 0, .int 100, v37, v38, .int 0, .int 1000000000, .ref a7, .ref a8, v41, v42, v43, v44, .int 1, v46]))]) hP hD [6] [0, 1, 2, 3, 4, 5, 7, 8, 9, 10, 11, 12, 13] 13 rfl rfl (by decide) (by decide) hk1 hFc hP1 hD1
  generalize H1 = H at hP hS ⊢
  rw [hr9]
  refine W.eq (g2 := F0 m 785 ls [.int 2]) rfl ?_
  refine lv_iload hx hb dL_law_785 (lv_at hl 0 rfl) ?_
  refine lv_icmp_eq (tgt := 792) hx hb dL_law_787 (by decide) (fun _ => ?_) (fun h => ((by revert h; decide : False)).elim)
  refine lv_goto (tgt := 906) hx hb dL_law_792 (by decide) ?_
  refine lv_iinc (v := 6) (lv' := [(4, .int 6), (5, .int 2), (3, .ref a2), (2, .ref a1), (1, .ref a0), (0, .ref b)]) hx hb dL_law_906 hl (k := 1) rfl (by decide) (by decide) rfl (fun ls hl => ?_)
  refine lv_goto (tgt := 23) hx hb dL_law_909 (by decide) ?_
  refine lv_iload hx hb dL_law_23 (lv_at hl 0 rfl) ?_
  refine lv_aload_n hx hb dL_law_25 rfl (lv_at hl 5 rfl) ?_
  refine va_slen hx hb hXs hbl hbA hS dL_law_26 ?_
  refine W.eq (g2 := F0 m 27 ls [.int 6, .int 6]) rfl ?_
  refine lv_bipush (v := 6) hx hb dL_law_27 (by decide) ?_
  refine lv_isub hx hb dL_law_29 ?_
  refine W.eq (g2 := F0 m 30 ls [.int 0, .int 6]) rfl ?_
  refine lv_icmp_gt (tgt := 912) hx hb dL_law_30 (by decide) (fun _ => ?_) (fun h => ((by revert h; decide : False)).elim)
  refine lv_iconst (v := 1) hx hb dL_law_912 (by decide) ?_
  exact va_forget (fun q h => hA2 _ (hS.2.2 q h)) (W.widen (k := 600002) (n := 7302232) (Nat.le_of_ble_eq_true rfl) (Nat.le_of_ble_eq_true rfl) (lw_ret hx hb hr hlocks dL_law_913))
set_option maxHeartbeats 400000000 in
set_option maxRecDepth 100000 in
theorem lf_sort1_p0 {p : Program} {e : Env} {s : State} {m : MethodId} {below : List Frame} {meth : Method} {c : Code} (l : Launch) (hl9 : l.stackTraces = false) (D : va_G) (cT : Nat → ClassId) (aK aV : Nat → Nat) {A : Nat → Prop} {b : Nat} {xs : Nat → Int32} (C : xLw p s m meth c b D cT aK aV A) {H : Heap} {locs : List Loc} {ls : Array Slot} (a0 : Nat) (a1 : Nat) (a2 : Nat) (a3 : Nat) (a4 : Nat) (a5 : Nat) (a6 : Nat) (a7 : Nat) (a8 : Nat) (a9 : Nat) (a10 : Nat) (a11 : Nat) (v12 : Value) (v13 : Value) (v14 : Value) (b15 : Nat) (v16 : Value) (v17 : Value) (v18 : Value) (v19 : Value) (v20 : Value) (v21 : Value) (v22 : Value) (v23 : Value) (v24 : Value) (v25 : Value) (v26 : Value) (v27 : Value) (v28 : Value) (v29 : Value) (v30 : Value) (v31 : Value) (v32 : Value) (v33 : Value) (v34 : Value) (v35 : Value) (v36 : Value) (v37 : Value) (v38 : Value) (v39 : Value) (v40 : Value) (v41 : Value) (v42 : Value) (v43 : Value) (v44 : Value) (v45 : Value) (v46 : Value) (f47 : Nat → Int64) (v48 : Value) (v49 : Value) (v50 : Value) (f51 : Nat → Option Nat) (b53 : Nat) (v55 : Value) (f56 : Nat → Int64) (f58 : Nat → Option Nat) (f61 : Nat → Int32) (f64 : Nat → Int32) (f69 : Nat → Option Nat) (f72 : Nat → Int32) (h52 : f51 (xs 3).toNatClampNeg = some a5) (h54 : f51 (xs 4).toNatClampNeg = some b53) (h57 : f56 0 = 0) (h59 : f58 (xs 3).toNatClampNeg = some a9) (h60 : f58 (xs 4).toNatClampNeg = some a11) (h62 : f61 (xs 3).toNatClampNeg = 4) (h63 : f61 (xs 4).toNatClampNeg = 4) (h65 : f64 0 = 110) (h66 : f64 1 = 117) (h67 : f64 2 = 108) (h68 : f64 3 = 108) (h70 : f69 0 = none) (h71 : f69 1 = none) (h73 : f72 0 = 110) (h74 : f72 1 = 117) (h75 : f72 2 = 108) (h76 : f72 3 = 108) (hto1 : ¬ (xs 1) < 0) (hto2 : ¬ 7 < (xs 1)) (hto3 : (xs 1) ≤ 7) (hto4 : vp_in (xs 1) 8) (hf : xs 2 = 1) (ha1 : ¬ (xs 3) < 0) (ha2 : ¬ 7 < (xs 3)) (ha3 : (xs 3) ≤ 7) (ha4 : vp_in (xs 3) 8) (hb1 : ¬ (xs 4) < 0) (hb2 : ¬ 7 < (xs 4)) (hb3 : (xs 4) ≤ 7) (hb4 : vp_in (xs 4) 8) (hXs : va_X b 6 xs s s.heap) (hP : va_P D xcl [(a0, .inr (0, [v12, v13, v14, .ref a4, .ref b15, .ref a3, v16, v17])), (a1, .inr (5, [v18, .ref a10, v19, v20, v21, v22, v23, v24, v25, v26, v27, v28, v29, v30, v31, v32, v33, v34, v35, v36, v37, v38, v39, v40, .ref a7, .ref a8, v41, v42, v43, v44, v45, v46])), (a2, .inl (cT 2, 1, .inr (.inl f47))), (a3, .inr (2, [v48, v49, v50])), (a4, .inl (cT 3, 8, .inr (.inr (.inr (.inr f51))))), (a5, .inr (2, [.ref a6, .int 1, v55])), (a6, .inl (cT 2, 4096, .inr (.inl f56))), (a7, .inl (cT 5, 8, .inr (.inr (.inr (.inr f58))))), (a8, .inl (cT 1, 8, .inl f61)), (a9, .inl (cT 0, 4096, .inl f64)), (a10, .inl (cT 4, 1024, .inr (.inr (.inr (.inr f69))))), (a11, .inl (cT 0, 4096, .inl f72))] H) (hD : va_D A [(a0, .inr (0, [v12, v13, v14, .ref a4, .ref b15, .ref a3, v16, v17])), (a1, .inr (5, [v18, .ref a10, v19, v20, v21, v22, v23, v24, v25, v26, v27, v28, v29, v30, v31, v32, v33, v34, v35, v36, v37, v38, v39, v40, .ref a7, .ref a8, v41, v42, v43, v44, v45, v46])), (a2, .inl (cT 2, 1, .inr (.inl f47))), (a3, .inr (2, [v48, v49, v50])), (a4, .inl (cT 3, 8, .inr (.inr (.inr (.inr f51))))), (a5, .inr (2, [.ref a6, .int 1, v55])), (a6, .inl (cT 2, 4096, .inr (.inl f56))), (a7, .inl (cT 5, 8, .inr (.inr (.inr (.inr f58))))), (a8, .inl (cT 1, 8, .inl f61)), (a9, .inl (cT 0, 4096, .inl f64)), (a10, .inl (cT 4, 1024, .inr (.inr (.inr (.inr f69))))), (a11, .inl (cT 0, 4096, .inl f72))]) (hS : va_S A s.heap H locs) (hl : lv_has ls 8 [(4, .int 0), (3, .ref a2), (2, .ref a1), (1, .ref a0), (0, .ref b)]) : W p l e room_1 s m #[Value.ref b] below meth c H locs 54 107242 (lw_Z below #[Value.ref b] s) (F0 m 723 ls []) := by
  obtain ⟨hx, hb, hr, hml, hown, htx, hbl, hbA, hlocks, hK, hZ, hA, hA2⟩ := C
  refine lv_aload_n hx hb dL_law_723 rfl (lv_at hl 3 rfl) ?_
  refine lv_aload_n hx hb dL_law_724 rfl (lv_at hl 4 rfl) ?_
  refine lv_iload hx hb dL_law_725 (lv_at hl 0 rfl) ?_
  refine lv_iconst (v := 1) hx hb dL_law_727 (by decide) ?_
  refine lv_iadd hx hb dL_law_728 ?_
  refine W.eq (g2 := F0 m 729 ls [.int 1, .ref b, .ref a0]) rfl ?_
  refine va_sld hx hb hXs hbl hbA hS (i := 1) (show ¬ ((1 : Int32) < 0 ∨ 6 ≤ (1 : Int32).toNatClampNeg) by decide) dL_law_729 ?_
  refine W.eq (g2 := F0 m 730 ls [.int (xs 1), .ref a0]) rfl ?_
  refine lv_aload_n hx hb dL_law_730 rfl (lv_at hl 4 rfl) ?_
  refine lv_iload hx hb dL_law_731 (lv_at hl 0 rfl) ?_
  refine lv_iconst (v := 2) hx hb dL_law_733 (by decide) ?_
  refine lv_iadd hx hb dL_law_734 ?_
  refine W.eq (g2 := F0 m 735 ls [.int 2, .ref b, .int (xs 1), .ref a0]) rfl ?_
  refine va_sld hx hb hXs hbl hbA hS (i := 2) (show ¬ ((2 : Int32) < 0 ∨ 6 ≤ (2 : Int32).toNatClampNeg) by decide) dL_law_735 ?_
  refine W.eq (g2 := F0 m 736 ls [.int (xs 2), .int (xs 1), .ref a0]) rfl ?_
  rw [hf]
  refine W.eq (g2 := F0 m 736 ls [.int 1, .int (xs 1), .ref a0]) rfl ?_
  refine lv_aload_n hx hb dL_law_736 rfl (lv_at hl 4 rfl) ?_
  refine lv_iload hx hb dL_law_737 (lv_at hl 0 rfl) ?_
  refine lv_iconst (v := 3) hx hb dL_law_739 (by decide) ?_
  refine lv_iadd hx hb dL_law_740 ?_
  refine W.eq (g2 := F0 m 741 ls [.int 3, .ref b, .int 1, .int (xs 1), .ref a0]) rfl ?_
  refine va_sld hx hb hXs hbl hbA hS (i := 3) (show ¬ ((3 : Int32) < 0 ∨ 6 ≤ (3 : Int32).toNatClampNeg) by decide) dL_law_741 ?_
  refine W.eq (g2 := F0 m 742 ls [.int (xs 3), .int 1, .int (xs 1), .ref a0]) rfl ?_
  refine lv_aload_n hx hb dL_law_742 rfl (lv_at hl 4 rfl) ?_
  refine lv_iload hx hb dL_law_743 (lv_at hl 0 rfl) ?_
  refine lv_iconst (v := 4) hx hb dL_law_745 (by decide) ?_
  refine lv_iadd hx hb dL_law_746 ?_
  refine W.eq (g2 := F0 m 747 ls [.int 4, .ref b, .int (xs 3), .int 1, .int (xs 1), .ref a0]) rfl ?_
  refine va_sld hx hb hXs hbl hbA hS (i := 4) (show ¬ ((4 : Int32) < 0 ∨ 6 ≤ (4 : Int32).toNatClampNeg) by decide) dL_law_747 ?_
  refine W.eq (g2 := F0 m 748 ls [.int (xs 4), .int (xs 3), .int 1, .int (xs 1), .ref a0]) rfl ?_
  obtain ⟨hPc, hDc, hFc⟩ := xcut (wc := [(a0, .inr (0, [v12, v13, v14, .ref a4, .ref b15, .ref a3, v16, v17])), (a3, .inr (2, [v48, v49, v50])), (a4, .inl (cT 3, 8, .inr (.inr (.inr (.inr f51))))), (a5, .inr (2, [.ref a6, .int 1, v55])), (a6, .inl (cT 2, 4096, .inr (.inl f56)))]) hP hD hS hA [0, 3, 4, 5, 6] rfl rfl (by decide)
  refine va_calli (vx_runSW (As := [.ref a0, .int (xs 1), .int 1, .int (xs 3), .int (xs 4)]) (rest := []) ⟨hx, hb, hml, hown, htx⟩ (cL_sort_11 l hl9 D cT aK aV H.size a0 a3 a4 a5 a6 (xs 1) (xs 3) (xs 4) v12 v13 v14 b15 v16 v17 v48 v49 v50 f51 b53 v55 f56 hto1 hto2 hto3 hto4 ha1 ha2 ha3 ha4 hb1 hb2 hb3 hb4 (by first | rfl | exact h52 | exact h54 | exact h57 | exact h59 | exact h60 | exact h62 | exact h63 | exact h65 | exact h66 | exact h67 | exact h68 | exact h70 | exact h71 | exact h73 | exact h74 | exact h75 | exact h76) (by first | rfl | exact h52 | exact h54 | exact h57 | exact h59 | exact h60 | exact h62 | exact h63 | exact h65 | exact h66 | exact h67 | exact h68 | exact h70 | exact h71 | exact h73 | exact h74 | exact h75 | exact h76) (by first | rfl | exact h52 | exact h54 | exact h57 | exact h59 | exact h60 | exact h62 | exact h63 | exact h65 | exact h66 | exact h67 | exact h68 | exact h70 | exact h71 | exact h73 | exact h74 | exact h75 | exact h76)) (xcSW 5 htx (xw_goodC kw_5_14) rfl rfl rfl (htx _ kw_1_0) (htx _ kw_5_12) ⟨by decide, by decide, by decide +kernel⟩ ⟨Nat.le_of_ble_eq_true rfl, Nat.le_of_ble_eq_true rfl⟩ (htx _ kw_5_13)) ⟨xPre_blind, (fun U hU hW => ⟨rfl, xPre_of hZ hS hFc hPc hDc hK U hU hW⟩)⟩ rfl rfl hl.1 rfl (lv_room (Nat.le_of_ble_eq_true rfl)) dL_law_748 ⟨Nat.le_of_ble_eq_true rfl, Nat.le_of_ble_eq_true rfl⟩) hS (fun q _ h => hFc q h) hFc (fun r1 u9 t H1 locs ht hvm hr9 hB hz1 hk1 hS => ?_)
  obtain ⟨hP1, hK1, hD1⟩ := hB
  rw [ht] at hP1
  obtain ⟨hP, hD⟩ := xjoin (W := [(a1, .inr (5, [v18, .ref a10, v19, v20, v21, v22, v23, v24, v25, v26, v27, v28, v29, v30, v31, v32, v33, v34, v35, v36, v37, v38, v39, v40, .ref a7, .ref a8, v41, v42, v43, v44, v45, v46])), (a2, .inl (cT 2, 1, .inr (.inl f47))), (a7, .inl (cT 5, 8, .inr (.inr (.inr (.inr f58))))), (a8, .inl (cT 1, 8, .inl f61)), (a9, .inl (cT 0, 4096, .inl f64)), (a10, .inl (cT 4, 1024, .inr (.inr (.inr (.inr f69))))), (a11, .inl (cT 0, 4096, .inl f72)), (a0, .inr (0, [v12, v13, v14, .ref a4, .ref b15, .ref a3, v16, .int 1])), (a3, .inr (2, [v48, .int 0, .int 0])), (a4, .inl (cT 3, 8, .inr (.inr (.inr (.inr f51))))), (a5, .inr (2, [.ref a6, .int 1, v55])), (a6, .inl (cT 2, 4096, .inr (.inl f56)))]) hP hD [0, 3, 4, 5, 6] [1, 2, 7, 8, 9, 10, 11] 7 rfl rfl (by decide) (by decide) hk1 hFc hP1 hD1
  generalize H1 = H at hP hS ⊢
  rw [hr9]
  refine W.eq (g2 := F0 m 751 ls [.int 2]) rfl ?_
  refine lv_istore (lv' := [(5, .int 2), (4, .int 0), (3, .ref a2), (2, .ref a1), (1, .ref a0), (0, .ref b)]) hx hb dL_law_751 hl (by decide) rfl (fun ls hl => ?_)
  refine lv_aload_n hx hb dL_law_753 rfl (lv_at hl 3 rfl) ?_
  refine lv_aload_n hx hb dL_law_754 rfl (lv_at hl 5 rfl) ?_
  refine lv_iload hx hb dL_law_755 (lv_at hl 1 rfl) ?_
  refine lv_iconst (v := 1) hx hb dL_law_757 (by decide) ?_
  refine lv_iadd hx hb dL_law_758 ?_
  refine W.eq (g2 := F0 m 759 ls [.int 1, .ref b, .ref a1]) rfl ?_
  refine va_sld hx hb hXs hbl hbA hS (i := 1) (show ¬ ((1 : Int32) < 0 ∨ 6 ≤ (1 : Int32).toNatClampNeg) by decide) dL_law_759 ?_
  refine W.eq (g2 := F0 m 760 ls [.int (xs 1), .ref a1]) rfl ?_
  refine lv_aload_n hx hb dL_law_760 rfl (lv_at hl 5 rfl) ?_
  refine lv_iload hx hb dL_law_761 (lv_at hl 1 rfl) ?_
  refine lv_iconst (v := 2) hx hb dL_law_763 (by decide) ?_
  refine lv_iadd hx hb dL_law_764 ?_
  refine W.eq (g2 := F0 m 765 ls [.int 2, .ref b, .int (xs 1), .ref a1]) rfl ?_
  refine va_sld hx hb hXs hbl hbA hS (i := 2) (show ¬ ((2 : Int32) < 0 ∨ 6 ≤ (2 : Int32).toNatClampNeg) by decide) dL_law_765 ?_
  refine W.eq (g2 := F0 m 766 ls [.int (xs 2), .int (xs 1), .ref a1]) rfl ?_
  rw [hf]
  refine W.eq (g2 := F0 m 766 ls [.int 1, .int (xs 1), .ref a1]) rfl ?_
  refine lv_aload_n hx hb dL_law_766 rfl (lv_at hl 5 rfl) ?_
  refine lv_iload hx hb dL_law_767 (lv_at hl 1 rfl) ?_
  refine lv_iconst (v := 3) hx hb dL_law_769 (by decide) ?_
  refine lv_iadd hx hb dL_law_770 ?_
  refine W.eq (g2 := F0 m 771 ls [.int 3, .ref b, .int 1, .int (xs 1), .ref a1]) rfl ?_
  refine va_sld hx hb hXs hbl hbA hS (i := 3) (show ¬ ((3 : Int32) < 0 ∨ 6 ≤ (3 : Int32).toNatClampNeg) by decide) dL_law_771 ?_
  refine W.eq (g2 := F0 m 772 ls [.int (xs 3), .int 1, .int (xs 1), .ref a1]) rfl ?_
  refine lv_aload_n hx hb dL_law_772 rfl (lv_at hl 5 rfl) ?_
  refine lv_iload hx hb dL_law_773 (lv_at hl 1 rfl) ?_
  refine lv_iconst (v := 4) hx hb dL_law_775 (by decide) ?_
  refine lv_iadd hx hb dL_law_776 ?_
  refine W.eq (g2 := F0 m 777 ls [.int 4, .ref b, .int (xs 3), .int 1, .int (xs 1), .ref a1]) rfl ?_
  refine va_sld hx hb hXs hbl hbA hS (i := 4) (show ¬ ((4 : Int32) < 0 ∨ 6 ≤ (4 : Int32).toNatClampNeg) by decide) dL_law_777 ?_
  refine W.eq (g2 := F0 m 778 ls [.int (xs 4), .int (xs 3), .int 1, .int (xs 1), .ref a1]) rfl ?_
  obtain ⟨hPc, hDc, hFc⟩ := xcut (wc := [(a1, .inr (5, [v18, .ref a10, v19, v20, v21, v22, v23, v24, v25, v26, v27, v28, v29, v30, v31, v32, v33, v34, v35, v36, v37, v38, v39, v40, .ref a7, .ref a8, v41, v42, v43, v44, v45, v46])), (a7, .inl (cT 5, 8, .inr (.inr (.inr (.inr f58))))), (a8, .inl (cT 1, 8, .inl f61)), (a9, .inl (cT 0, 4096, .inl f64)), (a10, .inl (cT 4, 1024, .inr (.inr (.inr (.inr f69))))), (a11, .inl (cT 0, 4096, .inl f72))]) hP hD hS hA [0, 2, 3, 4, 5, 6] rfl rfl (by decide)
  refine va_callv (va_runV (C := "ValueBenchModel") (As := [.int (xs 1), .int 1, .int (xs 3), .int (xs 4)]) (rest := []) ⟨hx, hb, hml, hown, htx⟩ (cM_sort0_11 l hl9 D cT aK aV H.size a1 a7 a8 a9 a10 a11 (xs 1) (xs 3) (xs 4) v18 v19 v20 v21 v22 v23 v24 v25 v26 v27 v28 v29 v30 v31 v32 v33 v34 v35 v36 v37 v38 v39 v40 v41 v42 v43 v44 v45 v46 f58 f61 f64 f69 f72 hto1 hto2 hto3 hto4 ha1 ha2 ha3 ha4 hb1 hb2 hb3 hb4 (by first | rfl | exact h52 | exact h54 | exact h57 | exact h59 | exact h60 | exact h62 | exact h63 | exact h65 | exact h66 | exact h67 | exact h68 | exact h70 | exact h71 | exact h73 | exact h74 | exact h75 | exact h76) (by first | rfl | exact h52 | exact h54 | exact h57 | exact h59 | exact h60 | exact h62 | exact h63 | exact h65 | exact h66 | exact h67 | exact h68 | exact h70 | exact h71 | exact h73 | exact h74 | exact h75 | exact h76) (by first | rfl | exact h52 | exact h54 | exact h57 | exact h59 | exact h60 | exact h62 | exact h63 | exact h65 | exact h66 | exact h67 | exact h68 | exact h70 | exact h71 | exact h73 | exact h74 | exact h75 | exact h76) (by first | rfl | exact h52 | exact h54 | exact h57 | exact h59 | exact h60 | exact h62 | exact h63 | exact h65 | exact h66 | exact h67 | exact h68 | exact h70 | exact h71 | exact h73 | exact h74 | exact h75 | exact h76) (by first | rfl | exact h52 | exact h54 | exact h57 | exact h59 | exact h60 | exact h62 | exact h63 | exact h65 | exact h66 | exact h67 | exact h68 | exact h70 | exact h71 | exact h73 | exact h74 | exact h75 | exact h76) (by first | rfl | exact h52 | exact h54 | exact h57 | exact h59 | exact h60 | exact h62 | exact h63 | exact h65 | exact h66 | exact h67 | exact h68 | exact h70 | exact h71 | exact h73 | exact h74 | exact h75 | exact h76) (by first | rfl | exact h52 | exact h54 | exact h57 | exact h59 | exact h60 | exact h62 | exact h63 | exact h65 | exact h66 | exact h67 | exact h68 | exact h70 | exact h71 | exact h73 | exact h74 | exact h75 | exact h76) (by first | rfl | exact h52 | exact h54 | exact h57 | exact h59 | exact h60 | exact h62 | exact h63 | exact h65 | exact h66 | exact h67 | exact h68 | exact h70 | exact h71 | exact h73 | exact h74 | exact h75 | exact h76) (by first | rfl | exact h52 | exact h54 | exact h57 | exact h59 | exact h60 | exact h62 | exact h63 | exact h65 | exact h66 | exact h67 | exact h68 | exact h70 | exact h71 | exact h73 | exact h74 | exact h75 | exact h76) (by first | rfl | exact h52 | exact h54 | exact h57 | exact h59 | exact h60 | exact h62 | exact h63 | exact h65 | exact h66 | exact h67 | exact h68 | exact h70 | exact h71 | exact h73 | exact h74 | exact h75 | exact h76) (by first | rfl | exact h52 | exact h54 | exact h57 | exact h59 | exact h60 | exact h62 | exact h63 | exact h65 | exact h66 | exact h67 | exact h68 | exact h70 | exact h71 | exact h73 | exact h74 | exact h75 | exact h76) (by first | rfl | exact h52 | exact h54 | exact h57 | exact h59 | exact h60 | exact h62 | exact h63 | exact h65 | exact h66 | exact h67 | exact h68 | exact h70 | exact h71 | exact h73 | exact h74 | exact h75 | exact h76) (by first | rfl | exact h52 | exact h54 | exact h57 | exact h59 | exact h60 | exact h62 | exact h63 | exact h65 | exact h66 | exact h67 | exact h68 | exact h70 | exact h71 | exact h73 | exact h74 | exact h75 | exact h76) (by first | rfl | exact h52 | exact h54 | exact h57 | exact h59 | exact h60 | exact h62 | exact h63 | exact h65 | exact h66 | exact h67 | exact h68 | exact h70 | exact h71 | exact h73 | exact h74 | exact h75 | exact h76)) ⟨callB_of 4 htx (xw_goodC kw_7_131) rfl rfl rfl (htx _ kw_1_5) (htx _ kw_7_128) ⟨by decide, by decide, by decide +kernel⟩ ⟨Nat.le_of_ble_eq_true rfl, Nat.le_of_ble_eq_true rfl⟩, (htx _ kw_7_129), (htx _ kw_7_130)⟩ ⟨xPre_blind, va_recv hK hP (ci := 5) rfl (q0 := 0) rfl, (fun U hU hW => ⟨rfl, xPre_of hZ hS hFc hPc hDc hK U hU hW⟩)⟩ rfl rfl hl.1 rfl (lv_room (Nat.le_of_ble_eq_true rfl)) dL_law_778 ⟨Nat.le_of_ble_eq_true rfl, Nat.le_of_ble_eq_true rfl⟩) hS (fun q _ h => hFc q h) hFc (fun u9 t H1 locs ht hvm hr9 hB hz1 hk1 hS => ?_)
  obtain ⟨q2, q3, hP1, hK1, hD1⟩ := hB
  rw [ht] at hP1
  obtain ⟨hP, hD⟩ := xjoin (W := [(a2, .inl (cT 2, 1, .inr (.inl f47))), (a0, .inr (0, [v12, v13, v14, .ref a4, .ref b15, .ref a3, v16, .int 1])), (a3, .inr (2, [v48, .int 0, .int 0])), (a4, .inl (cT 3, 8, .inr (.inr (.inr (.inr f51))))), (a5, .inr (2, [.ref a6, .int 1, v55])), (a6, .inl (cT 2, 4096, .inr (.inl f56))), (a1, .inr (5, [.int 2, .ref a10, .int 2, v20, .int 0, v22, v23, .int 0, .int 1, .int 0, v27, v28, .int 0, v30, v31, .ref a11, .int 4, .int 4, .int 0, .int 100, v37, v38, .int 0, .int 1000000000, .ref a7, .ref a8, v41, v42, v43, v44, .int 1, v46])), (a7, .inl (cT 5, 8, .inr (.inr (.inr (.inr f58))))), (a8, .inl (cT 1, 8, .inl f61)), (a9, .inl (cT 0, 4096, .inl f64)), (a10, .inl (cT 4, 1024, .inr (.inr (.inr (.inr (va_up (va_up f69 0 (some q2)) 1 (some q3))))))), (a11, .inl (cT 0, 4096, .inl f72)), (q2, .inr (6, [.int 0, .long 0, .int 0, .int 0, .int 0, .int 1])), (q3, .inr (6, [.int 0, .long 0, .int 0, .int 0, .int 0, .int 1]))]) hP hD [0, 2, 3, 4, 5, 6] [1, 7, 8, 9, 10, 11] 6 rfl rfl (by decide) (by decide) hk1 hFc hP1 hD1
  generalize H1 = H at hP hS ⊢
  refine lv_aload_n hx hb dL_law_781 rfl (lv_at hl 3 rfl) ?_
  obtain ⟨hPc, hDc, hFc⟩ := xcut (wc := [(a1, .inr (5, [.int 2, .ref a10, .int 2, v20, .int 0, v22, v23, .int 0, .int 1, .int 0, v27, v28, .int 0, v30, v31, .ref a11, .int 4, .int 4, .int 0, .int 100, v37, v38, .int 0, .int 1000000000, .ref a7, .ref a8, v41, v42, v43, v44, .int 1, v46]))]) hP hD hS hA [6] rfl rfl (by decide)
  refine va_calli (va_runV (C := "ValueBenchModel") (As := []) (rest := []) ⟨hx, hb, hml, hown, htx⟩ (cM_thrown_2 l hl9 D cT aK aV H.size a1 (.ref a10) (.int 2) v20 (.int 0) v22 v23 (.int 0) (.int 1) (.int 0) v27 v28 (.int 0) v30 v31 (.ref a11) (.int 4) (.int 4) (.int 0) (.int 100) v37 v38 (.int 0) (.int 1000000000) (.ref a7) (.ref a8) v41 v42 v43 v44 (.int 1) v46) ⟨callB_of 0 htx (xw_goodC kw_5_187) rfl rfl rfl (htx _ kw_1_5) (htx _ kw_5_184) ⟨by decide, by decide, by decide +kernel⟩ ⟨Nat.le_of_ble_eq_true rfl, Nat.le_of_ble_eq_true rfl⟩, (htx _ kw_5_185), (htx _ kw_5_186)⟩ ⟨xPre_blind, va_recv hK hP (ci := 5) rfl (q0 := 6) rfl, (fun U hU hW => ⟨rfl, xPre_of hZ hS hFc hPc hDc hK U hU hW⟩)⟩ rfl rfl hl.1 rfl (lv_room (Nat.le_of_ble_eq_true rfl)) dL_law_782 ⟨Nat.le_of_ble_eq_true rfl, Nat.le_of_ble_eq_true rfl⟩) hS (fun q _ h => hFc q h) hFc (fun r4 u9 t H1 locs ht hvm hr9 hB hz1 hk1 hS => ?_)
  obtain ⟨hP1, hK1, hD1⟩ := hB
  rw [ht] at hP1
  obtain ⟨hP, hD⟩ := xjoin (W := [(a2, .inl (cT 2, 1, .inr (.inl f47))), (a0, .inr (0, [v12, v13, v14, .ref a4, .ref b15, .ref a3, v16, .int 1])), (a3, .inr (2, [v48, .int 0, .int 0])), (a4, .inl (cT 3, 8, .inr (.inr (.inr (.inr f51))))), (a5, .inr (2, [.ref a6, .int 1, v55])), (a6, .inl (cT 2, 4096, .inr (.inl f56))), (a7, .inl (cT 5, 8, .inr (.inr (.inr (.inr f58))))), (a8, .inl (cT 1, 8, .inl f61)), (a9, .inl (cT 0, 4096, .inl f64)), (a10, .inl (cT 4, 1024, .inr (.inr (.inr (.inr (va_up (va_up f69 0 (some q2)) 1 (some q3))))))), (a11, .inl (cT 0, 4096, .inl f72)), (q2, .inr (6, [.int 0, .long 0, .int 0, .int 0, .int 0, .int 1])), (q3, .inr (6, [.int 0, .long 0, .int 0, .int 0, .int 0, .int 1])), (a1, .inr (5, [.int 2, .ref a10, .int 2, v20, .int 0, v22, v23, .int 0, .int 1, .int 0, v27, v28, .int 0, v30, v31, .ref a11, .int 4, .int 4, .int 0, .int 100, v37, v38, .int 0, .int 1000000000, .ref a7, .ref a8, v41, v42, v43, v44, .int 1, v46]))]) hP hD [6] [0, 1, 2, 3, 4, 5, 7, 8, 9, 10, 11, 12, 13] 13 rfl rfl (by decide) (by decide) hk1 hFc hP1 hD1
  generalize H1 = H at hP hS ⊢
  rw [hr9]
  refine W.eq (g2 := F0 m 785 ls [.int 2]) rfl ?_
  refine lv_iload hx hb dL_law_785 (lv_at hl 0 rfl) ?_
  refine lv_icmp_eq (tgt := 792) hx hb dL_law_787 (by decide) (fun _ => ?_) (fun h => ((by revert h; decide : False)).elim)
  refine lv_goto (tgt := 906) hx hb dL_law_792 (by decide) ?_
  refine lv_iinc (v := 6) (lv' := [(4, .int 6), (5, .int 2), (3, .ref a2), (2, .ref a1), (1, .ref a0), (0, .ref b)]) hx hb dL_law_906 hl (k := 1) rfl (by decide) (by decide) rfl (fun ls hl => ?_)
  refine lv_goto (tgt := 23) hx hb dL_law_909 (by decide) ?_
  refine lv_iload hx hb dL_law_23 (lv_at hl 0 rfl) ?_
  refine lv_aload_n hx hb dL_law_25 rfl (lv_at hl 5 rfl) ?_
  refine va_slen hx hb hXs hbl hbA hS dL_law_26 ?_
  refine W.eq (g2 := F0 m 27 ls [.int 6, .int 6]) rfl ?_
  refine lv_bipush (v := 6) hx hb dL_law_27 (by decide) ?_
  refine lv_isub hx hb dL_law_29 ?_
  refine W.eq (g2 := F0 m 30 ls [.int 0, .int 6]) rfl ?_
  refine lv_icmp_gt (tgt := 912) hx hb dL_law_30 (by decide) (fun _ => ?_) (fun h => ((by revert h; decide : False)).elim)
  refine lv_iconst (v := 1) hx hb dL_law_912 (by decide) ?_
  exact va_forget (fun q h => hA2 _ (hS.2.2 q h)) (W.widen (k := 600002) (n := 7302232) (Nat.le_of_ble_eq_true rfl) (Nat.le_of_ble_eq_true rfl) (lw_ret hx hb hr hlocks dL_law_913))
set_option maxHeartbeats 400000000 in
set_option maxRecDepth 100000 in
theorem lf_sort2_p4 {p : Program} {e : Env} {s : State} {m : MethodId} {below : List Frame} {meth : Method} {c : Code} (l : Launch) (hl9 : l.stackTraces = false) (D : va_G) (cT : Nat → ClassId) (aK aV : Nat → Nat) {A : Nat → Prop} {b : Nat} {xs : Nat → Int32} (C : xLw p s m meth c b D cT aK aV A) {H : Heap} {locs : List Loc} {ls : Array Slot} (a0 : Nat) (a1 : Nat) (a2 : Nat) (a3 : Nat) (a4 : Nat) (a5 : Nat) (a6 : Nat) (a7 : Nat) (a8 : Nat) (a9 : Nat) (a10 : Nat) (v11 : Value) (v12 : Value) (v13 : Value) (b14 : Nat) (v15 : Value) (v16 : Value) (v17 : Value) (v18 : Value) (v19 : Value) (v20 : Value) (v21 : Value) (v22 : Value) (v23 : Value) (v24 : Value) (v25 : Value) (v26 : Value) (v27 : Value) (v28 : Value) (v29 : Value) (v30 : Value) (v31 : Value) (v32 : Value) (v33 : Value) (v34 : Value) (v35 : Value) (v36 : Value) (v37 : Value) (v38 : Value) (v39 : Value) (v40 : Value) (v41 : Value) (v42 : Value) (v43 : Value) (v44 : Value) (v45 : Value) (f46 : Nat → Int64) (v47 : Value) (v48 : Value) (v49 : Value) (f50 : Nat → Option Nat) (v53 : Value) (f54 : Nat → Int64) (f56 : Nat → Option Nat) (f59 : Nat → Int32) (f62 : Nat → Int32) (f67 : Nat → Option Nat) (h51 : f50 (xs 3).toNatClampNeg = some a5) (h52 : f50 (xs 4).toNatClampNeg = some a5) (h55 : f54 0 = 0) (h57 : f56 (xs 3).toNatClampNeg = some a9) (h58 : f56 (xs 4).toNatClampNeg = some a9) (h60 : f59 (xs 3).toNatClampNeg = 4) (h61 : f59 (xs 4).toNatClampNeg = 4) (h63 : f62 0 = 110) (h64 : f62 1 = 117) (h65 : f62 2 = 108) (h66 : f62 3 = 108) (h68 : f67 0 = none) (h69 : f67 1 = none) (hto1 : ¬ (xs 1) < 0) (hto2 : ¬ 7 < (xs 1)) (hto3 : (xs 1) ≤ 7) (hto4 : vp_in (xs 1) 8) (hf : xs 2 = 2) (ha1 : ¬ (xs 3) < 0) (ha2 : ¬ 7 < (xs 3)) (ha3 : (xs 3) ≤ 7) (ha4 : vp_in (xs 3) 8) (hb1 : ¬ (xs 4) < 0) (hb2 : ¬ 7 < (xs 4)) (hb3 : (xs 4) ≤ 7) (hb4 : vp_in (xs 4) 8) (hXs : va_X b 6 xs s s.heap) (hP : va_P D xcl [(a0, .inr (0, [v11, v12, v13, .ref a4, .ref b14, .ref a3, v15, v16])), (a1, .inr (5, [v17, .ref a10, v18, v19, v20, v21, v22, v23, v24, v25, v26, v27, v28, v29, v30, v31, v32, v33, v34, v35, v36, v37, v38, v39, .ref a7, .ref a8, v40, v41, v42, v43, v44, v45])), (a2, .inl (cT 2, 1, .inr (.inl f46))), (a3, .inr (2, [v47, v48, v49])), (a4, .inl (cT 3, 8, .inr (.inr (.inr (.inr f50))))), (a5, .inr (2, [.ref a6, .int 1, v53])), (a6, .inl (cT 2, 4096, .inr (.inl f54))), (a7, .inl (cT 5, 8, .inr (.inr (.inr (.inr f56))))), (a8, .inl (cT 1, 8, .inl f59)), (a9, .inl (cT 0, 4096, .inl f62)), (a10, .inl (cT 4, 1024, .inr (.inr (.inr (.inr f67)))))] H) (hD : va_D A [(a0, .inr (0, [v11, v12, v13, .ref a4, .ref b14, .ref a3, v15, v16])), (a1, .inr (5, [v17, .ref a10, v18, v19, v20, v21, v22, v23, v24, v25, v26, v27, v28, v29, v30, v31, v32, v33, v34, v35, v36, v37, v38, v39, .ref a7, .ref a8, v40, v41, v42, v43, v44, v45])), (a2, .inl (cT 2, 1, .inr (.inl f46))), (a3, .inr (2, [v47, v48, v49])), (a4, .inl (cT 3, 8, .inr (.inr (.inr (.inr f50))))), (a5, .inr (2, [.ref a6, .int 1, v53])), (a6, .inl (cT 2, 4096, .inr (.inl f54))), (a7, .inl (cT 5, 8, .inr (.inr (.inr (.inr f56))))), (a8, .inl (cT 1, 8, .inl f59)), (a9, .inl (cT 0, 4096, .inl f62)), (a10, .inl (cT 4, 1024, .inr (.inr (.inr (.inr f67)))))]) (hS : va_S A s.heap H locs) (hl : lv_has ls 8 [(4, .int 0), (3, .ref a2), (2, .ref a1), (1, .ref a0), (0, .ref b)]) : W p l e room_1 s m #[Value.ref b] below meth c H locs 54 107242 (lw_Z below #[Value.ref b] s) (F0 m 723 ls []) := by
  obtain ⟨hx, hb, hr, hml, hown, htx, hbl, hbA, hlocks, hK, hZ, hA, hA2⟩ := C
  refine lv_aload_n hx hb dL_law_723 rfl (lv_at hl 3 rfl) ?_
  refine lv_aload_n hx hb dL_law_724 rfl (lv_at hl 4 rfl) ?_
  refine lv_iload hx hb dL_law_725 (lv_at hl 0 rfl) ?_
  refine lv_iconst (v := 1) hx hb dL_law_727 (by decide) ?_
  refine lv_iadd hx hb dL_law_728 ?_
  refine W.eq (g2 := F0 m 729 ls [.int 1, .ref b, .ref a0]) rfl ?_
  refine va_sld hx hb hXs hbl hbA hS (i := 1) (show ¬ ((1 : Int32) < 0 ∨ 6 ≤ (1 : Int32).toNatClampNeg) by decide) dL_law_729 ?_
  refine W.eq (g2 := F0 m 730 ls [.int (xs 1), .ref a0]) rfl ?_
  refine lv_aload_n hx hb dL_law_730 rfl (lv_at hl 4 rfl) ?_
  refine lv_iload hx hb dL_law_731 (lv_at hl 0 rfl) ?_
  refine lv_iconst (v := 2) hx hb dL_law_733 (by decide) ?_
  refine lv_iadd hx hb dL_law_734 ?_
  refine W.eq (g2 := F0 m 735 ls [.int 2, .ref b, .int (xs 1), .ref a0]) rfl ?_
  refine va_sld hx hb hXs hbl hbA hS (i := 2) (show ¬ ((2 : Int32) < 0 ∨ 6 ≤ (2 : Int32).toNatClampNeg) by decide) dL_law_735 ?_
  refine W.eq (g2 := F0 m 736 ls [.int (xs 2), .int (xs 1), .ref a0]) rfl ?_
  rw [hf]
  refine W.eq (g2 := F0 m 736 ls [.int 2, .int (xs 1), .ref a0]) rfl ?_
  refine lv_aload_n hx hb dL_law_736 rfl (lv_at hl 4 rfl) ?_
  refine lv_iload hx hb dL_law_737 (lv_at hl 0 rfl) ?_
  refine lv_iconst (v := 3) hx hb dL_law_739 (by decide) ?_
  refine lv_iadd hx hb dL_law_740 ?_
  refine W.eq (g2 := F0 m 741 ls [.int 3, .ref b, .int 2, .int (xs 1), .ref a0]) rfl ?_
  refine va_sld hx hb hXs hbl hbA hS (i := 3) (show ¬ ((3 : Int32) < 0 ∨ 6 ≤ (3 : Int32).toNatClampNeg) by decide) dL_law_741 ?_
  refine W.eq (g2 := F0 m 742 ls [.int (xs 3), .int 2, .int (xs 1), .ref a0]) rfl ?_
  refine lv_aload_n hx hb dL_law_742 rfl (lv_at hl 4 rfl) ?_
  refine lv_iload hx hb dL_law_743 (lv_at hl 0 rfl) ?_
  refine lv_iconst (v := 4) hx hb dL_law_745 (by decide) ?_
  refine lv_iadd hx hb dL_law_746 ?_
  refine W.eq (g2 := F0 m 747 ls [.int 4, .ref b, .int (xs 3), .int 2, .int (xs 1), .ref a0]) rfl ?_
  refine va_sld hx hb hXs hbl hbA hS (i := 4) (show ¬ ((4 : Int32) < 0 ∨ 6 ≤ (4 : Int32).toNatClampNeg) by decide) dL_law_747 ?_
  refine W.eq (g2 := F0 m 748 ls [.int (xs 4), .int (xs 3), .int 2, .int (xs 1), .ref a0]) rfl ?_
  obtain ⟨hPc, hDc, hFc⟩ := xcut (wc := [(a0, .inr (0, [v11, v12, v13, .ref a4, .ref b14, .ref a3, v15, v16])), (a3, .inr (2, [v47, v48, v49])), (a4, .inl (cT 3, 8, .inr (.inr (.inr (.inr f50))))), (a5, .inr (2, [.ref a6, .int 1, v53])), (a6, .inl (cT 2, 4096, .inr (.inl f54)))]) hP hD hS hA [0, 3, 4, 5, 6] rfl rfl (by decide)
  refine va_calli (vx_runSW (As := [.ref a0, .int (xs 1), .int 2, .int (xs 3), .int (xs 4)]) (rest := []) ⟨hx, hb, hml, hown, htx⟩ (cL_sort_12 l hl9 D cT aK aV H.size a0 a3 a4 a5 a6 (xs 1) (xs 3) (xs 4) v11 v12 v13 b14 v15 v16 v47 v48 v49 f50 v53 f54 hto1 hto2 hto3 hto4 ha1 ha2 ha3 ha4 hb1 hb2 hb3 hb4 (by first | rfl | exact h51 | exact h52 | exact h55 | exact h57 | exact h58 | exact h60 | exact h61 | exact h63 | exact h64 | exact h65 | exact h66 | exact h68 | exact h69) (by first | rfl | exact h51 | exact h52 | exact h55 | exact h57 | exact h58 | exact h60 | exact h61 | exact h63 | exact h64 | exact h65 | exact h66 | exact h68 | exact h69) (by first | rfl | exact h51 | exact h52 | exact h55 | exact h57 | exact h58 | exact h60 | exact h61 | exact h63 | exact h64 | exact h65 | exact h66 | exact h68 | exact h69)) (xcSW 5 htx (xw_goodC kw_5_14) rfl rfl rfl (htx _ kw_1_0) (htx _ kw_5_12) ⟨by decide, by decide, by decide +kernel⟩ ⟨Nat.le_of_ble_eq_true rfl, Nat.le_of_ble_eq_true rfl⟩ (htx _ kw_5_13)) ⟨xPre_blind, (fun U hU hW => ⟨rfl, xPre_of hZ hS hFc hPc hDc hK U hU hW⟩)⟩ rfl rfl hl.1 rfl (lv_room (Nat.le_of_ble_eq_true rfl)) dL_law_748 ⟨Nat.le_of_ble_eq_true rfl, Nat.le_of_ble_eq_true rfl⟩) hS (fun q _ h => hFc q h) hFc (fun r1 u9 t H1 locs ht hvm hr9 hB hz1 hk1 hS => ?_)
  obtain ⟨hP1, hK1, hD1⟩ := hB
  rw [ht] at hP1
  obtain ⟨hP, hD⟩ := xjoin (W := [(a1, .inr (5, [v17, .ref a10, v18, v19, v20, v21, v22, v23, v24, v25, v26, v27, v28, v29, v30, v31, v32, v33, v34, v35, v36, v37, v38, v39, .ref a7, .ref a8, v40, v41, v42, v43, v44, v45])), (a2, .inl (cT 2, 1, .inr (.inl f46))), (a7, .inl (cT 5, 8, .inr (.inr (.inr (.inr f56))))), (a8, .inl (cT 1, 8, .inl f59)), (a9, .inl (cT 0, 4096, .inl f62)), (a10, .inl (cT 4, 1024, .inr (.inr (.inr (.inr f67))))), (a0, .inr (0, [v11, v12, v13, .ref a4, .ref b14, .ref a3, v15, .int 1])), (a3, .inr (2, [v47, .int 0, .int 0])), (a4, .inl (cT 3, 8, .inr (.inr (.inr (.inr f50))))), (a5, .inr (2, [.ref a6, .int 1, v53])), (a6, .inl (cT 2, 4096, .inr (.inl f54)))]) hP hD [0, 3, 4, 5, 6] [1, 2, 7, 8, 9, 10] 6 rfl rfl (by decide) (by decide) hk1 hFc hP1 hD1
  generalize H1 = H at hP hS ⊢
  rw [hr9]
  refine W.eq (g2 := F0 m 751 ls [.int 2]) rfl ?_
  refine lv_istore (lv' := [(5, .int 2), (4, .int 0), (3, .ref a2), (2, .ref a1), (1, .ref a0), (0, .ref b)]) hx hb dL_law_751 hl (by decide) rfl (fun ls hl => ?_)
  refine lv_aload_n hx hb dL_law_753 rfl (lv_at hl 3 rfl) ?_
  refine lv_aload_n hx hb dL_law_754 rfl (lv_at hl 5 rfl) ?_
  refine lv_iload hx hb dL_law_755 (lv_at hl 1 rfl) ?_
  refine lv_iconst (v := 1) hx hb dL_law_757 (by decide) ?_
  refine lv_iadd hx hb dL_law_758 ?_
  refine W.eq (g2 := F0 m 759 ls [.int 1, .ref b, .ref a1]) rfl ?_
  refine va_sld hx hb hXs hbl hbA hS (i := 1) (show ¬ ((1 : Int32) < 0 ∨ 6 ≤ (1 : Int32).toNatClampNeg) by decide) dL_law_759 ?_
  refine W.eq (g2 := F0 m 760 ls [.int (xs 1), .ref a1]) rfl ?_
  refine lv_aload_n hx hb dL_law_760 rfl (lv_at hl 5 rfl) ?_
  refine lv_iload hx hb dL_law_761 (lv_at hl 1 rfl) ?_
  refine lv_iconst (v := 2) hx hb dL_law_763 (by decide) ?_
  refine lv_iadd hx hb dL_law_764 ?_
  refine W.eq (g2 := F0 m 765 ls [.int 2, .ref b, .int (xs 1), .ref a1]) rfl ?_
  refine va_sld hx hb hXs hbl hbA hS (i := 2) (show ¬ ((2 : Int32) < 0 ∨ 6 ≤ (2 : Int32).toNatClampNeg) by decide) dL_law_765 ?_
  refine W.eq (g2 := F0 m 766 ls [.int (xs 2), .int (xs 1), .ref a1]) rfl ?_
  rw [hf]
  refine W.eq (g2 := F0 m 766 ls [.int 2, .int (xs 1), .ref a1]) rfl ?_
  refine lv_aload_n hx hb dL_law_766 rfl (lv_at hl 5 rfl) ?_
  refine lv_iload hx hb dL_law_767 (lv_at hl 1 rfl) ?_
  refine lv_iconst (v := 3) hx hb dL_law_769 (by decide) ?_
  refine lv_iadd hx hb dL_law_770 ?_
  refine W.eq (g2 := F0 m 771 ls [.int 3, .ref b, .int 2, .int (xs 1), .ref a1]) rfl ?_
  refine va_sld hx hb hXs hbl hbA hS (i := 3) (show ¬ ((3 : Int32) < 0 ∨ 6 ≤ (3 : Int32).toNatClampNeg) by decide) dL_law_771 ?_
  refine W.eq (g2 := F0 m 772 ls [.int (xs 3), .int 2, .int (xs 1), .ref a1]) rfl ?_
  refine lv_aload_n hx hb dL_law_772 rfl (lv_at hl 5 rfl) ?_
  refine lv_iload hx hb dL_law_773 (lv_at hl 1 rfl) ?_
  refine lv_iconst (v := 4) hx hb dL_law_775 (by decide) ?_
  refine lv_iadd hx hb dL_law_776 ?_
  refine W.eq (g2 := F0 m 777 ls [.int 4, .ref b, .int (xs 3), .int 2, .int (xs 1), .ref a1]) rfl ?_
  refine va_sld hx hb hXs hbl hbA hS (i := 4) (show ¬ ((4 : Int32) < 0 ∨ 6 ≤ (4 : Int32).toNatClampNeg) by decide) dL_law_777 ?_
  refine W.eq (g2 := F0 m 778 ls [.int (xs 4), .int (xs 3), .int 2, .int (xs 1), .ref a1]) rfl ?_
  obtain ⟨hPc, hDc, hFc⟩ := xcut (wc := [(a1, .inr (5, [v17, .ref a10, v18, v19, v20, v21, v22, v23, v24, v25, v26, v27, v28, v29, v30, v31, v32, v33, v34, v35, v36, v37, v38, v39, .ref a7, .ref a8, v40, v41, v42, v43, v44, v45])), (a7, .inl (cT 5, 8, .inr (.inr (.inr (.inr f56))))), (a8, .inl (cT 1, 8, .inl f59)), (a9, .inl (cT 0, 4096, .inl f62)), (a10, .inl (cT 4, 1024, .inr (.inr (.inr (.inr f67)))))]) hP hD hS hA [0, 2, 3, 4, 5] rfl rfl (by decide)
  refine va_callv (va_runV (C := "ValueBenchModel") (As := [.int (xs 1), .int 2, .int (xs 3), .int (xs 4)]) (rest := []) ⟨hx, hb, hml, hown, htx⟩ (cM_sort0_12 l hl9 D cT aK aV H.size a1 a7 a8 a9 a10 (xs 1) (xs 3) (xs 4) v17 v18 v19 v20 v21 v22 v23 v24 v25 v26 v27 v28 v29 v30 v31 v32 v33 v34 v35 v36 v37 v38 v39 v40 v41 v42 v43 v44 v45 f56 f59 f62 f67 hto1 hto2 hto3 hto4 ha1 ha2 ha3 ha4 hb1 hb2 hb3 hb4 (by first | rfl | exact h51 | exact h52 | exact h55 | exact h57 | exact h58 | exact h60 | exact h61 | exact h63 | exact h64 | exact h65 | exact h66 | exact h68 | exact h69) (by first | rfl | exact h51 | exact h52 | exact h55 | exact h57 | exact h58 | exact h60 | exact h61 | exact h63 | exact h64 | exact h65 | exact h66 | exact h68 | exact h69) (by first | rfl | exact h51 | exact h52 | exact h55 | exact h57 | exact h58 | exact h60 | exact h61 | exact h63 | exact h64 | exact h65 | exact h66 | exact h68 | exact h69) (by first | rfl | exact h51 | exact h52 | exact h55 | exact h57 | exact h58 | exact h60 | exact h61 | exact h63 | exact h64 | exact h65 | exact h66 | exact h68 | exact h69) (by first | rfl | exact h51 | exact h52 | exact h55 | exact h57 | exact h58 | exact h60 | exact h61 | exact h63 | exact h64 | exact h65 | exact h66 | exact h68 | exact h69) (by first | rfl | exact h51 | exact h52 | exact h55 | exact h57 | exact h58 | exact h60 | exact h61 | exact h63 | exact h64 | exact h65 | exact h66 | exact h68 | exact h69) (by first | rfl | exact h51 | exact h52 | exact h55 | exact h57 | exact h58 | exact h60 | exact h61 | exact h63 | exact h64 | exact h65 | exact h66 | exact h68 | exact h69) (by first | rfl | exact h51 | exact h52 | exact h55 | exact h57 | exact h58 | exact h60 | exact h61 | exact h63 | exact h64 | exact h65 | exact h66 | exact h68 | exact h69) (by first | rfl | exact h51 | exact h52 | exact h55 | exact h57 | exact h58 | exact h60 | exact h61 | exact h63 | exact h64 | exact h65 | exact h66 | exact h68 | exact h69) (by first | rfl | exact h51 | exact h52 | exact h55 | exact h57 | exact h58 | exact h60 | exact h61 | exact h63 | exact h64 | exact h65 | exact h66 | exact h68 | exact h69)) ⟨callB_of 4 htx (xw_goodC kw_7_131) rfl rfl rfl (htx _ kw_1_5) (htx _ kw_7_128) ⟨by decide, by decide, by decide +kernel⟩ ⟨Nat.le_of_ble_eq_true rfl, Nat.le_of_ble_eq_true rfl⟩, (htx _ kw_7_129), (htx _ kw_7_130)⟩ ⟨xPre_blind, va_recv hK hP (ci := 5) rfl (q0 := 0) rfl, (fun U hU hW => ⟨rfl, xPre_of hZ hS hFc hPc hDc hK U hU hW⟩)⟩ rfl rfl hl.1 rfl (lv_room (Nat.le_of_ble_eq_true rfl)) dL_law_778 ⟨Nat.le_of_ble_eq_true rfl, Nat.le_of_ble_eq_true rfl⟩) hS (fun q _ h => hFc q h) hFc (fun u9 t H1 locs ht hvm hr9 hB hz1 hk1 hS => ?_)
  obtain ⟨q2, q3, hP1, hK1, hD1⟩ := hB
  rw [ht] at hP1
  obtain ⟨hP, hD⟩ := xjoin (W := [(a2, .inl (cT 2, 1, .inr (.inl f46))), (a0, .inr (0, [v11, v12, v13, .ref a4, .ref b14, .ref a3, v15, .int 1])), (a3, .inr (2, [v47, .int 0, .int 0])), (a4, .inl (cT 3, 8, .inr (.inr (.inr (.inr f50))))), (a5, .inr (2, [.ref a6, .int 1, v53])), (a6, .inl (cT 2, 4096, .inr (.inl f54))), (a1, .inr (5, [.int 2, .ref a10, .int 2, v19, .int 0, v21, v22, .int 0, .int 1, .int 0, v26, v27, .int 0, v29, v30, .ref a9, .int 4, .int 4, .int 0, .int 100, v36, v37, .int 0, .int 1000000000, .ref a7, .ref a8, v40, v41, v42, v43, .int 1, v45])), (a7, .inl (cT 5, 8, .inr (.inr (.inr (.inr f56))))), (a8, .inl (cT 1, 8, .inl f59)), (a9, .inl (cT 0, 4096, .inl f62)), (a10, .inl (cT 4, 1024, .inr (.inr (.inr (.inr (va_up (va_up f67 0 (some q2)) 1 (some q3))))))), (q2, .inr (6, [.int 0, .long 0, .int 0, .int 0, .int 0, .int 1])), (q3, .inr (6, [.int 0, .long 0, .int 0, .int 0, .int 0, .int 1]))]) hP hD [0, 2, 3, 4, 5] [1, 6, 7, 8, 9, 10] 6 rfl rfl (by decide) (by decide) hk1 hFc hP1 hD1
  generalize H1 = H at hP hS ⊢
  refine lv_aload_n hx hb dL_law_781 rfl (lv_at hl 3 rfl) ?_
  obtain ⟨hPc, hDc, hFc⟩ := xcut (wc := [(a1, .inr (5, [.int 2, .ref a10, .int 2, v19, .int 0, v21, v22, .int 0, .int 1, .int 0, v26, v27, .int 0, v29, v30, .ref a9, .int 4, .int 4, .int 0, .int 100, v36, v37, .int 0, .int 1000000000, .ref a7, .ref a8, v40, v41, v42, v43, .int 1, v45]))]) hP hD hS hA [6] rfl rfl (by decide)
  refine va_calli (va_runV (C := "ValueBenchModel") (As := []) (rest := []) ⟨hx, hb, hml, hown, htx⟩ (cM_thrown_2 l hl9 D cT aK aV H.size a1 (.ref a10) (.int 2) v19 (.int 0) v21 v22 (.int 0) (.int 1) (.int 0) v26 v27 (.int 0) v29 v30 (.ref a9) (.int 4) (.int 4) (.int 0) (.int 100) v36 v37 (.int 0) (.int 1000000000) (.ref a7) (.ref a8) v40 v41 v42 v43 (.int 1) v45) ⟨callB_of 0 htx (xw_goodC kw_5_187) rfl rfl rfl (htx _ kw_1_5) (htx _ kw_5_184) ⟨by decide, by decide, by decide +kernel⟩ ⟨Nat.le_of_ble_eq_true rfl, Nat.le_of_ble_eq_true rfl⟩, (htx _ kw_5_185), (htx _ kw_5_186)⟩ ⟨xPre_blind, va_recv hK hP (ci := 5) rfl (q0 := 6) rfl, (fun U hU hW => ⟨rfl, xPre_of hZ hS hFc hPc hDc hK U hU hW⟩)⟩ rfl rfl hl.1 rfl (lv_room (Nat.le_of_ble_eq_true rfl)) dL_law_782 ⟨Nat.le_of_ble_eq_true rfl, Nat.le_of_ble_eq_true rfl⟩) hS (fun q _ h => hFc q h) hFc (fun r4 u9 t H1 locs ht hvm hr9 hB hz1 hk1 hS => ?_)
  obtain ⟨hP1, hK1, hD1⟩ := hB
  rw [ht] at hP1
  obtain ⟨hP, hD⟩ := xjoin (W := [(a2, .inl (cT 2, 1, .inr (.inl f46))), (a0, .inr (0, [v11, v12, v13, .ref a4, .ref b14, .ref a3, v15, .int 1])), (a3, .inr (2, [v47, .int 0, .int 0])), (a4, .inl (cT 3, 8, .inr (.inr (.inr (.inr f50))))), (a5, .inr (2, [.ref a6, .int 1, v53])), (a6, .inl (cT 2, 4096, .inr (.inl f54))), (a7, .inl (cT 5, 8, .inr (.inr (.inr (.inr f56))))), (a8, .inl (cT 1, 8, .inl f59)), (a9, .inl (cT 0, 4096, .inl f62)), (a10, .inl (cT 4, 1024, .inr (.inr (.inr (.inr (va_up (va_up f67 0 (some q2)) 1 (some q3))))))), (q2, .inr (6, [.int 0, .long 0, .int 0, .int 0, .int 0, .int 1])), (q3, .inr (6, [.int 0, .long 0, .int 0, .int 0, .int 0, .int 1])), (a1, .inr (5, [.int 2, .ref a10, .int 2, v19, .int 0, v21, v22, .int 0, .int 1, .int 0, v26, v27, .int 0, v29, v30, .ref a9, .int 4, .int 4, .int 0, .int 100, v36, v37, .int 0, .int 1000000000, .ref a7, .ref a8, v40, v41, v42, v43, .int 1, v45]))]) hP hD [6] [0, 1, 2, 3, 4, 5, 7, 8, 9, 10, 11, 12] 12 rfl rfl (by decide) (by decide) hk1 hFc hP1 hD1
  generalize H1 = H at hP hS ⊢
  rw [hr9]
  refine W.eq (g2 := F0 m 785 ls [.int 2]) rfl ?_
  refine lv_iload hx hb dL_law_785 (lv_at hl 0 rfl) ?_
  refine lv_icmp_eq (tgt := 792) hx hb dL_law_787 (by decide) (fun _ => ?_) (fun h => ((by revert h; decide : False)).elim)
  refine lv_goto (tgt := 906) hx hb dL_law_792 (by decide) ?_
  refine lv_iinc (v := 6) (lv' := [(4, .int 6), (5, .int 2), (3, .ref a2), (2, .ref a1), (1, .ref a0), (0, .ref b)]) hx hb dL_law_906 hl (k := 1) rfl (by decide) (by decide) rfl (fun ls hl => ?_)
  refine lv_goto (tgt := 23) hx hb dL_law_909 (by decide) ?_
  refine lv_iload hx hb dL_law_23 (lv_at hl 0 rfl) ?_
  refine lv_aload_n hx hb dL_law_25 rfl (lv_at hl 5 rfl) ?_
  refine va_slen hx hb hXs hbl hbA hS dL_law_26 ?_
  refine W.eq (g2 := F0 m 27 ls [.int 6, .int 6]) rfl ?_
  refine lv_bipush (v := 6) hx hb dL_law_27 (by decide) ?_
  refine lv_isub hx hb dL_law_29 ?_
  refine W.eq (g2 := F0 m 30 ls [.int 0, .int 6]) rfl ?_
  refine lv_icmp_gt (tgt := 912) hx hb dL_law_30 (by decide) (fun _ => ?_) (fun h => ((by revert h; decide : False)).elim)
  refine lv_iconst (v := 1) hx hb dL_law_912 (by decide) ?_
  exact va_forget (fun q h => hA2 _ (hS.2.2 q h)) (W.widen (k := 600002) (n := 7302232) (Nat.le_of_ble_eq_true rfl) (Nat.le_of_ble_eq_true rfl) (lw_ret hx hb hr hlocks dL_law_913))
set_option maxHeartbeats 400000000 in
set_option maxRecDepth 100000 in
theorem lf_sort2_p1 {p : Program} {e : Env} {s : State} {m : MethodId} {below : List Frame} {meth : Method} {c : Code} (l : Launch) (hl9 : l.stackTraces = false) (D : va_G) (cT : Nat → ClassId) (aK aV : Nat → Nat) {A : Nat → Prop} {b : Nat} {xs : Nat → Int32} (C : xLw p s m meth c b D cT aK aV A) {H : Heap} {locs : List Loc} {ls : Array Slot} (a0 : Nat) (a1 : Nat) (a2 : Nat) (a3 : Nat) (a4 : Nat) (a5 : Nat) (a6 : Nat) (a7 : Nat) (a8 : Nat) (a9 : Nat) (a10 : Nat) (v11 : Value) (v12 : Value) (v13 : Value) (b14 : Nat) (v15 : Value) (v16 : Value) (v17 : Value) (v18 : Value) (v19 : Value) (v20 : Value) (v21 : Value) (v22 : Value) (v23 : Value) (v24 : Value) (v25 : Value) (v26 : Value) (v27 : Value) (v28 : Value) (v29 : Value) (v30 : Value) (v31 : Value) (v32 : Value) (v33 : Value) (v34 : Value) (v35 : Value) (v36 : Value) (v37 : Value) (v38 : Value) (v39 : Value) (v40 : Value) (v41 : Value) (v42 : Value) (v43 : Value) (v44 : Value) (v45 : Value) (f46 : Nat → Int64) (v47 : Value) (v48 : Value) (v49 : Value) (f50 : Nat → Option Nat) (v53 : Value) (f54 : Nat → Int64) (f56 : Nat → Option Nat) (f59 : Nat → Int32) (f62 : Nat → Int32) (f67 : Nat → Option Nat) (h51 : f50 (xs 3).toNatClampNeg = some a5) (h52 : f50 (xs 4).toNatClampNeg = some a5) (h55 : f54 0 = 0) (h57 : f56 (xs 3).toNatClampNeg = some a9) (h58 : f56 (xs 4).toNatClampNeg = some a9) (h60 : f59 (xs 3).toNatClampNeg = 4) (h61 : f59 (xs 4).toNatClampNeg = 4) (h63 : f62 0 = 110) (h64 : f62 1 = 117) (h65 : f62 2 = 108) (h66 : f62 3 = 108) (h68 : f67 0 = none) (h69 : f67 1 = none) (hto1 : ¬ (xs 1) < 0) (hto2 : ¬ 7 < (xs 1)) (hto3 : (xs 1) ≤ 7) (hto4 : vp_in (xs 1) 8) (hf : xs 2 = 2) (ha1 : ¬ (xs 3) < 0) (ha2 : ¬ 7 < (xs 3)) (ha3 : (xs 3) ≤ 7) (ha4 : vp_in (xs 3) 8) (hb1 : ¬ (xs 4) < 0) (hb2 : ¬ 7 < (xs 4)) (hb3 : (xs 4) ≤ 7) (hb4 : vp_in (xs 4) 8) (hXs : va_X b 6 xs s s.heap) (hP : va_P D xcl [(a0, .inr (0, [v11, v12, v13, .ref a4, .ref b14, .ref a3, v15, v16])), (a1, .inr (5, [v17, .ref a10, v18, v19, v20, v21, v22, v23, v24, v25, v26, v27, v28, v29, v30, v31, v32, v33, v34, v35, v36, v37, v38, v39, .ref a7, .ref a8, v40, v41, v42, v43, v44, v45])), (a2, .inl (cT 2, 1, .inr (.inl f46))), (a3, .inr (2, [v47, v48, v49])), (a4, .inl (cT 3, 8, .inr (.inr (.inr (.inr f50))))), (a5, .inr (2, [.ref a6, .int 1, v53])), (a6, .inl (cT 2, 4096, .inr (.inl f54))), (a7, .inl (cT 5, 8, .inr (.inr (.inr (.inr f56))))), (a8, .inl (cT 1, 8, .inl f59)), (a9, .inl (cT 0, 4096, .inl f62)), (a10, .inl (cT 4, 1024, .inr (.inr (.inr (.inr f67)))))] H) (hD : va_D A [(a0, .inr (0, [v11, v12, v13, .ref a4, .ref b14, .ref a3, v15, v16])), (a1, .inr (5, [v17, .ref a10, v18, v19, v20, v21, v22, v23, v24, v25, v26, v27, v28, v29, v30, v31, v32, v33, v34, v35, v36, v37, v38, v39, .ref a7, .ref a8, v40, v41, v42, v43, v44, v45])), (a2, .inl (cT 2, 1, .inr (.inl f46))), (a3, .inr (2, [v47, v48, v49])), (a4, .inl (cT 3, 8, .inr (.inr (.inr (.inr f50))))), (a5, .inr (2, [.ref a6, .int 1, v53])), (a6, .inl (cT 2, 4096, .inr (.inl f54))), (a7, .inl (cT 5, 8, .inr (.inr (.inr (.inr f56))))), (a8, .inl (cT 1, 8, .inl f59)), (a9, .inl (cT 0, 4096, .inl f62)), (a10, .inl (cT 4, 1024, .inr (.inr (.inr (.inr f67)))))]) (hS : va_S A s.heap H locs) (hl : lv_has ls 8 [(4, .int 0), (3, .ref a2), (2, .ref a1), (1, .ref a0), (0, .ref b)]) : W p l e room_1 s m #[Value.ref b] below meth c H locs 54 107242 (lw_Z below #[Value.ref b] s) (F0 m 723 ls []) := by
  obtain ⟨hx, hb, hr, hml, hown, htx, hbl, hbA, hlocks, hK, hZ, hA, hA2⟩ := C
  refine lv_aload_n hx hb dL_law_723 rfl (lv_at hl 3 rfl) ?_
  refine lv_aload_n hx hb dL_law_724 rfl (lv_at hl 4 rfl) ?_
  refine lv_iload hx hb dL_law_725 (lv_at hl 0 rfl) ?_
  refine lv_iconst (v := 1) hx hb dL_law_727 (by decide) ?_
  refine lv_iadd hx hb dL_law_728 ?_
  refine W.eq (g2 := F0 m 729 ls [.int 1, .ref b, .ref a0]) rfl ?_
  refine va_sld hx hb hXs hbl hbA hS (i := 1) (show ¬ ((1 : Int32) < 0 ∨ 6 ≤ (1 : Int32).toNatClampNeg) by decide) dL_law_729 ?_
  refine W.eq (g2 := F0 m 730 ls [.int (xs 1), .ref a0]) rfl ?_
  refine lv_aload_n hx hb dL_law_730 rfl (lv_at hl 4 rfl) ?_
  refine lv_iload hx hb dL_law_731 (lv_at hl 0 rfl) ?_
  refine lv_iconst (v := 2) hx hb dL_law_733 (by decide) ?_
  refine lv_iadd hx hb dL_law_734 ?_
  refine W.eq (g2 := F0 m 735 ls [.int 2, .ref b, .int (xs 1), .ref a0]) rfl ?_
  refine va_sld hx hb hXs hbl hbA hS (i := 2) (show ¬ ((2 : Int32) < 0 ∨ 6 ≤ (2 : Int32).toNatClampNeg) by decide) dL_law_735 ?_
  refine W.eq (g2 := F0 m 736 ls [.int (xs 2), .int (xs 1), .ref a0]) rfl ?_
  rw [hf]
  refine W.eq (g2 := F0 m 736 ls [.int 2, .int (xs 1), .ref a0]) rfl ?_
  refine lv_aload_n hx hb dL_law_736 rfl (lv_at hl 4 rfl) ?_
  refine lv_iload hx hb dL_law_737 (lv_at hl 0 rfl) ?_
  refine lv_iconst (v := 3) hx hb dL_law_739 (by decide) ?_
  refine lv_iadd hx hb dL_law_740 ?_
  refine W.eq (g2 := F0 m 741 ls [.int 3, .ref b, .int 2, .int (xs 1), .ref a0]) rfl ?_
  refine va_sld hx hb hXs hbl hbA hS (i := 3) (show ¬ ((3 : Int32) < 0 ∨ 6 ≤ (3 : Int32).toNatClampNeg) by decide) dL_law_741 ?_
  refine W.eq (g2 := F0 m 742 ls [.int (xs 3), .int 2, .int (xs 1), .ref a0]) rfl ?_
  refine lv_aload_n hx hb dL_law_742 rfl (lv_at hl 4 rfl) ?_
  refine lv_iload hx hb dL_law_743 (lv_at hl 0 rfl) ?_
  refine lv_iconst (v := 4) hx hb dL_law_745 (by decide) ?_
  refine lv_iadd hx hb dL_law_746 ?_
  refine W.eq (g2 := F0 m 747 ls [.int 4, .ref b, .int (xs 3), .int 2, .int (xs 1), .ref a0]) rfl ?_
  refine va_sld hx hb hXs hbl hbA hS (i := 4) (show ¬ ((4 : Int32) < 0 ∨ 6 ≤ (4 : Int32).toNatClampNeg) by decide) dL_law_747 ?_
  refine W.eq (g2 := F0 m 748 ls [.int (xs 4), .int (xs 3), .int 2, .int (xs 1), .ref a0]) rfl ?_
  obtain ⟨hPc, hDc, hFc⟩ := xcut (wc := [(a0, .inr (0, [v11, v12, v13, .ref a4, .ref b14, .ref a3, v15, v16])), (a3, .inr (2, [v47, v48, v49])), (a4, .inl (cT 3, 8, .inr (.inr (.inr (.inr f50))))), (a5, .inr (2, [.ref a6, .int 1, v53])), (a6, .inl (cT 2, 4096, .inr (.inl f54)))]) hP hD hS hA [0, 3, 4, 5, 6] rfl rfl (by decide)
  refine va_calli (vx_runSW (As := [.ref a0, .int (xs 1), .int 2, .int (xs 3), .int (xs 4)]) (rest := []) ⟨hx, hb, hml, hown, htx⟩ (cL_sort_12 l hl9 D cT aK aV H.size a0 a3 a4 a5 a6 (xs 1) (xs 3) (xs 4) v11 v12 v13 b14 v15 v16 v47 v48 v49 f50 v53 f54 hto1 hto2 hto3 hto4 ha1 ha2 ha3 ha4 hb1 hb2 hb3 hb4 (by first | rfl | exact h51 | exact h52 | exact h55 | exact h57 | exact h58 | exact h60 | exact h61 | exact h63 | exact h64 | exact h65 | exact h66 | exact h68 | exact h69) (by first | rfl | exact h51 | exact h52 | exact h55 | exact h57 | exact h58 | exact h60 | exact h61 | exact h63 | exact h64 | exact h65 | exact h66 | exact h68 | exact h69) (by first | rfl | exact h51 | exact h52 | exact h55 | exact h57 | exact h58 | exact h60 | exact h61 | exact h63 | exact h64 | exact h65 | exact h66 | exact h68 | exact h69)) (xcSW 5 htx (xw_goodC kw_5_14) rfl rfl rfl (htx _ kw_1_0) (htx _ kw_5_12) ⟨by decide, by decide, by decide +kernel⟩ ⟨Nat.le_of_ble_eq_true rfl, Nat.le_of_ble_eq_true rfl⟩ (htx _ kw_5_13)) ⟨xPre_blind, (fun U hU hW => ⟨rfl, xPre_of hZ hS hFc hPc hDc hK U hU hW⟩)⟩ rfl rfl hl.1 rfl (lv_room (Nat.le_of_ble_eq_true rfl)) dL_law_748 ⟨Nat.le_of_ble_eq_true rfl, Nat.le_of_ble_eq_true rfl⟩) hS (fun q _ h => hFc q h) hFc (fun r1 u9 t H1 locs ht hvm hr9 hB hz1 hk1 hS => ?_)
  obtain ⟨hP1, hK1, hD1⟩ := hB
  rw [ht] at hP1
  obtain ⟨hP, hD⟩ := xjoin (W := [(a1, .inr (5, [v17, .ref a10, v18, v19, v20, v21, v22, v23, v24, v25, v26, v27, v28, v29, v30, v31, v32, v33, v34, v35, v36, v37, v38, v39, .ref a7, .ref a8, v40, v41, v42, v43, v44, v45])), (a2, .inl (cT 2, 1, .inr (.inl f46))), (a7, .inl (cT 5, 8, .inr (.inr (.inr (.inr f56))))), (a8, .inl (cT 1, 8, .inl f59)), (a9, .inl (cT 0, 4096, .inl f62)), (a10, .inl (cT 4, 1024, .inr (.inr (.inr (.inr f67))))), (a0, .inr (0, [v11, v12, v13, .ref a4, .ref b14, .ref a3, v15, .int 1])), (a3, .inr (2, [v47, .int 0, .int 0])), (a4, .inl (cT 3, 8, .inr (.inr (.inr (.inr f50))))), (a5, .inr (2, [.ref a6, .int 1, v53])), (a6, .inl (cT 2, 4096, .inr (.inl f54)))]) hP hD [0, 3, 4, 5, 6] [1, 2, 7, 8, 9, 10] 6 rfl rfl (by decide) (by decide) hk1 hFc hP1 hD1
  generalize H1 = H at hP hS ⊢
  rw [hr9]
  refine W.eq (g2 := F0 m 751 ls [.int 2]) rfl ?_
  refine lv_istore (lv' := [(5, .int 2), (4, .int 0), (3, .ref a2), (2, .ref a1), (1, .ref a0), (0, .ref b)]) hx hb dL_law_751 hl (by decide) rfl (fun ls hl => ?_)
  refine lv_aload_n hx hb dL_law_753 rfl (lv_at hl 3 rfl) ?_
  refine lv_aload_n hx hb dL_law_754 rfl (lv_at hl 5 rfl) ?_
  refine lv_iload hx hb dL_law_755 (lv_at hl 1 rfl) ?_
  refine lv_iconst (v := 1) hx hb dL_law_757 (by decide) ?_
  refine lv_iadd hx hb dL_law_758 ?_
  refine W.eq (g2 := F0 m 759 ls [.int 1, .ref b, .ref a1]) rfl ?_
  refine va_sld hx hb hXs hbl hbA hS (i := 1) (show ¬ ((1 : Int32) < 0 ∨ 6 ≤ (1 : Int32).toNatClampNeg) by decide) dL_law_759 ?_
  refine W.eq (g2 := F0 m 760 ls [.int (xs 1), .ref a1]) rfl ?_
  refine lv_aload_n hx hb dL_law_760 rfl (lv_at hl 5 rfl) ?_
  refine lv_iload hx hb dL_law_761 (lv_at hl 1 rfl) ?_
  refine lv_iconst (v := 2) hx hb dL_law_763 (by decide) ?_
  refine lv_iadd hx hb dL_law_764 ?_
  refine W.eq (g2 := F0 m 765 ls [.int 2, .ref b, .int (xs 1), .ref a1]) rfl ?_
  refine va_sld hx hb hXs hbl hbA hS (i := 2) (show ¬ ((2 : Int32) < 0 ∨ 6 ≤ (2 : Int32).toNatClampNeg) by decide) dL_law_765 ?_
  refine W.eq (g2 := F0 m 766 ls [.int (xs 2), .int (xs 1), .ref a1]) rfl ?_
  rw [hf]
  refine W.eq (g2 := F0 m 766 ls [.int 2, .int (xs 1), .ref a1]) rfl ?_
  refine lv_aload_n hx hb dL_law_766 rfl (lv_at hl 5 rfl) ?_
  refine lv_iload hx hb dL_law_767 (lv_at hl 1 rfl) ?_
  refine lv_iconst (v := 3) hx hb dL_law_769 (by decide) ?_
  refine lv_iadd hx hb dL_law_770 ?_
  refine W.eq (g2 := F0 m 771 ls [.int 3, .ref b, .int 2, .int (xs 1), .ref a1]) rfl ?_
  refine va_sld hx hb hXs hbl hbA hS (i := 3) (show ¬ ((3 : Int32) < 0 ∨ 6 ≤ (3 : Int32).toNatClampNeg) by decide) dL_law_771 ?_
  refine W.eq (g2 := F0 m 772 ls [.int (xs 3), .int 2, .int (xs 1), .ref a1]) rfl ?_
  refine lv_aload_n hx hb dL_law_772 rfl (lv_at hl 5 rfl) ?_
  refine lv_iload hx hb dL_law_773 (lv_at hl 1 rfl) ?_
  refine lv_iconst (v := 4) hx hb dL_law_775 (by decide) ?_
  refine lv_iadd hx hb dL_law_776 ?_
  refine W.eq (g2 := F0 m 777 ls [.int 4, .ref b, .int (xs 3), .int 2, .int (xs 1), .ref a1]) rfl ?_
  refine va_sld hx hb hXs hbl hbA hS (i := 4) (show ¬ ((4 : Int32) < 0 ∨ 6 ≤ (4 : Int32).toNatClampNeg) by decide) dL_law_777 ?_
  refine W.eq (g2 := F0 m 778 ls [.int (xs 4), .int (xs 3), .int 2, .int (xs 1), .ref a1]) rfl ?_
  obtain ⟨hPc, hDc, hFc⟩ := xcut (wc := [(a1, .inr (5, [v17, .ref a10, v18, v19, v20, v21, v22, v23, v24, v25, v26, v27, v28, v29, v30, v31, v32, v33, v34, v35, v36, v37, v38, v39, .ref a7, .ref a8, v40, v41, v42, v43, v44, v45])), (a7, .inl (cT 5, 8, .inr (.inr (.inr (.inr f56))))), (a8, .inl (cT 1, 8, .inl f59)), (a9, .inl (cT 0, 4096, .inl f62)), (a10, .inl (cT 4, 1024, .inr (.inr (.inr (.inr f67)))))]) hP hD hS hA [0, 2, 3, 4, 5] rfl rfl (by decide)
  refine va_callv (va_runV (C := "ValueBenchModel") (As := [.int (xs 1), .int 2, .int (xs 3), .int (xs 4)]) (rest := []) ⟨hx, hb, hml, hown, htx⟩ (cM_sort0_12 l hl9 D cT aK aV H.size a1 a7 a8 a9 a10 (xs 1) (xs 3) (xs 4) v17 v18 v19 v20 v21 v22 v23 v24 v25 v26 v27 v28 v29 v30 v31 v32 v33 v34 v35 v36 v37 v38 v39 v40 v41 v42 v43 v44 v45 f56 f59 f62 f67 hto1 hto2 hto3 hto4 ha1 ha2 ha3 ha4 hb1 hb2 hb3 hb4 (by first | rfl | exact h51 | exact h52 | exact h55 | exact h57 | exact h58 | exact h60 | exact h61 | exact h63 | exact h64 | exact h65 | exact h66 | exact h68 | exact h69) (by first | rfl | exact h51 | exact h52 | exact h55 | exact h57 | exact h58 | exact h60 | exact h61 | exact h63 | exact h64 | exact h65 | exact h66 | exact h68 | exact h69) (by first | rfl | exact h51 | exact h52 | exact h55 | exact h57 | exact h58 | exact h60 | exact h61 | exact h63 | exact h64 | exact h65 | exact h66 | exact h68 | exact h69) (by first | rfl | exact h51 | exact h52 | exact h55 | exact h57 | exact h58 | exact h60 | exact h61 | exact h63 | exact h64 | exact h65 | exact h66 | exact h68 | exact h69) (by first | rfl | exact h51 | exact h52 | exact h55 | exact h57 | exact h58 | exact h60 | exact h61 | exact h63 | exact h64 | exact h65 | exact h66 | exact h68 | exact h69) (by first | rfl | exact h51 | exact h52 | exact h55 | exact h57 | exact h58 | exact h60 | exact h61 | exact h63 | exact h64 | exact h65 | exact h66 | exact h68 | exact h69) (by first | rfl | exact h51 | exact h52 | exact h55 | exact h57 | exact h58 | exact h60 | exact h61 | exact h63 | exact h64 | exact h65 | exact h66 | exact h68 | exact h69) (by first | rfl | exact h51 | exact h52 | exact h55 | exact h57 | exact h58 | exact h60 | exact h61 | exact h63 | exact h64 | exact h65 | exact h66 | exact h68 | exact h69) (by first | rfl | exact h51 | exact h52 | exact h55 | exact h57 | exact h58 | exact h60 | exact h61 | exact h63 | exact h64 | exact h65 | exact h66 | exact h68 | exact h69) (by first | rfl | exact h51 | exact h52 | exact h55 | exact h57 | exact h58 | exact h60 | exact h61 | exact h63 | exact h64 | exact h65 | exact h66 | exact h68 | exact h69)) ⟨callB_of 4 htx (xw_goodC kw_7_131) rfl rfl rfl (htx _ kw_1_5) (htx _ kw_7_128) ⟨by decide, by decide, by decide +kernel⟩ ⟨Nat.le_of_ble_eq_true rfl, Nat.le_of_ble_eq_true rfl⟩, (htx _ kw_7_129), (htx _ kw_7_130)⟩ ⟨xPre_blind, va_recv hK hP (ci := 5) rfl (q0 := 0) rfl, (fun U hU hW => ⟨rfl, xPre_of hZ hS hFc hPc hDc hK U hU hW⟩)⟩ rfl rfl hl.1 rfl (lv_room (Nat.le_of_ble_eq_true rfl)) dL_law_778 ⟨Nat.le_of_ble_eq_true rfl, Nat.le_of_ble_eq_true rfl⟩) hS (fun q _ h => hFc q h) hFc (fun u9 t H1 locs ht hvm hr9 hB hz1 hk1 hS => ?_)
  obtain ⟨q2, q3, hP1, hK1, hD1⟩ := hB
  rw [ht] at hP1
  obtain ⟨hP, hD⟩ := xjoin (W := [(a2, .inl (cT 2, 1, .inr (.inl f46))), (a0, .inr (0, [v11, v12, v13, .ref a4, .ref b14, .ref a3, v15, .int 1])), (a3, .inr (2, [v47, .int 0, .int 0])), (a4, .inl (cT 3, 8, .inr (.inr (.inr (.inr f50))))), (a5, .inr (2, [.ref a6, .int 1, v53])), (a6, .inl (cT 2, 4096, .inr (.inl f54))), (a1, .inr (5, [.int 2, .ref a10, .int 2, v19, .int 0, v21, v22, .int 0, .int 1, .int 0, v26, v27, .int 0, v29, v30, .ref a9, .int 4, .int 4, .int 0, .int 100, v36, v37, .int 0, .int 1000000000, .ref a7, .ref a8, v40, v41, v42, v43, .int 1, v45])), (a7, .inl (cT 5, 8, .inr (.inr (.inr (.inr f56))))), (a8, .inl (cT 1, 8, .inl f59)), (a9, .inl (cT 0, 4096, .inl f62)), (a10, .inl (cT 4, 1024, .inr (.inr (.inr (.inr (va_up (va_up f67 0 (some q2)) 1 (some q3))))))), (q2, .inr (6, [.int 0, .long 0, .int 0, .int 0, .int 0, .int 1])), (q3, .inr (6, [.int 0, .long 0, .int 0, .int 0, .int 0, .int 1]))]) hP hD [0, 2, 3, 4, 5] [1, 6, 7, 8, 9, 10] 6 rfl rfl (by decide) (by decide) hk1 hFc hP1 hD1
  generalize H1 = H at hP hS ⊢
  refine lv_aload_n hx hb dL_law_781 rfl (lv_at hl 3 rfl) ?_
  obtain ⟨hPc, hDc, hFc⟩ := xcut (wc := [(a1, .inr (5, [.int 2, .ref a10, .int 2, v19, .int 0, v21, v22, .int 0, .int 1, .int 0, v26, v27, .int 0, v29, v30, .ref a9, .int 4, .int 4, .int 0, .int 100, v36, v37, .int 0, .int 1000000000, .ref a7, .ref a8, v40, v41, v42, v43, .int 1, v45]))]) hP hD hS hA [6] rfl rfl (by decide)
  refine va_calli (va_runV (C := "ValueBenchModel") (As := []) (rest := []) ⟨hx, hb, hml, hown, htx⟩ (cM_thrown_2 l hl9 D cT aK aV H.size a1 (.ref a10) (.int 2) v19 (.int 0) v21 v22 (.int 0) (.int 1) (.int 0) v26 v27 (.int 0) v29 v30 (.ref a9) (.int 4) (.int 4) (.int 0) (.int 100) v36 v37 (.int 0) (.int 1000000000) (.ref a7) (.ref a8) v40 v41 v42 v43 (.int 1) v45) ⟨callB_of 0 htx (xw_goodC kw_5_187) rfl rfl rfl (htx _ kw_1_5) (htx _ kw_5_184) ⟨by decide, by decide, by decide +kernel⟩ ⟨Nat.le_of_ble_eq_true rfl, Nat.le_of_ble_eq_true rfl⟩, (htx _ kw_5_185), (htx _ kw_5_186)⟩ ⟨xPre_blind, va_recv hK hP (ci := 5) rfl (q0 := 6) rfl, (fun U hU hW => ⟨rfl, xPre_of hZ hS hFc hPc hDc hK U hU hW⟩)⟩ rfl rfl hl.1 rfl (lv_room (Nat.le_of_ble_eq_true rfl)) dL_law_782 ⟨Nat.le_of_ble_eq_true rfl, Nat.le_of_ble_eq_true rfl⟩) hS (fun q _ h => hFc q h) hFc (fun r4 u9 t H1 locs ht hvm hr9 hB hz1 hk1 hS => ?_)
  obtain ⟨hP1, hK1, hD1⟩ := hB
  rw [ht] at hP1
  obtain ⟨hP, hD⟩ := xjoin (W := [(a2, .inl (cT 2, 1, .inr (.inl f46))), (a0, .inr (0, [v11, v12, v13, .ref a4, .ref b14, .ref a3, v15, .int 1])), (a3, .inr (2, [v47, .int 0, .int 0])), (a4, .inl (cT 3, 8, .inr (.inr (.inr (.inr f50))))), (a5, .inr (2, [.ref a6, .int 1, v53])), (a6, .inl (cT 2, 4096, .inr (.inl f54))), (a7, .inl (cT 5, 8, .inr (.inr (.inr (.inr f56))))), (a8, .inl (cT 1, 8, .inl f59)), (a9, .inl (cT 0, 4096, .inl f62)), (a10, .inl (cT 4, 1024, .inr (.inr (.inr (.inr (va_up (va_up f67 0 (some q2)) 1 (some q3))))))), (q2, .inr (6, [.int 0, .long 0, .int 0, .int 0, .int 0, .int 1])), (q3, .inr (6, [.int 0, .long 0, .int 0, .int 0, .int 0, .int 1])), (a1, .inr (5, [.int 2, .ref a10, .int 2, v19, .int 0, v21, v22, .int 0, .int 1, .int 0, v26, v27, .int 0, v29, v30, .ref a9, .int 4, .int 4, .int 0, .int 100, v36, v37, .int 0, .int 1000000000, .ref a7, .ref a8, v40, v41, v42, v43, .int 1, v45]))]) hP hD [6] [0, 1, 2, 3, 4, 5, 7, 8, 9, 10, 11, 12] 12 rfl rfl (by decide) (by decide) hk1 hFc hP1 hD1
  generalize H1 = H at hP hS ⊢
  rw [hr9]
  refine W.eq (g2 := F0 m 785 ls [.int 2]) rfl ?_
  refine lv_iload hx hb dL_law_785 (lv_at hl 0 rfl) ?_
  refine lv_icmp_eq (tgt := 792) hx hb dL_law_787 (by decide) (fun _ => ?_) (fun h => ((by revert h; decide : False)).elim)
  refine lv_goto (tgt := 906) hx hb dL_law_792 (by decide) ?_
  refine lv_iinc (v := 6) (lv' := [(4, .int 6), (5, .int 2), (3, .ref a2), (2, .ref a1), (1, .ref a0), (0, .ref b)]) hx hb dL_law_906 hl (k := 1) rfl (by decide) (by decide) rfl (fun ls hl => ?_)
  refine lv_goto (tgt := 23) hx hb dL_law_909 (by decide) ?_
  refine lv_iload hx hb dL_law_23 (lv_at hl 0 rfl) ?_
  refine lv_aload_n hx hb dL_law_25 rfl (lv_at hl 5 rfl) ?_
  refine va_slen hx hb hXs hbl hbA hS dL_law_26 ?_
  refine W.eq (g2 := F0 m 27 ls [.int 6, .int 6]) rfl ?_
  refine lv_bipush (v := 6) hx hb dL_law_27 (by decide) ?_
  refine lv_isub hx hb dL_law_29 ?_
  refine W.eq (g2 := F0 m 30 ls [.int 0, .int 6]) rfl ?_
  refine lv_icmp_gt (tgt := 912) hx hb dL_law_30 (by decide) (fun _ => ?_) (fun h => ((by revert h; decide : False)).elim)
  refine lv_iconst (v := 1) hx hb dL_law_912 (by decide) ?_
  exact va_forget (fun q h => hA2 _ (hS.2.2 q h)) (W.widen (k := 600002) (n := 7302232) (Nat.le_of_ble_eq_true rfl) (Nat.le_of_ble_eq_true rfl) (lw_ret hx hb hr hlocks dL_law_913))
set_option maxHeartbeats 400000000 in
set_option maxRecDepth 100000 in
theorem lf_sort2_p2 {p : Program} {e : Env} {s : State} {m : MethodId} {below : List Frame} {meth : Method} {c : Code} (l : Launch) (hl9 : l.stackTraces = false) (D : va_G) (cT : Nat → ClassId) (aK aV : Nat → Nat) {A : Nat → Prop} {b : Nat} {xs : Nat → Int32} (C : xLw p s m meth c b D cT aK aV A) {H : Heap} {locs : List Loc} {ls : Array Slot} (a0 : Nat) (a1 : Nat) (a2 : Nat) (a3 : Nat) (a4 : Nat) (a5 : Nat) (a6 : Nat) (a7 : Nat) (a8 : Nat) (a9 : Nat) (a10 : Nat) (a11 : Nat) (v12 : Value) (v13 : Value) (v14 : Value) (b15 : Nat) (v16 : Value) (v17 : Value) (v18 : Value) (v19 : Value) (v20 : Value) (v21 : Value) (v22 : Value) (v23 : Value) (v24 : Value) (v25 : Value) (v26 : Value) (v27 : Value) (v28 : Value) (v29 : Value) (v30 : Value) (v31 : Value) (v32 : Value) (v33 : Value) (v34 : Value) (v35 : Value) (v36 : Value) (v37 : Value) (v38 : Value) (v39 : Value) (v40 : Value) (v41 : Value) (v42 : Value) (v43 : Value) (v44 : Value) (v45 : Value) (v46 : Value) (f47 : Nat → Int64) (v48 : Value) (v49 : Value) (v50 : Value) (f51 : Nat → Option Nat) (b53 : Nat) (v55 : Value) (f56 : Nat → Int64) (f58 : Nat → Option Nat) (f61 : Nat → Int32) (f64 : Nat → Int32) (f69 : Nat → Option Nat) (f72 : Nat → Int32) (h52 : f51 (xs 3).toNatClampNeg = some a5) (h54 : f51 (xs 4).toNatClampNeg = some b53) (h57 : f56 0 = 0) (h59 : f58 (xs 3).toNatClampNeg = some a9) (h60 : f58 (xs 4).toNatClampNeg = some a11) (h62 : f61 (xs 3).toNatClampNeg = 4) (h63 : f61 (xs 4).toNatClampNeg = 4) (h65 : f64 0 = 110) (h66 : f64 1 = 117) (h67 : f64 2 = 108) (h68 : f64 3 = 108) (h70 : f69 0 = none) (h71 : f69 1 = none) (h73 : f72 0 = 110) (h74 : f72 1 = 117) (h75 : f72 2 = 108) (h76 : f72 3 = 108) (hto1 : ¬ (xs 1) < 0) (hto2 : ¬ 7 < (xs 1)) (hto3 : (xs 1) ≤ 7) (hto4 : vp_in (xs 1) 8) (hf : xs 2 = 2) (ha1 : ¬ (xs 3) < 0) (ha2 : ¬ 7 < (xs 3)) (ha3 : (xs 3) ≤ 7) (ha4 : vp_in (xs 3) 8) (hb1 : ¬ (xs 4) < 0) (hb2 : ¬ 7 < (xs 4)) (hb3 : (xs 4) ≤ 7) (hb4 : vp_in (xs 4) 8) (hXs : va_X b 6 xs s s.heap) (hP : va_P D xcl [(a0, .inr (0, [v12, v13, v14, .ref a4, .ref b15, .ref a3, v16, v17])), (a1, .inr (5, [v18, .ref a10, v19, v20, v21, v22, v23, v24, v25, v26, v27, v28, v29, v30, v31, v32, v33, v34, v35, v36, v37, v38, v39, v40, .ref a7, .ref a8, v41, v42, v43, v44, v45, v46])), (a2, .inl (cT 2, 1, .inr (.inl f47))), (a3, .inr (2, [v48, v49, v50])), (a4, .inl (cT 3, 8, .inr (.inr (.inr (.inr f51))))), (a5, .inr (2, [.ref a6, .int 1, v55])), (a6, .inl (cT 2, 4096, .inr (.inl f56))), (a7, .inl (cT 5, 8, .inr (.inr (.inr (.inr f58))))), (a8, .inl (cT 1, 8, .inl f61)), (a9, .inl (cT 0, 4096, .inl f64)), (a10, .inl (cT 4, 1024, .inr (.inr (.inr (.inr f69))))), (a11, .inl (cT 0, 4096, .inl f72))] H) (hD : va_D A [(a0, .inr (0, [v12, v13, v14, .ref a4, .ref b15, .ref a3, v16, v17])), (a1, .inr (5, [v18, .ref a10, v19, v20, v21, v22, v23, v24, v25, v26, v27, v28, v29, v30, v31, v32, v33, v34, v35, v36, v37, v38, v39, v40, .ref a7, .ref a8, v41, v42, v43, v44, v45, v46])), (a2, .inl (cT 2, 1, .inr (.inl f47))), (a3, .inr (2, [v48, v49, v50])), (a4, .inl (cT 3, 8, .inr (.inr (.inr (.inr f51))))), (a5, .inr (2, [.ref a6, .int 1, v55])), (a6, .inl (cT 2, 4096, .inr (.inl f56))), (a7, .inl (cT 5, 8, .inr (.inr (.inr (.inr f58))))), (a8, .inl (cT 1, 8, .inl f61)), (a9, .inl (cT 0, 4096, .inl f64)), (a10, .inl (cT 4, 1024, .inr (.inr (.inr (.inr f69))))), (a11, .inl (cT 0, 4096, .inl f72))]) (hS : va_S A s.heap H locs) (hl : lv_has ls 8 [(4, .int 0), (3, .ref a2), (2, .ref a1), (1, .ref a0), (0, .ref b)]) : W p l e room_1 s m #[Value.ref b] below meth c H locs 54 107242 (lw_Z below #[Value.ref b] s) (F0 m 723 ls []) := by
  obtain ⟨hx, hb, hr, hml, hown, htx, hbl, hbA, hlocks, hK, hZ, hA, hA2⟩ := C
  refine lv_aload_n hx hb dL_law_723 rfl (lv_at hl 3 rfl) ?_
  refine lv_aload_n hx hb dL_law_724 rfl (lv_at hl 4 rfl) ?_
  refine lv_iload hx hb dL_law_725 (lv_at hl 0 rfl) ?_
  refine lv_iconst (v := 1) hx hb dL_law_727 (by decide) ?_
  refine lv_iadd hx hb dL_law_728 ?_
  refine W.eq (g2 := F0 m 729 ls [.int 1, .ref b, .ref a0]) rfl ?_
  refine va_sld hx hb hXs hbl hbA hS (i := 1) (show ¬ ((1 : Int32) < 0 ∨ 6 ≤ (1 : Int32).toNatClampNeg) by decide) dL_law_729 ?_
  refine W.eq (g2 := F0 m 730 ls [.int (xs 1), .ref a0]) rfl ?_
  refine lv_aload_n hx hb dL_law_730 rfl (lv_at hl 4 rfl) ?_
  refine lv_iload hx hb dL_law_731 (lv_at hl 0 rfl) ?_
  refine lv_iconst (v := 2) hx hb dL_law_733 (by decide) ?_
  refine lv_iadd hx hb dL_law_734 ?_
  refine W.eq (g2 := F0 m 735 ls [.int 2, .ref b, .int (xs 1), .ref a0]) rfl ?_
  refine va_sld hx hb hXs hbl hbA hS (i := 2) (show ¬ ((2 : Int32) < 0 ∨ 6 ≤ (2 : Int32).toNatClampNeg) by decide) dL_law_735 ?_
  refine W.eq (g2 := F0 m 736 ls [.int (xs 2), .int (xs 1), .ref a0]) rfl ?_
  rw [hf]
  refine W.eq (g2 := F0 m 736 ls [.int 2, .int (xs 1), .ref a0]) rfl ?_
  refine lv_aload_n hx hb dL_law_736 rfl (lv_at hl 4 rfl) ?_
  refine lv_iload hx hb dL_law_737 (lv_at hl 0 rfl) ?_
  refine lv_iconst (v := 3) hx hb dL_law_739 (by decide) ?_
  refine lv_iadd hx hb dL_law_740 ?_
  refine W.eq (g2 := F0 m 741 ls [.int 3, .ref b, .int 2, .int (xs 1), .ref a0]) rfl ?_
  refine va_sld hx hb hXs hbl hbA hS (i := 3) (show ¬ ((3 : Int32) < 0 ∨ 6 ≤ (3 : Int32).toNatClampNeg) by decide) dL_law_741 ?_
  refine W.eq (g2 := F0 m 742 ls [.int (xs 3), .int 2, .int (xs 1), .ref a0]) rfl ?_
  refine lv_aload_n hx hb dL_law_742 rfl (lv_at hl 4 rfl) ?_
  refine lv_iload hx hb dL_law_743 (lv_at hl 0 rfl) ?_
  refine lv_iconst (v := 4) hx hb dL_law_745 (by decide) ?_
  refine lv_iadd hx hb dL_law_746 ?_
  refine W.eq (g2 := F0 m 747 ls [.int 4, .ref b, .int (xs 3), .int 2, .int (xs 1), .ref a0]) rfl ?_
  refine va_sld hx hb hXs hbl hbA hS (i := 4) (show ¬ ((4 : Int32) < 0 ∨ 6 ≤ (4 : Int32).toNatClampNeg) by decide) dL_law_747 ?_
  refine W.eq (g2 := F0 m 748 ls [.int (xs 4), .int (xs 3), .int 2, .int (xs 1), .ref a0]) rfl ?_
  obtain ⟨hPc, hDc, hFc⟩ := xcut (wc := [(a0, .inr (0, [v12, v13, v14, .ref a4, .ref b15, .ref a3, v16, v17])), (a3, .inr (2, [v48, v49, v50])), (a4, .inl (cT 3, 8, .inr (.inr (.inr (.inr f51))))), (a5, .inr (2, [.ref a6, .int 1, v55])), (a6, .inl (cT 2, 4096, .inr (.inl f56)))]) hP hD hS hA [0, 3, 4, 5, 6] rfl rfl (by decide)
  refine va_calli (vx_runSW (As := [.ref a0, .int (xs 1), .int 2, .int (xs 3), .int (xs 4)]) (rest := []) ⟨hx, hb, hml, hown, htx⟩ (cL_sort_13 l hl9 D cT aK aV H.size a0 a3 a4 a5 a6 (xs 1) (xs 3) (xs 4) v12 v13 v14 b15 v16 v17 v48 v49 v50 f51 b53 v55 f56 hto1 hto2 hto3 hto4 ha1 ha2 ha3 ha4 hb1 hb2 hb3 hb4 (by first | rfl | exact h52 | exact h54 | exact h57 | exact h59 | exact h60 | exact h62 | exact h63 | exact h65 | exact h66 | exact h67 | exact h68 | exact h70 | exact h71 | exact h73 | exact h74 | exact h75 | exact h76) (by first | rfl | exact h52 | exact h54 | exact h57 | exact h59 | exact h60 | exact h62 | exact h63 | exact h65 | exact h66 | exact h67 | exact h68 | exact h70 | exact h71 | exact h73 | exact h74 | exact h75 | exact h76) (by first | rfl | exact h52 | exact h54 | exact h57 | exact h59 | exact h60 | exact h62 | exact h63 | exact h65 | exact h66 | exact h67 | exact h68 | exact h70 | exact h71 | exact h73 | exact h74 | exact h75 | exact h76)) (xcSW 5 htx (xw_goodC kw_5_14) rfl rfl rfl (htx _ kw_1_0) (htx _ kw_5_12) ⟨by decide, by decide, by decide +kernel⟩ ⟨Nat.le_of_ble_eq_true rfl, Nat.le_of_ble_eq_true rfl⟩ (htx _ kw_5_13)) ⟨xPre_blind, (fun U hU hW => ⟨rfl, xPre_of hZ hS hFc hPc hDc hK U hU hW⟩)⟩ rfl rfl hl.1 rfl (lv_room (Nat.le_of_ble_eq_true rfl)) dL_law_748 ⟨Nat.le_of_ble_eq_true rfl, Nat.le_of_ble_eq_true rfl⟩) hS (fun q _ h => hFc q h) hFc (fun r1 u9 t H1 locs ht hvm hr9 hB hz1 hk1 hS => ?_)
  obtain ⟨hP1, hK1, hD1⟩ := hB
  rw [ht] at hP1
  obtain ⟨hP, hD⟩ := xjoin (W := [(a1, .inr (5, [v18, .ref a10, v19, v20, v21, v22, v23, v24, v25, v26, v27, v28, v29, v30, v31, v32, v33, v34, v35, v36, v37, v38, v39, v40, .ref a7, .ref a8, v41, v42, v43, v44, v45, v46])), (a2, .inl (cT 2, 1, .inr (.inl f47))), (a7, .inl (cT 5, 8, .inr (.inr (.inr (.inr f58))))), (a8, .inl (cT 1, 8, .inl f61)), (a9, .inl (cT 0, 4096, .inl f64)), (a10, .inl (cT 4, 1024, .inr (.inr (.inr (.inr f69))))), (a11, .inl (cT 0, 4096, .inl f72)), (a0, .inr (0, [v12, v13, v14, .ref a4, .ref b15, .ref a3, v16, .int 1])), (a3, .inr (2, [v48, .int 0, .int 0])), (a4, .inl (cT 3, 8, .inr (.inr (.inr (.inr f51))))), (a5, .inr (2, [.ref a6, .int 1, v55])), (a6, .inl (cT 2, 4096, .inr (.inl f56)))]) hP hD [0, 3, 4, 5, 6] [1, 2, 7, 8, 9, 10, 11] 7 rfl rfl (by decide) (by decide) hk1 hFc hP1 hD1
  generalize H1 = H at hP hS ⊢
  rw [hr9]
  refine W.eq (g2 := F0 m 751 ls [.int 2]) rfl ?_
  refine lv_istore (lv' := [(5, .int 2), (4, .int 0), (3, .ref a2), (2, .ref a1), (1, .ref a0), (0, .ref b)]) hx hb dL_law_751 hl (by decide) rfl (fun ls hl => ?_)
  refine lv_aload_n hx hb dL_law_753 rfl (lv_at hl 3 rfl) ?_
  refine lv_aload_n hx hb dL_law_754 rfl (lv_at hl 5 rfl) ?_
  refine lv_iload hx hb dL_law_755 (lv_at hl 1 rfl) ?_
  refine lv_iconst (v := 1) hx hb dL_law_757 (by decide) ?_
  refine lv_iadd hx hb dL_law_758 ?_
  refine W.eq (g2 := F0 m 759 ls [.int 1, .ref b, .ref a1]) rfl ?_
  refine va_sld hx hb hXs hbl hbA hS (i := 1) (show ¬ ((1 : Int32) < 0 ∨ 6 ≤ (1 : Int32).toNatClampNeg) by decide) dL_law_759 ?_
  refine W.eq (g2 := F0 m 760 ls [.int (xs 1), .ref a1]) rfl ?_
  refine lv_aload_n hx hb dL_law_760 rfl (lv_at hl 5 rfl) ?_
  refine lv_iload hx hb dL_law_761 (lv_at hl 1 rfl) ?_
  refine lv_iconst (v := 2) hx hb dL_law_763 (by decide) ?_
  refine lv_iadd hx hb dL_law_764 ?_
  refine W.eq (g2 := F0 m 765 ls [.int 2, .ref b, .int (xs 1), .ref a1]) rfl ?_
  refine va_sld hx hb hXs hbl hbA hS (i := 2) (show ¬ ((2 : Int32) < 0 ∨ 6 ≤ (2 : Int32).toNatClampNeg) by decide) dL_law_765 ?_
  refine W.eq (g2 := F0 m 766 ls [.int (xs 2), .int (xs 1), .ref a1]) rfl ?_
  rw [hf]
  refine W.eq (g2 := F0 m 766 ls [.int 2, .int (xs 1), .ref a1]) rfl ?_
  refine lv_aload_n hx hb dL_law_766 rfl (lv_at hl 5 rfl) ?_
  refine lv_iload hx hb dL_law_767 (lv_at hl 1 rfl) ?_
  refine lv_iconst (v := 3) hx hb dL_law_769 (by decide) ?_
  refine lv_iadd hx hb dL_law_770 ?_
  refine W.eq (g2 := F0 m 771 ls [.int 3, .ref b, .int 2, .int (xs 1), .ref a1]) rfl ?_
  refine va_sld hx hb hXs hbl hbA hS (i := 3) (show ¬ ((3 : Int32) < 0 ∨ 6 ≤ (3 : Int32).toNatClampNeg) by decide) dL_law_771 ?_
  refine W.eq (g2 := F0 m 772 ls [.int (xs 3), .int 2, .int (xs 1), .ref a1]) rfl ?_
  refine lv_aload_n hx hb dL_law_772 rfl (lv_at hl 5 rfl) ?_
  refine lv_iload hx hb dL_law_773 (lv_at hl 1 rfl) ?_
  refine lv_iconst (v := 4) hx hb dL_law_775 (by decide) ?_
  refine lv_iadd hx hb dL_law_776 ?_
  refine W.eq (g2 := F0 m 777 ls [.int 4, .ref b, .int (xs 3), .int 2, .int (xs 1), .ref a1]) rfl ?_
  refine va_sld hx hb hXs hbl hbA hS (i := 4) (show ¬ ((4 : Int32) < 0 ∨ 6 ≤ (4 : Int32).toNatClampNeg) by decide) dL_law_777 ?_
  refine W.eq (g2 := F0 m 778 ls [.int (xs 4), .int (xs 3), .int 2, .int (xs 1), .ref a1]) rfl ?_
  obtain ⟨hPc, hDc, hFc⟩ := xcut (wc := [(a1, .inr (5, [v18, .ref a10, v19, v20, v21, v22, v23, v24, v25, v26, v27, v28, v29, v30, v31, v32, v33, v34, v35, v36, v37, v38, v39, v40, .ref a7, .ref a8, v41, v42, v43, v44, v45, v46])), (a7, .inl (cT 5, 8, .inr (.inr (.inr (.inr f58))))), (a8, .inl (cT 1, 8, .inl f61)), (a9, .inl (cT 0, 4096, .inl f64)), (a10, .inl (cT 4, 1024, .inr (.inr (.inr (.inr f69))))), (a11, .inl (cT 0, 4096, .inl f72))]) hP hD hS hA [0, 2, 3, 4, 5, 6] rfl rfl (by decide)
  refine va_callv (va_runV (C := "ValueBenchModel") (As := [.int (xs 1), .int 2, .int (xs 3), .int (xs 4)]) (rest := []) ⟨hx, hb, hml, hown, htx⟩ (cM_sort0_13 l hl9 D cT aK aV H.size a1 a7 a8 a9 a10 a11 (xs 1) (xs 3) (xs 4) v18 v19 v20 v21 v22 v23 v24 v25 v26 v27 v28 v29 v30 v31 v32 v33 v34 v35 v36 v37 v38 v39 v40 v41 v42 v43 v44 v45 v46 f58 f61 f64 f69 f72 hto1 hto2 hto3 hto4 ha1 ha2 ha3 ha4 hb1 hb2 hb3 hb4 (by first | rfl | exact h52 | exact h54 | exact h57 | exact h59 | exact h60 | exact h62 | exact h63 | exact h65 | exact h66 | exact h67 | exact h68 | exact h70 | exact h71 | exact h73 | exact h74 | exact h75 | exact h76) (by first | rfl | exact h52 | exact h54 | exact h57 | exact h59 | exact h60 | exact h62 | exact h63 | exact h65 | exact h66 | exact h67 | exact h68 | exact h70 | exact h71 | exact h73 | exact h74 | exact h75 | exact h76) (by first | rfl | exact h52 | exact h54 | exact h57 | exact h59 | exact h60 | exact h62 | exact h63 | exact h65 | exact h66 | exact h67 | exact h68 | exact h70 | exact h71 | exact h73 | exact h74 | exact h75 | exact h76) (by first | rfl | exact h52 | exact h54 | exact h57 | exact h59 | exact h60 | exact h62 | exact h63 | exact h65 | exact h66 | exact h67 | exact h68 | exact h70 | exact h71 | exact h73 | exact h74 | exact h75 | exact h76) (by first | rfl | exact h52 | exact h54 | exact h57 | exact h59 | exact h60 | exact h62 | exact h63 | exact h65 | exact h66 | exact h67 | exact h68 | exact h70 | exact h71 | exact h73 | exact h74 | exact h75 | exact h76) (by first | rfl | exact h52 | exact h54 | exact h57 | exact h59 | exact h60 | exact h62 | exact h63 | exact h65 | exact h66 | exact h67 | exact h68 | exact h70 | exact h71 | exact h73 | exact h74 | exact h75 | exact h76) (by first | rfl | exact h52 | exact h54 | exact h57 | exact h59 | exact h60 | exact h62 | exact h63 | exact h65 | exact h66 | exact h67 | exact h68 | exact h70 | exact h71 | exact h73 | exact h74 | exact h75 | exact h76) (by first | rfl | exact h52 | exact h54 | exact h57 | exact h59 | exact h60 | exact h62 | exact h63 | exact h65 | exact h66 | exact h67 | exact h68 | exact h70 | exact h71 | exact h73 | exact h74 | exact h75 | exact h76) (by first | rfl | exact h52 | exact h54 | exact h57 | exact h59 | exact h60 | exact h62 | exact h63 | exact h65 | exact h66 | exact h67 | exact h68 | exact h70 | exact h71 | exact h73 | exact h74 | exact h75 | exact h76) (by first | rfl | exact h52 | exact h54 | exact h57 | exact h59 | exact h60 | exact h62 | exact h63 | exact h65 | exact h66 | exact h67 | exact h68 | exact h70 | exact h71 | exact h73 | exact h74 | exact h75 | exact h76) (by first | rfl | exact h52 | exact h54 | exact h57 | exact h59 | exact h60 | exact h62 | exact h63 | exact h65 | exact h66 | exact h67 | exact h68 | exact h70 | exact h71 | exact h73 | exact h74 | exact h75 | exact h76) (by first | rfl | exact h52 | exact h54 | exact h57 | exact h59 | exact h60 | exact h62 | exact h63 | exact h65 | exact h66 | exact h67 | exact h68 | exact h70 | exact h71 | exact h73 | exact h74 | exact h75 | exact h76) (by first | rfl | exact h52 | exact h54 | exact h57 | exact h59 | exact h60 | exact h62 | exact h63 | exact h65 | exact h66 | exact h67 | exact h68 | exact h70 | exact h71 | exact h73 | exact h74 | exact h75 | exact h76) (by first | rfl | exact h52 | exact h54 | exact h57 | exact h59 | exact h60 | exact h62 | exact h63 | exact h65 | exact h66 | exact h67 | exact h68 | exact h70 | exact h71 | exact h73 | exact h74 | exact h75 | exact h76)) ⟨callB_of 4 htx (xw_goodC kw_7_131) rfl rfl rfl (htx _ kw_1_5) (htx _ kw_7_128) ⟨by decide, by decide, by decide +kernel⟩ ⟨Nat.le_of_ble_eq_true rfl, Nat.le_of_ble_eq_true rfl⟩, (htx _ kw_7_129), (htx _ kw_7_130)⟩ ⟨xPre_blind, va_recv hK hP (ci := 5) rfl (q0 := 0) rfl, (fun U hU hW => ⟨rfl, xPre_of hZ hS hFc hPc hDc hK U hU hW⟩)⟩ rfl rfl hl.1 rfl (lv_room (Nat.le_of_ble_eq_true rfl)) dL_law_778 ⟨Nat.le_of_ble_eq_true rfl, Nat.le_of_ble_eq_true rfl⟩) hS (fun q _ h => hFc q h) hFc (fun u9 t H1 locs ht hvm hr9 hB hz1 hk1 hS => ?_)
  obtain ⟨q2, q3, hP1, hK1, hD1⟩ := hB
  rw [ht] at hP1
  obtain ⟨hP, hD⟩ := xjoin (W := [(a2, .inl (cT 2, 1, .inr (.inl f47))), (a0, .inr (0, [v12, v13, v14, .ref a4, .ref b15, .ref a3, v16, .int 1])), (a3, .inr (2, [v48, .int 0, .int 0])), (a4, .inl (cT 3, 8, .inr (.inr (.inr (.inr f51))))), (a5, .inr (2, [.ref a6, .int 1, v55])), (a6, .inl (cT 2, 4096, .inr (.inl f56))), (a1, .inr (5, [.int 2, .ref a10, .int 2, v20, .int 0, v22, v23, .int 0, .int 1, .int 0, v27, v28, .int 0, v30, v31, .ref a11, .int 4, .int 4, .int 0, .int 100, v37, v38, .int 0, .int 1000000000, .ref a7, .ref a8, v41, v42, v43, v44, .int 1, v46])), (a7, .inl (cT 5, 8, .inr (.inr (.inr (.inr f58))))), (a8, .inl (cT 1, 8, .inl f61)), (a9, .inl (cT 0, 4096, .inl f64)), (a10, .inl (cT 4, 1024, .inr (.inr (.inr (.inr (va_up (va_up f69 0 (some q2)) 1 (some q3))))))), (a11, .inl (cT 0, 4096, .inl f72)), (q2, .inr (6, [.int 0, .long 0, .int 0, .int 0, .int 0, .int 1])), (q3, .inr (6, [.int 0, .long 0, .int 0, .int 0, .int 0, .int 1]))]) hP hD [0, 2, 3, 4, 5, 6] [1, 7, 8, 9, 10, 11] 6 rfl rfl (by decide) (by decide) hk1 hFc hP1 hD1
  generalize H1 = H at hP hS ⊢
  refine lv_aload_n hx hb dL_law_781 rfl (lv_at hl 3 rfl) ?_
  obtain ⟨hPc, hDc, hFc⟩ := xcut (wc := [(a1, .inr (5, [.int 2, .ref a10, .int 2, v20, .int 0, v22, v23, .int 0, .int 1, .int 0, v27, v28, .int 0, v30, v31, .ref a11, .int 4, .int 4, .int 0, .int 100, v37, v38, .int 0, .int 1000000000, .ref a7, .ref a8, v41, v42, v43, v44, .int 1, v46]))]) hP hD hS hA [6] rfl rfl (by decide)
  refine va_calli (va_runV (C := "ValueBenchModel") (As := []) (rest := []) ⟨hx, hb, hml, hown, htx⟩ (cM_thrown_2 l hl9 D cT aK aV H.size a1 (.ref a10) (.int 2) v20 (.int 0) v22 v23 (.int 0) (.int 1) (.int 0) v27 v28 (.int 0) v30 v31 (.ref a11) (.int 4) (.int 4) (.int 0) (.int 100) v37 v38 (.int 0) (.int 1000000000) (.ref a7) (.ref a8) v41 v42 v43 v44 (.int 1) v46) ⟨callB_of 0 htx (xw_goodC kw_5_187) rfl rfl rfl (htx _ kw_1_5) (htx _ kw_5_184) ⟨by decide, by decide, by decide +kernel⟩ ⟨Nat.le_of_ble_eq_true rfl, Nat.le_of_ble_eq_true rfl⟩, (htx _ kw_5_185), (htx _ kw_5_186)⟩ ⟨xPre_blind, va_recv hK hP (ci := 5) rfl (q0 := 6) rfl, (fun U hU hW => ⟨rfl, xPre_of hZ hS hFc hPc hDc hK U hU hW⟩)⟩ rfl rfl hl.1 rfl (lv_room (Nat.le_of_ble_eq_true rfl)) dL_law_782 ⟨Nat.le_of_ble_eq_true rfl, Nat.le_of_ble_eq_true rfl⟩) hS (fun q _ h => hFc q h) hFc (fun r4 u9 t H1 locs ht hvm hr9 hB hz1 hk1 hS => ?_)
  obtain ⟨hP1, hK1, hD1⟩ := hB
  rw [ht] at hP1
  obtain ⟨hP, hD⟩ := xjoin (W := [(a2, .inl (cT 2, 1, .inr (.inl f47))), (a0, .inr (0, [v12, v13, v14, .ref a4, .ref b15, .ref a3, v16, .int 1])), (a3, .inr (2, [v48, .int 0, .int 0])), (a4, .inl (cT 3, 8, .inr (.inr (.inr (.inr f51))))), (a5, .inr (2, [.ref a6, .int 1, v55])), (a6, .inl (cT 2, 4096, .inr (.inl f56))), (a7, .inl (cT 5, 8, .inr (.inr (.inr (.inr f58))))), (a8, .inl (cT 1, 8, .inl f61)), (a9, .inl (cT 0, 4096, .inl f64)), (a10, .inl (cT 4, 1024, .inr (.inr (.inr (.inr (va_up (va_up f69 0 (some q2)) 1 (some q3))))))), (a11, .inl (cT 0, 4096, .inl f72)), (q2, .inr (6, [.int 0, .long 0, .int 0, .int 0, .int 0, .int 1])), (q3, .inr (6, [.int 0, .long 0, .int 0, .int 0, .int 0, .int 1])), (a1, .inr (5, [.int 2, .ref a10, .int 2, v20, .int 0, v22, v23, .int 0, .int 1, .int 0, v27, v28, .int 0, v30, v31, .ref a11, .int 4, .int 4, .int 0, .int 100, v37, v38, .int 0, .int 1000000000, .ref a7, .ref a8, v41, v42, v43, v44, .int 1, v46]))]) hP hD [6] [0, 1, 2, 3, 4, 5, 7, 8, 9, 10, 11, 12, 13] 13 rfl rfl (by decide) (by decide) hk1 hFc hP1 hD1
  generalize H1 = H at hP hS ⊢
  rw [hr9]
  refine W.eq (g2 := F0 m 785 ls [.int 2]) rfl ?_
  refine lv_iload hx hb dL_law_785 (lv_at hl 0 rfl) ?_
  refine lv_icmp_eq (tgt := 792) hx hb dL_law_787 (by decide) (fun _ => ?_) (fun h => ((by revert h; decide : False)).elim)
  refine lv_goto (tgt := 906) hx hb dL_law_792 (by decide) ?_
  refine lv_iinc (v := 6) (lv' := [(4, .int 6), (5, .int 2), (3, .ref a2), (2, .ref a1), (1, .ref a0), (0, .ref b)]) hx hb dL_law_906 hl (k := 1) rfl (by decide) (by decide) rfl (fun ls hl => ?_)
  refine lv_goto (tgt := 23) hx hb dL_law_909 (by decide) ?_
  refine lv_iload hx hb dL_law_23 (lv_at hl 0 rfl) ?_
  refine lv_aload_n hx hb dL_law_25 rfl (lv_at hl 5 rfl) ?_
  refine va_slen hx hb hXs hbl hbA hS dL_law_26 ?_
  refine W.eq (g2 := F0 m 27 ls [.int 6, .int 6]) rfl ?_
  refine lv_bipush (v := 6) hx hb dL_law_27 (by decide) ?_
  refine lv_isub hx hb dL_law_29 ?_
  refine W.eq (g2 := F0 m 30 ls [.int 0, .int 6]) rfl ?_
  refine lv_icmp_gt (tgt := 912) hx hb dL_law_30 (by decide) (fun _ => ?_) (fun h => ((by revert h; decide : False)).elim)
  refine lv_iconst (v := 1) hx hb dL_law_912 (by decide) ?_
  exact va_forget (fun q h => hA2 _ (hS.2.2 q h)) (W.widen (k := 600002) (n := 7302232) (Nat.le_of_ble_eq_true rfl) (Nat.le_of_ble_eq_true rfl) (lw_ret hx hb hr hlocks dL_law_913))
set_option maxHeartbeats 400000000 in
set_option maxRecDepth 100000 in
theorem lf_sort2_p3 {p : Program} {e : Env} {s : State} {m : MethodId} {below : List Frame} {meth : Method} {c : Code} (l : Launch) (hl9 : l.stackTraces = false) (D : va_G) (cT : Nat → ClassId) (aK aV : Nat → Nat) {A : Nat → Prop} {b : Nat} {xs : Nat → Int32} (C : xLw p s m meth c b D cT aK aV A) {H : Heap} {locs : List Loc} {ls : Array Slot} (a0 : Nat) (a1 : Nat) (a2 : Nat) (a3 : Nat) (a4 : Nat) (a5 : Nat) (a6 : Nat) (a7 : Nat) (a8 : Nat) (a9 : Nat) (a10 : Nat) (a11 : Nat) (v12 : Value) (v13 : Value) (v14 : Value) (b15 : Nat) (v16 : Value) (v17 : Value) (v18 : Value) (v19 : Value) (v20 : Value) (v21 : Value) (v22 : Value) (v23 : Value) (v24 : Value) (v25 : Value) (v26 : Value) (v27 : Value) (v28 : Value) (v29 : Value) (v30 : Value) (v31 : Value) (v32 : Value) (v33 : Value) (v34 : Value) (v35 : Value) (v36 : Value) (v37 : Value) (v38 : Value) (v39 : Value) (v40 : Value) (v41 : Value) (v42 : Value) (v43 : Value) (v44 : Value) (v45 : Value) (v46 : Value) (f47 : Nat → Int64) (v48 : Value) (v49 : Value) (v50 : Value) (f51 : Nat → Option Nat) (b53 : Nat) (v55 : Value) (f56 : Nat → Int64) (f58 : Nat → Option Nat) (f61 : Nat → Int32) (f64 : Nat → Int32) (f69 : Nat → Option Nat) (f72 : Nat → Int32) (h52 : f51 (xs 3).toNatClampNeg = some a5) (h54 : f51 (xs 4).toNatClampNeg = some b53) (h57 : f56 0 = 0) (h59 : f58 (xs 3).toNatClampNeg = some a9) (h60 : f58 (xs 4).toNatClampNeg = some a11) (h62 : f61 (xs 3).toNatClampNeg = 4) (h63 : f61 (xs 4).toNatClampNeg = 4) (h65 : f64 0 = 110) (h66 : f64 1 = 117) (h67 : f64 2 = 108) (h68 : f64 3 = 108) (h70 : f69 0 = none) (h71 : f69 1 = none) (h73 : f72 0 = 110) (h74 : f72 1 = 117) (h75 : f72 2 = 108) (h76 : f72 3 = 108) (hto1 : ¬ (xs 1) < 0) (hto2 : ¬ 7 < (xs 1)) (hto3 : (xs 1) ≤ 7) (hto4 : vp_in (xs 1) 8) (hf : xs 2 = 2) (ha1 : ¬ (xs 3) < 0) (ha2 : ¬ 7 < (xs 3)) (ha3 : (xs 3) ≤ 7) (ha4 : vp_in (xs 3) 8) (hb1 : ¬ (xs 4) < 0) (hb2 : ¬ 7 < (xs 4)) (hb3 : (xs 4) ≤ 7) (hb4 : vp_in (xs 4) 8) (hXs : va_X b 6 xs s s.heap) (hP : va_P D xcl [(a0, .inr (0, [v12, v13, v14, .ref a4, .ref b15, .ref a3, v16, v17])), (a1, .inr (5, [v18, .ref a10, v19, v20, v21, v22, v23, v24, v25, v26, v27, v28, v29, v30, v31, v32, v33, v34, v35, v36, v37, v38, v39, v40, .ref a7, .ref a8, v41, v42, v43, v44, v45, v46])), (a2, .inl (cT 2, 1, .inr (.inl f47))), (a3, .inr (2, [v48, v49, v50])), (a4, .inl (cT 3, 8, .inr (.inr (.inr (.inr f51))))), (a5, .inr (2, [.ref a6, .int 1, v55])), (a6, .inl (cT 2, 4096, .inr (.inl f56))), (a7, .inl (cT 5, 8, .inr (.inr (.inr (.inr f58))))), (a8, .inl (cT 1, 8, .inl f61)), (a9, .inl (cT 0, 4096, .inl f64)), (a10, .inl (cT 4, 1024, .inr (.inr (.inr (.inr f69))))), (a11, .inl (cT 0, 4096, .inl f72))] H) (hD : va_D A [(a0, .inr (0, [v12, v13, v14, .ref a4, .ref b15, .ref a3, v16, v17])), (a1, .inr (5, [v18, .ref a10, v19, v20, v21, v22, v23, v24, v25, v26, v27, v28, v29, v30, v31, v32, v33, v34, v35, v36, v37, v38, v39, v40, .ref a7, .ref a8, v41, v42, v43, v44, v45, v46])), (a2, .inl (cT 2, 1, .inr (.inl f47))), (a3, .inr (2, [v48, v49, v50])), (a4, .inl (cT 3, 8, .inr (.inr (.inr (.inr f51))))), (a5, .inr (2, [.ref a6, .int 1, v55])), (a6, .inl (cT 2, 4096, .inr (.inl f56))), (a7, .inl (cT 5, 8, .inr (.inr (.inr (.inr f58))))), (a8, .inl (cT 1, 8, .inl f61)), (a9, .inl (cT 0, 4096, .inl f64)), (a10, .inl (cT 4, 1024, .inr (.inr (.inr (.inr f69))))), (a11, .inl (cT 0, 4096, .inl f72))]) (hS : va_S A s.heap H locs) (hl : lv_has ls 8 [(4, .int 0), (3, .ref a2), (2, .ref a1), (1, .ref a0), (0, .ref b)]) : W p l e room_1 s m #[Value.ref b] below meth c H locs 54 107242 (lw_Z below #[Value.ref b] s) (F0 m 723 ls []) := by
  obtain ⟨hx, hb, hr, hml, hown, htx, hbl, hbA, hlocks, hK, hZ, hA, hA2⟩ := C
  refine lv_aload_n hx hb dL_law_723 rfl (lv_at hl 3 rfl) ?_
  refine lv_aload_n hx hb dL_law_724 rfl (lv_at hl 4 rfl) ?_
  refine lv_iload hx hb dL_law_725 (lv_at hl 0 rfl) ?_
  refine lv_iconst (v := 1) hx hb dL_law_727 (by decide) ?_
  refine lv_iadd hx hb dL_law_728 ?_
  refine W.eq (g2 := F0 m 729 ls [.int 1, .ref b, .ref a0]) rfl ?_
  refine va_sld hx hb hXs hbl hbA hS (i := 1) (show ¬ ((1 : Int32) < 0 ∨ 6 ≤ (1 : Int32).toNatClampNeg) by decide) dL_law_729 ?_
  refine W.eq (g2 := F0 m 730 ls [.int (xs 1), .ref a0]) rfl ?_
  refine lv_aload_n hx hb dL_law_730 rfl (lv_at hl 4 rfl) ?_
  refine lv_iload hx hb dL_law_731 (lv_at hl 0 rfl) ?_
  refine lv_iconst (v := 2) hx hb dL_law_733 (by decide) ?_
  refine lv_iadd hx hb dL_law_734 ?_
  refine W.eq (g2 := F0 m 735 ls [.int 2, .ref b, .int (xs 1), .ref a0]) rfl ?_
  refine va_sld hx hb hXs hbl hbA hS (i := 2) (show ¬ ((2 : Int32) < 0 ∨ 6 ≤ (2 : Int32).toNatClampNeg) by decide) dL_law_735 ?_
  refine W.eq (g2 := F0 m 736 ls [.int (xs 2), .int (xs 1), .ref a0]) rfl ?_
  rw [hf]
  refine W.eq (g2 := F0 m 736 ls [.int 2, .int (xs 1), .ref a0]) rfl ?_
  refine lv_aload_n hx hb dL_law_736 rfl (lv_at hl 4 rfl) ?_
  refine lv_iload hx hb dL_law_737 (lv_at hl 0 rfl) ?_
  refine lv_iconst (v := 3) hx hb dL_law_739 (by decide) ?_
  refine lv_iadd hx hb dL_law_740 ?_
  refine W.eq (g2 := F0 m 741 ls [.int 3, .ref b, .int 2, .int (xs 1), .ref a0]) rfl ?_
  refine va_sld hx hb hXs hbl hbA hS (i := 3) (show ¬ ((3 : Int32) < 0 ∨ 6 ≤ (3 : Int32).toNatClampNeg) by decide) dL_law_741 ?_
  refine W.eq (g2 := F0 m 742 ls [.int (xs 3), .int 2, .int (xs 1), .ref a0]) rfl ?_
  refine lv_aload_n hx hb dL_law_742 rfl (lv_at hl 4 rfl) ?_
  refine lv_iload hx hb dL_law_743 (lv_at hl 0 rfl) ?_
  refine lv_iconst (v := 4) hx hb dL_law_745 (by decide) ?_
  refine lv_iadd hx hb dL_law_746 ?_
  refine W.eq (g2 := F0 m 747 ls [.int 4, .ref b, .int (xs 3), .int 2, .int (xs 1), .ref a0]) rfl ?_
  refine va_sld hx hb hXs hbl hbA hS (i := 4) (show ¬ ((4 : Int32) < 0 ∨ 6 ≤ (4 : Int32).toNatClampNeg) by decide) dL_law_747 ?_
  refine W.eq (g2 := F0 m 748 ls [.int (xs 4), .int (xs 3), .int 2, .int (xs 1), .ref a0]) rfl ?_
  obtain ⟨hPc, hDc, hFc⟩ := xcut (wc := [(a0, .inr (0, [v12, v13, v14, .ref a4, .ref b15, .ref a3, v16, v17])), (a3, .inr (2, [v48, v49, v50])), (a4, .inl (cT 3, 8, .inr (.inr (.inr (.inr f51))))), (a5, .inr (2, [.ref a6, .int 1, v55])), (a6, .inl (cT 2, 4096, .inr (.inl f56)))]) hP hD hS hA [0, 3, 4, 5, 6] rfl rfl (by decide)
  refine va_calli (vx_runSW (As := [.ref a0, .int (xs 1), .int 2, .int (xs 3), .int (xs 4)]) (rest := []) ⟨hx, hb, hml, hown, htx⟩ (cL_sort_13 l hl9 D cT aK aV H.size a0 a3 a4 a5 a6 (xs 1) (xs 3) (xs 4) v12 v13 v14 b15 v16 v17 v48 v49 v50 f51 b53 v55 f56 hto1 hto2 hto3 hto4 ha1 ha2 ha3 ha4 hb1 hb2 hb3 hb4 (by first | rfl | exact h52 | exact h54 | exact h57 | exact h59 | exact h60 | exact h62 | exact h63 | exact h65 | exact h66 | exact h67 | exact h68 | exact h70 | exact h71 | exact h73 | exact h74 | exact h75 | exact h76) (by first | rfl | exact h52 | exact h54 | exact h57 | exact h59 | exact h60 | exact h62 | exact h63 | exact h65 | exact h66 | exact h67 | exact h68 | exact h70 | exact h71 | exact h73 | exact h74 | exact h75 | exact h76) (by first | rfl | exact h52 | exact h54 | exact h57 | exact h59 | exact h60 | exact h62 | exact h63 | exact h65 | exact h66 | exact h67 | exact h68 | exact h70 | exact h71 | exact h73 | exact h74 | exact h75 | exact h76)) (xcSW 5 htx (xw_goodC kw_5_14) rfl rfl rfl (htx _ kw_1_0) (htx _ kw_5_12) ⟨by decide, by decide, by decide +kernel⟩ ⟨Nat.le_of_ble_eq_true rfl, Nat.le_of_ble_eq_true rfl⟩ (htx _ kw_5_13)) ⟨xPre_blind, (fun U hU hW => ⟨rfl, xPre_of hZ hS hFc hPc hDc hK U hU hW⟩)⟩ rfl rfl hl.1 rfl (lv_room (Nat.le_of_ble_eq_true rfl)) dL_law_748 ⟨Nat.le_of_ble_eq_true rfl, Nat.le_of_ble_eq_true rfl⟩) hS (fun q _ h => hFc q h) hFc (fun r1 u9 t H1 locs ht hvm hr9 hB hz1 hk1 hS => ?_)
  obtain ⟨hP1, hK1, hD1⟩ := hB
  rw [ht] at hP1
  obtain ⟨hP, hD⟩ := xjoin (W := [(a1, .inr (5, [v18, .ref a10, v19, v20, v21, v22, v23, v24, v25, v26, v27, v28, v29, v30, v31, v32, v33, v34, v35, v36, v37, v38, v39, v40, .ref a7, .ref a8, v41, v42, v43, v44, v45, v46])), (a2, .inl (cT 2, 1, .inr (.inl f47))), (a7, .inl (cT 5, 8, .inr (.inr (.inr (.inr f58))))), (a8, .inl (cT 1, 8, .inl f61)), (a9, .inl (cT 0, 4096, .inl f64)), (a10, .inl (cT 4, 1024, .inr (.inr (.inr (.inr f69))))), (a11, .inl (cT 0, 4096, .inl f72)), (a0, .inr (0, [v12, v13, v14, .ref a4, .ref b15, .ref a3, v16, .int 1])), (a3, .inr (2, [v48, .int 0, .int 0])), (a4, .inl (cT 3, 8, .inr (.inr (.inr (.inr f51))))), (a5, .inr (2, [.ref a6, .int 1, v55])), (a6, .inl (cT 2, 4096, .inr (.inl f56)))]) hP hD [0, 3, 4, 5, 6] [1, 2, 7, 8, 9, 10, 11] 7 rfl rfl (by decide) (by decide) hk1 hFc hP1 hD1
  generalize H1 = H at hP hS ⊢
  rw [hr9]
  refine W.eq (g2 := F0 m 751 ls [.int 2]) rfl ?_
  refine lv_istore (lv' := [(5, .int 2), (4, .int 0), (3, .ref a2), (2, .ref a1), (1, .ref a0), (0, .ref b)]) hx hb dL_law_751 hl (by decide) rfl (fun ls hl => ?_)
  refine lv_aload_n hx hb dL_law_753 rfl (lv_at hl 3 rfl) ?_
  refine lv_aload_n hx hb dL_law_754 rfl (lv_at hl 5 rfl) ?_
  refine lv_iload hx hb dL_law_755 (lv_at hl 1 rfl) ?_
  refine lv_iconst (v := 1) hx hb dL_law_757 (by decide) ?_
  refine lv_iadd hx hb dL_law_758 ?_
  refine W.eq (g2 := F0 m 759 ls [.int 1, .ref b, .ref a1]) rfl ?_
  refine va_sld hx hb hXs hbl hbA hS (i := 1) (show ¬ ((1 : Int32) < 0 ∨ 6 ≤ (1 : Int32).toNatClampNeg) by decide) dL_law_759 ?_
  refine W.eq (g2 := F0 m 760 ls [.int (xs 1), .ref a1]) rfl ?_
  refine lv_aload_n hx hb dL_law_760 rfl (lv_at hl 5 rfl) ?_
  refine lv_iload hx hb dL_law_761 (lv_at hl 1 rfl) ?_
  refine lv_iconst (v := 2) hx hb dL_law_763 (by decide) ?_
  refine lv_iadd hx hb dL_law_764 ?_
  refine W.eq (g2 := F0 m 765 ls [.int 2, .ref b, .int (xs 1), .ref a1]) rfl ?_
  refine va_sld hx hb hXs hbl hbA hS (i := 2) (show ¬ ((2 : Int32) < 0 ∨ 6 ≤ (2 : Int32).toNatClampNeg) by decide) dL_law_765 ?_
  refine W.eq (g2 := F0 m 766 ls [.int (xs 2), .int (xs 1), .ref a1]) rfl ?_
  rw [hf]
  refine W.eq (g2 := F0 m 766 ls [.int 2, .int (xs 1), .ref a1]) rfl ?_
  refine lv_aload_n hx hb dL_law_766 rfl (lv_at hl 5 rfl) ?_
  refine lv_iload hx hb dL_law_767 (lv_at hl 1 rfl) ?_
  refine lv_iconst (v := 3) hx hb dL_law_769 (by decide) ?_
  refine lv_iadd hx hb dL_law_770 ?_
  refine W.eq (g2 := F0 m 771 ls [.int 3, .ref b, .int 2, .int (xs 1), .ref a1]) rfl ?_
  refine va_sld hx hb hXs hbl hbA hS (i := 3) (show ¬ ((3 : Int32) < 0 ∨ 6 ≤ (3 : Int32).toNatClampNeg) by decide) dL_law_771 ?_
  refine W.eq (g2 := F0 m 772 ls [.int (xs 3), .int 2, .int (xs 1), .ref a1]) rfl ?_
  refine lv_aload_n hx hb dL_law_772 rfl (lv_at hl 5 rfl) ?_
  refine lv_iload hx hb dL_law_773 (lv_at hl 1 rfl) ?_
  refine lv_iconst (v := 4) hx hb dL_law_775 (by decide) ?_
  refine lv_iadd hx hb dL_law_776 ?_
  refine W.eq (g2 := F0 m 777 ls [.int 4, .ref b, .int (xs 3), .int 2, .int (xs 1), .ref a1]) rfl ?_
  refine va_sld hx hb hXs hbl hbA hS (i := 4) (show ¬ ((4 : Int32) < 0 ∨ 6 ≤ (4 : Int32).toNatClampNeg) by decide) dL_law_777 ?_
  refine W.eq (g2 := F0 m 778 ls [.int (xs 4), .int (xs 3), .int 2, .int (xs 1), .ref a1]) rfl ?_
  obtain ⟨hPc, hDc, hFc⟩ := xcut (wc := [(a1, .inr (5, [v18, .ref a10, v19, v20, v21, v22, v23, v24, v25, v26, v27, v28, v29, v30, v31, v32, v33, v34, v35, v36, v37, v38, v39, v40, .ref a7, .ref a8, v41, v42, v43, v44, v45, v46])), (a7, .inl (cT 5, 8, .inr (.inr (.inr (.inr f58))))), (a8, .inl (cT 1, 8, .inl f61)), (a9, .inl (cT 0, 4096, .inl f64)), (a10, .inl (cT 4, 1024, .inr (.inr (.inr (.inr f69))))), (a11, .inl (cT 0, 4096, .inl f72))]) hP hD hS hA [0, 2, 3, 4, 5, 6] rfl rfl (by decide)
  refine va_callv (va_runV (C := "ValueBenchModel") (As := [.int (xs 1), .int 2, .int (xs 3), .int (xs 4)]) (rest := []) ⟨hx, hb, hml, hown, htx⟩ (cM_sort0_13 l hl9 D cT aK aV H.size a1 a7 a8 a9 a10 a11 (xs 1) (xs 3) (xs 4) v18 v19 v20 v21 v22 v23 v24 v25 v26 v27 v28 v29 v30 v31 v32 v33 v34 v35 v36 v37 v38 v39 v40 v41 v42 v43 v44 v45 v46 f58 f61 f64 f69 f72 hto1 hto2 hto3 hto4 ha1 ha2 ha3 ha4 hb1 hb2 hb3 hb4 (by first | rfl | exact h52 | exact h54 | exact h57 | exact h59 | exact h60 | exact h62 | exact h63 | exact h65 | exact h66 | exact h67 | exact h68 | exact h70 | exact h71 | exact h73 | exact h74 | exact h75 | exact h76) (by first | rfl | exact h52 | exact h54 | exact h57 | exact h59 | exact h60 | exact h62 | exact h63 | exact h65 | exact h66 | exact h67 | exact h68 | exact h70 | exact h71 | exact h73 | exact h74 | exact h75 | exact h76) (by first | rfl | exact h52 | exact h54 | exact h57 | exact h59 | exact h60 | exact h62 | exact h63 | exact h65 | exact h66 | exact h67 | exact h68 | exact h70 | exact h71 | exact h73 | exact h74 | exact h75 | exact h76) (by first | rfl | exact h52 | exact h54 | exact h57 | exact h59 | exact h60 | exact h62 | exact h63 | exact h65 | exact h66 | exact h67 | exact h68 | exact h70 | exact h71 | exact h73 | exact h74 | exact h75 | exact h76) (by first | rfl | exact h52 | exact h54 | exact h57 | exact h59 | exact h60 | exact h62 | exact h63 | exact h65 | exact h66 | exact h67 | exact h68 | exact h70 | exact h71 | exact h73 | exact h74 | exact h75 | exact h76) (by first | rfl | exact h52 | exact h54 | exact h57 | exact h59 | exact h60 | exact h62 | exact h63 | exact h65 | exact h66 | exact h67 | exact h68 | exact h70 | exact h71 | exact h73 | exact h74 | exact h75 | exact h76) (by first | rfl | exact h52 | exact h54 | exact h57 | exact h59 | exact h60 | exact h62 | exact h63 | exact h65 | exact h66 | exact h67 | exact h68 | exact h70 | exact h71 | exact h73 | exact h74 | exact h75 | exact h76) (by first | rfl | exact h52 | exact h54 | exact h57 | exact h59 | exact h60 | exact h62 | exact h63 | exact h65 | exact h66 | exact h67 | exact h68 | exact h70 | exact h71 | exact h73 | exact h74 | exact h75 | exact h76) (by first | rfl | exact h52 | exact h54 | exact h57 | exact h59 | exact h60 | exact h62 | exact h63 | exact h65 | exact h66 | exact h67 | exact h68 | exact h70 | exact h71 | exact h73 | exact h74 | exact h75 | exact h76) (by first | rfl | exact h52 | exact h54 | exact h57 | exact h59 | exact h60 | exact h62 | exact h63 | exact h65 | exact h66 | exact h67 | exact h68 | exact h70 | exact h71 | exact h73 | exact h74 | exact h75 | exact h76) (by first | rfl | exact h52 | exact h54 | exact h57 | exact h59 | exact h60 | exact h62 | exact h63 | exact h65 | exact h66 | exact h67 | exact h68 | exact h70 | exact h71 | exact h73 | exact h74 | exact h75 | exact h76) (by first | rfl | exact h52 | exact h54 | exact h57 | exact h59 | exact h60 | exact h62 | exact h63 | exact h65 | exact h66 | exact h67 | exact h68 | exact h70 | exact h71 | exact h73 | exact h74 | exact h75 | exact h76) (by first | rfl | exact h52 | exact h54 | exact h57 | exact h59 | exact h60 | exact h62 | exact h63 | exact h65 | exact h66 | exact h67 | exact h68 | exact h70 | exact h71 | exact h73 | exact h74 | exact h75 | exact h76) (by first | rfl | exact h52 | exact h54 | exact h57 | exact h59 | exact h60 | exact h62 | exact h63 | exact h65 | exact h66 | exact h67 | exact h68 | exact h70 | exact h71 | exact h73 | exact h74 | exact h75 | exact h76)) ⟨callB_of 4 htx (xw_goodC kw_7_131) rfl rfl rfl (htx _ kw_1_5) (htx _ kw_7_128) ⟨by decide, by decide, by decide +kernel⟩ ⟨Nat.le_of_ble_eq_true rfl, Nat.le_of_ble_eq_true rfl⟩, (htx _ kw_7_129), (htx _ kw_7_130)⟩ ⟨xPre_blind, va_recv hK hP (ci := 5) rfl (q0 := 0) rfl, (fun U hU hW => ⟨rfl, xPre_of hZ hS hFc hPc hDc hK U hU hW⟩)⟩ rfl rfl hl.1 rfl (lv_room (Nat.le_of_ble_eq_true rfl)) dL_law_778 ⟨Nat.le_of_ble_eq_true rfl, Nat.le_of_ble_eq_true rfl⟩) hS (fun q _ h => hFc q h) hFc (fun u9 t H1 locs ht hvm hr9 hB hz1 hk1 hS => ?_)
  obtain ⟨q2, q3, hP1, hK1, hD1⟩ := hB
  rw [ht] at hP1
  obtain ⟨hP, hD⟩ := xjoin (W := [(a2, .inl (cT 2, 1, .inr (.inl f47))), (a0, .inr (0, [v12, v13, v14, .ref a4, .ref b15, .ref a3, v16, .int 1])), (a3, .inr (2, [v48, .int 0, .int 0])), (a4, .inl (cT 3, 8, .inr (.inr (.inr (.inr f51))))), (a5, .inr (2, [.ref a6, .int 1, v55])), (a6, .inl (cT 2, 4096, .inr (.inl f56))), (a1, .inr (5, [.int 2, .ref a10, .int 2, v20, .int 0, v22, v23, .int 0, .int 1, .int 0, v27, v28, .int 0, v30, v31, .ref a11, .int 4, .int 4, .int 0, .int 100, v37, v38, .int 0, .int 1000000000, .ref a7, .ref a8, v41, v42, v43, v44, .int 1, v46])), (a7, .inl (cT 5, 8, .inr (.inr (.inr (.inr f58))))), (a8, .inl (cT 1, 8, .inl f61)), (a9, .inl (cT 0, 4096, .inl f64)), (a10, .inl (cT 4, 1024, .inr (.inr (.inr (.inr (va_up (va_up f69 0 (some q2)) 1 (some q3))))))), (a11, .inl (cT 0, 4096, .inl f72)), (q2, .inr (6, [.int 0, .long 0, .int 0, .int 0, .int 0, .int 1])), (q3, .inr (6, [.int 0, .long 0, .int 0, .int 0, .int 0, .int 1]))]) hP hD [0, 2, 3, 4, 5, 6] [1, 7, 8, 9, 10, 11] 6 rfl rfl (by decide) (by decide) hk1 hFc hP1 hD1
  generalize H1 = H at hP hS ⊢
  refine lv_aload_n hx hb dL_law_781 rfl (lv_at hl 3 rfl) ?_
  obtain ⟨hPc, hDc, hFc⟩ := xcut (wc := [(a1, .inr (5, [.int 2, .ref a10, .int 2, v20, .int 0, v22, v23, .int 0, .int 1, .int 0, v27, v28, .int 0, v30, v31, .ref a11, .int 4, .int 4, .int 0, .int 100, v37, v38, .int 0, .int 1000000000, .ref a7, .ref a8, v41, v42, v43, v44, .int 1, v46]))]) hP hD hS hA [6] rfl rfl (by decide)
  refine va_calli (va_runV (C := "ValueBenchModel") (As := []) (rest := []) ⟨hx, hb, hml, hown, htx⟩ (cM_thrown_2 l hl9 D cT aK aV H.size a1 (.ref a10) (.int 2) v20 (.int 0) v22 v23 (.int 0) (.int 1) (.int 0) v27 v28 (.int 0) v30 v31 (.ref a11) (.int 4) (.int 4) (.int 0) (.int 100) v37 v38 (.int 0) (.int 1000000000) (.ref a7) (.ref a8) v41 v42 v43 v44 (.int 1) v46) ⟨callB_of 0 htx (xw_goodC kw_5_187) rfl rfl rfl (htx _ kw_1_5) (htx _ kw_5_184) ⟨by decide, by decide, by decide +kernel⟩ ⟨Nat.le_of_ble_eq_true rfl, Nat.le_of_ble_eq_true rfl⟩, (htx _ kw_5_185), (htx _ kw_5_186)⟩ ⟨xPre_blind, va_recv hK hP (ci := 5) rfl (q0 := 6) rfl, (fun U hU hW => ⟨rfl, xPre_of hZ hS hFc hPc hDc hK U hU hW⟩)⟩ rfl rfl hl.1 rfl (lv_room (Nat.le_of_ble_eq_true rfl)) dL_law_782 ⟨Nat.le_of_ble_eq_true rfl, Nat.le_of_ble_eq_true rfl⟩) hS (fun q _ h => hFc q h) hFc (fun r4 u9 t H1 locs ht hvm hr9 hB hz1 hk1 hS => ?_)
  obtain ⟨hP1, hK1, hD1⟩ := hB
  rw [ht] at hP1
  obtain ⟨hP, hD⟩ := xjoin (W := [(a2, .inl (cT 2, 1, .inr (.inl f47))), (a0, .inr (0, [v12, v13, v14, .ref a4, .ref b15, .ref a3, v16, .int 1])), (a3, .inr (2, [v48, .int 0, .int 0])), (a4, .inl (cT 3, 8, .inr (.inr (.inr (.inr f51))))), (a5, .inr (2, [.ref a6, .int 1, v55])), (a6, .inl (cT 2, 4096, .inr (.inl f56))), (a7, .inl (cT 5, 8, .inr (.inr (.inr (.inr f58))))), (a8, .inl (cT 1, 8, .inl f61)), (a9, .inl (cT 0, 4096, .inl f64)), (a10, .inl (cT 4, 1024, .inr (.inr (.inr (.inr (va_up (va_up f69 0 (some q2)) 1 (some q3))))))), (a11, .inl (cT 0, 4096, .inl f72)), (q2, .inr (6, [.int 0, .long 0, .int 0, .int 0, .int 0, .int 1])), (q3, .inr (6, [.int 0, .long 0, .int 0, .int 0, .int 0, .int 1])), (a1, .inr (5, [.int 2, .ref a10, .int 2, v20, .int 0, v22, v23, .int 0, .int 1, .int 0, v27, v28, .int 0, v30, v31, .ref a11, .int 4, .int 4, .int 0, .int 100, v37, v38, .int 0, .int 1000000000, .ref a7, .ref a8, v41, v42, v43, v44, .int 1, v46]))]) hP hD [6] [0, 1, 2, 3, 4, 5, 7, 8, 9, 10, 11, 12, 13] 13 rfl rfl (by decide) (by decide) hk1 hFc hP1 hD1
  generalize H1 = H at hP hS ⊢
  rw [hr9]
  refine W.eq (g2 := F0 m 785 ls [.int 2]) rfl ?_
  refine lv_iload hx hb dL_law_785 (lv_at hl 0 rfl) ?_
  refine lv_icmp_eq (tgt := 792) hx hb dL_law_787 (by decide) (fun _ => ?_) (fun h => ((by revert h; decide : False)).elim)
  refine lv_goto (tgt := 906) hx hb dL_law_792 (by decide) ?_
  refine lv_iinc (v := 6) (lv' := [(4, .int 6), (5, .int 2), (3, .ref a2), (2, .ref a1), (1, .ref a0), (0, .ref b)]) hx hb dL_law_906 hl (k := 1) rfl (by decide) (by decide) rfl (fun ls hl => ?_)
  refine lv_goto (tgt := 23) hx hb dL_law_909 (by decide) ?_
  refine lv_iload hx hb dL_law_23 (lv_at hl 0 rfl) ?_
  refine lv_aload_n hx hb dL_law_25 rfl (lv_at hl 5 rfl) ?_
  refine va_slen hx hb hXs hbl hbA hS dL_law_26 ?_
  refine W.eq (g2 := F0 m 27 ls [.int 6, .int 6]) rfl ?_
  refine lv_bipush (v := 6) hx hb dL_law_27 (by decide) ?_
  refine lv_isub hx hb dL_law_29 ?_
  refine W.eq (g2 := F0 m 30 ls [.int 0, .int 6]) rfl ?_
  refine lv_icmp_gt (tgt := 912) hx hb dL_law_30 (by decide) (fun _ => ?_) (fun h => ((by revert h; decide : False)).elim)
  refine lv_iconst (v := 1) hx hb dL_law_912 (by decide) ?_
  exact va_forget (fun q h => hA2 _ (hS.2.2 q h)) (W.widen (k := 600002) (n := 7302232) (Nat.le_of_ble_eq_true rfl) (Nat.le_of_ble_eq_true rfl) (lw_ret hx hb hr hlocks dL_law_913))
set_option maxHeartbeats 400000000 in
set_option maxRecDepth 100000 in
theorem lf_sort2_p0 {p : Program} {e : Env} {s : State} {m : MethodId} {below : List Frame} {meth : Method} {c : Code} (l : Launch) (hl9 : l.stackTraces = false) (D : va_G) (cT : Nat → ClassId) (aK aV : Nat → Nat) {A : Nat → Prop} {b : Nat} {xs : Nat → Int32} (C : xLw p s m meth c b D cT aK aV A) {H : Heap} {locs : List Loc} {ls : Array Slot} (a0 : Nat) (a1 : Nat) (a2 : Nat) (a3 : Nat) (a4 : Nat) (a5 : Nat) (a6 : Nat) (a7 : Nat) (a8 : Nat) (a9 : Nat) (a10 : Nat) (a11 : Nat) (v12 : Value) (v13 : Value) (v14 : Value) (b15 : Nat) (v16 : Value) (v17 : Value) (v18 : Value) (v19 : Value) (v20 : Value) (v21 : Value) (v22 : Value) (v23 : Value) (v24 : Value) (v25 : Value) (v26 : Value) (v27 : Value) (v28 : Value) (v29 : Value) (v30 : Value) (v31 : Value) (v32 : Value) (v33 : Value) (v34 : Value) (v35 : Value) (v36 : Value) (v37 : Value) (v38 : Value) (v39 : Value) (v40 : Value) (v41 : Value) (v42 : Value) (v43 : Value) (v44 : Value) (v45 : Value) (v46 : Value) (f47 : Nat → Int64) (v48 : Value) (v49 : Value) (v50 : Value) (f51 : Nat → Option Nat) (b53 : Nat) (v55 : Value) (f56 : Nat → Int64) (f58 : Nat → Option Nat) (f61 : Nat → Int32) (f64 : Nat → Int32) (f69 : Nat → Option Nat) (f72 : Nat → Int32) (h52 : f51 (xs 3).toNatClampNeg = some a5) (h54 : f51 (xs 4).toNatClampNeg = some b53) (h57 : f56 0 = 0) (h59 : f58 (xs 3).toNatClampNeg = some a9) (h60 : f58 (xs 4).toNatClampNeg = some a11) (h62 : f61 (xs 3).toNatClampNeg = 4) (h63 : f61 (xs 4).toNatClampNeg = 4) (h65 : f64 0 = 110) (h66 : f64 1 = 117) (h67 : f64 2 = 108) (h68 : f64 3 = 108) (h70 : f69 0 = none) (h71 : f69 1 = none) (h73 : f72 0 = 110) (h74 : f72 1 = 117) (h75 : f72 2 = 108) (h76 : f72 3 = 108) (hto1 : ¬ (xs 1) < 0) (hto2 : ¬ 7 < (xs 1)) (hto3 : (xs 1) ≤ 7) (hto4 : vp_in (xs 1) 8) (hf : xs 2 = 2) (ha1 : ¬ (xs 3) < 0) (ha2 : ¬ 7 < (xs 3)) (ha3 : (xs 3) ≤ 7) (ha4 : vp_in (xs 3) 8) (hb1 : ¬ (xs 4) < 0) (hb2 : ¬ 7 < (xs 4)) (hb3 : (xs 4) ≤ 7) (hb4 : vp_in (xs 4) 8) (hXs : va_X b 6 xs s s.heap) (hP : va_P D xcl [(a0, .inr (0, [v12, v13, v14, .ref a4, .ref b15, .ref a3, v16, v17])), (a1, .inr (5, [v18, .ref a10, v19, v20, v21, v22, v23, v24, v25, v26, v27, v28, v29, v30, v31, v32, v33, v34, v35, v36, v37, v38, v39, v40, .ref a7, .ref a8, v41, v42, v43, v44, v45, v46])), (a2, .inl (cT 2, 1, .inr (.inl f47))), (a3, .inr (2, [v48, v49, v50])), (a4, .inl (cT 3, 8, .inr (.inr (.inr (.inr f51))))), (a5, .inr (2, [.ref a6, .int 1, v55])), (a6, .inl (cT 2, 4096, .inr (.inl f56))), (a7, .inl (cT 5, 8, .inr (.inr (.inr (.inr f58))))), (a8, .inl (cT 1, 8, .inl f61)), (a9, .inl (cT 0, 4096, .inl f64)), (a10, .inl (cT 4, 1024, .inr (.inr (.inr (.inr f69))))), (a11, .inl (cT 0, 4096, .inl f72))] H) (hD : va_D A [(a0, .inr (0, [v12, v13, v14, .ref a4, .ref b15, .ref a3, v16, v17])), (a1, .inr (5, [v18, .ref a10, v19, v20, v21, v22, v23, v24, v25, v26, v27, v28, v29, v30, v31, v32, v33, v34, v35, v36, v37, v38, v39, v40, .ref a7, .ref a8, v41, v42, v43, v44, v45, v46])), (a2, .inl (cT 2, 1, .inr (.inl f47))), (a3, .inr (2, [v48, v49, v50])), (a4, .inl (cT 3, 8, .inr (.inr (.inr (.inr f51))))), (a5, .inr (2, [.ref a6, .int 1, v55])), (a6, .inl (cT 2, 4096, .inr (.inl f56))), (a7, .inl (cT 5, 8, .inr (.inr (.inr (.inr f58))))), (a8, .inl (cT 1, 8, .inl f61)), (a9, .inl (cT 0, 4096, .inl f64)), (a10, .inl (cT 4, 1024, .inr (.inr (.inr (.inr f69))))), (a11, .inl (cT 0, 4096, .inl f72))]) (hS : va_S A s.heap H locs) (hl : lv_has ls 8 [(4, .int 0), (3, .ref a2), (2, .ref a1), (1, .ref a0), (0, .ref b)]) : W p l e room_1 s m #[Value.ref b] below meth c H locs 54 107242 (lw_Z below #[Value.ref b] s) (F0 m 723 ls []) := by
  obtain ⟨hx, hb, hr, hml, hown, htx, hbl, hbA, hlocks, hK, hZ, hA, hA2⟩ := C
  refine lv_aload_n hx hb dL_law_723 rfl (lv_at hl 3 rfl) ?_
  refine lv_aload_n hx hb dL_law_724 rfl (lv_at hl 4 rfl) ?_
  refine lv_iload hx hb dL_law_725 (lv_at hl 0 rfl) ?_
  refine lv_iconst (v := 1) hx hb dL_law_727 (by decide) ?_
  refine lv_iadd hx hb dL_law_728 ?_
  refine W.eq (g2 := F0 m 729 ls [.int 1, .ref b, .ref a0]) rfl ?_
  refine va_sld hx hb hXs hbl hbA hS (i := 1) (show ¬ ((1 : Int32) < 0 ∨ 6 ≤ (1 : Int32).toNatClampNeg) by decide) dL_law_729 ?_
  refine W.eq (g2 := F0 m 730 ls [.int (xs 1), .ref a0]) rfl ?_
  refine lv_aload_n hx hb dL_law_730 rfl (lv_at hl 4 rfl) ?_
  refine lv_iload hx hb dL_law_731 (lv_at hl 0 rfl) ?_
  refine lv_iconst (v := 2) hx hb dL_law_733 (by decide) ?_
  refine lv_iadd hx hb dL_law_734 ?_
  refine W.eq (g2 := F0 m 735 ls [.int 2, .ref b, .int (xs 1), .ref a0]) rfl ?_
  refine va_sld hx hb hXs hbl hbA hS (i := 2) (show ¬ ((2 : Int32) < 0 ∨ 6 ≤ (2 : Int32).toNatClampNeg) by decide) dL_law_735 ?_
  refine W.eq (g2 := F0 m 736 ls [.int (xs 2), .int (xs 1), .ref a0]) rfl ?_
  rw [hf]
  refine W.eq (g2 := F0 m 736 ls [.int 2, .int (xs 1), .ref a0]) rfl ?_
  refine lv_aload_n hx hb dL_law_736 rfl (lv_at hl 4 rfl) ?_
  refine lv_iload hx hb dL_law_737 (lv_at hl 0 rfl) ?_
  refine lv_iconst (v := 3) hx hb dL_law_739 (by decide) ?_
  refine lv_iadd hx hb dL_law_740 ?_
  refine W.eq (g2 := F0 m 741 ls [.int 3, .ref b, .int 2, .int (xs 1), .ref a0]) rfl ?_
  refine va_sld hx hb hXs hbl hbA hS (i := 3) (show ¬ ((3 : Int32) < 0 ∨ 6 ≤ (3 : Int32).toNatClampNeg) by decide) dL_law_741 ?_
  refine W.eq (g2 := F0 m 742 ls [.int (xs 3), .int 2, .int (xs 1), .ref a0]) rfl ?_
  refine lv_aload_n hx hb dL_law_742 rfl (lv_at hl 4 rfl) ?_
  refine lv_iload hx hb dL_law_743 (lv_at hl 0 rfl) ?_
  refine lv_iconst (v := 4) hx hb dL_law_745 (by decide) ?_
  refine lv_iadd hx hb dL_law_746 ?_
  refine W.eq (g2 := F0 m 747 ls [.int 4, .ref b, .int (xs 3), .int 2, .int (xs 1), .ref a0]) rfl ?_
  refine va_sld hx hb hXs hbl hbA hS (i := 4) (show ¬ ((4 : Int32) < 0 ∨ 6 ≤ (4 : Int32).toNatClampNeg) by decide) dL_law_747 ?_
  refine W.eq (g2 := F0 m 748 ls [.int (xs 4), .int (xs 3), .int 2, .int (xs 1), .ref a0]) rfl ?_
  obtain ⟨hPc, hDc, hFc⟩ := xcut (wc := [(a0, .inr (0, [v12, v13, v14, .ref a4, .ref b15, .ref a3, v16, v17])), (a3, .inr (2, [v48, v49, v50])), (a4, .inl (cT 3, 8, .inr (.inr (.inr (.inr f51))))), (a5, .inr (2, [.ref a6, .int 1, v55])), (a6, .inl (cT 2, 4096, .inr (.inl f56)))]) hP hD hS hA [0, 3, 4, 5, 6] rfl rfl (by decide)
  refine va_calli (vx_runSW (As := [.ref a0, .int (xs 1), .int 2, .int (xs 3), .int (xs 4)]) (rest := []) ⟨hx, hb, hml, hown, htx⟩ (cL_sort_13 l hl9 D cT aK aV H.size a0 a3 a4 a5 a6 (xs 1) (xs 3) (xs 4) v12 v13 v14 b15 v16 v17 v48 v49 v50 f51 b53 v55 f56 hto1 hto2 hto3 hto4 ha1 ha2 ha3 ha4 hb1 hb2 hb3 hb4 (by first | rfl | exact h52 | exact h54 | exact h57 | exact h59 | exact h60 | exact h62 | exact h63 | exact h65 | exact h66 | exact h67 | exact h68 | exact h70 | exact h71 | exact h73 | exact h74 | exact h75 | exact h76) (by first | rfl | exact h52 | exact h54 | exact h57 | exact h59 | exact h60 | exact h62 | exact h63 | exact h65 | exact h66 | exact h67 | exact h68 | exact h70 | exact h71 | exact h73 | exact h74 | exact h75 | exact h76) (by first | rfl | exact h52 | exact h54 | exact h57 | exact h59 | exact h60 | exact h62 | exact h63 | exact h65 | exact h66 | exact h67 | exact h68 | exact h70 | exact h71 | exact h73 | exact h74 | exact h75 | exact h76)) (xcSW 5 htx (xw_goodC kw_5_14) rfl rfl rfl (htx _ kw_1_0) (htx _ kw_5_12) ⟨by decide, by decide, by decide +kernel⟩ ⟨Nat.le_of_ble_eq_true rfl, Nat.le_of_ble_eq_true rfl⟩ (htx _ kw_5_13)) ⟨xPre_blind, (fun U hU hW => ⟨rfl, xPre_of hZ hS hFc hPc hDc hK U hU hW⟩)⟩ rfl rfl hl.1 rfl (lv_room (Nat.le_of_ble_eq_true rfl)) dL_law_748 ⟨Nat.le_of_ble_eq_true rfl, Nat.le_of_ble_eq_true rfl⟩) hS (fun q _ h => hFc q h) hFc (fun r1 u9 t H1 locs ht hvm hr9 hB hz1 hk1 hS => ?_)
  obtain ⟨hP1, hK1, hD1⟩ := hB
  rw [ht] at hP1
  obtain ⟨hP, hD⟩ := xjoin (W := [(a1, .inr (5, [v18, .ref a10, v19, v20, v21, v22, v23, v24, v25, v26, v27, v28, v29, v30, v31, v32, v33, v34, v35, v36, v37, v38, v39, v40, .ref a7, .ref a8, v41, v42, v43, v44, v45, v46])), (a2, .inl (cT 2, 1, .inr (.inl f47))), (a7, .inl (cT 5, 8, .inr (.inr (.inr (.inr f58))))), (a8, .inl (cT 1, 8, .inl f61)), (a9, .inl (cT 0, 4096, .inl f64)), (a10, .inl (cT 4, 1024, .inr (.inr (.inr (.inr f69))))), (a11, .inl (cT 0, 4096, .inl f72)), (a0, .inr (0, [v12, v13, v14, .ref a4, .ref b15, .ref a3, v16, .int 1])), (a3, .inr (2, [v48, .int 0, .int 0])), (a4, .inl (cT 3, 8, .inr (.inr (.inr (.inr f51))))), (a5, .inr (2, [.ref a6, .int 1, v55])), (a6, .inl (cT 2, 4096, .inr (.inl f56)))]) hP hD [0, 3, 4, 5, 6] [1, 2, 7, 8, 9, 10, 11] 7 rfl rfl (by decide) (by decide) hk1 hFc hP1 hD1
  generalize H1 = H at hP hS ⊢
  rw [hr9]
  refine W.eq (g2 := F0 m 751 ls [.int 2]) rfl ?_
  refine lv_istore (lv' := [(5, .int 2), (4, .int 0), (3, .ref a2), (2, .ref a1), (1, .ref a0), (0, .ref b)]) hx hb dL_law_751 hl (by decide) rfl (fun ls hl => ?_)
  refine lv_aload_n hx hb dL_law_753 rfl (lv_at hl 3 rfl) ?_
  refine lv_aload_n hx hb dL_law_754 rfl (lv_at hl 5 rfl) ?_
  refine lv_iload hx hb dL_law_755 (lv_at hl 1 rfl) ?_
  refine lv_iconst (v := 1) hx hb dL_law_757 (by decide) ?_
  refine lv_iadd hx hb dL_law_758 ?_
  refine W.eq (g2 := F0 m 759 ls [.int 1, .ref b, .ref a1]) rfl ?_
  refine va_sld hx hb hXs hbl hbA hS (i := 1) (show ¬ ((1 : Int32) < 0 ∨ 6 ≤ (1 : Int32).toNatClampNeg) by decide) dL_law_759 ?_
  refine W.eq (g2 := F0 m 760 ls [.int (xs 1), .ref a1]) rfl ?_
  refine lv_aload_n hx hb dL_law_760 rfl (lv_at hl 5 rfl) ?_
  refine lv_iload hx hb dL_law_761 (lv_at hl 1 rfl) ?_
  refine lv_iconst (v := 2) hx hb dL_law_763 (by decide) ?_
  refine lv_iadd hx hb dL_law_764 ?_
  refine W.eq (g2 := F0 m 765 ls [.int 2, .ref b, .int (xs 1), .ref a1]) rfl ?_
  refine va_sld hx hb hXs hbl hbA hS (i := 2) (show ¬ ((2 : Int32) < 0 ∨ 6 ≤ (2 : Int32).toNatClampNeg) by decide) dL_law_765 ?_
  refine W.eq (g2 := F0 m 766 ls [.int (xs 2), .int (xs 1), .ref a1]) rfl ?_
  rw [hf]
  refine W.eq (g2 := F0 m 766 ls [.int 2, .int (xs 1), .ref a1]) rfl ?_
  refine lv_aload_n hx hb dL_law_766 rfl (lv_at hl 5 rfl) ?_
  refine lv_iload hx hb dL_law_767 (lv_at hl 1 rfl) ?_
  refine lv_iconst (v := 3) hx hb dL_law_769 (by decide) ?_
  refine lv_iadd hx hb dL_law_770 ?_
  refine W.eq (g2 := F0 m 771 ls [.int 3, .ref b, .int 2, .int (xs 1), .ref a1]) rfl ?_
  refine va_sld hx hb hXs hbl hbA hS (i := 3) (show ¬ ((3 : Int32) < 0 ∨ 6 ≤ (3 : Int32).toNatClampNeg) by decide) dL_law_771 ?_
  refine W.eq (g2 := F0 m 772 ls [.int (xs 3), .int 2, .int (xs 1), .ref a1]) rfl ?_
  refine lv_aload_n hx hb dL_law_772 rfl (lv_at hl 5 rfl) ?_
  refine lv_iload hx hb dL_law_773 (lv_at hl 1 rfl) ?_
  refine lv_iconst (v := 4) hx hb dL_law_775 (by decide) ?_
  refine lv_iadd hx hb dL_law_776 ?_
  refine W.eq (g2 := F0 m 777 ls [.int 4, .ref b, .int (xs 3), .int 2, .int (xs 1), .ref a1]) rfl ?_
  refine va_sld hx hb hXs hbl hbA hS (i := 4) (show ¬ ((4 : Int32) < 0 ∨ 6 ≤ (4 : Int32).toNatClampNeg) by decide) dL_law_777 ?_
  refine W.eq (g2 := F0 m 778 ls [.int (xs 4), .int (xs 3), .int 2, .int (xs 1), .ref a1]) rfl ?_
  obtain ⟨hPc, hDc, hFc⟩ := xcut (wc := [(a1, .inr (5, [v18, .ref a10, v19, v20, v21, v22, v23, v24, v25, v26, v27, v28, v29, v30, v31, v32, v33, v34, v35, v36, v37, v38, v39, v40, .ref a7, .ref a8, v41, v42, v43, v44, v45, v46])), (a7, .inl (cT 5, 8, .inr (.inr (.inr (.inr f58))))), (a8, .inl (cT 1, 8, .inl f61)), (a9, .inl (cT 0, 4096, .inl f64)), (a10, .inl (cT 4, 1024, .inr (.inr (.inr (.inr f69))))), (a11, .inl (cT 0, 4096, .inl f72))]) hP hD hS hA [0, 2, 3, 4, 5, 6] rfl rfl (by decide)
  refine va_callv (va_runV (C := "ValueBenchModel") (As := [.int (xs 1), .int 2, .int (xs 3), .int (xs 4)]) (rest := []) ⟨hx, hb, hml, hown, htx⟩ (cM_sort0_13 l hl9 D cT aK aV H.size a1 a7 a8 a9 a10 a11 (xs 1) (xs 3) (xs 4) v18 v19 v20 v21 v22 v23 v24 v25 v26 v27 v28 v29 v30 v31 v32 v33 v34 v35 v36 v37 v38 v39 v40 v41 v42 v43 v44 v45 v46 f58 f61 f64 f69 f72 hto1 hto2 hto3 hto4 ha1 ha2 ha3 ha4 hb1 hb2 hb3 hb4 (by first | rfl | exact h52 | exact h54 | exact h57 | exact h59 | exact h60 | exact h62 | exact h63 | exact h65 | exact h66 | exact h67 | exact h68 | exact h70 | exact h71 | exact h73 | exact h74 | exact h75 | exact h76) (by first | rfl | exact h52 | exact h54 | exact h57 | exact h59 | exact h60 | exact h62 | exact h63 | exact h65 | exact h66 | exact h67 | exact h68 | exact h70 | exact h71 | exact h73 | exact h74 | exact h75 | exact h76) (by first | rfl | exact h52 | exact h54 | exact h57 | exact h59 | exact h60 | exact h62 | exact h63 | exact h65 | exact h66 | exact h67 | exact h68 | exact h70 | exact h71 | exact h73 | exact h74 | exact h75 | exact h76) (by first | rfl | exact h52 | exact h54 | exact h57 | exact h59 | exact h60 | exact h62 | exact h63 | exact h65 | exact h66 | exact h67 | exact h68 | exact h70 | exact h71 | exact h73 | exact h74 | exact h75 | exact h76) (by first | rfl | exact h52 | exact h54 | exact h57 | exact h59 | exact h60 | exact h62 | exact h63 | exact h65 | exact h66 | exact h67 | exact h68 | exact h70 | exact h71 | exact h73 | exact h74 | exact h75 | exact h76) (by first | rfl | exact h52 | exact h54 | exact h57 | exact h59 | exact h60 | exact h62 | exact h63 | exact h65 | exact h66 | exact h67 | exact h68 | exact h70 | exact h71 | exact h73 | exact h74 | exact h75 | exact h76) (by first | rfl | exact h52 | exact h54 | exact h57 | exact h59 | exact h60 | exact h62 | exact h63 | exact h65 | exact h66 | exact h67 | exact h68 | exact h70 | exact h71 | exact h73 | exact h74 | exact h75 | exact h76) (by first | rfl | exact h52 | exact h54 | exact h57 | exact h59 | exact h60 | exact h62 | exact h63 | exact h65 | exact h66 | exact h67 | exact h68 | exact h70 | exact h71 | exact h73 | exact h74 | exact h75 | exact h76) (by first | rfl | exact h52 | exact h54 | exact h57 | exact h59 | exact h60 | exact h62 | exact h63 | exact h65 | exact h66 | exact h67 | exact h68 | exact h70 | exact h71 | exact h73 | exact h74 | exact h75 | exact h76) (by first | rfl | exact h52 | exact h54 | exact h57 | exact h59 | exact h60 | exact h62 | exact h63 | exact h65 | exact h66 | exact h67 | exact h68 | exact h70 | exact h71 | exact h73 | exact h74 | exact h75 | exact h76) (by first | rfl | exact h52 | exact h54 | exact h57 | exact h59 | exact h60 | exact h62 | exact h63 | exact h65 | exact h66 | exact h67 | exact h68 | exact h70 | exact h71 | exact h73 | exact h74 | exact h75 | exact h76) (by first | rfl | exact h52 | exact h54 | exact h57 | exact h59 | exact h60 | exact h62 | exact h63 | exact h65 | exact h66 | exact h67 | exact h68 | exact h70 | exact h71 | exact h73 | exact h74 | exact h75 | exact h76) (by first | rfl | exact h52 | exact h54 | exact h57 | exact h59 | exact h60 | exact h62 | exact h63 | exact h65 | exact h66 | exact h67 | exact h68 | exact h70 | exact h71 | exact h73 | exact h74 | exact h75 | exact h76) (by first | rfl | exact h52 | exact h54 | exact h57 | exact h59 | exact h60 | exact h62 | exact h63 | exact h65 | exact h66 | exact h67 | exact h68 | exact h70 | exact h71 | exact h73 | exact h74 | exact h75 | exact h76)) ⟨callB_of 4 htx (xw_goodC kw_7_131) rfl rfl rfl (htx _ kw_1_5) (htx _ kw_7_128) ⟨by decide, by decide, by decide +kernel⟩ ⟨Nat.le_of_ble_eq_true rfl, Nat.le_of_ble_eq_true rfl⟩, (htx _ kw_7_129), (htx _ kw_7_130)⟩ ⟨xPre_blind, va_recv hK hP (ci := 5) rfl (q0 := 0) rfl, (fun U hU hW => ⟨rfl, xPre_of hZ hS hFc hPc hDc hK U hU hW⟩)⟩ rfl rfl hl.1 rfl (lv_room (Nat.le_of_ble_eq_true rfl)) dL_law_778 ⟨Nat.le_of_ble_eq_true rfl, Nat.le_of_ble_eq_true rfl⟩) hS (fun q _ h => hFc q h) hFc (fun u9 t H1 locs ht hvm hr9 hB hz1 hk1 hS => ?_)
  obtain ⟨q2, q3, hP1, hK1, hD1⟩ := hB
  rw [ht] at hP1
  obtain ⟨hP, hD⟩ := xjoin (W := [(a2, .inl (cT 2, 1, .inr (.inl f47))), (a0, .inr (0, [v12, v13, v14, .ref a4, .ref b15, .ref a3, v16, .int 1])), (a3, .inr (2, [v48, .int 0, .int 0])), (a4, .inl (cT 3, 8, .inr (.inr (.inr (.inr f51))))), (a5, .inr (2, [.ref a6, .int 1, v55])), (a6, .inl (cT 2, 4096, .inr (.inl f56))), (a1, .inr (5, [.int 2, .ref a10, .int 2, v20, .int 0, v22, v23, .int 0, .int 1, .int 0, v27, v28, .int 0, v30, v31, .ref a11, .int 4, .int 4, .int 0, .int 100, v37, v38, .int 0, .int 1000000000, .ref a7, .ref a8, v41, v42, v43, v44, .int 1, v46])), (a7, .inl (cT 5, 8, .inr (.inr (.inr (.inr f58))))), (a8, .inl (cT 1, 8, .inl f61)), (a9, .inl (cT 0, 4096, .inl f64)), (a10, .inl (cT 4, 1024, .inr (.inr (.inr (.inr (va_up (va_up f69 0 (some q2)) 1 (some q3))))))), (a11, .inl (cT 0, 4096, .inl f72)), (q2, .inr (6, [.int 0, .long 0, .int 0, .int 0, .int 0, .int 1])), (q3, .inr (6, [.int 0, .long 0, .int 0, .int 0, .int 0, .int 1]))]) hP hD [0, 2, 3, 4, 5, 6] [1, 7, 8, 9, 10, 11] 6 rfl rfl (by decide) (by decide) hk1 hFc hP1 hD1
  generalize H1 = H at hP hS ⊢
  refine lv_aload_n hx hb dL_law_781 rfl (lv_at hl 3 rfl) ?_
  obtain ⟨hPc, hDc, hFc⟩ := xcut (wc := [(a1, .inr (5, [.int 2, .ref a10, .int 2, v20, .int 0, v22, v23, .int 0, .int 1, .int 0, v27, v28, .int 0, v30, v31, .ref a11, .int 4, .int 4, .int 0, .int 100, v37, v38, .int 0, .int 1000000000, .ref a7, .ref a8, v41, v42, v43, v44, .int 1, v46]))]) hP hD hS hA [6] rfl rfl (by decide)
  refine va_calli (va_runV (C := "ValueBenchModel") (As := []) (rest := []) ⟨hx, hb, hml, hown, htx⟩ (cM_thrown_2 l hl9 D cT aK aV H.size a1 (.ref a10) (.int 2) v20 (.int 0) v22 v23 (.int 0) (.int 1) (.int 0) v27 v28 (.int 0) v30 v31 (.ref a11) (.int 4) (.int 4) (.int 0) (.int 100) v37 v38 (.int 0) (.int 1000000000) (.ref a7) (.ref a8) v41 v42 v43 v44 (.int 1) v46) ⟨callB_of 0 htx (xw_goodC kw_5_187) rfl rfl rfl (htx _ kw_1_5) (htx _ kw_5_184) ⟨by decide, by decide, by decide +kernel⟩ ⟨Nat.le_of_ble_eq_true rfl, Nat.le_of_ble_eq_true rfl⟩, (htx _ kw_5_185), (htx _ kw_5_186)⟩ ⟨xPre_blind, va_recv hK hP (ci := 5) rfl (q0 := 6) rfl, (fun U hU hW => ⟨rfl, xPre_of hZ hS hFc hPc hDc hK U hU hW⟩)⟩ rfl rfl hl.1 rfl (lv_room (Nat.le_of_ble_eq_true rfl)) dL_law_782 ⟨Nat.le_of_ble_eq_true rfl, Nat.le_of_ble_eq_true rfl⟩) hS (fun q _ h => hFc q h) hFc (fun r4 u9 t H1 locs ht hvm hr9 hB hz1 hk1 hS => ?_)
  obtain ⟨hP1, hK1, hD1⟩ := hB
  rw [ht] at hP1
  obtain ⟨hP, hD⟩ := xjoin (W := [(a2, .inl (cT 2, 1, .inr (.inl f47))), (a0, .inr (0, [v12, v13, v14, .ref a4, .ref b15, .ref a3, v16, .int 1])), (a3, .inr (2, [v48, .int 0, .int 0])), (a4, .inl (cT 3, 8, .inr (.inr (.inr (.inr f51))))), (a5, .inr (2, [.ref a6, .int 1, v55])), (a6, .inl (cT 2, 4096, .inr (.inl f56))), (a7, .inl (cT 5, 8, .inr (.inr (.inr (.inr f58))))), (a8, .inl (cT 1, 8, .inl f61)), (a9, .inl (cT 0, 4096, .inl f64)), (a10, .inl (cT 4, 1024, .inr (.inr (.inr (.inr (va_up (va_up f69 0 (some q2)) 1 (some q3))))))), (a11, .inl (cT 0, 4096, .inl f72)), (q2, .inr (6, [.int 0, .long 0, .int 0, .int 0, .int 0, .int 1])), (q3, .inr (6, [.int 0, .long 0, .int 0, .int 0, .int 0, .int 1])), (a1, .inr (5, [.int 2, .ref a10, .int 2, v20, .int 0, v22, v23, .int 0, .int 1, .int 0, v27, v28, .int 0, v30, v31, .ref a11, .int 4, .int 4, .int 0, .int 100, v37, v38, .int 0, .int 1000000000, .ref a7, .ref a8, v41, v42, v43, v44, .int 1, v46]))]) hP hD [6] [0, 1, 2, 3, 4, 5, 7, 8, 9, 10, 11, 12, 13] 13 rfl rfl (by decide) (by decide) hk1 hFc hP1 hD1
  generalize H1 = H at hP hS ⊢
  rw [hr9]
  refine W.eq (g2 := F0 m 785 ls [.int 2]) rfl ?_
  refine lv_iload hx hb dL_law_785 (lv_at hl 0 rfl) ?_
  refine lv_icmp_eq (tgt := 792) hx hb dL_law_787 (by decide) (fun _ => ?_) (fun h => ((by revert h; decide : False)).elim)
  refine lv_goto (tgt := 906) hx hb dL_law_792 (by decide) ?_
  refine lv_iinc (v := 6) (lv' := [(4, .int 6), (5, .int 2), (3, .ref a2), (2, .ref a1), (1, .ref a0), (0, .ref b)]) hx hb dL_law_906 hl (k := 1) rfl (by decide) (by decide) rfl (fun ls hl => ?_)
  refine lv_goto (tgt := 23) hx hb dL_law_909 (by decide) ?_
  refine lv_iload hx hb dL_law_23 (lv_at hl 0 rfl) ?_
  refine lv_aload_n hx hb dL_law_25 rfl (lv_at hl 5 rfl) ?_
  refine va_slen hx hb hXs hbl hbA hS dL_law_26 ?_
  refine W.eq (g2 := F0 m 27 ls [.int 6, .int 6]) rfl ?_
  refine lv_bipush (v := 6) hx hb dL_law_27 (by decide) ?_
  refine lv_isub hx hb dL_law_29 ?_
  refine W.eq (g2 := F0 m 30 ls [.int 0, .int 6]) rfl ?_
  refine lv_icmp_gt (tgt := 912) hx hb dL_law_30 (by decide) (fun _ => ?_) (fun h => ((by revert h; decide : False)).elim)
  refine lv_iconst (v := 1) hx hb dL_law_912 (by decide) ?_
  exact va_forget (fun q h => hA2 _ (hS.2.2 q h)) (W.widen (k := 600002) (n := 7302232) (Nat.le_of_ble_eq_true rfl) (Nat.le_of_ble_eq_true rfl) (lw_ret hx hb hr hlocks dL_law_913))
set_option maxHeartbeats 400000000 in
set_option maxRecDepth 100000 in
theorem lf_sort3_p4 {p : Program} {e : Env} {s : State} {m : MethodId} {below : List Frame} {meth : Method} {c : Code} (l : Launch) (hl9 : l.stackTraces = false) (D : va_G) (cT : Nat → ClassId) (aK aV : Nat → Nat) {A : Nat → Prop} {b : Nat} {xs : Nat → Int32} (C : xLw p s m meth c b D cT aK aV A) {H : Heap} {locs : List Loc} {ls : Array Slot} (a0 : Nat) (a1 : Nat) (a2 : Nat) (a3 : Nat) (a4 : Nat) (a5 : Nat) (a6 : Nat) (a7 : Nat) (a8 : Nat) (a9 : Nat) (a10 : Nat) (v11 : Value) (v12 : Value) (v13 : Value) (b14 : Nat) (v15 : Value) (v16 : Value) (v17 : Value) (v18 : Value) (v19 : Value) (v20 : Value) (v21 : Value) (v22 : Value) (v23 : Value) (v24 : Value) (v25 : Value) (v26 : Value) (v27 : Value) (v28 : Value) (v29 : Value) (v30 : Value) (v31 : Value) (v32 : Value) (v33 : Value) (v34 : Value) (v35 : Value) (v36 : Value) (v37 : Value) (v38 : Value) (v39 : Value) (v40 : Value) (v41 : Value) (v42 : Value) (v43 : Value) (v44 : Value) (v45 : Value) (f46 : Nat → Int64) (v47 : Value) (v48 : Value) (v49 : Value) (f50 : Nat → Option Nat) (v53 : Value) (f54 : Nat → Int64) (f56 : Nat → Option Nat) (f59 : Nat → Int32) (f62 : Nat → Int32) (f67 : Nat → Option Nat) (h51 : f50 (xs 3).toNatClampNeg = some a5) (h52 : f50 (xs 4).toNatClampNeg = some a5) (h55 : f54 0 = 0) (h57 : f56 (xs 3).toNatClampNeg = some a9) (h58 : f56 (xs 4).toNatClampNeg = some a9) (h60 : f59 (xs 3).toNatClampNeg = 4) (h61 : f59 (xs 4).toNatClampNeg = 4) (h63 : f62 0 = 110) (h64 : f62 1 = 117) (h65 : f62 2 = 108) (h66 : f62 3 = 108) (h68 : f67 0 = none) (h69 : f67 1 = none) (hto1 : ¬ (xs 1) < 0) (hto2 : ¬ 7 < (xs 1)) (hto3 : (xs 1) ≤ 7) (hto4 : vp_in (xs 1) 8) (hf : xs 2 = 3) (ha1 : ¬ (xs 3) < 0) (ha2 : ¬ 7 < (xs 3)) (ha3 : (xs 3) ≤ 7) (ha4 : vp_in (xs 3) 8) (hb1 : ¬ (xs 4) < 0) (hb2 : ¬ 7 < (xs 4)) (hb3 : (xs 4) ≤ 7) (hb4 : vp_in (xs 4) 8) (hXs : va_X b 6 xs s s.heap) (hP : va_P D xcl [(a0, .inr (0, [v11, v12, v13, .ref a4, .ref b14, .ref a3, v15, v16])), (a1, .inr (5, [v17, .ref a10, v18, v19, v20, v21, v22, v23, v24, v25, v26, v27, v28, v29, v30, v31, v32, v33, v34, v35, v36, v37, v38, v39, .ref a7, .ref a8, v40, v41, v42, v43, v44, v45])), (a2, .inl (cT 2, 1, .inr (.inl f46))), (a3, .inr (2, [v47, v48, v49])), (a4, .inl (cT 3, 8, .inr (.inr (.inr (.inr f50))))), (a5, .inr (2, [.ref a6, .int 1, v53])), (a6, .inl (cT 2, 4096, .inr (.inl f54))), (a7, .inl (cT 5, 8, .inr (.inr (.inr (.inr f56))))), (a8, .inl (cT 1, 8, .inl f59)), (a9, .inl (cT 0, 4096, .inl f62)), (a10, .inl (cT 4, 1024, .inr (.inr (.inr (.inr f67)))))] H) (hD : va_D A [(a0, .inr (0, [v11, v12, v13, .ref a4, .ref b14, .ref a3, v15, v16])), (a1, .inr (5, [v17, .ref a10, v18, v19, v20, v21, v22, v23, v24, v25, v26, v27, v28, v29, v30, v31, v32, v33, v34, v35, v36, v37, v38, v39, .ref a7, .ref a8, v40, v41, v42, v43, v44, v45])), (a2, .inl (cT 2, 1, .inr (.inl f46))), (a3, .inr (2, [v47, v48, v49])), (a4, .inl (cT 3, 8, .inr (.inr (.inr (.inr f50))))), (a5, .inr (2, [.ref a6, .int 1, v53])), (a6, .inl (cT 2, 4096, .inr (.inl f54))), (a7, .inl (cT 5, 8, .inr (.inr (.inr (.inr f56))))), (a8, .inl (cT 1, 8, .inl f59)), (a9, .inl (cT 0, 4096, .inl f62)), (a10, .inl (cT 4, 1024, .inr (.inr (.inr (.inr f67)))))]) (hS : va_S A s.heap H locs) (hl : lv_has ls 8 [(4, .int 0), (3, .ref a2), (2, .ref a1), (1, .ref a0), (0, .ref b)]) : W p l e room_1 s m #[Value.ref b] below meth c H locs 54 107242 (lw_Z below #[Value.ref b] s) (F0 m 723 ls []) := by
  obtain ⟨hx, hb, hr, hml, hown, htx, hbl, hbA, hlocks, hK, hZ, hA, hA2⟩ := C
  refine lv_aload_n hx hb dL_law_723 rfl (lv_at hl 3 rfl) ?_
  refine lv_aload_n hx hb dL_law_724 rfl (lv_at hl 4 rfl) ?_
  refine lv_iload hx hb dL_law_725 (lv_at hl 0 rfl) ?_
  refine lv_iconst (v := 1) hx hb dL_law_727 (by decide) ?_
  refine lv_iadd hx hb dL_law_728 ?_
  refine W.eq (g2 := F0 m 729 ls [.int 1, .ref b, .ref a0]) rfl ?_
  refine va_sld hx hb hXs hbl hbA hS (i := 1) (show ¬ ((1 : Int32) < 0 ∨ 6 ≤ (1 : Int32).toNatClampNeg) by decide) dL_law_729 ?_
  refine W.eq (g2 := F0 m 730 ls [.int (xs 1), .ref a0]) rfl ?_
  refine lv_aload_n hx hb dL_law_730 rfl (lv_at hl 4 rfl) ?_
  refine lv_iload hx hb dL_law_731 (lv_at hl 0 rfl) ?_
  refine lv_iconst (v := 2) hx hb dL_law_733 (by decide) ?_
  refine lv_iadd hx hb dL_law_734 ?_
  refine W.eq (g2 := F0 m 735 ls [.int 2, .ref b, .int (xs 1), .ref a0]) rfl ?_
  refine va_sld hx hb hXs hbl hbA hS (i := 2) (show ¬ ((2 : Int32) < 0 ∨ 6 ≤ (2 : Int32).toNatClampNeg) by decide) dL_law_735 ?_
  refine W.eq (g2 := F0 m 736 ls [.int (xs 2), .int (xs 1), .ref a0]) rfl ?_
  rw [hf]
  refine W.eq (g2 := F0 m 736 ls [.int 3, .int (xs 1), .ref a0]) rfl ?_
  refine lv_aload_n hx hb dL_law_736 rfl (lv_at hl 4 rfl) ?_
  refine lv_iload hx hb dL_law_737 (lv_at hl 0 rfl) ?_
  refine lv_iconst (v := 3) hx hb dL_law_739 (by decide) ?_
  refine lv_iadd hx hb dL_law_740 ?_
  refine W.eq (g2 := F0 m 741 ls [.int 3, .ref b, .int 3, .int (xs 1), .ref a0]) rfl ?_
  refine va_sld hx hb hXs hbl hbA hS (i := 3) (show ¬ ((3 : Int32) < 0 ∨ 6 ≤ (3 : Int32).toNatClampNeg) by decide) dL_law_741 ?_
  refine W.eq (g2 := F0 m 742 ls [.int (xs 3), .int 3, .int (xs 1), .ref a0]) rfl ?_
  refine lv_aload_n hx hb dL_law_742 rfl (lv_at hl 4 rfl) ?_
  refine lv_iload hx hb dL_law_743 (lv_at hl 0 rfl) ?_
  refine lv_iconst (v := 4) hx hb dL_law_745 (by decide) ?_
  refine lv_iadd hx hb dL_law_746 ?_
  refine W.eq (g2 := F0 m 747 ls [.int 4, .ref b, .int (xs 3), .int 3, .int (xs 1), .ref a0]) rfl ?_
  refine va_sld hx hb hXs hbl hbA hS (i := 4) (show ¬ ((4 : Int32) < 0 ∨ 6 ≤ (4 : Int32).toNatClampNeg) by decide) dL_law_747 ?_
  refine W.eq (g2 := F0 m 748 ls [.int (xs 4), .int (xs 3), .int 3, .int (xs 1), .ref a0]) rfl ?_
  obtain ⟨hPc, hDc, hFc⟩ := xcut (wc := [(a0, .inr (0, [v11, v12, v13, .ref a4, .ref b14, .ref a3, v15, v16])), (a3, .inr (2, [v47, v48, v49])), (a4, .inl (cT 3, 8, .inr (.inr (.inr (.inr f50))))), (a5, .inr (2, [.ref a6, .int 1, v53])), (a6, .inl (cT 2, 4096, .inr (.inl f54)))]) hP hD hS hA [0, 3, 4, 5, 6] rfl rfl (by decide)
  refine va_calli (vx_runSW (As := [.ref a0, .int (xs 1), .int 3, .int (xs 3), .int (xs 4)]) (rest := []) ⟨hx, hb, hml, hown, htx⟩ (cL_sort_14 l hl9 D cT aK aV H.size a0 a3 a4 a5 a6 (xs 1) (xs 3) (xs 4) v11 v12 v13 b14 v15 v16 v47 v48 v49 f50 v53 f54 hto1 hto2 hto3 hto4 ha1 ha2 ha3 ha4 hb1 hb2 hb3 hb4 (by first | rfl | exact h51 | exact h52 | exact h55 | exact h57 | exact h58 | exact h60 | exact h61 | exact h63 | exact h64 | exact h65 | exact h66 | exact h68 | exact h69) (by first | rfl | exact h51 | exact h52 | exact h55 | exact h57 | exact h58 | exact h60 | exact h61 | exact h63 | exact h64 | exact h65 | exact h66 | exact h68 | exact h69) (by first | rfl | exact h51 | exact h52 | exact h55 | exact h57 | exact h58 | exact h60 | exact h61 | exact h63 | exact h64 | exact h65 | exact h66 | exact h68 | exact h69)) (xcSW 5 htx (xw_goodC kw_5_14) rfl rfl rfl (htx _ kw_1_0) (htx _ kw_5_12) ⟨by decide, by decide, by decide +kernel⟩ ⟨Nat.le_of_ble_eq_true rfl, Nat.le_of_ble_eq_true rfl⟩ (htx _ kw_5_13)) ⟨xPre_blind, (fun U hU hW => ⟨rfl, xPre_of hZ hS hFc hPc hDc hK U hU hW⟩)⟩ rfl rfl hl.1 rfl (lv_room (Nat.le_of_ble_eq_true rfl)) dL_law_748 ⟨Nat.le_of_ble_eq_true rfl, Nat.le_of_ble_eq_true rfl⟩) hS (fun q _ h => hFc q h) hFc (fun r1 u9 t H1 locs ht hvm hr9 hB hz1 hk1 hS => ?_)
  obtain ⟨hP1, hK1, hD1⟩ := hB
  rw [ht] at hP1
  obtain ⟨hP, hD⟩ := xjoin (W := [(a1, .inr (5, [v17, .ref a10, v18, v19, v20, v21, v22, v23, v24, v25, v26, v27, v28, v29, v30, v31, v32, v33, v34, v35, v36, v37, v38, v39, .ref a7, .ref a8, v40, v41, v42, v43, v44, v45])), (a2, .inl (cT 2, 1, .inr (.inl f46))), (a7, .inl (cT 5, 8, .inr (.inr (.inr (.inr f56))))), (a8, .inl (cT 1, 8, .inl f59)), (a9, .inl (cT 0, 4096, .inl f62)), (a10, .inl (cT 4, 1024, .inr (.inr (.inr (.inr f67))))), (a0, .inr (0, [v11, v12, v13, .ref a4, .ref b14, .ref a3, v15, .int 1])), (a3, .inr (2, [v47, .int 0, .int 0])), (a4, .inl (cT 3, 8, .inr (.inr (.inr (.inr f50))))), (a5, .inr (2, [.ref a6, .int 1, v53])), (a6, .inl (cT 2, 4096, .inr (.inl f54)))]) hP hD [0, 3, 4, 5, 6] [1, 2, 7, 8, 9, 10] 6 rfl rfl (by decide) (by decide) hk1 hFc hP1 hD1
  generalize H1 = H at hP hS ⊢
  rw [hr9]
  refine W.eq (g2 := F0 m 751 ls [.int 2]) rfl ?_
  refine lv_istore (lv' := [(5, .int 2), (4, .int 0), (3, .ref a2), (2, .ref a1), (1, .ref a0), (0, .ref b)]) hx hb dL_law_751 hl (by decide) rfl (fun ls hl => ?_)
  refine lv_aload_n hx hb dL_law_753 rfl (lv_at hl 3 rfl) ?_
  refine lv_aload_n hx hb dL_law_754 rfl (lv_at hl 5 rfl) ?_
  refine lv_iload hx hb dL_law_755 (lv_at hl 1 rfl) ?_
  refine lv_iconst (v := 1) hx hb dL_law_757 (by decide) ?_
  refine lv_iadd hx hb dL_law_758 ?_
  refine W.eq (g2 := F0 m 759 ls [.int 1, .ref b, .ref a1]) rfl ?_
  refine va_sld hx hb hXs hbl hbA hS (i := 1) (show ¬ ((1 : Int32) < 0 ∨ 6 ≤ (1 : Int32).toNatClampNeg) by decide) dL_law_759 ?_
  refine W.eq (g2 := F0 m 760 ls [.int (xs 1), .ref a1]) rfl ?_
  refine lv_aload_n hx hb dL_law_760 rfl (lv_at hl 5 rfl) ?_
  refine lv_iload hx hb dL_law_761 (lv_at hl 1 rfl) ?_
  refine lv_iconst (v := 2) hx hb dL_law_763 (by decide) ?_
  refine lv_iadd hx hb dL_law_764 ?_
  refine W.eq (g2 := F0 m 765 ls [.int 2, .ref b, .int (xs 1), .ref a1]) rfl ?_
  refine va_sld hx hb hXs hbl hbA hS (i := 2) (show ¬ ((2 : Int32) < 0 ∨ 6 ≤ (2 : Int32).toNatClampNeg) by decide) dL_law_765 ?_
  refine W.eq (g2 := F0 m 766 ls [.int (xs 2), .int (xs 1), .ref a1]) rfl ?_
  rw [hf]
  refine W.eq (g2 := F0 m 766 ls [.int 3, .int (xs 1), .ref a1]) rfl ?_
  refine lv_aload_n hx hb dL_law_766 rfl (lv_at hl 5 rfl) ?_
  refine lv_iload hx hb dL_law_767 (lv_at hl 1 rfl) ?_
  refine lv_iconst (v := 3) hx hb dL_law_769 (by decide) ?_
  refine lv_iadd hx hb dL_law_770 ?_
  refine W.eq (g2 := F0 m 771 ls [.int 3, .ref b, .int 3, .int (xs 1), .ref a1]) rfl ?_
  refine va_sld hx hb hXs hbl hbA hS (i := 3) (show ¬ ((3 : Int32) < 0 ∨ 6 ≤ (3 : Int32).toNatClampNeg) by decide) dL_law_771 ?_
  refine W.eq (g2 := F0 m 772 ls [.int (xs 3), .int 3, .int (xs 1), .ref a1]) rfl ?_
  refine lv_aload_n hx hb dL_law_772 rfl (lv_at hl 5 rfl) ?_
  refine lv_iload hx hb dL_law_773 (lv_at hl 1 rfl) ?_
  refine lv_iconst (v := 4) hx hb dL_law_775 (by decide) ?_
  refine lv_iadd hx hb dL_law_776 ?_
  refine W.eq (g2 := F0 m 777 ls [.int 4, .ref b, .int (xs 3), .int 3, .int (xs 1), .ref a1]) rfl ?_
  refine va_sld hx hb hXs hbl hbA hS (i := 4) (show ¬ ((4 : Int32) < 0 ∨ 6 ≤ (4 : Int32).toNatClampNeg) by decide) dL_law_777 ?_
  refine W.eq (g2 := F0 m 778 ls [.int (xs 4), .int (xs 3), .int 3, .int (xs 1), .ref a1]) rfl ?_
  obtain ⟨hPc, hDc, hFc⟩ := xcut (wc := [(a1, .inr (5, [v17, .ref a10, v18, v19, v20, v21, v22, v23, v24, v25, v26, v27, v28, v29, v30, v31, v32, v33, v34, v35, v36, v37, v38, v39, .ref a7, .ref a8, v40, v41, v42, v43, v44, v45])), (a7, .inl (cT 5, 8, .inr (.inr (.inr (.inr f56))))), (a8, .inl (cT 1, 8, .inl f59)), (a9, .inl (cT 0, 4096, .inl f62)), (a10, .inl (cT 4, 1024, .inr (.inr (.inr (.inr f67)))))]) hP hD hS hA [0, 2, 3, 4, 5] rfl rfl (by decide)
  refine va_callv (va_runV (C := "ValueBenchModel") (As := [.int (xs 1), .int 3, .int (xs 3), .int (xs 4)]) (rest := []) ⟨hx, hb, hml, hown, htx⟩ (cM_sort0_14 l hl9 D cT aK aV H.size a1 a7 a8 a9 a10 (xs 1) (xs 3) (xs 4) v17 v18 v19 v20 v21 v22 v23 v24 v25 v26 v27 v28 v29 v30 v31 v32 v33 v34 v35 v36 v37 v38 v39 v40 v41 v42 v43 v44 v45 f56 f59 f62 f67 hto1 hto2 hto3 hto4 ha1 ha2 ha3 ha4 hb1 hb2 hb3 hb4 (by first | rfl | exact h51 | exact h52 | exact h55 | exact h57 | exact h58 | exact h60 | exact h61 | exact h63 | exact h64 | exact h65 | exact h66 | exact h68 | exact h69) (by first | rfl | exact h51 | exact h52 | exact h55 | exact h57 | exact h58 | exact h60 | exact h61 | exact h63 | exact h64 | exact h65 | exact h66 | exact h68 | exact h69) (by first | rfl | exact h51 | exact h52 | exact h55 | exact h57 | exact h58 | exact h60 | exact h61 | exact h63 | exact h64 | exact h65 | exact h66 | exact h68 | exact h69) (by first | rfl | exact h51 | exact h52 | exact h55 | exact h57 | exact h58 | exact h60 | exact h61 | exact h63 | exact h64 | exact h65 | exact h66 | exact h68 | exact h69) (by first | rfl | exact h51 | exact h52 | exact h55 | exact h57 | exact h58 | exact h60 | exact h61 | exact h63 | exact h64 | exact h65 | exact h66 | exact h68 | exact h69) (by first | rfl | exact h51 | exact h52 | exact h55 | exact h57 | exact h58 | exact h60 | exact h61 | exact h63 | exact h64 | exact h65 | exact h66 | exact h68 | exact h69) (by first | rfl | exact h51 | exact h52 | exact h55 | exact h57 | exact h58 | exact h60 | exact h61 | exact h63 | exact h64 | exact h65 | exact h66 | exact h68 | exact h69) (by first | rfl | exact h51 | exact h52 | exact h55 | exact h57 | exact h58 | exact h60 | exact h61 | exact h63 | exact h64 | exact h65 | exact h66 | exact h68 | exact h69) (by first | rfl | exact h51 | exact h52 | exact h55 | exact h57 | exact h58 | exact h60 | exact h61 | exact h63 | exact h64 | exact h65 | exact h66 | exact h68 | exact h69) (by first | rfl | exact h51 | exact h52 | exact h55 | exact h57 | exact h58 | exact h60 | exact h61 | exact h63 | exact h64 | exact h65 | exact h66 | exact h68 | exact h69)) ⟨callB_of 4 htx (xw_goodC kw_7_131) rfl rfl rfl (htx _ kw_1_5) (htx _ kw_7_128) ⟨by decide, by decide, by decide +kernel⟩ ⟨Nat.le_of_ble_eq_true rfl, Nat.le_of_ble_eq_true rfl⟩, (htx _ kw_7_129), (htx _ kw_7_130)⟩ ⟨xPre_blind, va_recv hK hP (ci := 5) rfl (q0 := 0) rfl, (fun U hU hW => ⟨rfl, xPre_of hZ hS hFc hPc hDc hK U hU hW⟩)⟩ rfl rfl hl.1 rfl (lv_room (Nat.le_of_ble_eq_true rfl)) dL_law_778 ⟨Nat.le_of_ble_eq_true rfl, Nat.le_of_ble_eq_true rfl⟩) hS (fun q _ h => hFc q h) hFc (fun u9 t H1 locs ht hvm hr9 hB hz1 hk1 hS => ?_)
  obtain ⟨q2, q3, hP1, hK1, hD1⟩ := hB
  rw [ht] at hP1
  obtain ⟨hP, hD⟩ := xjoin (W := [(a2, .inl (cT 2, 1, .inr (.inl f46))), (a0, .inr (0, [v11, v12, v13, .ref a4, .ref b14, .ref a3, v15, .int 1])), (a3, .inr (2, [v47, .int 0, .int 0])), (a4, .inl (cT 3, 8, .inr (.inr (.inr (.inr f50))))), (a5, .inr (2, [.ref a6, .int 1, v53])), (a6, .inl (cT 2, 4096, .inr (.inl f54))), (a1, .inr (5, [.int 2, .ref a10, .int 2, v19, .int 0, v21, v22, .int 0, .int 1, .int 0, v26, v27, .int 0, v29, v30, .ref a9, .int 4, .int 4, .int 0, .int 100, v36, v37, .int 0, .int 1000000000, .ref a7, .ref a8, v40, v41, v42, v43, .int 1, v45])), (a7, .inl (cT 5, 8, .inr (.inr (.inr (.inr f56))))), (a8, .inl (cT 1, 8, .inl f59)), (a9, .inl (cT 0, 4096, .inl f62)), (a10, .inl (cT 4, 1024, .inr (.inr (.inr (.inr (va_up (va_up f67 0 (some q2)) 1 (some q3))))))), (q2, .inr (6, [.int 0, .long 0, .int 0, .int 0, .int 0, .int 1])), (q3, .inr (6, [.int 0, .long 0, .int 0, .int 0, .int 0, .int 1]))]) hP hD [0, 2, 3, 4, 5] [1, 6, 7, 8, 9, 10] 6 rfl rfl (by decide) (by decide) hk1 hFc hP1 hD1
  generalize H1 = H at hP hS ⊢
  refine lv_aload_n hx hb dL_law_781 rfl (lv_at hl 3 rfl) ?_
  obtain ⟨hPc, hDc, hFc⟩ := xcut (wc := [(a1, .inr (5, [.int 2, .ref a10, .int 2, v19, .int 0, v21, v22, .int 0, .int 1, .int 0, v26, v27, .int 0, v29, v30, .ref a9, .int 4, .int 4, .int 0, .int 100, v36, v37, .int 0, .int 1000000000, .ref a7, .ref a8, v40, v41, v42, v43, .int 1, v45]))]) hP hD hS hA [6] rfl rfl (by decide)
  refine va_calli (va_runV (C := "ValueBenchModel") (As := []) (rest := []) ⟨hx, hb, hml, hown, htx⟩ (cM_thrown_2 l hl9 D cT aK aV H.size a1 (.ref a10) (.int 2) v19 (.int 0) v21 v22 (.int 0) (.int 1) (.int 0) v26 v27 (.int 0) v29 v30 (.ref a9) (.int 4) (.int 4) (.int 0) (.int 100) v36 v37 (.int 0) (.int 1000000000) (.ref a7) (.ref a8) v40 v41 v42 v43 (.int 1) v45) ⟨callB_of 0 htx (xw_goodC kw_5_187) rfl rfl rfl (htx _ kw_1_5) (htx _ kw_5_184) ⟨by decide, by decide, by decide +kernel⟩ ⟨Nat.le_of_ble_eq_true rfl, Nat.le_of_ble_eq_true rfl⟩, (htx _ kw_5_185), (htx _ kw_5_186)⟩ ⟨xPre_blind, va_recv hK hP (ci := 5) rfl (q0 := 6) rfl, (fun U hU hW => ⟨rfl, xPre_of hZ hS hFc hPc hDc hK U hU hW⟩)⟩ rfl rfl hl.1 rfl (lv_room (Nat.le_of_ble_eq_true rfl)) dL_law_782 ⟨Nat.le_of_ble_eq_true rfl, Nat.le_of_ble_eq_true rfl⟩) hS (fun q _ h => hFc q h) hFc (fun r4 u9 t H1 locs ht hvm hr9 hB hz1 hk1 hS => ?_)
  obtain ⟨hP1, hK1, hD1⟩ := hB
  rw [ht] at hP1
  obtain ⟨hP, hD⟩ := xjoin (W := [(a2, .inl (cT 2, 1, .inr (.inl f46))), (a0, .inr (0, [v11, v12, v13, .ref a4, .ref b14, .ref a3, v15, .int 1])), (a3, .inr (2, [v47, .int 0, .int 0])), (a4, .inl (cT 3, 8, .inr (.inr (.inr (.inr f50))))), (a5, .inr (2, [.ref a6, .int 1, v53])), (a6, .inl (cT 2, 4096, .inr (.inl f54))), (a7, .inl (cT 5, 8, .inr (.inr (.inr (.inr f56))))), (a8, .inl (cT 1, 8, .inl f59)), (a9, .inl (cT 0, 4096, .inl f62)), (a10, .inl (cT 4, 1024, .inr (.inr (.inr (.inr (va_up (va_up f67 0 (some q2)) 1 (some q3))))))), (q2, .inr (6, [.int 0, .long 0, .int 0, .int 0, .int 0, .int 1])), (q3, .inr (6, [.int 0, .long 0, .int 0, .int 0, .int 0, .int 1])), (a1, .inr (5, [.int 2, .ref a10, .int 2, v19, .int 0, v21, v22, .int 0, .int 1, .int 0, v26, v27, .int 0, v29, v30, .ref a9, .int 4, .int 4, .int 0, .int 100, v36, v37, .int 0, .int 1000000000, .ref a7, .ref a8, v40, v41, v42, v43, .int 1, v45]))]) hP hD [6] [0, 1, 2, 3, 4, 5, 7, 8, 9, 10, 11, 12] 12 rfl rfl (by decide) (by decide) hk1 hFc hP1 hD1
  generalize H1 = H at hP hS ⊢
  rw [hr9]
  refine W.eq (g2 := F0 m 785 ls [.int 2]) rfl ?_
  refine lv_iload hx hb dL_law_785 (lv_at hl 0 rfl) ?_
  refine lv_icmp_eq (tgt := 792) hx hb dL_law_787 (by decide) (fun _ => ?_) (fun h => ((by revert h; decide : False)).elim)
  refine lv_goto (tgt := 906) hx hb dL_law_792 (by decide) ?_
  refine lv_iinc (v := 6) (lv' := [(4, .int 6), (5, .int 2), (3, .ref a2), (2, .ref a1), (1, .ref a0), (0, .ref b)]) hx hb dL_law_906 hl (k := 1) rfl (by decide) (by decide) rfl (fun ls hl => ?_)
  refine lv_goto (tgt := 23) hx hb dL_law_909 (by decide) ?_
  refine lv_iload hx hb dL_law_23 (lv_at hl 0 rfl) ?_
  refine lv_aload_n hx hb dL_law_25 rfl (lv_at hl 5 rfl) ?_
  refine va_slen hx hb hXs hbl hbA hS dL_law_26 ?_
  refine W.eq (g2 := F0 m 27 ls [.int 6, .int 6]) rfl ?_
  refine lv_bipush (v := 6) hx hb dL_law_27 (by decide) ?_
  refine lv_isub hx hb dL_law_29 ?_
  refine W.eq (g2 := F0 m 30 ls [.int 0, .int 6]) rfl ?_
  refine lv_icmp_gt (tgt := 912) hx hb dL_law_30 (by decide) (fun _ => ?_) (fun h => ((by revert h; decide : False)).elim)
  refine lv_iconst (v := 1) hx hb dL_law_912 (by decide) ?_
  exact va_forget (fun q h => hA2 _ (hS.2.2 q h)) (W.widen (k := 600002) (n := 7302232) (Nat.le_of_ble_eq_true rfl) (Nat.le_of_ble_eq_true rfl) (lw_ret hx hb hr hlocks dL_law_913))
set_option maxHeartbeats 400000000 in
set_option maxRecDepth 100000 in
theorem lf_sort3_p1 {p : Program} {e : Env} {s : State} {m : MethodId} {below : List Frame} {meth : Method} {c : Code} (l : Launch) (hl9 : l.stackTraces = false) (D : va_G) (cT : Nat → ClassId) (aK aV : Nat → Nat) {A : Nat → Prop} {b : Nat} {xs : Nat → Int32} (C : xLw p s m meth c b D cT aK aV A) {H : Heap} {locs : List Loc} {ls : Array Slot} (a0 : Nat) (a1 : Nat) (a2 : Nat) (a3 : Nat) (a4 : Nat) (a5 : Nat) (a6 : Nat) (a7 : Nat) (a8 : Nat) (a9 : Nat) (a10 : Nat) (v11 : Value) (v12 : Value) (v13 : Value) (b14 : Nat) (v15 : Value) (v16 : Value) (v17 : Value) (v18 : Value) (v19 : Value) (v20 : Value) (v21 : Value) (v22 : Value) (v23 : Value) (v24 : Value) (v25 : Value) (v26 : Value) (v27 : Value) (v28 : Value) (v29 : Value) (v30 : Value) (v31 : Value) (v32 : Value) (v33 : Value) (v34 : Value) (v35 : Value) (v36 : Value) (v37 : Value) (v38 : Value) (v39 : Value) (v40 : Value) (v41 : Value) (v42 : Value) (v43 : Value) (v44 : Value) (v45 : Value) (f46 : Nat → Int64) (v47 : Value) (v48 : Value) (v49 : Value) (f50 : Nat → Option Nat) (v53 : Value) (f54 : Nat → Int64) (f56 : Nat → Option Nat) (f59 : Nat → Int32) (f62 : Nat → Int32) (f67 : Nat → Option Nat) (h51 : f50 (xs 3).toNatClampNeg = some a5) (h52 : f50 (xs 4).toNatClampNeg = some a5) (h55 : f54 0 = 0) (h57 : f56 (xs 3).toNatClampNeg = some a9) (h58 : f56 (xs 4).toNatClampNeg = some a9) (h60 : f59 (xs 3).toNatClampNeg = 4) (h61 : f59 (xs 4).toNatClampNeg = 4) (h63 : f62 0 = 110) (h64 : f62 1 = 117) (h65 : f62 2 = 108) (h66 : f62 3 = 108) (h68 : f67 0 = none) (h69 : f67 1 = none) (hto1 : ¬ (xs 1) < 0) (hto2 : ¬ 7 < (xs 1)) (hto3 : (xs 1) ≤ 7) (hto4 : vp_in (xs 1) 8) (hf : xs 2 = 3) (ha1 : ¬ (xs 3) < 0) (ha2 : ¬ 7 < (xs 3)) (ha3 : (xs 3) ≤ 7) (ha4 : vp_in (xs 3) 8) (hb1 : ¬ (xs 4) < 0) (hb2 : ¬ 7 < (xs 4)) (hb3 : (xs 4) ≤ 7) (hb4 : vp_in (xs 4) 8) (hXs : va_X b 6 xs s s.heap) (hP : va_P D xcl [(a0, .inr (0, [v11, v12, v13, .ref a4, .ref b14, .ref a3, v15, v16])), (a1, .inr (5, [v17, .ref a10, v18, v19, v20, v21, v22, v23, v24, v25, v26, v27, v28, v29, v30, v31, v32, v33, v34, v35, v36, v37, v38, v39, .ref a7, .ref a8, v40, v41, v42, v43, v44, v45])), (a2, .inl (cT 2, 1, .inr (.inl f46))), (a3, .inr (2, [v47, v48, v49])), (a4, .inl (cT 3, 8, .inr (.inr (.inr (.inr f50))))), (a5, .inr (2, [.ref a6, .int 1, v53])), (a6, .inl (cT 2, 4096, .inr (.inl f54))), (a7, .inl (cT 5, 8, .inr (.inr (.inr (.inr f56))))), (a8, .inl (cT 1, 8, .inl f59)), (a9, .inl (cT 0, 4096, .inl f62)), (a10, .inl (cT 4, 1024, .inr (.inr (.inr (.inr f67)))))] H) (hD : va_D A [(a0, .inr (0, [v11, v12, v13, .ref a4, .ref b14, .ref a3, v15, v16])), (a1, .inr (5, [v17, .ref a10, v18, v19, v20, v21, v22, v23, v24, v25, v26, v27, v28, v29, v30, v31, v32, v33, v34, v35, v36, v37, v38, v39, .ref a7, .ref a8, v40, v41, v42, v43, v44, v45])), (a2, .inl (cT 2, 1, .inr (.inl f46))), (a3, .inr (2, [v47, v48, v49])), (a4, .inl (cT 3, 8, .inr (.inr (.inr (.inr f50))))), (a5, .inr (2, [.ref a6, .int 1, v53])), (a6, .inl (cT 2, 4096, .inr (.inl f54))), (a7, .inl (cT 5, 8, .inr (.inr (.inr (.inr f56))))), (a8, .inl (cT 1, 8, .inl f59)), (a9, .inl (cT 0, 4096, .inl f62)), (a10, .inl (cT 4, 1024, .inr (.inr (.inr (.inr f67)))))]) (hS : va_S A s.heap H locs) (hl : lv_has ls 8 [(4, .int 0), (3, .ref a2), (2, .ref a1), (1, .ref a0), (0, .ref b)]) : W p l e room_1 s m #[Value.ref b] below meth c H locs 54 107242 (lw_Z below #[Value.ref b] s) (F0 m 723 ls []) := by
  obtain ⟨hx, hb, hr, hml, hown, htx, hbl, hbA, hlocks, hK, hZ, hA, hA2⟩ := C
  refine lv_aload_n hx hb dL_law_723 rfl (lv_at hl 3 rfl) ?_
  refine lv_aload_n hx hb dL_law_724 rfl (lv_at hl 4 rfl) ?_
  refine lv_iload hx hb dL_law_725 (lv_at hl 0 rfl) ?_
  refine lv_iconst (v := 1) hx hb dL_law_727 (by decide) ?_
  refine lv_iadd hx hb dL_law_728 ?_
  refine W.eq (g2 := F0 m 729 ls [.int 1, .ref b, .ref a0]) rfl ?_
  refine va_sld hx hb hXs hbl hbA hS (i := 1) (show ¬ ((1 : Int32) < 0 ∨ 6 ≤ (1 : Int32).toNatClampNeg) by decide) dL_law_729 ?_
  refine W.eq (g2 := F0 m 730 ls [.int (xs 1), .ref a0]) rfl ?_
  refine lv_aload_n hx hb dL_law_730 rfl (lv_at hl 4 rfl) ?_
  refine lv_iload hx hb dL_law_731 (lv_at hl 0 rfl) ?_
  refine lv_iconst (v := 2) hx hb dL_law_733 (by decide) ?_
  refine lv_iadd hx hb dL_law_734 ?_
  refine W.eq (g2 := F0 m 735 ls [.int 2, .ref b, .int (xs 1), .ref a0]) rfl ?_
  refine va_sld hx hb hXs hbl hbA hS (i := 2) (show ¬ ((2 : Int32) < 0 ∨ 6 ≤ (2 : Int32).toNatClampNeg) by decide) dL_law_735 ?_
  refine W.eq (g2 := F0 m 736 ls [.int (xs 2), .int (xs 1), .ref a0]) rfl ?_
  rw [hf]
  refine W.eq (g2 := F0 m 736 ls [.int 3, .int (xs 1), .ref a0]) rfl ?_
  refine lv_aload_n hx hb dL_law_736 rfl (lv_at hl 4 rfl) ?_
  refine lv_iload hx hb dL_law_737 (lv_at hl 0 rfl) ?_
  refine lv_iconst (v := 3) hx hb dL_law_739 (by decide) ?_
  refine lv_iadd hx hb dL_law_740 ?_
  refine W.eq (g2 := F0 m 741 ls [.int 3, .ref b, .int 3, .int (xs 1), .ref a0]) rfl ?_
  refine va_sld hx hb hXs hbl hbA hS (i := 3) (show ¬ ((3 : Int32) < 0 ∨ 6 ≤ (3 : Int32).toNatClampNeg) by decide) dL_law_741 ?_
  refine W.eq (g2 := F0 m 742 ls [.int (xs 3), .int 3, .int (xs 1), .ref a0]) rfl ?_
  refine lv_aload_n hx hb dL_law_742 rfl (lv_at hl 4 rfl) ?_
  refine lv_iload hx hb dL_law_743 (lv_at hl 0 rfl) ?_
  refine lv_iconst (v := 4) hx hb dL_law_745 (by decide) ?_
  refine lv_iadd hx hb dL_law_746 ?_
  refine W.eq (g2 := F0 m 747 ls [.int 4, .ref b, .int (xs 3), .int 3, .int (xs 1), .ref a0]) rfl ?_
  refine va_sld hx hb hXs hbl hbA hS (i := 4) (show ¬ ((4 : Int32) < 0 ∨ 6 ≤ (4 : Int32).toNatClampNeg) by decide) dL_law_747 ?_
  refine W.eq (g2 := F0 m 748 ls [.int (xs 4), .int (xs 3), .int 3, .int (xs 1), .ref a0]) rfl ?_
  obtain ⟨hPc, hDc, hFc⟩ := xcut (wc := [(a0, .inr (0, [v11, v12, v13, .ref a4, .ref b14, .ref a3, v15, v16])), (a3, .inr (2, [v47, v48, v49])), (a4, .inl (cT 3, 8, .inr (.inr (.inr (.inr f50))))), (a5, .inr (2, [.ref a6, .int 1, v53])), (a6, .inl (cT 2, 4096, .inr (.inl f54)))]) hP hD hS hA [0, 3, 4, 5, 6] rfl rfl (by decide)
  refine va_calli (vx_runSW (As := [.ref a0, .int (xs 1), .int 3, .int (xs 3), .int (xs 4)]) (rest := []) ⟨hx, hb, hml, hown, htx⟩ (cL_sort_14 l hl9 D cT aK aV H.size a0 a3 a4 a5 a6 (xs 1) (xs 3) (xs 4) v11 v12 v13 b14 v15 v16 v47 v48 v49 f50 v53 f54 hto1 hto2 hto3 hto4 ha1 ha2 ha3 ha4 hb1 hb2 hb3 hb4 (by first | rfl | exact h51 | exact h52 | exact h55 | exact h57 | exact h58 | exact h60 | exact h61 | exact h63 | exact h64 | exact h65 | exact h66 | exact h68 | exact h69) (by first | rfl | exact h51 | exact h52 | exact h55 | exact h57 | exact h58 | exact h60 | exact h61 | exact h63 | exact h64 | exact h65 | exact h66 | exact h68 | exact h69) (by first | rfl | exact h51 | exact h52 | exact h55 | exact h57 | exact h58 | exact h60 | exact h61 | exact h63 | exact h64 | exact h65 | exact h66 | exact h68 | exact h69)) (xcSW 5 htx (xw_goodC kw_5_14) rfl rfl rfl (htx _ kw_1_0) (htx _ kw_5_12) ⟨by decide, by decide, by decide +kernel⟩ ⟨Nat.le_of_ble_eq_true rfl, Nat.le_of_ble_eq_true rfl⟩ (htx _ kw_5_13)) ⟨xPre_blind, (fun U hU hW => ⟨rfl, xPre_of hZ hS hFc hPc hDc hK U hU hW⟩)⟩ rfl rfl hl.1 rfl (lv_room (Nat.le_of_ble_eq_true rfl)) dL_law_748 ⟨Nat.le_of_ble_eq_true rfl, Nat.le_of_ble_eq_true rfl⟩) hS (fun q _ h => hFc q h) hFc (fun r1 u9 t H1 locs ht hvm hr9 hB hz1 hk1 hS => ?_)
  obtain ⟨hP1, hK1, hD1⟩ := hB
  rw [ht] at hP1
  obtain ⟨hP, hD⟩ := xjoin (W := [(a1, .inr (5, [v17, .ref a10, v18, v19, v20, v21, v22, v23, v24, v25, v26, v27, v28, v29, v30, v31, v32, v33, v34, v35, v36, v37, v38, v39, .ref a7, .ref a8, v40, v41, v42, v43, v44, v45])), (a2, .inl (cT 2, 1, .inr (.inl f46))), (a7, .inl (cT 5, 8, .inr (.inr (.inr (.inr f56))))), (a8, .inl (cT 1, 8, .inl f59)), (a9, .inl (cT 0, 4096, .inl f62)), (a10, .inl (cT 4, 1024, .inr (.inr (.inr (.inr f67))))), (a0, .inr (0, [v11, v12, v13, .ref a4, .ref b14, .ref a3, v15, .int 1])), (a3, .inr (2, [v47, .int 0, .int 0])), (a4, .inl (cT 3, 8, .inr (.inr (.inr (.inr f50))))), (a5, .inr (2, [.ref a6, .int 1, v53])), (a6, .inl (cT 2, 4096, .inr (.inl f54)))]) hP hD [0, 3, 4, 5, 6] [1, 2, 7, 8, 9, 10] 6 rfl rfl (by decide) (by decide) hk1 hFc hP1 hD1
  generalize H1 = H at hP hS ⊢
  rw [hr9]
  refine W.eq (g2 := F0 m 751 ls [.int 2]) rfl ?_
  refine lv_istore (lv' := [(5, .int 2), (4, .int 0), (3, .ref a2), (2, .ref a1), (1, .ref a0), (0, .ref b)]) hx hb dL_law_751 hl (by decide) rfl (fun ls hl => ?_)
  refine lv_aload_n hx hb dL_law_753 rfl (lv_at hl 3 rfl) ?_
  refine lv_aload_n hx hb dL_law_754 rfl (lv_at hl 5 rfl) ?_
  refine lv_iload hx hb dL_law_755 (lv_at hl 1 rfl) ?_
  refine lv_iconst (v := 1) hx hb dL_law_757 (by decide) ?_
  refine lv_iadd hx hb dL_law_758 ?_
  refine W.eq (g2 := F0 m 759 ls [.int 1, .ref b, .ref a1]) rfl ?_
  refine va_sld hx hb hXs hbl hbA hS (i := 1) (show ¬ ((1 : Int32) < 0 ∨ 6 ≤ (1 : Int32).toNatClampNeg) by decide) dL_law_759 ?_
  refine W.eq (g2 := F0 m 760 ls [.int (xs 1), .ref a1]) rfl ?_
  refine lv_aload_n hx hb dL_law_760 rfl (lv_at hl 5 rfl) ?_
  refine lv_iload hx hb dL_law_761 (lv_at hl 1 rfl) ?_
  refine lv_iconst (v := 2) hx hb dL_law_763 (by decide) ?_
  refine lv_iadd hx hb dL_law_764 ?_
  refine W.eq (g2 := F0 m 765 ls [.int 2, .ref b, .int (xs 1), .ref a1]) rfl ?_
  refine va_sld hx hb hXs hbl hbA hS (i := 2) (show ¬ ((2 : Int32) < 0 ∨ 6 ≤ (2 : Int32).toNatClampNeg) by decide) dL_law_765 ?_
  refine W.eq (g2 := F0 m 766 ls [.int (xs 2), .int (xs 1), .ref a1]) rfl ?_
  rw [hf]
  refine W.eq (g2 := F0 m 766 ls [.int 3, .int (xs 1), .ref a1]) rfl ?_
  refine lv_aload_n hx hb dL_law_766 rfl (lv_at hl 5 rfl) ?_
  refine lv_iload hx hb dL_law_767 (lv_at hl 1 rfl) ?_
  refine lv_iconst (v := 3) hx hb dL_law_769 (by decide) ?_
  refine lv_iadd hx hb dL_law_770 ?_
  refine W.eq (g2 := F0 m 771 ls [.int 3, .ref b, .int 3, .int (xs 1), .ref a1]) rfl ?_
  refine va_sld hx hb hXs hbl hbA hS (i := 3) (show ¬ ((3 : Int32) < 0 ∨ 6 ≤ (3 : Int32).toNatClampNeg) by decide) dL_law_771 ?_
  refine W.eq (g2 := F0 m 772 ls [.int (xs 3), .int 3, .int (xs 1), .ref a1]) rfl ?_
  refine lv_aload_n hx hb dL_law_772 rfl (lv_at hl 5 rfl) ?_
  refine lv_iload hx hb dL_law_773 (lv_at hl 1 rfl) ?_
  refine lv_iconst (v := 4) hx hb dL_law_775 (by decide) ?_
  refine lv_iadd hx hb dL_law_776 ?_
  refine W.eq (g2 := F0 m 777 ls [.int 4, .ref b, .int (xs 3), .int 3, .int (xs 1), .ref a1]) rfl ?_
  refine va_sld hx hb hXs hbl hbA hS (i := 4) (show ¬ ((4 : Int32) < 0 ∨ 6 ≤ (4 : Int32).toNatClampNeg) by decide) dL_law_777 ?_
  refine W.eq (g2 := F0 m 778 ls [.int (xs 4), .int (xs 3), .int 3, .int (xs 1), .ref a1]) rfl ?_
  obtain ⟨hPc, hDc, hFc⟩ := xcut (wc := [(a1, .inr (5, [v17, .ref a10, v18, v19, v20, v21, v22, v23, v24, v25, v26, v27, v28, v29, v30, v31, v32, v33, v34, v35, v36, v37, v38, v39, .ref a7, .ref a8, v40, v41, v42, v43, v44, v45])), (a7, .inl (cT 5, 8, .inr (.inr (.inr (.inr f56))))), (a8, .inl (cT 1, 8, .inl f59)), (a9, .inl (cT 0, 4096, .inl f62)), (a10, .inl (cT 4, 1024, .inr (.inr (.inr (.inr f67)))))]) hP hD hS hA [0, 2, 3, 4, 5] rfl rfl (by decide)
  refine va_callv (va_runV (C := "ValueBenchModel") (As := [.int (xs 1), .int 3, .int (xs 3), .int (xs 4)]) (rest := []) ⟨hx, hb, hml, hown, htx⟩ (cM_sort0_14 l hl9 D cT aK aV H.size a1 a7 a8 a9 a10 (xs 1) (xs 3) (xs 4) v17 v18 v19 v20 v21 v22 v23 v24 v25 v26 v27 v28 v29 v30 v31 v32 v33 v34 v35 v36 v37 v38 v39 v40 v41 v42 v43 v44 v45 f56 f59 f62 f67 hto1 hto2 hto3 hto4 ha1 ha2 ha3 ha4 hb1 hb2 hb3 hb4 (by first | rfl | exact h51 | exact h52 | exact h55 | exact h57 | exact h58 | exact h60 | exact h61 | exact h63 | exact h64 | exact h65 | exact h66 | exact h68 | exact h69) (by first | rfl | exact h51 | exact h52 | exact h55 | exact h57 | exact h58 | exact h60 | exact h61 | exact h63 | exact h64 | exact h65 | exact h66 | exact h68 | exact h69) (by first | rfl | exact h51 | exact h52 | exact h55 | exact h57 | exact h58 | exact h60 | exact h61 | exact h63 | exact h64 | exact h65 | exact h66 | exact h68 | exact h69) (by first | rfl | exact h51 | exact h52 | exact h55 | exact h57 | exact h58 | exact h60 | exact h61 | exact h63 | exact h64 | exact h65 | exact h66 | exact h68 | exact h69) (by first | rfl | exact h51 | exact h52 | exact h55 | exact h57 | exact h58 | exact h60 | exact h61 | exact h63 | exact h64 | exact h65 | exact h66 | exact h68 | exact h69) (by first | rfl | exact h51 | exact h52 | exact h55 | exact h57 | exact h58 | exact h60 | exact h61 | exact h63 | exact h64 | exact h65 | exact h66 | exact h68 | exact h69) (by first | rfl | exact h51 | exact h52 | exact h55 | exact h57 | exact h58 | exact h60 | exact h61 | exact h63 | exact h64 | exact h65 | exact h66 | exact h68 | exact h69) (by first | rfl | exact h51 | exact h52 | exact h55 | exact h57 | exact h58 | exact h60 | exact h61 | exact h63 | exact h64 | exact h65 | exact h66 | exact h68 | exact h69) (by first | rfl | exact h51 | exact h52 | exact h55 | exact h57 | exact h58 | exact h60 | exact h61 | exact h63 | exact h64 | exact h65 | exact h66 | exact h68 | exact h69) (by first | rfl | exact h51 | exact h52 | exact h55 | exact h57 | exact h58 | exact h60 | exact h61 | exact h63 | exact h64 | exact h65 | exact h66 | exact h68 | exact h69)) ⟨callB_of 4 htx (xw_goodC kw_7_131) rfl rfl rfl (htx _ kw_1_5) (htx _ kw_7_128) ⟨by decide, by decide, by decide +kernel⟩ ⟨Nat.le_of_ble_eq_true rfl, Nat.le_of_ble_eq_true rfl⟩, (htx _ kw_7_129), (htx _ kw_7_130)⟩ ⟨xPre_blind, va_recv hK hP (ci := 5) rfl (q0 := 0) rfl, (fun U hU hW => ⟨rfl, xPre_of hZ hS hFc hPc hDc hK U hU hW⟩)⟩ rfl rfl hl.1 rfl (lv_room (Nat.le_of_ble_eq_true rfl)) dL_law_778 ⟨Nat.le_of_ble_eq_true rfl, Nat.le_of_ble_eq_true rfl⟩) hS (fun q _ h => hFc q h) hFc (fun u9 t H1 locs ht hvm hr9 hB hz1 hk1 hS => ?_)
  obtain ⟨q2, q3, hP1, hK1, hD1⟩ := hB
  rw [ht] at hP1
  obtain ⟨hP, hD⟩ := xjoin (W := [(a2, .inl (cT 2, 1, .inr (.inl f46))), (a0, .inr (0, [v11, v12, v13, .ref a4, .ref b14, .ref a3, v15, .int 1])), (a3, .inr (2, [v47, .int 0, .int 0])), (a4, .inl (cT 3, 8, .inr (.inr (.inr (.inr f50))))), (a5, .inr (2, [.ref a6, .int 1, v53])), (a6, .inl (cT 2, 4096, .inr (.inl f54))), (a1, .inr (5, [.int 2, .ref a10, .int 2, v19, .int 0, v21, v22, .int 0, .int 1, .int 0, v26, v27, .int 0, v29, v30, .ref a9, .int 4, .int 4, .int 0, .int 100, v36, v37, .int 0, .int 1000000000, .ref a7, .ref a8, v40, v41, v42, v43, .int 1, v45])), (a7, .inl (cT 5, 8, .inr (.inr (.inr (.inr f56))))), (a8, .inl (cT 1, 8, .inl f59)), (a9, .inl (cT 0, 4096, .inl f62)), (a10, .inl (cT 4, 1024, .inr (.inr (.inr (.inr (va_up (va_up f67 0 (some q2)) 1 (some q3))))))), (q2, .inr (6, [.int 0, .long 0, .int 0, .int 0, .int 0, .int 1])), (q3, .inr (6, [.int 0, .long 0, .int 0, .int 0, .int 0, .int 1]))]) hP hD [0, 2, 3, 4, 5] [1, 6, 7, 8, 9, 10] 6 rfl rfl (by decide) (by decide) hk1 hFc hP1 hD1
  generalize H1 = H at hP hS ⊢
  refine lv_aload_n hx hb dL_law_781 rfl (lv_at hl 3 rfl) ?_
  obtain ⟨hPc, hDc, hFc⟩ := xcut (wc := [(a1, .inr (5, [.int 2, .ref a10, .int 2, v19, .int 0, v21, v22, .int 0, .int 1, .int 0, v26, v27, .int 0, v29, v30, .ref a9, .int 4, .int 4, .int 0, .int 100, v36, v37, .int 0, .int 1000000000, .ref a7, .ref a8, v40, v41, v42, v43, .int 1, v45]))]) hP hD hS hA [6] rfl rfl (by decide)
  refine va_calli (va_runV (C := "ValueBenchModel") (As := []) (rest := []) ⟨hx, hb, hml, hown, htx⟩ (cM_thrown_2 l hl9 D cT aK aV H.size a1 (.ref a10) (.int 2) v19 (.int 0) v21 v22 (.int 0) (.int 1) (.int 0) v26 v27 (.int 0) v29 v30 (.ref a9) (.int 4) (.int 4) (.int 0) (.int 100) v36 v37 (.int 0) (.int 1000000000) (.ref a7) (.ref a8) v40 v41 v42 v43 (.int 1) v45) ⟨callB_of 0 htx (xw_goodC kw_5_187) rfl rfl rfl (htx _ kw_1_5) (htx _ kw_5_184) ⟨by decide, by decide, by decide +kernel⟩ ⟨Nat.le_of_ble_eq_true rfl, Nat.le_of_ble_eq_true rfl⟩, (htx _ kw_5_185), (htx _ kw_5_186)⟩ ⟨xPre_blind, va_recv hK hP (ci := 5) rfl (q0 := 6) rfl, (fun U hU hW => ⟨rfl, xPre_of hZ hS hFc hPc hDc hK U hU hW⟩)⟩ rfl rfl hl.1 rfl (lv_room (Nat.le_of_ble_eq_true rfl)) dL_law_782 ⟨Nat.le_of_ble_eq_true rfl, Nat.le_of_ble_eq_true rfl⟩) hS (fun q _ h => hFc q h) hFc (fun r4 u9 t H1 locs ht hvm hr9 hB hz1 hk1 hS => ?_)
  obtain ⟨hP1, hK1, hD1⟩ := hB
  rw [ht] at hP1
  obtain ⟨hP, hD⟩ := xjoin (W := [(a2, .inl (cT 2, 1, .inr (.inl f46))), (a0, .inr (0, [v11, v12, v13, .ref a4, .ref b14, .ref a3, v15, .int 1])), (a3, .inr (2, [v47, .int 0, .int 0])), (a4, .inl (cT 3, 8, .inr (.inr (.inr (.inr f50))))), (a5, .inr (2, [.ref a6, .int 1, v53])), (a6, .inl (cT 2, 4096, .inr (.inl f54))), (a7, .inl (cT 5, 8, .inr (.inr (.inr (.inr f56))))), (a8, .inl (cT 1, 8, .inl f59)), (a9, .inl (cT 0, 4096, .inl f62)), (a10, .inl (cT 4, 1024, .inr (.inr (.inr (.inr (va_up (va_up f67 0 (some q2)) 1 (some q3))))))), (q2, .inr (6, [.int 0, .long 0, .int 0, .int 0, .int 0, .int 1])), (q3, .inr (6, [.int 0, .long 0, .int 0, .int 0, .int 0, .int 1])), (a1, .inr (5, [.int 2, .ref a10, .int 2, v19, .int 0, v21, v22, .int 0, .int 1, .int 0, v26, v27, .int 0, v29, v30, .ref a9, .int 4, .int 4, .int 0, .int 100, v36, v37, .int 0, .int 1000000000, .ref a7, .ref a8, v40, v41, v42, v43, .int 1, v45]))]) hP hD [6] [0, 1, 2, 3, 4, 5, 7, 8, 9, 10, 11, 12] 12 rfl rfl (by decide) (by decide) hk1 hFc hP1 hD1
  generalize H1 = H at hP hS ⊢
  rw [hr9]
  refine W.eq (g2 := F0 m 785 ls [.int 2]) rfl ?_
  refine lv_iload hx hb dL_law_785 (lv_at hl 0 rfl) ?_
  refine lv_icmp_eq (tgt := 792) hx hb dL_law_787 (by decide) (fun _ => ?_) (fun h => ((by revert h; decide : False)).elim)
  refine lv_goto (tgt := 906) hx hb dL_law_792 (by decide) ?_
  refine lv_iinc (v := 6) (lv' := [(4, .int 6), (5, .int 2), (3, .ref a2), (2, .ref a1), (1, .ref a0), (0, .ref b)]) hx hb dL_law_906 hl (k := 1) rfl (by decide) (by decide) rfl (fun ls hl => ?_)
  refine lv_goto (tgt := 23) hx hb dL_law_909 (by decide) ?_
  refine lv_iload hx hb dL_law_23 (lv_at hl 0 rfl) ?_
  refine lv_aload_n hx hb dL_law_25 rfl (lv_at hl 5 rfl) ?_
  refine va_slen hx hb hXs hbl hbA hS dL_law_26 ?_
  refine W.eq (g2 := F0 m 27 ls [.int 6, .int 6]) rfl ?_
  refine lv_bipush (v := 6) hx hb dL_law_27 (by decide) ?_
  refine lv_isub hx hb dL_law_29 ?_
  refine W.eq (g2 := F0 m 30 ls [.int 0, .int 6]) rfl ?_
  refine lv_icmp_gt (tgt := 912) hx hb dL_law_30 (by decide) (fun _ => ?_) (fun h => ((by revert h; decide : False)).elim)
  refine lv_iconst (v := 1) hx hb dL_law_912 (by decide) ?_
  exact va_forget (fun q h => hA2 _ (hS.2.2 q h)) (W.widen (k := 600002) (n := 7302232) (Nat.le_of_ble_eq_true rfl) (Nat.le_of_ble_eq_true rfl) (lw_ret hx hb hr hlocks dL_law_913))
set_option maxHeartbeats 400000000 in
set_option maxRecDepth 100000 in
theorem lf_sort3_p2 {p : Program} {e : Env} {s : State} {m : MethodId} {below : List Frame} {meth : Method} {c : Code} (l : Launch) (hl9 : l.stackTraces = false) (D : va_G) (cT : Nat → ClassId) (aK aV : Nat → Nat) {A : Nat → Prop} {b : Nat} {xs : Nat → Int32} (C : xLw p s m meth c b D cT aK aV A) {H : Heap} {locs : List Loc} {ls : Array Slot} (a0 : Nat) (a1 : Nat) (a2 : Nat) (a3 : Nat) (a4 : Nat) (a5 : Nat) (a6 : Nat) (a7 : Nat) (a8 : Nat) (a9 : Nat) (a10 : Nat) (a11 : Nat) (v12 : Value) (v13 : Value) (v14 : Value) (b15 : Nat) (v16 : Value) (v17 : Value) (v18 : Value) (v19 : Value) (v20 : Value) (v21 : Value) (v22 : Value) (v23 : Value) (v24 : Value) (v25 : Value) (v26 : Value) (v27 : Value) (v28 : Value) (v29 : Value) (v30 : Value) (v31 : Value) (v32 : Value) (v33 : Value) (v34 : Value) (v35 : Value) (v36 : Value) (v37 : Value) (v38 : Value) (v39 : Value) (v40 : Value) (v41 : Value) (v42 : Value) (v43 : Value) (v44 : Value) (v45 : Value) (v46 : Value) (f47 : Nat → Int64) (v48 : Value) (v49 : Value) (v50 : Value) (f51 : Nat → Option Nat) (b53 : Nat) (v55 : Value) (f56 : Nat → Int64) (f58 : Nat → Option Nat) (f61 : Nat → Int32) (f64 : Nat → Int32) (f69 : Nat → Option Nat) (f72 : Nat → Int32) (h52 : f51 (xs 3).toNatClampNeg = some a5) (h54 : f51 (xs 4).toNatClampNeg = some b53) (h57 : f56 0 = 0) (h59 : f58 (xs 3).toNatClampNeg = some a9) (h60 : f58 (xs 4).toNatClampNeg = some a11) (h62 : f61 (xs 3).toNatClampNeg = 4) (h63 : f61 (xs 4).toNatClampNeg = 4) (h65 : f64 0 = 110) (h66 : f64 1 = 117) (h67 : f64 2 = 108) (h68 : f64 3 = 108) (h70 : f69 0 = none) (h71 : f69 1 = none) (h73 : f72 0 = 110) (h74 : f72 1 = 117) (h75 : f72 2 = 108) (h76 : f72 3 = 108) (hto1 : ¬ (xs 1) < 0) (hto2 : ¬ 7 < (xs 1)) (hto3 : (xs 1) ≤ 7) (hto4 : vp_in (xs 1) 8) (hf : xs 2 = 3) (ha1 : ¬ (xs 3) < 0) (ha2 : ¬ 7 < (xs 3)) (ha3 : (xs 3) ≤ 7) (ha4 : vp_in (xs 3) 8) (hb1 : ¬ (xs 4) < 0) (hb2 : ¬ 7 < (xs 4)) (hb3 : (xs 4) ≤ 7) (hb4 : vp_in (xs 4) 8) (hXs : va_X b 6 xs s s.heap) (hP : va_P D xcl [(a0, .inr (0, [v12, v13, v14, .ref a4, .ref b15, .ref a3, v16, v17])), (a1, .inr (5, [v18, .ref a10, v19, v20, v21, v22, v23, v24, v25, v26, v27, v28, v29, v30, v31, v32, v33, v34, v35, v36, v37, v38, v39, v40, .ref a7, .ref a8, v41, v42, v43, v44, v45, v46])), (a2, .inl (cT 2, 1, .inr (.inl f47))), (a3, .inr (2, [v48, v49, v50])), (a4, .inl (cT 3, 8, .inr (.inr (.inr (.inr f51))))), (a5, .inr (2, [.ref a6, .int 1, v55])), (a6, .inl (cT 2, 4096, .inr (.inl f56))), (a7, .inl (cT 5, 8, .inr (.inr (.inr (.inr f58))))), (a8, .inl (cT 1, 8, .inl f61)), (a9, .inl (cT 0, 4096, .inl f64)), (a10, .inl (cT 4, 1024, .inr (.inr (.inr (.inr f69))))), (a11, .inl (cT 0, 4096, .inl f72))] H) (hD : va_D A [(a0, .inr (0, [v12, v13, v14, .ref a4, .ref b15, .ref a3, v16, v17])), (a1, .inr (5, [v18, .ref a10, v19, v20, v21, v22, v23, v24, v25, v26, v27, v28, v29, v30, v31, v32, v33, v34, v35, v36, v37, v38, v39, v40, .ref a7, .ref a8, v41, v42, v43, v44, v45, v46])), (a2, .inl (cT 2, 1, .inr (.inl f47))), (a3, .inr (2, [v48, v49, v50])), (a4, .inl (cT 3, 8, .inr (.inr (.inr (.inr f51))))), (a5, .inr (2, [.ref a6, .int 1, v55])), (a6, .inl (cT 2, 4096, .inr (.inl f56))), (a7, .inl (cT 5, 8, .inr (.inr (.inr (.inr f58))))), (a8, .inl (cT 1, 8, .inl f61)), (a9, .inl (cT 0, 4096, .inl f64)), (a10, .inl (cT 4, 1024, .inr (.inr (.inr (.inr f69))))), (a11, .inl (cT 0, 4096, .inl f72))]) (hS : va_S A s.heap H locs) (hl : lv_has ls 8 [(4, .int 0), (3, .ref a2), (2, .ref a1), (1, .ref a0), (0, .ref b)]) : W p l e room_1 s m #[Value.ref b] below meth c H locs 54 107242 (lw_Z below #[Value.ref b] s) (F0 m 723 ls []) := by
  obtain ⟨hx, hb, hr, hml, hown, htx, hbl, hbA, hlocks, hK, hZ, hA, hA2⟩ := C
  refine lv_aload_n hx hb dL_law_723 rfl (lv_at hl 3 rfl) ?_
  refine lv_aload_n hx hb dL_law_724 rfl (lv_at hl 4 rfl) ?_
  refine lv_iload hx hb dL_law_725 (lv_at hl 0 rfl) ?_
  refine lv_iconst (v := 1) hx hb dL_law_727 (by decide) ?_
  refine lv_iadd hx hb dL_law_728 ?_
  refine W.eq (g2 := F0 m 729 ls [.int 1, .ref b, .ref a0]) rfl ?_
  refine va_sld hx hb hXs hbl hbA hS (i := 1) (show ¬ ((1 : Int32) < 0 ∨ 6 ≤ (1 : Int32).toNatClampNeg) by decide) dL_law_729 ?_
  refine W.eq (g2 := F0 m 730 ls [.int (xs 1), .ref a0]) rfl ?_
  refine lv_aload_n hx hb dL_law_730 rfl (lv_at hl 4 rfl) ?_
  refine lv_iload hx hb dL_law_731 (lv_at hl 0 rfl) ?_
  refine lv_iconst (v := 2) hx hb dL_law_733 (by decide) ?_
  refine lv_iadd hx hb dL_law_734 ?_
  refine W.eq (g2 := F0 m 735 ls [.int 2, .ref b, .int (xs 1), .ref a0]) rfl ?_
  refine va_sld hx hb hXs hbl hbA hS (i := 2) (show ¬ ((2 : Int32) < 0 ∨ 6 ≤ (2 : Int32).toNatClampNeg) by decide) dL_law_735 ?_
  refine W.eq (g2 := F0 m 736 ls [.int (xs 2), .int (xs 1), .ref a0]) rfl ?_
  rw [hf]
  refine W.eq (g2 := F0 m 736 ls [.int 3, .int (xs 1), .ref a0]) rfl ?_
  refine lv_aload_n hx hb dL_law_736 rfl (lv_at hl 4 rfl) ?_
  refine lv_iload hx hb dL_law_737 (lv_at hl 0 rfl) ?_
  refine lv_iconst (v := 3) hx hb dL_law_739 (by decide) ?_
  refine lv_iadd hx hb dL_law_740 ?_
  refine W.eq (g2 := F0 m 741 ls [.int 3, .ref b, .int 3, .int (xs 1), .ref a0]) rfl ?_
  refine va_sld hx hb hXs hbl hbA hS (i := 3) (show ¬ ((3 : Int32) < 0 ∨ 6 ≤ (3 : Int32).toNatClampNeg) by decide) dL_law_741 ?_
  refine W.eq (g2 := F0 m 742 ls [.int (xs 3), .int 3, .int (xs 1), .ref a0]) rfl ?_
  refine lv_aload_n hx hb dL_law_742 rfl (lv_at hl 4 rfl) ?_
  refine lv_iload hx hb dL_law_743 (lv_at hl 0 rfl) ?_
  refine lv_iconst (v := 4) hx hb dL_law_745 (by decide) ?_
  refine lv_iadd hx hb dL_law_746 ?_
  refine W.eq (g2 := F0 m 747 ls [.int 4, .ref b, .int (xs 3), .int 3, .int (xs 1), .ref a0]) rfl ?_
  refine va_sld hx hb hXs hbl hbA hS (i := 4) (show ¬ ((4 : Int32) < 0 ∨ 6 ≤ (4 : Int32).toNatClampNeg) by decide) dL_law_747 ?_
  refine W.eq (g2 := F0 m 748 ls [.int (xs 4), .int (xs 3), .int 3, .int (xs 1), .ref a0]) rfl ?_
  obtain ⟨hPc, hDc, hFc⟩ := xcut (wc := [(a0, .inr (0, [v12, v13, v14, .ref a4, .ref b15, .ref a3, v16, v17])), (a3, .inr (2, [v48, v49, v50])), (a4, .inl (cT 3, 8, .inr (.inr (.inr (.inr f51))))), (a5, .inr (2, [.ref a6, .int 1, v55])), (a6, .inl (cT 2, 4096, .inr (.inl f56)))]) hP hD hS hA [0, 3, 4, 5, 6] rfl rfl (by decide)
  refine va_calli (vx_runSW (As := [.ref a0, .int (xs 1), .int 3, .int (xs 3), .int (xs 4)]) (rest := []) ⟨hx, hb, hml, hown, htx⟩ (cL_sort_15 l hl9 D cT aK aV H.size a0 a3 a4 a5 a6 (xs 1) (xs 3) (xs 4) v12 v13 v14 b15 v16 v17 v48 v49 v50 f51 b53 v55 f56 hto1 hto2 hto3 hto4 ha1 ha2 ha3 ha4 hb1 hb2 hb3 hb4 (by first | rfl | exact h52 | exact h54 | exact h57 | exact h59 | exact h60 | exact h62 | exact h63 | exact h65 | exact h66 | exact h67 | exact h68 | exact h70 | exact h71 | exact h73 | exact h74 | exact h75 | exact h76) (by first | rfl | exact h52 | exact h54 | exact h57 | exact h59 | exact h60 | exact h62 | exact h63 | exact h65 | exact h66 | exact h67 | exact h68 | exact h70 | exact h71 | exact h73 | exact h74 | exact h75 | exact h76) (by first | rfl | exact h52 | exact h54 | exact h57 | exact h59 | exact h60 | exact h62 | exact h63 | exact h65 | exact h66 | exact h67 | exact h68 | exact h70 | exact h71 | exact h73 | exact h74 | exact h75 | exact h76)) (xcSW 5 htx (xw_goodC kw_5_14) rfl rfl rfl (htx _ kw_1_0) (htx _ kw_5_12) ⟨by decide, by decide, by decide +kernel⟩ ⟨Nat.le_of_ble_eq_true rfl, Nat.le_of_ble_eq_true rfl⟩ (htx _ kw_5_13)) ⟨xPre_blind, (fun U hU hW => ⟨rfl, xPre_of hZ hS hFc hPc hDc hK U hU hW⟩)⟩ rfl rfl hl.1 rfl (lv_room (Nat.le_of_ble_eq_true rfl)) dL_law_748 ⟨Nat.le_of_ble_eq_true rfl, Nat.le_of_ble_eq_true rfl⟩) hS (fun q _ h => hFc q h) hFc (fun r1 u9 t H1 locs ht hvm hr9 hB hz1 hk1 hS => ?_)
  obtain ⟨hP1, hK1, hD1⟩ := hB
  rw [ht] at hP1
  obtain ⟨hP, hD⟩ := xjoin (W := [(a1, .inr (5, [v18, .ref a10, v19, v20, v21, v22, v23, v24, v25, v26, v27, v28, v29, v30, v31, v32, v33, v34, v35, v36, v37, v38, v39, v40, .ref a7, .ref a8, v41, v42, v43, v44, v45, v46])), (a2, .inl (cT 2, 1, .inr (.inl f47))), (a7, .inl (cT 5, 8, .inr (.inr (.inr (.inr f58))))), (a8, .inl (cT 1, 8, .inl f61)), (a9, .inl (cT 0, 4096, .inl f64)), (a10, .inl (cT 4, 1024, .inr (.inr (.inr (.inr f69))))), (a11, .inl (cT 0, 4096, .inl f72)), (a0, .inr (0, [v12, v13, v14, .ref a4, .ref b15, .ref a3, v16, .int 1])), (a3, .inr (2, [v48, .int 0, .int 0])), (a4, .inl (cT 3, 8, .inr (.inr (.inr (.inr f51))))), (a5, .inr (2, [.ref a6, .int 1, v55])), (a6, .inl (cT 2, 4096, .inr (.inl f56)))]) hP hD [0, 3, 4, 5, 6] [1, 2, 7, 8, 9, 10, 11] 7 rfl rfl (by decide) (by decide) hk1 hFc hP1 hD1
  generalize H1 = H at hP hS ⊢
  rw [hr9]
  refine W.eq (g2 := F0 m 751 ls [.int 2]) rfl ?_
  refine lv_istore (lv' := [(5, .int 2), (4, .int 0), (3, .ref a2), (2, .ref a1), (1, .ref a0), (0, .ref b)]) hx hb dL_law_751 hl (by decide) rfl (fun ls hl => ?_)
  refine lv_aload_n hx hb dL_law_753 rfl (lv_at hl 3 rfl) ?_
  refine lv_aload_n hx hb dL_law_754 rfl (lv_at hl 5 rfl) ?_
  refine lv_iload hx hb dL_law_755 (lv_at hl 1 rfl) ?_
  refine lv_iconst (v := 1) hx hb dL_law_757 (by decide) ?_
  refine lv_iadd hx hb dL_law_758 ?_
  refine W.eq (g2 := F0 m 759 ls [.int 1, .ref b, .ref a1]) rfl ?_
  refine va_sld hx hb hXs hbl hbA hS (i := 1) (show ¬ ((1 : Int32) < 0 ∨ 6 ≤ (1 : Int32).toNatClampNeg) by decide) dL_law_759 ?_
  refine W.eq (g2 := F0 m 760 ls [.int (xs 1), .ref a1]) rfl ?_
  refine lv_aload_n hx hb dL_law_760 rfl (lv_at hl 5 rfl) ?_
  refine lv_iload hx hb dL_law_761 (lv_at hl 1 rfl) ?_
  refine lv_iconst (v := 2) hx hb dL_law_763 (by decide) ?_
  refine lv_iadd hx hb dL_law_764 ?_
  refine W.eq (g2 := F0 m 765 ls [.int 2, .ref b, .int (xs 1), .ref a1]) rfl ?_
  refine va_sld hx hb hXs hbl hbA hS (i := 2) (show ¬ ((2 : Int32) < 0 ∨ 6 ≤ (2 : Int32).toNatClampNeg) by decide) dL_law_765 ?_
  refine W.eq (g2 := F0 m 766 ls [.int (xs 2), .int (xs 1), .ref a1]) rfl ?_
  rw [hf]
  refine W.eq (g2 := F0 m 766 ls [.int 3, .int (xs 1), .ref a1]) rfl ?_
  refine lv_aload_n hx hb dL_law_766 rfl (lv_at hl 5 rfl) ?_
  refine lv_iload hx hb dL_law_767 (lv_at hl 1 rfl) ?_
  refine lv_iconst (v := 3) hx hb dL_law_769 (by decide) ?_
  refine lv_iadd hx hb dL_law_770 ?_
  refine W.eq (g2 := F0 m 771 ls [.int 3, .ref b, .int 3, .int (xs 1), .ref a1]) rfl ?_
  refine va_sld hx hb hXs hbl hbA hS (i := 3) (show ¬ ((3 : Int32) < 0 ∨ 6 ≤ (3 : Int32).toNatClampNeg) by decide) dL_law_771 ?_
  refine W.eq (g2 := F0 m 772 ls [.int (xs 3), .int 3, .int (xs 1), .ref a1]) rfl ?_
  refine lv_aload_n hx hb dL_law_772 rfl (lv_at hl 5 rfl) ?_
  refine lv_iload hx hb dL_law_773 (lv_at hl 1 rfl) ?_
  refine lv_iconst (v := 4) hx hb dL_law_775 (by decide) ?_
  refine lv_iadd hx hb dL_law_776 ?_
  refine W.eq (g2 := F0 m 777 ls [.int 4, .ref b, .int (xs 3), .int 3, .int (xs 1), .ref a1]) rfl ?_
  refine va_sld hx hb hXs hbl hbA hS (i := 4) (show ¬ ((4 : Int32) < 0 ∨ 6 ≤ (4 : Int32).toNatClampNeg) by decide) dL_law_777 ?_
  refine W.eq (g2 := F0 m 778 ls [.int (xs 4), .int (xs 3), .int 3, .int (xs 1), .ref a1]) rfl ?_
  obtain ⟨hPc, hDc, hFc⟩ := xcut (wc := [(a1, .inr (5, [v18, .ref a10, v19, v20, v21, v22, v23, v24, v25, v26, v27, v28, v29, v30, v31, v32, v33, v34, v35, v36, v37, v38, v39, v40, .ref a7, .ref a8, v41, v42, v43, v44, v45, v46])), (a7, .inl (cT 5, 8, .inr (.inr (.inr (.inr f58))))), (a8, .inl (cT 1, 8, .inl f61)), (a9, .inl (cT 0, 4096, .inl f64)), (a10, .inl (cT 4, 1024, .inr (.inr (.inr (.inr f69))))), (a11, .inl (cT 0, 4096, .inl f72))]) hP hD hS hA [0, 2, 3, 4, 5, 6] rfl rfl (by decide)
  refine va_callv (va_runV (C := "ValueBenchModel") (As := [.int (xs 1), .int 3, .int (xs 3), .int (xs 4)]) (rest := []) ⟨hx, hb, hml, hown, htx⟩ (cM_sort0_15 l hl9 D cT aK aV H.size a1 a7 a8 a9 a10 a11 (xs 1) (xs 3) (xs 4) v18 v19 v20 v21 v22 v23 v24 v25 v26 v27 v28 v29 v30 v31 v32 v33 v34 v35 v36 v37 v38 v39 v40 v41 v42 v43 v44 v45 v46 f58 f61 f64 f69 f72 hto1 hto2 hto3 hto4 ha1 ha2 ha3 ha4 hb1 hb2 hb3 hb4 (by first | rfl | exact h52 | exact h54 | exact h57 | exact h59 | exact h60 | exact h62 | exact h63 | exact h65 | exact h66 | exact h67 | exact h68 | exact h70 | exact h71 | exact h73 | exact h74 | exact h75 | exact h76) (by first | rfl | exact h52 | exact h54 | exact h57 | exact h59 | exact h60 | exact h62 | exact h63 | exact h65 | exact h66 | exact h67 | exact h68 | exact h70 | exact h71 | exact h73 | exact h74 | exact h75 | exact h76) (by first | rfl | exact h52 | exact h54 | exact h57 | exact h59 | exact h60 | exact h62 | exact h63 | exact h65 | exact h66 | exact h67 | exact h68 | exact h70 | exact h71 | exact h73 | exact h74 | exact h75 | exact h76) (by first | rfl | exact h52 | exact h54 | exact h57 | exact h59 | exact h60 | exact h62 | exact h63 | exact h65 | exact h66 | exact h67 | exact h68 | exact h70 | exact h71 | exact h73 | exact h74 | exact h75 | exact h76) (by first | rfl | exact h52 | exact h54 | exact h57 | exact h59 | exact h60 | exact h62 | exact h63 | exact h65 | exact h66 | exact h67 | exact h68 | exact h70 | exact h71 | exact h73 | exact h74 | exact h75 | exact h76) (by first | rfl | exact h52 | exact h54 | exact h57 | exact h59 | exact h60 | exact h62 | exact h63 | exact h65 | exact h66 | exact h67 | exact h68 | exact h70 | exact h71 | exact h73 | exact h74 | exact h75 | exact h76) (by first | rfl | exact h52 | exact h54 | exact h57 | exact h59 | exact h60 | exact h62 | exact h63 | exact h65 | exact h66 | exact h67 | exact h68 | exact h70 | exact h71 | exact h73 | exact h74 | exact h75 | exact h76) (by first | rfl | exact h52 | exact h54 | exact h57 | exact h59 | exact h60 | exact h62 | exact h63 | exact h65 | exact h66 | exact h67 | exact h68 | exact h70 | exact h71 | exact h73 | exact h74 | exact h75 | exact h76) (by first | rfl | exact h52 | exact h54 | exact h57 | exact h59 | exact h60 | exact h62 | exact h63 | exact h65 | exact h66 | exact h67 | exact h68 | exact h70 | exact h71 | exact h73 | exact h74 | exact h75 | exact h76) (by first | rfl | exact h52 | exact h54 | exact h57 | exact h59 | exact h60 | exact h62 | exact h63 | exact h65 | exact h66 | exact h67 | exact h68 | exact h70 | exact h71 | exact h73 | exact h74 | exact h75 | exact h76) (by first | rfl | exact h52 | exact h54 | exact h57 | exact h59 | exact h60 | exact h62 | exact h63 | exact h65 | exact h66 | exact h67 | exact h68 | exact h70 | exact h71 | exact h73 | exact h74 | exact h75 | exact h76) (by first | rfl | exact h52 | exact h54 | exact h57 | exact h59 | exact h60 | exact h62 | exact h63 | exact h65 | exact h66 | exact h67 | exact h68 | exact h70 | exact h71 | exact h73 | exact h74 | exact h75 | exact h76) (by first | rfl | exact h52 | exact h54 | exact h57 | exact h59 | exact h60 | exact h62 | exact h63 | exact h65 | exact h66 | exact h67 | exact h68 | exact h70 | exact h71 | exact h73 | exact h74 | exact h75 | exact h76) (by first | rfl | exact h52 | exact h54 | exact h57 | exact h59 | exact h60 | exact h62 | exact h63 | exact h65 | exact h66 | exact h67 | exact h68 | exact h70 | exact h71 | exact h73 | exact h74 | exact h75 | exact h76)) ⟨callB_of 4 htx (xw_goodC kw_7_131) rfl rfl rfl (htx _ kw_1_5) (htx _ kw_7_128) ⟨by decide, by decide, by decide +kernel⟩ ⟨Nat.le_of_ble_eq_true rfl, Nat.le_of_ble_eq_true rfl⟩, (htx _ kw_7_129), (htx _ kw_7_130)⟩ ⟨xPre_blind, va_recv hK hP (ci := 5) rfl (q0 := 0) rfl, (fun U hU hW => ⟨rfl, xPre_of hZ hS hFc hPc hDc hK U hU hW⟩)⟩ rfl rfl hl.1 rfl (lv_room (Nat.le_of_ble_eq_true rfl)) dL_law_778 ⟨Nat.le_of_ble_eq_true rfl, Nat.le_of_ble_eq_true rfl⟩) hS (fun q _ h => hFc q h) hFc (fun u9 t H1 locs ht hvm hr9 hB hz1 hk1 hS => ?_)
  obtain ⟨q2, q3, hP1, hK1, hD1⟩ := hB
  rw [ht] at hP1
  obtain ⟨hP, hD⟩ := xjoin (W := [(a2, .inl (cT 2, 1, .inr (.inl f47))), (a0, .inr (0, [v12, v13, v14, .ref a4, .ref b15, .ref a3, v16, .int 1])), (a3, .inr (2, [v48, .int 0, .int 0])), (a4, .inl (cT 3, 8, .inr (.inr (.inr (.inr f51))))), (a5, .inr (2, [.ref a6, .int 1, v55])), (a6, .inl (cT 2, 4096, .inr (.inl f56))), (a1, .inr (5, [.int 2, .ref a10, .int 2, v20, .int 0, v22, v23, .int 0, .int 1, .int 0, v27, v28, .int 0, v30, v31, .ref a11, .int 4, .int 4, .int 0, .int 100, v37, v38, .int 0, .int 1000000000, .ref a7, .ref a8, v41, v42, v43, v44, .int 1, v46])), (a7, .inl (cT 5, 8, .inr (.inr (.inr (.inr f58))))), (a8, .inl (cT 1, 8, .inl f61)), (a9, .inl (cT 0, 4096, .inl f64)), (a10, .inl (cT 4, 1024, .inr (.inr (.inr (.inr (va_up (va_up f69 0 (some q2)) 1 (some q3))))))), (a11, .inl (cT 0, 4096, .inl f72)), (q2, .inr (6, [.int 0, .long 0, .int 0, .int 0, .int 0, .int 1])), (q3, .inr (6, [.int 0, .long 0, .int 0, .int 0, .int 0, .int 1]))]) hP hD [0, 2, 3, 4, 5, 6] [1, 7, 8, 9, 10, 11] 6 rfl rfl (by decide) (by decide) hk1 hFc hP1 hD1
  generalize H1 = H at hP hS ⊢
  refine lv_aload_n hx hb dL_law_781 rfl (lv_at hl 3 rfl) ?_
  obtain ⟨hPc, hDc, hFc⟩ := xcut (wc := [(a1, .inr (5, [.int 2, .ref a10, .int 2, v20, .int 0, v22, v23, .int 0, .int 1, .int 0, v27, v28, .int 0, v30, v31, .ref a11, .int 4, .int 4, .int 0, .int 100, v37, v38, .int 0, .int 1000000000, .ref a7, .ref a8, v41, v42, v43, v44, .int 1, v46]))]) hP hD hS hA [6] rfl rfl (by decide)
  refine va_calli (va_runV (C := "ValueBenchModel") (As := []) (rest := []) ⟨hx, hb, hml, hown, htx⟩ (cM_thrown_2 l hl9 D cT aK aV H.size a1 (.ref a10) (.int 2) v20 (.int 0) v22 v23 (.int 0) (.int 1) (.int 0) v27 v28 (.int 0) v30 v31 (.ref a11) (.int 4) (.int 4) (.int 0) (.int 100) v37 v38 (.int 0) (.int 1000000000) (.ref a7) (.ref a8) v41 v42 v43 v44 (.int 1) v46) ⟨callB_of 0 htx (xw_goodC kw_5_187) rfl rfl rfl (htx _ kw_1_5) (htx _ kw_5_184) ⟨by decide, by decide, by decide +kernel⟩ ⟨Nat.le_of_ble_eq_true rfl, Nat.le_of_ble_eq_true rfl⟩, (htx _ kw_5_185), (htx _ kw_5_186)⟩ ⟨xPre_blind, va_recv hK hP (ci := 5) rfl (q0 := 6) rfl, (fun U hU hW => ⟨rfl, xPre_of hZ hS hFc hPc hDc hK U hU hW⟩)⟩ rfl rfl hl.1 rfl (lv_room (Nat.le_of_ble_eq_true rfl)) dL_law_782 ⟨Nat.le_of_ble_eq_true rfl, Nat.le_of_ble_eq_true rfl⟩) hS (fun q _ h => hFc q h) hFc (fun r4 u9 t H1 locs ht hvm hr9 hB hz1 hk1 hS => ?_)
  obtain ⟨hP1, hK1, hD1⟩ := hB
  rw [ht] at hP1
  obtain ⟨hP, hD⟩ := xjoin (W := [(a2, .inl (cT 2, 1, .inr (.inl f47))), (a0, .inr (0, [v12, v13, v14, .ref a4, .ref b15, .ref a3, v16, .int 1])), (a3, .inr (2, [v48, .int 0, .int 0])), (a4, .inl (cT 3, 8, .inr (.inr (.inr (.inr f51))))), (a5, .inr (2, [.ref a6, .int 1, v55])), (a6, .inl (cT 2, 4096, .inr (.inl f56))), (a7, .inl (cT 5, 8, .inr (.inr (.inr (.inr f58))))), (a8, .inl (cT 1, 8, .inl f61)), (a9, .inl (cT 0, 4096, .inl f64)), (a10, .inl (cT 4, 1024, .inr (.inr (.inr (.inr (va_up (va_up f69 0 (some q2)) 1 (some q3))))))), (a11, .inl (cT 0, 4096, .inl f72)), (q2, .inr (6, [.int 0, .long 0, .int 0, .int 0, .int 0, .int 1])), (q3, .inr (6, [.int 0, .long 0, .int 0, .int 0, .int 0, .int 1])), (a1, .inr (5, [.int 2, .ref a10, .int 2, v20, .int 0, v22, v23, .int 0, .int 1, .int 0, v27, v28, .int 0, v30, v31, .ref a11, .int 4, .int 4, .int 0, .int 100, v37, v38, .int 0, .int 1000000000, .ref a7, .ref a8, v41, v42, v43, v44, .int 1, v46]))]) hP hD [6] [0, 1, 2, 3, 4, 5, 7, 8, 9, 10, 11, 12, 13] 13 rfl rfl (by decide) (by decide) hk1 hFc hP1 hD1
  generalize H1 = H at hP hS ⊢
  rw [hr9]
  refine W.eq (g2 := F0 m 785 ls [.int 2]) rfl ?_
  refine lv_iload hx hb dL_law_785 (lv_at hl 0 rfl) ?_
  refine lv_icmp_eq (tgt := 792) hx hb dL_law_787 (by decide) (fun _ => ?_) (fun h => ((by revert h; decide : False)).elim)
  refine lv_goto (tgt := 906) hx hb dL_law_792 (by decide) ?_
  refine lv_iinc (v := 6) (lv' := [(4, .int 6), (5, .int 2), (3, .ref a2), (2, .ref a1), (1, .ref a0), (0, .ref b)]) hx hb dL_law_906 hl (k := 1) rfl (by decide) (by decide) rfl (fun ls hl => ?_)
  refine lv_goto (tgt := 23) hx hb dL_law_909 (by decide) ?_
  refine lv_iload hx hb dL_law_23 (lv_at hl 0 rfl) ?_
  refine lv_aload_n hx hb dL_law_25 rfl (lv_at hl 5 rfl) ?_
  refine va_slen hx hb hXs hbl hbA hS dL_law_26 ?_
  refine W.eq (g2 := F0 m 27 ls [.int 6, .int 6]) rfl ?_
  refine lv_bipush (v := 6) hx hb dL_law_27 (by decide) ?_
  refine lv_isub hx hb dL_law_29 ?_
  refine W.eq (g2 := F0 m 30 ls [.int 0, .int 6]) rfl ?_
  refine lv_icmp_gt (tgt := 912) hx hb dL_law_30 (by decide) (fun _ => ?_) (fun h => ((by revert h; decide : False)).elim)
  refine lv_iconst (v := 1) hx hb dL_law_912 (by decide) ?_
  exact va_forget (fun q h => hA2 _ (hS.2.2 q h)) (W.widen (k := 600002) (n := 7302232) (Nat.le_of_ble_eq_true rfl) (Nat.le_of_ble_eq_true rfl) (lw_ret hx hb hr hlocks dL_law_913))
set_option maxHeartbeats 400000000 in
set_option maxRecDepth 100000 in
theorem lf_sort3_p3 {p : Program} {e : Env} {s : State} {m : MethodId} {below : List Frame} {meth : Method} {c : Code} (l : Launch) (hl9 : l.stackTraces = false) (D : va_G) (cT : Nat → ClassId) (aK aV : Nat → Nat) {A : Nat → Prop} {b : Nat} {xs : Nat → Int32} (C : xLw p s m meth c b D cT aK aV A) {H : Heap} {locs : List Loc} {ls : Array Slot} (a0 : Nat) (a1 : Nat) (a2 : Nat) (a3 : Nat) (a4 : Nat) (a5 : Nat) (a6 : Nat) (a7 : Nat) (a8 : Nat) (a9 : Nat) (a10 : Nat) (a11 : Nat) (v12 : Value) (v13 : Value) (v14 : Value) (b15 : Nat) (v16 : Value) (v17 : Value) (v18 : Value) (v19 : Value) (v20 : Value) (v21 : Value) (v22 : Value) (v23 : Value) (v24 : Value) (v25 : Value) (v26 : Value) (v27 : Value) (v28 : Value) (v29 : Value) (v30 : Value) (v31 : Value) (v32 : Value) (v33 : Value) (v34 : Value) (v35 : Value) (v36 : Value) (v37 : Value) (v38 : Value) (v39 : Value) (v40 : Value) (v41 : Value) (v42 : Value) (v43 : Value) (v44 : Value) (v45 : Value) (v46 : Value) (f47 : Nat → Int64) (v48 : Value) (v49 : Value) (v50 : Value) (f51 : Nat → Option Nat) (b53 : Nat) (v55 : Value) (f56 : Nat → Int64) (f58 : Nat → Option Nat) (f61 : Nat → Int32) (f64 : Nat → Int32) (f69 : Nat → Option Nat) (f72 : Nat → Int32) (h52 : f51 (xs 3).toNatClampNeg = some a5) (h54 : f51 (xs 4).toNatClampNeg = some b53) (h57 : f56 0 = 0) (h59 : f58 (xs 3).toNatClampNeg = some a9) (h60 : f58 (xs 4).toNatClampNeg = some a11) (h62 : f61 (xs 3).toNatClampNeg = 4) (h63 : f61 (xs 4).toNatClampNeg = 4) (h65 : f64 0 = 110) (h66 : f64 1 = 117) (h67 : f64 2 = 108) (h68 : f64 3 = 108) (h70 : f69 0 = none) (h71 : f69 1 = none) (h73 : f72 0 = 110) (h74 : f72 1 = 117) (h75 : f72 2 = 108) (h76 : f72 3 = 108) (hto1 : ¬ (xs 1) < 0) (hto2 : ¬ 7 < (xs 1)) (hto3 : (xs 1) ≤ 7) (hto4 : vp_in (xs 1) 8) (hf : xs 2 = 3) (ha1 : ¬ (xs 3) < 0) (ha2 : ¬ 7 < (xs 3)) (ha3 : (xs 3) ≤ 7) (ha4 : vp_in (xs 3) 8) (hb1 : ¬ (xs 4) < 0) (hb2 : ¬ 7 < (xs 4)) (hb3 : (xs 4) ≤ 7) (hb4 : vp_in (xs 4) 8) (hXs : va_X b 6 xs s s.heap) (hP : va_P D xcl [(a0, .inr (0, [v12, v13, v14, .ref a4, .ref b15, .ref a3, v16, v17])), (a1, .inr (5, [v18, .ref a10, v19, v20, v21, v22, v23, v24, v25, v26, v27, v28, v29, v30, v31, v32, v33, v34, v35, v36, v37, v38, v39, v40, .ref a7, .ref a8, v41, v42, v43, v44, v45, v46])), (a2, .inl (cT 2, 1, .inr (.inl f47))), (a3, .inr (2, [v48, v49, v50])), (a4, .inl (cT 3, 8, .inr (.inr (.inr (.inr f51))))), (a5, .inr (2, [.ref a6, .int 1, v55])), (a6, .inl (cT 2, 4096, .inr (.inl f56))), (a7, .inl (cT 5, 8, .inr (.inr (.inr (.inr f58))))), (a8, .inl (cT 1, 8, .inl f61)), (a9, .inl (cT 0, 4096, .inl f64)), (a10, .inl (cT 4, 1024, .inr (.inr (.inr (.inr f69))))), (a11, .inl (cT 0, 4096, .inl f72))] H) (hD : va_D A [(a0, .inr (0, [v12, v13, v14, .ref a4, .ref b15, .ref a3, v16, v17])), (a1, .inr (5, [v18, .ref a10, v19, v20, v21, v22, v23, v24, v25, v26, v27, v28, v29, v30, v31, v32, v33, v34, v35, v36, v37, v38, v39, v40, .ref a7, .ref a8, v41, v42, v43, v44, v45, v46])), (a2, .inl (cT 2, 1, .inr (.inl f47))), (a3, .inr (2, [v48, v49, v50])), (a4, .inl (cT 3, 8, .inr (.inr (.inr (.inr f51))))), (a5, .inr (2, [.ref a6, .int 1, v55])), (a6, .inl (cT 2, 4096, .inr (.inl f56))), (a7, .inl (cT 5, 8, .inr (.inr (.inr (.inr f58))))), (a8, .inl (cT 1, 8, .inl f61)), (a9, .inl (cT 0, 4096, .inl f64)), (a10, .inl (cT 4, 1024, .inr (.inr (.inr (.inr f69))))), (a11, .inl (cT 0, 4096, .inl f72))]) (hS : va_S A s.heap H locs) (hl : lv_has ls 8 [(4, .int 0), (3, .ref a2), (2, .ref a1), (1, .ref a0), (0, .ref b)]) : W p l e room_1 s m #[Value.ref b] below meth c H locs 54 107242 (lw_Z below #[Value.ref b] s) (F0 m 723 ls []) := by
  obtain ⟨hx, hb, hr, hml, hown, htx, hbl, hbA, hlocks, hK, hZ, hA, hA2⟩ := C
  refine lv_aload_n hx hb dL_law_723 rfl (lv_at hl 3 rfl) ?_
  refine lv_aload_n hx hb dL_law_724 rfl (lv_at hl 4 rfl) ?_
  refine lv_iload hx hb dL_law_725 (lv_at hl 0 rfl) ?_
  refine lv_iconst (v := 1) hx hb dL_law_727 (by decide) ?_
  refine lv_iadd hx hb dL_law_728 ?_
  refine W.eq (g2 := F0 m 729 ls [.int 1, .ref b, .ref a0]) rfl ?_
  refine va_sld hx hb hXs hbl hbA hS (i := 1) (show ¬ ((1 : Int32) < 0 ∨ 6 ≤ (1 : Int32).toNatClampNeg) by decide) dL_law_729 ?_
  refine W.eq (g2 := F0 m 730 ls [.int (xs 1), .ref a0]) rfl ?_
  refine lv_aload_n hx hb dL_law_730 rfl (lv_at hl 4 rfl) ?_
  refine lv_iload hx hb dL_law_731 (lv_at hl 0 rfl) ?_
  refine lv_iconst (v := 2) hx hb dL_law_733 (by decide) ?_
  refine lv_iadd hx hb dL_law_734 ?_
  refine W.eq (g2 := F0 m 735 ls [.int 2, .ref b, .int (xs 1), .ref a0]) rfl ?_
  refine va_sld hx hb hXs hbl hbA hS (i := 2) (show ¬ ((2 : Int32) < 0 ∨ 6 ≤ (2 : Int32).toNatClampNeg) by decide) dL_law_735 ?_
  refine W.eq (g2 := F0 m 736 ls [.int (xs 2), .int (xs 1), .ref a0]) rfl ?_
  rw [hf]
  refine W.eq (g2 := F0 m 736 ls [.int 3, .int (xs 1), .ref a0]) rfl ?_
  refine lv_aload_n hx hb dL_law_736 rfl (lv_at hl 4 rfl) ?_
  refine lv_iload hx hb dL_law_737 (lv_at hl 0 rfl) ?_
  refine lv_iconst (v := 3) hx hb dL_law_739 (by decide) ?_
  refine lv_iadd hx hb dL_law_740 ?_
  refine W.eq (g2 := F0 m 741 ls [.int 3, .ref b, .int 3, .int (xs 1), .ref a0]) rfl ?_
  refine va_sld hx hb hXs hbl hbA hS (i := 3) (show ¬ ((3 : Int32) < 0 ∨ 6 ≤ (3 : Int32).toNatClampNeg) by decide) dL_law_741 ?_
  refine W.eq (g2 := F0 m 742 ls [.int (xs 3), .int 3, .int (xs 1), .ref a0]) rfl ?_
  refine lv_aload_n hx hb dL_law_742 rfl (lv_at hl 4 rfl) ?_
  refine lv_iload hx hb dL_law_743 (lv_at hl 0 rfl) ?_
  refine lv_iconst (v := 4) hx hb dL_law_745 (by decide) ?_
  refine lv_iadd hx hb dL_law_746 ?_
  refine W.eq (g2 := F0 m 747 ls [.int 4, .ref b, .int (xs 3), .int 3, .int (xs 1), .ref a0]) rfl ?_
  refine va_sld hx hb hXs hbl hbA hS (i := 4) (show ¬ ((4 : Int32) < 0 ∨ 6 ≤ (4 : Int32).toNatClampNeg) by decide) dL_law_747 ?_
  refine W.eq (g2 := F0 m 748 ls [.int (xs 4), .int (xs 3), .int 3, .int (xs 1), .ref a0]) rfl ?_
  obtain ⟨hPc, hDc, hFc⟩ := xcut (wc := [(a0, .inr (0, [v12, v13, v14, .ref a4, .ref b15, .ref a3, v16, v17])), (a3, .inr (2, [v48, v49, v50])), (a4, .inl (cT 3, 8, .inr (.inr (.inr (.inr f51))))), (a5, .inr (2, [.ref a6, .int 1, v55])), (a6, .inl (cT 2, 4096, .inr (.inl f56)))]) hP hD hS hA [0, 3, 4, 5, 6] rfl rfl (by decide)
  refine va_calli (vx_runSW (As := [.ref a0, .int (xs 1), .int 3, .int (xs 3), .int (xs 4)]) (rest := []) ⟨hx, hb, hml, hown, htx⟩ (cL_sort_15 l hl9 D cT aK aV H.size a0 a3 a4 a5 a6 (xs 1) (xs 3) (xs 4) v12 v13 v14 b15 v16 v17 v48 v49 v50 f51 b53 v55 f56 hto1 hto2 hto3 hto4 ha1 ha2 ha3 ha4 hb1 hb2 hb3 hb4 (by first | rfl | exact h52 | exact h54 | exact h57 | exact h59 | exact h60 | exact h62 | exact h63 | exact h65 | exact h66 | exact h67 | exact h68 | exact h70 | exact h71 | exact h73 | exact h74 | exact h75 | exact h76) (by first | rfl | exact h52 | exact h54 | exact h57 | exact h59 | exact h60 | exact h62 | exact h63 | exact h65 | exact h66 | exact h67 | exact h68 | exact h70 | exact h71 | exact h73 | exact h74 | exact h75 | exact h76) (by first | rfl | exact h52 | exact h54 | exact h57 | exact h59 | exact h60 | exact h62 | exact h63 | exact h65 | exact h66 | exact h67 | exact h68 | exact h70 | exact h71 | exact h73 | exact h74 | exact h75 | exact h76)) (xcSW 5 htx (xw_goodC kw_5_14) rfl rfl rfl (htx _ kw_1_0) (htx _ kw_5_12) ⟨by decide, by decide, by decide +kernel⟩ ⟨Nat.le_of_ble_eq_true rfl, Nat.le_of_ble_eq_true rfl⟩ (htx _ kw_5_13)) ⟨xPre_blind, (fun U hU hW => ⟨rfl, xPre_of hZ hS hFc hPc hDc hK U hU hW⟩)⟩ rfl rfl hl.1 rfl (lv_room (Nat.le_of_ble_eq_true rfl)) dL_law_748 ⟨Nat.le_of_ble_eq_true rfl, Nat.le_of_ble_eq_true rfl⟩) hS (fun q _ h => hFc q h) hFc (fun r1 u9 t H1 locs ht hvm hr9 hB hz1 hk1 hS => ?_)
  obtain ⟨hP1, hK1, hD1⟩ := hB
  rw [ht] at hP1
  obtain ⟨hP, hD⟩ := xjoin (W := [(a1, .inr (5, [v18, .ref a10, v19, v20, v21, v22, v23, v24, v25, v26, v27, v28, v29, v30, v31, v32, v33, v34, v35, v36, v37, v38, v39, v40, .ref a7, .ref a8, v41, v42, v43, v44, v45, v46])), (a2, .inl (cT 2, 1, .inr (.inl f47))), (a7, .inl (cT 5, 8, .inr (.inr (.inr (.inr f58))))), (a8, .inl (cT 1, 8, .inl f61)), (a9, .inl (cT 0, 4096, .inl f64)), (a10, .inl (cT 4, 1024, .inr (.inr (.inr (.inr f69))))), (a11, .inl (cT 0, 4096, .inl f72)), (a0, .inr (0, [v12, v13, v14, .ref a4, .ref b15, .ref a3, v16, .int 1])), (a3, .inr (2, [v48, .int 0, .int 0])), (a4, .inl (cT 3, 8, .inr (.inr (.inr (.inr f51))))), (a5, .inr (2, [.ref a6, .int 1, v55])), (a6, .inl (cT 2, 4096, .inr (.inl f56)))]) hP hD [0, 3, 4, 5, 6] [1, 2, 7, 8, 9, 10, 11] 7 rfl rfl (by decide) (by decide) hk1 hFc hP1 hD1
  generalize H1 = H at hP hS ⊢
  rw [hr9]
  refine W.eq (g2 := F0 m 751 ls [.int 2]) rfl ?_
  refine lv_istore (lv' := [(5, .int 2), (4, .int 0), (3, .ref a2), (2, .ref a1), (1, .ref a0), (0, .ref b)]) hx hb dL_law_751 hl (by decide) rfl (fun ls hl => ?_)
  refine lv_aload_n hx hb dL_law_753 rfl (lv_at hl 3 rfl) ?_
  refine lv_aload_n hx hb dL_law_754 rfl (lv_at hl 5 rfl) ?_
  refine lv_iload hx hb dL_law_755 (lv_at hl 1 rfl) ?_
  refine lv_iconst (v := 1) hx hb dL_law_757 (by decide) ?_
  refine lv_iadd hx hb dL_law_758 ?_
  refine W.eq (g2 := F0 m 759 ls [.int 1, .ref b, .ref a1]) rfl ?_
  refine va_sld hx hb hXs hbl hbA hS (i := 1) (show ¬ ((1 : Int32) < 0 ∨ 6 ≤ (1 : Int32).toNatClampNeg) by decide) dL_law_759 ?_
  refine W.eq (g2 := F0 m 760 ls [.int (xs 1), .ref a1]) rfl ?_
  refine lv_aload_n hx hb dL_law_760 rfl (lv_at hl 5 rfl) ?_
  refine lv_iload hx hb dL_law_761 (lv_at hl 1 rfl) ?_
  refine lv_iconst (v := 2) hx hb dL_law_763 (by decide) ?_
  refine lv_iadd hx hb dL_law_764 ?_
  refine W.eq (g2 := F0 m 765 ls [.int 2, .ref b, .int (xs 1), .ref a1]) rfl ?_
  refine va_sld hx hb hXs hbl hbA hS (i := 2) (show ¬ ((2 : Int32) < 0 ∨ 6 ≤ (2 : Int32).toNatClampNeg) by decide) dL_law_765 ?_
  refine W.eq (g2 := F0 m 766 ls [.int (xs 2), .int (xs 1), .ref a1]) rfl ?_
  rw [hf]
  refine W.eq (g2 := F0 m 766 ls [.int 3, .int (xs 1), .ref a1]) rfl ?_
  refine lv_aload_n hx hb dL_law_766 rfl (lv_at hl 5 rfl) ?_
  refine lv_iload hx hb dL_law_767 (lv_at hl 1 rfl) ?_
  refine lv_iconst (v := 3) hx hb dL_law_769 (by decide) ?_
  refine lv_iadd hx hb dL_law_770 ?_
  refine W.eq (g2 := F0 m 771 ls [.int 3, .ref b, .int 3, .int (xs 1), .ref a1]) rfl ?_
  refine va_sld hx hb hXs hbl hbA hS (i := 3) (show ¬ ((3 : Int32) < 0 ∨ 6 ≤ (3 : Int32).toNatClampNeg) by decide) dL_law_771 ?_
  refine W.eq (g2 := F0 m 772 ls [.int (xs 3), .int 3, .int (xs 1), .ref a1]) rfl ?_
  refine lv_aload_n hx hb dL_law_772 rfl (lv_at hl 5 rfl) ?_
  refine lv_iload hx hb dL_law_773 (lv_at hl 1 rfl) ?_
  refine lv_iconst (v := 4) hx hb dL_law_775 (by decide) ?_
  refine lv_iadd hx hb dL_law_776 ?_
  refine W.eq (g2 := F0 m 777 ls [.int 4, .ref b, .int (xs 3), .int 3, .int (xs 1), .ref a1]) rfl ?_
  refine va_sld hx hb hXs hbl hbA hS (i := 4) (show ¬ ((4 : Int32) < 0 ∨ 6 ≤ (4 : Int32).toNatClampNeg) by decide) dL_law_777 ?_
  refine W.eq (g2 := F0 m 778 ls [.int (xs 4), .int (xs 3), .int 3, .int (xs 1), .ref a1]) rfl ?_
  obtain ⟨hPc, hDc, hFc⟩ := xcut (wc := [(a1, .inr (5, [v18, .ref a10, v19, v20, v21, v22, v23, v24, v25, v26, v27, v28, v29, v30, v31, v32, v33, v34, v35, v36, v37, v38, v39, v40, .ref a7, .ref a8, v41, v42, v43, v44, v45, v46])), (a7, .inl (cT 5, 8, .inr (.inr (.inr (.inr f58))))), (a8, .inl (cT 1, 8, .inl f61)), (a9, .inl (cT 0, 4096, .inl f64)), (a10, .inl (cT 4, 1024, .inr (.inr (.inr (.inr f69))))), (a11, .inl (cT 0, 4096, .inl f72))]) hP hD hS hA [0, 2, 3, 4, 5, 6] rfl rfl (by decide)
  refine va_callv (va_runV (C := "ValueBenchModel") (As := [.int (xs 1), .int 3, .int (xs 3), .int (xs 4)]) (rest := []) ⟨hx, hb, hml, hown, htx⟩ (cM_sort0_15 l hl9 D cT aK aV H.size a1 a7 a8 a9 a10 a11 (xs 1) (xs 3) (xs 4) v18 v19 v20 v21 v22 v23 v24 v25 v26 v27 v28 v29 v30 v31 v32 v33 v34 v35 v36 v37 v38 v39 v40 v41 v42 v43 v44 v45 v46 f58 f61 f64 f69 f72 hto1 hto2 hto3 hto4 ha1 ha2 ha3 ha4 hb1 hb2 hb3 hb4 (by first | rfl | exact h52 | exact h54 | exact h57 | exact h59 | exact h60 | exact h62 | exact h63 | exact h65 | exact h66 | exact h67 | exact h68 | exact h70 | exact h71 | exact h73 | exact h74 | exact h75 | exact h76) (by first | rfl | exact h52 | exact h54 | exact h57 | exact h59 | exact h60 | exact h62 | exact h63 | exact h65 | exact h66 | exact h67 | exact h68 | exact h70 | exact h71 | exact h73 | exact h74 | exact h75 | exact h76) (by first | rfl | exact h52 | exact h54 | exact h57 | exact h59 | exact h60 | exact h62 | exact h63 | exact h65 | exact h66 | exact h67 | exact h68 | exact h70 | exact h71 | exact h73 | exact h74 | exact h75 | exact h76) (by first | rfl | exact h52 | exact h54 | exact h57 | exact h59 | exact h60 | exact h62 | exact h63 | exact h65 | exact h66 | exact h67 | exact h68 | exact h70 | exact h71 | exact h73 | exact h74 | exact h75 | exact h76) (by first | rfl | exact h52 | exact h54 | exact h57 | exact h59 | exact h60 | exact h62 | exact h63 | exact h65 | exact h66 | exact h67 | exact h68 | exact h70 | exact h71 | exact h73 | exact h74 | exact h75 | exact h76) (by first | rfl | exact h52 | exact h54 | exact h57 | exact h59 | exact h60 | exact h62 | exact h63 | exact h65 | exact h66 | exact h67 | exact h68 | exact h70 | exact h71 | exact h73 | exact h74 | exact h75 | exact h76) (by first | rfl | exact h52 | exact h54 | exact h57 | exact h59 | exact h60 | exact h62 | exact h63 | exact h65 | exact h66 | exact h67 | exact h68 | exact h70 | exact h71 | exact h73 | exact h74 | exact h75 | exact h76) (by first | rfl | exact h52 | exact h54 | exact h57 | exact h59 | exact h60 | exact h62 | exact h63 | exact h65 | exact h66 | exact h67 | exact h68 | exact h70 | exact h71 | exact h73 | exact h74 | exact h75 | exact h76) (by first | rfl | exact h52 | exact h54 | exact h57 | exact h59 | exact h60 | exact h62 | exact h63 | exact h65 | exact h66 | exact h67 | exact h68 | exact h70 | exact h71 | exact h73 | exact h74 | exact h75 | exact h76) (by first | rfl | exact h52 | exact h54 | exact h57 | exact h59 | exact h60 | exact h62 | exact h63 | exact h65 | exact h66 | exact h67 | exact h68 | exact h70 | exact h71 | exact h73 | exact h74 | exact h75 | exact h76) (by first | rfl | exact h52 | exact h54 | exact h57 | exact h59 | exact h60 | exact h62 | exact h63 | exact h65 | exact h66 | exact h67 | exact h68 | exact h70 | exact h71 | exact h73 | exact h74 | exact h75 | exact h76) (by first | rfl | exact h52 | exact h54 | exact h57 | exact h59 | exact h60 | exact h62 | exact h63 | exact h65 | exact h66 | exact h67 | exact h68 | exact h70 | exact h71 | exact h73 | exact h74 | exact h75 | exact h76) (by first | rfl | exact h52 | exact h54 | exact h57 | exact h59 | exact h60 | exact h62 | exact h63 | exact h65 | exact h66 | exact h67 | exact h68 | exact h70 | exact h71 | exact h73 | exact h74 | exact h75 | exact h76) (by first | rfl | exact h52 | exact h54 | exact h57 | exact h59 | exact h60 | exact h62 | exact h63 | exact h65 | exact h66 | exact h67 | exact h68 | exact h70 | exact h71 | exact h73 | exact h74 | exact h75 | exact h76)) ⟨callB_of 4 htx (xw_goodC kw_7_131) rfl rfl rfl (htx _ kw_1_5) (htx _ kw_7_128) ⟨by decide, by decide, by decide +kernel⟩ ⟨Nat.le_of_ble_eq_true rfl, Nat.le_of_ble_eq_true rfl⟩, (htx _ kw_7_129), (htx _ kw_7_130)⟩ ⟨xPre_blind, va_recv hK hP (ci := 5) rfl (q0 := 0) rfl, (fun U hU hW => ⟨rfl, xPre_of hZ hS hFc hPc hDc hK U hU hW⟩)⟩ rfl rfl hl.1 rfl (lv_room (Nat.le_of_ble_eq_true rfl)) dL_law_778 ⟨Nat.le_of_ble_eq_true rfl, Nat.le_of_ble_eq_true rfl⟩) hS (fun q _ h => hFc q h) hFc (fun u9 t H1 locs ht hvm hr9 hB hz1 hk1 hS => ?_)
  obtain ⟨q2, q3, hP1, hK1, hD1⟩ := hB
  rw [ht] at hP1
  obtain ⟨hP, hD⟩ := xjoin (W := [(a2, .inl (cT 2, 1, .inr (.inl f47))), (a0, .inr (0, [v12, v13, v14, .ref a4, .ref b15, .ref a3, v16, .int 1])), (a3, .inr (2, [v48, .int 0, .int 0])), (a4, .inl (cT 3, 8, .inr (.inr (.inr (.inr f51))))), (a5, .inr (2, [.ref a6, .int 1, v55])), (a6, .inl (cT 2, 4096, .inr (.inl f56))), (a1, .inr (5, [.int 2, .ref a10, .int 2, v20, .int 0, v22, v23, .int 0, .int 1, .int 0, v27, v28, .int 0, v30, v31, .ref a11, .int 4, .int 4, .int 0, .int 100, v37, v38, .int 0, .int 1000000000, .ref a7, .ref a8, v41, v42, v43, v44, .int 1, v46])), (a7, .inl (cT 5, 8, .inr (.inr (.inr (.inr f58))))), (a8, .inl (cT 1, 8, .inl f61)), (a9, .inl (cT 0, 4096, .inl f64)), (a10, .inl (cT 4, 1024, .inr (.inr (.inr (.inr (va_up (va_up f69 0 (some q2)) 1 (some q3))))))), (a11, .inl (cT 0, 4096, .inl f72)), (q2, .inr (6, [.int 0, .long 0, .int 0, .int 0, .int 0, .int 1])), (q3, .inr (6, [.int 0, .long 0, .int 0, .int 0, .int 0, .int 1]))]) hP hD [0, 2, 3, 4, 5, 6] [1, 7, 8, 9, 10, 11] 6 rfl rfl (by decide) (by decide) hk1 hFc hP1 hD1
  generalize H1 = H at hP hS ⊢
  refine lv_aload_n hx hb dL_law_781 rfl (lv_at hl 3 rfl) ?_
  obtain ⟨hPc, hDc, hFc⟩ := xcut (wc := [(a1, .inr (5, [.int 2, .ref a10, .int 2, v20, .int 0, v22, v23, .int 0, .int 1, .int 0, v27, v28, .int 0, v30, v31, .ref a11, .int 4, .int 4, .int 0, .int 100, v37, v38, .int 0, .int 1000000000, .ref a7, .ref a8, v41, v42, v43, v44, .int 1, v46]))]) hP hD hS hA [6] rfl rfl (by decide)
  refine va_calli (va_runV (C := "ValueBenchModel") (As := []) (rest := []) ⟨hx, hb, hml, hown, htx⟩ (cM_thrown_2 l hl9 D cT aK aV H.size a1 (.ref a10) (.int 2) v20 (.int 0) v22 v23 (.int 0) (.int 1) (.int 0) v27 v28 (.int 0) v30 v31 (.ref a11) (.int 4) (.int 4) (.int 0) (.int 100) v37 v38 (.int 0) (.int 1000000000) (.ref a7) (.ref a8) v41 v42 v43 v44 (.int 1) v46) ⟨callB_of 0 htx (xw_goodC kw_5_187) rfl rfl rfl (htx _ kw_1_5) (htx _ kw_5_184) ⟨by decide, by decide, by decide +kernel⟩ ⟨Nat.le_of_ble_eq_true rfl, Nat.le_of_ble_eq_true rfl⟩, (htx _ kw_5_185), (htx _ kw_5_186)⟩ ⟨xPre_blind, va_recv hK hP (ci := 5) rfl (q0 := 6) rfl, (fun U hU hW => ⟨rfl, xPre_of hZ hS hFc hPc hDc hK U hU hW⟩)⟩ rfl rfl hl.1 rfl (lv_room (Nat.le_of_ble_eq_true rfl)) dL_law_782 ⟨Nat.le_of_ble_eq_true rfl, Nat.le_of_ble_eq_true rfl⟩) hS (fun q _ h => hFc q h) hFc (fun r4 u9 t H1 locs ht hvm hr9 hB hz1 hk1 hS => ?_)
  obtain ⟨hP1, hK1, hD1⟩ := hB
  rw [ht] at hP1
  obtain ⟨hP, hD⟩ := xjoin (W := [(a2, .inl (cT 2, 1, .inr (.inl f47))), (a0, .inr (0, [v12, v13, v14, .ref a4, .ref b15, .ref a3, v16, .int 1])), (a3, .inr (2, [v48, .int 0, .int 0])), (a4, .inl (cT 3, 8, .inr (.inr (.inr (.inr f51))))), (a5, .inr (2, [.ref a6, .int 1, v55])), (a6, .inl (cT 2, 4096, .inr (.inl f56))), (a7, .inl (cT 5, 8, .inr (.inr (.inr (.inr f58))))), (a8, .inl (cT 1, 8, .inl f61)), (a9, .inl (cT 0, 4096, .inl f64)), (a10, .inl (cT 4, 1024, .inr (.inr (.inr (.inr (va_up (va_up f69 0 (some q2)) 1 (some q3))))))), (a11, .inl (cT 0, 4096, .inl f72)), (q2, .inr (6, [.int 0, .long 0, .int 0, .int 0, .int 0, .int 1])), (q3, .inr (6, [.int 0, .long 0, .int 0, .int 0, .int 0, .int 1])), (a1, .inr (5, [.int 2, .ref a10, .int 2, v20, .int 0, v22, v23, .int 0, .int 1, .int 0, v27, v28, .int 0, v30, v31, .ref a11, .int 4, .int 4, .int 0, .int 100, v37, v38, .int 0, .int 1000000000, .ref a7, .ref a8, v41, v42, v43, v44, .int 1, v46]))]) hP hD [6] [0, 1, 2, 3, 4, 5, 7, 8, 9, 10, 11, 12, 13] 13 rfl rfl (by decide) (by decide) hk1 hFc hP1 hD1
  generalize H1 = H at hP hS ⊢
  rw [hr9]
  refine W.eq (g2 := F0 m 785 ls [.int 2]) rfl ?_
  refine lv_iload hx hb dL_law_785 (lv_at hl 0 rfl) ?_
  refine lv_icmp_eq (tgt := 792) hx hb dL_law_787 (by decide) (fun _ => ?_) (fun h => ((by revert h; decide : False)).elim)
  refine lv_goto (tgt := 906) hx hb dL_law_792 (by decide) ?_
  refine lv_iinc (v := 6) (lv' := [(4, .int 6), (5, .int 2), (3, .ref a2), (2, .ref a1), (1, .ref a0), (0, .ref b)]) hx hb dL_law_906 hl (k := 1) rfl (by decide) (by decide) rfl (fun ls hl => ?_)
  refine lv_goto (tgt := 23) hx hb dL_law_909 (by decide) ?_
  refine lv_iload hx hb dL_law_23 (lv_at hl 0 rfl) ?_
  refine lv_aload_n hx hb dL_law_25 rfl (lv_at hl 5 rfl) ?_
  refine va_slen hx hb hXs hbl hbA hS dL_law_26 ?_
  refine W.eq (g2 := F0 m 27 ls [.int 6, .int 6]) rfl ?_
  refine lv_bipush (v := 6) hx hb dL_law_27 (by decide) ?_
  refine lv_isub hx hb dL_law_29 ?_
  refine W.eq (g2 := F0 m 30 ls [.int 0, .int 6]) rfl ?_
  refine lv_icmp_gt (tgt := 912) hx hb dL_law_30 (by decide) (fun _ => ?_) (fun h => ((by revert h; decide : False)).elim)
  refine lv_iconst (v := 1) hx hb dL_law_912 (by decide) ?_
  exact va_forget (fun q h => hA2 _ (hS.2.2 q h)) (W.widen (k := 600002) (n := 7302232) (Nat.le_of_ble_eq_true rfl) (Nat.le_of_ble_eq_true rfl) (lw_ret hx hb hr hlocks dL_law_913))
set_option maxHeartbeats 400000000 in
set_option maxRecDepth 100000 in
theorem lf_sort3_p0 {p : Program} {e : Env} {s : State} {m : MethodId} {below : List Frame} {meth : Method} {c : Code} (l : Launch) (hl9 : l.stackTraces = false) (D : va_G) (cT : Nat → ClassId) (aK aV : Nat → Nat) {A : Nat → Prop} {b : Nat} {xs : Nat → Int32} (C : xLw p s m meth c b D cT aK aV A) {H : Heap} {locs : List Loc} {ls : Array Slot} (a0 : Nat) (a1 : Nat) (a2 : Nat) (a3 : Nat) (a4 : Nat) (a5 : Nat) (a6 : Nat) (a7 : Nat) (a8 : Nat) (a9 : Nat) (a10 : Nat) (a11 : Nat) (v12 : Value) (v13 : Value) (v14 : Value) (b15 : Nat) (v16 : Value) (v17 : Value) (v18 : Value) (v19 : Value) (v20 : Value) (v21 : Value) (v22 : Value) (v23 : Value) (v24 : Value) (v25 : Value) (v26 : Value) (v27 : Value) (v28 : Value) (v29 : Value) (v30 : Value) (v31 : Value) (v32 : Value) (v33 : Value) (v34 : Value) (v35 : Value) (v36 : Value) (v37 : Value) (v38 : Value) (v39 : Value) (v40 : Value) (v41 : Value) (v42 : Value) (v43 : Value) (v44 : Value) (v45 : Value) (v46 : Value) (f47 : Nat → Int64) (v48 : Value) (v49 : Value) (v50 : Value) (f51 : Nat → Option Nat) (b53 : Nat) (v55 : Value) (f56 : Nat → Int64) (f58 : Nat → Option Nat) (f61 : Nat → Int32) (f64 : Nat → Int32) (f69 : Nat → Option Nat) (f72 : Nat → Int32) (h52 : f51 (xs 3).toNatClampNeg = some a5) (h54 : f51 (xs 4).toNatClampNeg = some b53) (h57 : f56 0 = 0) (h59 : f58 (xs 3).toNatClampNeg = some a9) (h60 : f58 (xs 4).toNatClampNeg = some a11) (h62 : f61 (xs 3).toNatClampNeg = 4) (h63 : f61 (xs 4).toNatClampNeg = 4) (h65 : f64 0 = 110) (h66 : f64 1 = 117) (h67 : f64 2 = 108) (h68 : f64 3 = 108) (h70 : f69 0 = none) (h71 : f69 1 = none) (h73 : f72 0 = 110) (h74 : f72 1 = 117) (h75 : f72 2 = 108) (h76 : f72 3 = 108) (hto1 : ¬ (xs 1) < 0) (hto2 : ¬ 7 < (xs 1)) (hto3 : (xs 1) ≤ 7) (hto4 : vp_in (xs 1) 8) (hf : xs 2 = 3) (ha1 : ¬ (xs 3) < 0) (ha2 : ¬ 7 < (xs 3)) (ha3 : (xs 3) ≤ 7) (ha4 : vp_in (xs 3) 8) (hb1 : ¬ (xs 4) < 0) (hb2 : ¬ 7 < (xs 4)) (hb3 : (xs 4) ≤ 7) (hb4 : vp_in (xs 4) 8) (hXs : va_X b 6 xs s s.heap) (hP : va_P D xcl [(a0, .inr (0, [v12, v13, v14, .ref a4, .ref b15, .ref a3, v16, v17])), (a1, .inr (5, [v18, .ref a10, v19, v20, v21, v22, v23, v24, v25, v26, v27, v28, v29, v30, v31, v32, v33, v34, v35, v36, v37, v38, v39, v40, .ref a7, .ref a8, v41, v42, v43, v44, v45, v46])), (a2, .inl (cT 2, 1, .inr (.inl f47))), (a3, .inr (2, [v48, v49, v50])), (a4, .inl (cT 3, 8, .inr (.inr (.inr (.inr f51))))), (a5, .inr (2, [.ref a6, .int 1, v55])), (a6, .inl (cT 2, 4096, .inr (.inl f56))), (a7, .inl (cT 5, 8, .inr (.inr (.inr (.inr f58))))), (a8, .inl (cT 1, 8, .inl f61)), (a9, .inl (cT 0, 4096, .inl f64)), (a10, .inl (cT 4, 1024, .inr (.inr (.inr (.inr f69))))), (a11, .inl (cT 0, 4096, .inl f72))] H) (hD : va_D A [(a0, .inr (0, [v12, v13, v14, .ref a4, .ref b15, .ref a3, v16, v17])), (a1, .inr (5, [v18, .ref a10, v19, v20, v21, v22, v23, v24, v25, v26, v27, v28, v29, v30, v31, v32, v33, v34, v35, v36, v37, v38, v39, v40, .ref a7, .ref a8, v41, v42, v43, v44, v45, v46])), (a2, .inl (cT 2, 1, .inr (.inl f47))), (a3, .inr (2, [v48, v49, v50])), (a4, .inl (cT 3, 8, .inr (.inr (.inr (.inr f51))))), (a5, .inr (2, [.ref a6, .int 1, v55])), (a6, .inl (cT 2, 4096, .inr (.inl f56))), (a7, .inl (cT 5, 8, .inr (.inr (.inr (.inr f58))))), (a8, .inl (cT 1, 8, .inl f61)), (a9, .inl (cT 0, 4096, .inl f64)), (a10, .inl (cT 4, 1024, .inr (.inr (.inr (.inr f69))))), (a11, .inl (cT 0, 4096, .inl f72))]) (hS : va_S A s.heap H locs) (hl : lv_has ls 8 [(4, .int 0), (3, .ref a2), (2, .ref a1), (1, .ref a0), (0, .ref b)]) : W p l e room_1 s m #[Value.ref b] below meth c H locs 54 107242 (lw_Z below #[Value.ref b] s) (F0 m 723 ls []) := by
  obtain ⟨hx, hb, hr, hml, hown, htx, hbl, hbA, hlocks, hK, hZ, hA, hA2⟩ := C
  refine lv_aload_n hx hb dL_law_723 rfl (lv_at hl 3 rfl) ?_
  refine lv_aload_n hx hb dL_law_724 rfl (lv_at hl 4 rfl) ?_
  refine lv_iload hx hb dL_law_725 (lv_at hl 0 rfl) ?_
  refine lv_iconst (v := 1) hx hb dL_law_727 (by decide) ?_
  refine lv_iadd hx hb dL_law_728 ?_
  refine W.eq (g2 := F0 m 729 ls [.int 1, .ref b, .ref a0]) rfl ?_
  refine va_sld hx hb hXs hbl hbA hS (i := 1) (show ¬ ((1 : Int32) < 0 ∨ 6 ≤ (1 : Int32).toNatClampNeg) by decide) dL_law_729 ?_
  refine W.eq (g2 := F0 m 730 ls [.int (xs 1), .ref a0]) rfl ?_
  refine lv_aload_n hx hb dL_law_730 rfl (lv_at hl 4 rfl) ?_
  refine lv_iload hx hb dL_law_731 (lv_at hl 0 rfl) ?_
  refine lv_iconst (v := 2) hx hb dL_law_733 (by decide) ?_
  refine lv_iadd hx hb dL_law_734 ?_
  refine W.eq (g2 := F0 m 735 ls [.int 2, .ref b, .int (xs 1), .ref a0]) rfl ?_
  refine va_sld hx hb hXs hbl hbA hS (i := 2) (show ¬ ((2 : Int32) < 0 ∨ 6 ≤ (2 : Int32).toNatClampNeg) by decide) dL_law_735 ?_
  refine W.eq (g2 := F0 m 736 ls [.int (xs 2), .int (xs 1), .ref a0]) rfl ?_
  rw [hf]
  refine W.eq (g2 := F0 m 736 ls [.int 3, .int (xs 1), .ref a0]) rfl ?_
  refine lv_aload_n hx hb dL_law_736 rfl (lv_at hl 4 rfl) ?_
  refine lv_iload hx hb dL_law_737 (lv_at hl 0 rfl) ?_
  refine lv_iconst (v := 3) hx hb dL_law_739 (by decide) ?_
  refine lv_iadd hx hb dL_law_740 ?_
  refine W.eq (g2 := F0 m 741 ls [.int 3, .ref b, .int 3, .int (xs 1), .ref a0]) rfl ?_
  refine va_sld hx hb hXs hbl hbA hS (i := 3) (show ¬ ((3 : Int32) < 0 ∨ 6 ≤ (3 : Int32).toNatClampNeg) by decide) dL_law_741 ?_
  refine W.eq (g2 := F0 m 742 ls [.int (xs 3), .int 3, .int (xs 1), .ref a0]) rfl ?_
  refine lv_aload_n hx hb dL_law_742 rfl (lv_at hl 4 rfl) ?_
  refine lv_iload hx hb dL_law_743 (lv_at hl 0 rfl) ?_
  refine lv_iconst (v := 4) hx hb dL_law_745 (by decide) ?_
  refine lv_iadd hx hb dL_law_746 ?_
  refine W.eq (g2 := F0 m 747 ls [.int 4, .ref b, .int (xs 3), .int 3, .int (xs 1), .ref a0]) rfl ?_
  refine va_sld hx hb hXs hbl hbA hS (i := 4) (show ¬ ((4 : Int32) < 0 ∨ 6 ≤ (4 : Int32).toNatClampNeg) by decide) dL_law_747 ?_
  refine W.eq (g2 := F0 m 748 ls [.int (xs 4), .int (xs 3), .int 3, .int (xs 1), .ref a0]) rfl ?_
  obtain ⟨hPc, hDc, hFc⟩ := xcut (wc := [(a0, .inr (0, [v12, v13, v14, .ref a4, .ref b15, .ref a3, v16, v17])), (a3, .inr (2, [v48, v49, v50])), (a4, .inl (cT 3, 8, .inr (.inr (.inr (.inr f51))))), (a5, .inr (2, [.ref a6, .int 1, v55])), (a6, .inl (cT 2, 4096, .inr (.inl f56)))]) hP hD hS hA [0, 3, 4, 5, 6] rfl rfl (by decide)
  refine va_calli (vx_runSW (As := [.ref a0, .int (xs 1), .int 3, .int (xs 3), .int (xs 4)]) (rest := []) ⟨hx, hb, hml, hown, htx⟩ (cL_sort_15 l hl9 D cT aK aV H.size a0 a3 a4 a5 a6 (xs 1) (xs 3) (xs 4) v12 v13 v14 b15 v16 v17 v48 v49 v50 f51 b53 v55 f56 hto1 hto2 hto3 hto4 ha1 ha2 ha3 ha4 hb1 hb2 hb3 hb4 (by first | rfl | exact h52 | exact h54 | exact h57 | exact h59 | exact h60 | exact h62 | exact h63 | exact h65 | exact h66 | exact h67 | exact h68 | exact h70 | exact h71 | exact h73 | exact h74 | exact h75 | exact h76) (by first | rfl | exact h52 | exact h54 | exact h57 | exact h59 | exact h60 | exact h62 | exact h63 | exact h65 | exact h66 | exact h67 | exact h68 | exact h70 | exact h71 | exact h73 | exact h74 | exact h75 | exact h76) (by first | rfl | exact h52 | exact h54 | exact h57 | exact h59 | exact h60 | exact h62 | exact h63 | exact h65 | exact h66 | exact h67 | exact h68 | exact h70 | exact h71 | exact h73 | exact h74 | exact h75 | exact h76)) (xcSW 5 htx (xw_goodC kw_5_14) rfl rfl rfl (htx _ kw_1_0) (htx _ kw_5_12) ⟨by decide, by decide, by decide +kernel⟩ ⟨Nat.le_of_ble_eq_true rfl, Nat.le_of_ble_eq_true rfl⟩ (htx _ kw_5_13)) ⟨xPre_blind, (fun U hU hW => ⟨rfl, xPre_of hZ hS hFc hPc hDc hK U hU hW⟩)⟩ rfl rfl hl.1 rfl (lv_room (Nat.le_of_ble_eq_true rfl)) dL_law_748 ⟨Nat.le_of_ble_eq_true rfl, Nat.le_of_ble_eq_true rfl⟩) hS (fun q _ h => hFc q h) hFc (fun r1 u9 t H1 locs ht hvm hr9 hB hz1 hk1 hS => ?_)
  obtain ⟨hP1, hK1, hD1⟩ := hB
  rw [ht] at hP1
  obtain ⟨hP, hD⟩ := xjoin (W := [(a1, .inr (5, [v18, .ref a10, v19, v20, v21, v22, v23, v24, v25, v26, v27, v28, v29, v30, v31, v32, v33, v34, v35, v36, v37, v38, v39, v40, .ref a7, .ref a8, v41, v42, v43, v44, v45, v46])), (a2, .inl (cT 2, 1, .inr (.inl f47))), (a7, .inl (cT 5, 8, .inr (.inr (.inr (.inr f58))))), (a8, .inl (cT 1, 8, .inl f61)), (a9, .inl (cT 0, 4096, .inl f64)), (a10, .inl (cT 4, 1024, .inr (.inr (.inr (.inr f69))))), (a11, .inl (cT 0, 4096, .inl f72)), (a0, .inr (0, [v12, v13, v14, .ref a4, .ref b15, .ref a3, v16, .int 1])), (a3, .inr (2, [v48, .int 0, .int 0])), (a4, .inl (cT 3, 8, .inr (.inr (.inr (.inr f51))))), (a5, .inr (2, [.ref a6, .int 1, v55])), (a6, .inl (cT 2, 4096, .inr (.inl f56)))]) hP hD [0, 3, 4, 5, 6] [1, 2, 7, 8, 9, 10, 11] 7 rfl rfl (by decide) (by decide) hk1 hFc hP1 hD1
  generalize H1 = H at hP hS ⊢
  rw [hr9]
  refine W.eq (g2 := F0 m 751 ls [.int 2]) rfl ?_
  refine lv_istore (lv' := [(5, .int 2), (4, .int 0), (3, .ref a2), (2, .ref a1), (1, .ref a0), (0, .ref b)]) hx hb dL_law_751 hl (by decide) rfl (fun ls hl => ?_)
  refine lv_aload_n hx hb dL_law_753 rfl (lv_at hl 3 rfl) ?_
  refine lv_aload_n hx hb dL_law_754 rfl (lv_at hl 5 rfl) ?_
  refine lv_iload hx hb dL_law_755 (lv_at hl 1 rfl) ?_
  refine lv_iconst (v := 1) hx hb dL_law_757 (by decide) ?_
  refine lv_iadd hx hb dL_law_758 ?_
  refine W.eq (g2 := F0 m 759 ls [.int 1, .ref b, .ref a1]) rfl ?_
  refine va_sld hx hb hXs hbl hbA hS (i := 1) (show ¬ ((1 : Int32) < 0 ∨ 6 ≤ (1 : Int32).toNatClampNeg) by decide) dL_law_759 ?_
  refine W.eq (g2 := F0 m 760 ls [.int (xs 1), .ref a1]) rfl ?_
  refine lv_aload_n hx hb dL_law_760 rfl (lv_at hl 5 rfl) ?_
  refine lv_iload hx hb dL_law_761 (lv_at hl 1 rfl) ?_
  refine lv_iconst (v := 2) hx hb dL_law_763 (by decide) ?_
  refine lv_iadd hx hb dL_law_764 ?_
  refine W.eq (g2 := F0 m 765 ls [.int 2, .ref b, .int (xs 1), .ref a1]) rfl ?_
  refine va_sld hx hb hXs hbl hbA hS (i := 2) (show ¬ ((2 : Int32) < 0 ∨ 6 ≤ (2 : Int32).toNatClampNeg) by decide) dL_law_765 ?_
  refine W.eq (g2 := F0 m 766 ls [.int (xs 2), .int (xs 1), .ref a1]) rfl ?_
  rw [hf]
  refine W.eq (g2 := F0 m 766 ls [.int 3, .int (xs 1), .ref a1]) rfl ?_
  refine lv_aload_n hx hb dL_law_766 rfl (lv_at hl 5 rfl) ?_
  refine lv_iload hx hb dL_law_767 (lv_at hl 1 rfl) ?_
  refine lv_iconst (v := 3) hx hb dL_law_769 (by decide) ?_
  refine lv_iadd hx hb dL_law_770 ?_
  refine W.eq (g2 := F0 m 771 ls [.int 3, .ref b, .int 3, .int (xs 1), .ref a1]) rfl ?_
  refine va_sld hx hb hXs hbl hbA hS (i := 3) (show ¬ ((3 : Int32) < 0 ∨ 6 ≤ (3 : Int32).toNatClampNeg) by decide) dL_law_771 ?_
  refine W.eq (g2 := F0 m 772 ls [.int (xs 3), .int 3, .int (xs 1), .ref a1]) rfl ?_
  refine lv_aload_n hx hb dL_law_772 rfl (lv_at hl 5 rfl) ?_
  refine lv_iload hx hb dL_law_773 (lv_at hl 1 rfl) ?_
  refine lv_iconst (v := 4) hx hb dL_law_775 (by decide) ?_
  refine lv_iadd hx hb dL_law_776 ?_
  refine W.eq (g2 := F0 m 777 ls [.int 4, .ref b, .int (xs 3), .int 3, .int (xs 1), .ref a1]) rfl ?_
  refine va_sld hx hb hXs hbl hbA hS (i := 4) (show ¬ ((4 : Int32) < 0 ∨ 6 ≤ (4 : Int32).toNatClampNeg) by decide) dL_law_777 ?_
  refine W.eq (g2 := F0 m 778 ls [.int (xs 4), .int (xs 3), .int 3, .int (xs 1), .ref a1]) rfl ?_
  obtain ⟨hPc, hDc, hFc⟩ := xcut (wc := [(a1, .inr (5, [v18, .ref a10, v19, v20, v21, v22, v23, v24, v25, v26, v27, v28, v29, v30, v31, v32, v33, v34, v35, v36, v37, v38, v39, v40, .ref a7, .ref a8, v41, v42, v43, v44, v45, v46])), (a7, .inl (cT 5, 8, .inr (.inr (.inr (.inr f58))))), (a8, .inl (cT 1, 8, .inl f61)), (a9, .inl (cT 0, 4096, .inl f64)), (a10, .inl (cT 4, 1024, .inr (.inr (.inr (.inr f69))))), (a11, .inl (cT 0, 4096, .inl f72))]) hP hD hS hA [0, 2, 3, 4, 5, 6] rfl rfl (by decide)
  refine va_callv (va_runV (C := "ValueBenchModel") (As := [.int (xs 1), .int 3, .int (xs 3), .int (xs 4)]) (rest := []) ⟨hx, hb, hml, hown, htx⟩ (cM_sort0_15 l hl9 D cT aK aV H.size a1 a7 a8 a9 a10 a11 (xs 1) (xs 3) (xs 4) v18 v19 v20 v21 v22 v23 v24 v25 v26 v27 v28 v29 v30 v31 v32 v33 v34 v35 v36 v37 v38 v39 v40 v41 v42 v43 v44 v45 v46 f58 f61 f64 f69 f72 hto1 hto2 hto3 hto4 ha1 ha2 ha3 ha4 hb1 hb2 hb3 hb4 (by first | rfl | exact h52 | exact h54 | exact h57 | exact h59 | exact h60 | exact h62 | exact h63 | exact h65 | exact h66 | exact h67 | exact h68 | exact h70 | exact h71 | exact h73 | exact h74 | exact h75 | exact h76) (by first | rfl | exact h52 | exact h54 | exact h57 | exact h59 | exact h60 | exact h62 | exact h63 | exact h65 | exact h66 | exact h67 | exact h68 | exact h70 | exact h71 | exact h73 | exact h74 | exact h75 | exact h76) (by first | rfl | exact h52 | exact h54 | exact h57 | exact h59 | exact h60 | exact h62 | exact h63 | exact h65 | exact h66 | exact h67 | exact h68 | exact h70 | exact h71 | exact h73 | exact h74 | exact h75 | exact h76) (by first | rfl | exact h52 | exact h54 | exact h57 | exact h59 | exact h60 | exact h62 | exact h63 | exact h65 | exact h66 | exact h67 | exact h68 | exact h70 | exact h71 | exact h73 | exact h74 | exact h75 | exact h76) (by first | rfl | exact h52 | exact h54 | exact h57 | exact h59 | exact h60 | exact h62 | exact h63 | exact h65 | exact h66 | exact h67 | exact h68 | exact h70 | exact h71 | exact h73 | exact h74 | exact h75 | exact h76) (by first | rfl | exact h52 | exact h54 | exact h57 | exact h59 | exact h60 | exact h62 | exact h63 | exact h65 | exact h66 | exact h67 | exact h68 | exact h70 | exact h71 | exact h73 | exact h74 | exact h75 | exact h76) (by first | rfl | exact h52 | exact h54 | exact h57 | exact h59 | exact h60 | exact h62 | exact h63 | exact h65 | exact h66 | exact h67 | exact h68 | exact h70 | exact h71 | exact h73 | exact h74 | exact h75 | exact h76) (by first | rfl | exact h52 | exact h54 | exact h57 | exact h59 | exact h60 | exact h62 | exact h63 | exact h65 | exact h66 | exact h67 | exact h68 | exact h70 | exact h71 | exact h73 | exact h74 | exact h75 | exact h76) (by first | rfl | exact h52 | exact h54 | exact h57 | exact h59 | exact h60 | exact h62 | exact h63 | exact h65 | exact h66 | exact h67 | exact h68 | exact h70 | exact h71 | exact h73 | exact h74 | exact h75 | exact h76) (by first | rfl | exact h52 | exact h54 | exact h57 | exact h59 | exact h60 | exact h62 | exact h63 | exact h65 | exact h66 | exact h67 | exact h68 | exact h70 | exact h71 | exact h73 | exact h74 | exact h75 | exact h76) (by first | rfl | exact h52 | exact h54 | exact h57 | exact h59 | exact h60 | exact h62 | exact h63 | exact h65 | exact h66 | exact h67 | exact h68 | exact h70 | exact h71 | exact h73 | exact h74 | exact h75 | exact h76) (by first | rfl | exact h52 | exact h54 | exact h57 | exact h59 | exact h60 | exact h62 | exact h63 | exact h65 | exact h66 | exact h67 | exact h68 | exact h70 | exact h71 | exact h73 | exact h74 | exact h75 | exact h76) (by first | rfl | exact h52 | exact h54 | exact h57 | exact h59 | exact h60 | exact h62 | exact h63 | exact h65 | exact h66 | exact h67 | exact h68 | exact h70 | exact h71 | exact h73 | exact h74 | exact h75 | exact h76) (by first | rfl | exact h52 | exact h54 | exact h57 | exact h59 | exact h60 | exact h62 | exact h63 | exact h65 | exact h66 | exact h67 | exact h68 | exact h70 | exact h71 | exact h73 | exact h74 | exact h75 | exact h76)) ⟨callB_of 4 htx (xw_goodC kw_7_131) rfl rfl rfl (htx _ kw_1_5) (htx _ kw_7_128) ⟨by decide, by decide, by decide +kernel⟩ ⟨Nat.le_of_ble_eq_true rfl, Nat.le_of_ble_eq_true rfl⟩, (htx _ kw_7_129), (htx _ kw_7_130)⟩ ⟨xPre_blind, va_recv hK hP (ci := 5) rfl (q0 := 0) rfl, (fun U hU hW => ⟨rfl, xPre_of hZ hS hFc hPc hDc hK U hU hW⟩)⟩ rfl rfl hl.1 rfl (lv_room (Nat.le_of_ble_eq_true rfl)) dL_law_778 ⟨Nat.le_of_ble_eq_true rfl, Nat.le_of_ble_eq_true rfl⟩) hS (fun q _ h => hFc q h) hFc (fun u9 t H1 locs ht hvm hr9 hB hz1 hk1 hS => ?_)
  obtain ⟨q2, q3, hP1, hK1, hD1⟩ := hB
  rw [ht] at hP1
  obtain ⟨hP, hD⟩ := xjoin (W := [(a2, .inl (cT 2, 1, .inr (.inl f47))), (a0, .inr (0, [v12, v13, v14, .ref a4, .ref b15, .ref a3, v16, .int 1])), (a3, .inr (2, [v48, .int 0, .int 0])), (a4, .inl (cT 3, 8, .inr (.inr (.inr (.inr f51))))), (a5, .inr (2, [.ref a6, .int 1, v55])), (a6, .inl (cT 2, 4096, .inr (.inl f56))), (a1, .inr (5, [.int 2, .ref a10, .int 2, v20, .int 0, v22, v23, .int 0, .int 1, .int 0, v27, v28, .int 0, v30, v31, .ref a11, .int 4, .int 4, .int 0, .int 100, v37, v38, .int 0, .int 1000000000, .ref a7, .ref a8, v41, v42, v43, v44, .int 1, v46])), (a7, .inl (cT 5, 8, .inr (.inr (.inr (.inr f58))))), (a8, .inl (cT 1, 8, .inl f61)), (a9, .inl (cT 0, 4096, .inl f64)), (a10, .inl (cT 4, 1024, .inr (.inr (.inr (.inr (va_up (va_up f69 0 (some q2)) 1 (some q3))))))), (a11, .inl (cT 0, 4096, .inl f72)), (q2, .inr (6, [.int 0, .long 0, .int 0, .int 0, .int 0, .int 1])), (q3, .inr (6, [.int 0, .long 0, .int 0, .int 0, .int 0, .int 1]))]) hP hD [0, 2, 3, 4, 5, 6] [1, 7, 8, 9, 10, 11] 6 rfl rfl (by decide) (by decide) hk1 hFc hP1 hD1
  generalize H1 = H at hP hS ⊢
  refine lv_aload_n hx hb dL_law_781 rfl (lv_at hl 3 rfl) ?_
  obtain ⟨hPc, hDc, hFc⟩ := xcut (wc := [(a1, .inr (5, [.int 2, .ref a10, .int 2, v20, .int 0, v22, v23, .int 0, .int 1, .int 0, v27, v28, .int 0, v30, v31, .ref a11, .int 4, .int 4, .int 0, .int 100, v37, v38, .int 0, .int 1000000000, .ref a7, .ref a8, v41, v42, v43, v44, .int 1, v46]))]) hP hD hS hA [6] rfl rfl (by decide)
  refine va_calli (va_runV (C := "ValueBenchModel") (As := []) (rest := []) ⟨hx, hb, hml, hown, htx⟩ (cM_thrown_2 l hl9 D cT aK aV H.size a1 (.ref a10) (.int 2) v20 (.int 0) v22 v23 (.int 0) (.int 1) (.int 0) v27 v28 (.int 0) v30 v31 (.ref a11) (.int 4) (.int 4) (.int 0) (.int 100) v37 v38 (.int 0) (.int 1000000000) (.ref a7) (.ref a8) v41 v42 v43 v44 (.int 1) v46) ⟨callB_of 0 htx (xw_goodC kw_5_187) rfl rfl rfl (htx _ kw_1_5) (htx _ kw_5_184) ⟨by decide, by decide, by decide +kernel⟩ ⟨Nat.le_of_ble_eq_true rfl, Nat.le_of_ble_eq_true rfl⟩, (htx _ kw_5_185), (htx _ kw_5_186)⟩ ⟨xPre_blind, va_recv hK hP (ci := 5) rfl (q0 := 6) rfl, (fun U hU hW => ⟨rfl, xPre_of hZ hS hFc hPc hDc hK U hU hW⟩)⟩ rfl rfl hl.1 rfl (lv_room (Nat.le_of_ble_eq_true rfl)) dL_law_782 ⟨Nat.le_of_ble_eq_true rfl, Nat.le_of_ble_eq_true rfl⟩) hS (fun q _ h => hFc q h) hFc (fun r4 u9 t H1 locs ht hvm hr9 hB hz1 hk1 hS => ?_)
  obtain ⟨hP1, hK1, hD1⟩ := hB
  rw [ht] at hP1
  obtain ⟨hP, hD⟩ := xjoin (W := [(a2, .inl (cT 2, 1, .inr (.inl f47))), (a0, .inr (0, [v12, v13, v14, .ref a4, .ref b15, .ref a3, v16, .int 1])), (a3, .inr (2, [v48, .int 0, .int 0])), (a4, .inl (cT 3, 8, .inr (.inr (.inr (.inr f51))))), (a5, .inr (2, [.ref a6, .int 1, v55])), (a6, .inl (cT 2, 4096, .inr (.inl f56))), (a7, .inl (cT 5, 8, .inr (.inr (.inr (.inr f58))))), (a8, .inl (cT 1, 8, .inl f61)), (a9, .inl (cT 0, 4096, .inl f64)), (a10, .inl (cT 4, 1024, .inr (.inr (.inr (.inr (va_up (va_up f69 0 (some q2)) 1 (some q3))))))), (a11, .inl (cT 0, 4096, .inl f72)), (q2, .inr (6, [.int 0, .long 0, .int 0, .int 0, .int 0, .int 1])), (q3, .inr (6, [.int 0, .long 0, .int 0, .int 0, .int 0, .int 1])), (a1, .inr (5, [.int 2, .ref a10, .int 2, v20, .int 0, v22, v23, .int 0, .int 1, .int 0, v27, v28, .int 0, v30, v31, .ref a11, .int 4, .int 4, .int 0, .int 100, v37, v38, .int 0, .int 1000000000, .ref a7, .ref a8, v41, v42, v43, v44, .int 1, v46]))]) hP hD [6] [0, 1, 2, 3, 4, 5, 7, 8, 9, 10, 11, 12, 13] 13 rfl rfl (by decide) (by decide) hk1 hFc hP1 hD1
  generalize H1 = H at hP hS ⊢
  rw [hr9]
  refine W.eq (g2 := F0 m 785 ls [.int 2]) rfl ?_
  refine lv_iload hx hb dL_law_785 (lv_at hl 0 rfl) ?_
  refine lv_icmp_eq (tgt := 792) hx hb dL_law_787 (by decide) (fun _ => ?_) (fun h => ((by revert h; decide : False)).elim)
  refine lv_goto (tgt := 906) hx hb dL_law_792 (by decide) ?_
  refine lv_iinc (v := 6) (lv' := [(4, .int 6), (5, .int 2), (3, .ref a2), (2, .ref a1), (1, .ref a0), (0, .ref b)]) hx hb dL_law_906 hl (k := 1) rfl (by decide) (by decide) rfl (fun ls hl => ?_)
  refine lv_goto (tgt := 23) hx hb dL_law_909 (by decide) ?_
  refine lv_iload hx hb dL_law_23 (lv_at hl 0 rfl) ?_
  refine lv_aload_n hx hb dL_law_25 rfl (lv_at hl 5 rfl) ?_
  refine va_slen hx hb hXs hbl hbA hS dL_law_26 ?_
  refine W.eq (g2 := F0 m 27 ls [.int 6, .int 6]) rfl ?_
  refine lv_bipush (v := 6) hx hb dL_law_27 (by decide) ?_
  refine lv_isub hx hb dL_law_29 ?_
  refine W.eq (g2 := F0 m 30 ls [.int 0, .int 6]) rfl ?_
  refine lv_icmp_gt (tgt := 912) hx hb dL_law_30 (by decide) (fun _ => ?_) (fun h => ((by revert h; decide : False)).elim)
  refine lv_iconst (v := 1) hx hb dL_law_912 (by decide) ?_
  exact va_forget (fun q h => hA2 _ (hS.2.2 q h)) (W.widen (k := 600002) (n := 7302232) (Nat.le_of_ble_eq_true rfl) (Nat.le_of_ble_eq_true rfl) (lw_ret hx hb hr hlocks dL_law_913))
set_option maxHeartbeats 400000000 in
set_option maxRecDepth 100000 in
theorem lf_sort4_p4 {p : Program} {e : Env} {s : State} {m : MethodId} {below : List Frame} {meth : Method} {c : Code} (l : Launch) (hl9 : l.stackTraces = false) (D : va_G) (cT : Nat → ClassId) (aK aV : Nat → Nat) {A : Nat → Prop} {b : Nat} {xs : Nat → Int32} (C : xLw p s m meth c b D cT aK aV A) {H : Heap} {locs : List Loc} {ls : Array Slot} (a0 : Nat) (a1 : Nat) (a2 : Nat) (a3 : Nat) (a4 : Nat) (a5 : Nat) (a6 : Nat) (a7 : Nat) (a8 : Nat) (a9 : Nat) (a10 : Nat) (v11 : Value) (v12 : Value) (v13 : Value) (b14 : Nat) (v15 : Value) (v16 : Value) (v17 : Value) (v18 : Value) (v19 : Value) (v20 : Value) (v21 : Value) (v22 : Value) (v23 : Value) (v24 : Value) (v25 : Value) (v26 : Value) (v27 : Value) (v28 : Value) (v29 : Value) (v30 : Value) (v31 : Value) (v32 : Value) (v33 : Value) (v34 : Value) (v35 : Value) (v36 : Value) (v37 : Value) (v38 : Value) (v39 : Value) (v40 : Value) (v41 : Value) (v42 : Value) (v43 : Value) (v44 : Value) (v45 : Value) (f46 : Nat → Int64) (v47 : Value) (v48 : Value) (v49 : Value) (f50 : Nat → Option Nat) (v53 : Value) (f54 : Nat → Int64) (f56 : Nat → Option Nat) (f59 : Nat → Int32) (f62 : Nat → Int32) (f67 : Nat → Option Nat) (h51 : f50 (xs 3).toNatClampNeg = some a5) (h52 : f50 (xs 4).toNatClampNeg = some a5) (h55 : f54 0 = 0) (h57 : f56 (xs 3).toNatClampNeg = some a9) (h58 : f56 (xs 4).toNatClampNeg = some a9) (h60 : f59 (xs 3).toNatClampNeg = 4) (h61 : f59 (xs 4).toNatClampNeg = 4) (h63 : f62 0 = 110) (h64 : f62 1 = 117) (h65 : f62 2 = 108) (h66 : f62 3 = 108) (h68 : f67 0 = none) (h69 : f67 1 = none) (hto1 : ¬ (xs 1) < 0) (hto2 : ¬ 7 < (xs 1)) (hto3 : (xs 1) ≤ 7) (hto4 : vp_in (xs 1) 8) (hf : xs 2 = 4) (ha1 : ¬ (xs 3) < 0) (ha2 : ¬ 7 < (xs 3)) (ha3 : (xs 3) ≤ 7) (ha4 : vp_in (xs 3) 8) (hb1 : ¬ (xs 4) < 0) (hb2 : ¬ 7 < (xs 4)) (hb3 : (xs 4) ≤ 7) (hb4 : vp_in (xs 4) 8) (hXs : va_X b 6 xs s s.heap) (hP : va_P D xcl [(a0, .inr (0, [v11, v12, v13, .ref a4, .ref b14, .ref a3, v15, v16])), (a1, .inr (5, [v17, .ref a10, v18, v19, v20, v21, v22, v23, v24, v25, v26, v27, v28, v29, v30, v31, v32, v33, v34, v35, v36, v37, v38, v39, .ref a7, .ref a8, v40, v41, v42, v43, v44, v45])), (a2, .inl (cT 2, 1, .inr (.inl f46))), (a3, .inr (2, [v47, v48, v49])), (a4, .inl (cT 3, 8, .inr (.inr (.inr (.inr f50))))), (a5, .inr (2, [.ref a6, .int 1, v53])), (a6, .inl (cT 2, 4096, .inr (.inl f54))), (a7, .inl (cT 5, 8, .inr (.inr (.inr (.inr f56))))), (a8, .inl (cT 1, 8, .inl f59)), (a9, .inl (cT 0, 4096, .inl f62)), (a10, .inl (cT 4, 1024, .inr (.inr (.inr (.inr f67)))))] H) (hD : va_D A [(a0, .inr (0, [v11, v12, v13, .ref a4, .ref b14, .ref a3, v15, v16])), (a1, .inr (5, [v17, .ref a10, v18, v19, v20, v21, v22, v23, v24, v25, v26, v27, v28, v29, v30, v31, v32, v33, v34, v35, v36, v37, v38, v39, .ref a7, .ref a8, v40, v41, v42, v43, v44, v45])), (a2, .inl (cT 2, 1, .inr (.inl f46))), (a3, .inr (2, [v47, v48, v49])), (a4, .inl (cT 3, 8, .inr (.inr (.inr (.inr f50))))), (a5, .inr (2, [.ref a6, .int 1, v53])), (a6, .inl (cT 2, 4096, .inr (.inl f54))), (a7, .inl (cT 5, 8, .inr (.inr (.inr (.inr f56))))), (a8, .inl (cT 1, 8, .inl f59)), (a9, .inl (cT 0, 4096, .inl f62)), (a10, .inl (cT 4, 1024, .inr (.inr (.inr (.inr f67)))))]) (hS : va_S A s.heap H locs) (hl : lv_has ls 8 [(4, .int 0), (3, .ref a2), (2, .ref a1), (1, .ref a0), (0, .ref b)]) : W p l e room_1 s m #[Value.ref b] below meth c H locs 54 107242 (lw_Z below #[Value.ref b] s) (F0 m 723 ls []) := by
  obtain ⟨hx, hb, hr, hml, hown, htx, hbl, hbA, hlocks, hK, hZ, hA, hA2⟩ := C
  refine lv_aload_n hx hb dL_law_723 rfl (lv_at hl 3 rfl) ?_
  refine lv_aload_n hx hb dL_law_724 rfl (lv_at hl 4 rfl) ?_
  refine lv_iload hx hb dL_law_725 (lv_at hl 0 rfl) ?_
  refine lv_iconst (v := 1) hx hb dL_law_727 (by decide) ?_
  refine lv_iadd hx hb dL_law_728 ?_
  refine W.eq (g2 := F0 m 729 ls [.int 1, .ref b, .ref a0]) rfl ?_
  refine va_sld hx hb hXs hbl hbA hS (i := 1) (show ¬ ((1 : Int32) < 0 ∨ 6 ≤ (1 : Int32).toNatClampNeg) by decide) dL_law_729 ?_
  refine W.eq (g2 := F0 m 730 ls [.int (xs 1), .ref a0]) rfl ?_
  refine lv_aload_n hx hb dL_law_730 rfl (lv_at hl 4 rfl) ?_
  refine lv_iload hx hb dL_law_731 (lv_at hl 0 rfl) ?_
  refine lv_iconst (v := 2) hx hb dL_law_733 (by decide) ?_
  refine lv_iadd hx hb dL_law_734 ?_
  refine W.eq (g2 := F0 m 735 ls [.int 2, .ref b, .int (xs 1), .ref a0]) rfl ?_
  refine va_sld hx hb hXs hbl hbA hS (i := 2) (show ¬ ((2 : Int32) < 0 ∨ 6 ≤ (2 : Int32).toNatClampNeg) by decide) dL_law_735 ?_
  refine W.eq (g2 := F0 m 736 ls [.int (xs 2), .int (xs 1), .ref a0]) rfl ?_
  rw [hf]
  refine W.eq (g2 := F0 m 736 ls [.int 4, .int (xs 1), .ref a0]) rfl ?_
  refine lv_aload_n hx hb dL_law_736 rfl (lv_at hl 4 rfl) ?_
  refine lv_iload hx hb dL_law_737 (lv_at hl 0 rfl) ?_
  refine lv_iconst (v := 3) hx hb dL_law_739 (by decide) ?_
  refine lv_iadd hx hb dL_law_740 ?_
  refine W.eq (g2 := F0 m 741 ls [.int 3, .ref b, .int 4, .int (xs 1), .ref a0]) rfl ?_
  refine va_sld hx hb hXs hbl hbA hS (i := 3) (show ¬ ((3 : Int32) < 0 ∨ 6 ≤ (3 : Int32).toNatClampNeg) by decide) dL_law_741 ?_
  refine W.eq (g2 := F0 m 742 ls [.int (xs 3), .int 4, .int (xs 1), .ref a0]) rfl ?_
  refine lv_aload_n hx hb dL_law_742 rfl (lv_at hl 4 rfl) ?_
  refine lv_iload hx hb dL_law_743 (lv_at hl 0 rfl) ?_
  refine lv_iconst (v := 4) hx hb dL_law_745 (by decide) ?_
  refine lv_iadd hx hb dL_law_746 ?_
  refine W.eq (g2 := F0 m 747 ls [.int 4, .ref b, .int (xs 3), .int 4, .int (xs 1), .ref a0]) rfl ?_
  refine va_sld hx hb hXs hbl hbA hS (i := 4) (show ¬ ((4 : Int32) < 0 ∨ 6 ≤ (4 : Int32).toNatClampNeg) by decide) dL_law_747 ?_
  refine W.eq (g2 := F0 m 748 ls [.int (xs 4), .int (xs 3), .int 4, .int (xs 1), .ref a0]) rfl ?_
  obtain ⟨hPc, hDc, hFc⟩ := xcut (wc := [(a0, .inr (0, [v11, v12, v13, .ref a4, .ref b14, .ref a3, v15, v16])), (a3, .inr (2, [v47, v48, v49])), (a4, .inl (cT 3, 8, .inr (.inr (.inr (.inr f50))))), (a5, .inr (2, [.ref a6, .int 1, v53])), (a6, .inl (cT 2, 4096, .inr (.inl f54)))]) hP hD hS hA [0, 3, 4, 5, 6] rfl rfl (by decide)
  refine va_calli (vx_runSW (As := [.ref a0, .int (xs 1), .int 4, .int (xs 3), .int (xs 4)]) (rest := []) ⟨hx, hb, hml, hown, htx⟩ (cL_sort_16 l hl9 D cT aK aV H.size a0 a3 a4 a5 a6 (xs 1) (xs 3) (xs 4) v11 v12 v13 b14 v15 v16 v47 v48 v49 f50 v53 f54 hto1 hto2 hto3 hto4 ha1 ha2 ha3 ha4 hb1 hb2 hb3 hb4 (by first | rfl | exact h51 | exact h52 | exact h55 | exact h57 | exact h58 | exact h60 | exact h61 | exact h63 | exact h64 | exact h65 | exact h66 | exact h68 | exact h69) (by first | rfl | exact h51 | exact h52 | exact h55 | exact h57 | exact h58 | exact h60 | exact h61 | exact h63 | exact h64 | exact h65 | exact h66 | exact h68 | exact h69) (by first | rfl | exact h51 | exact h52 | exact h55 | exact h57 | exact h58 | exact h60 | exact h61 | exact h63 | exact h64 | exact h65 | exact h66 | exact h68 | exact h69)) (xcSW 5 htx (xw_goodC kw_5_14) rfl rfl rfl (htx _ kw_1_0) (htx _ kw_5_12) ⟨by decide, by decide, by decide +kernel⟩ ⟨Nat.le_of_ble_eq_true rfl, Nat.le_of_ble_eq_true rfl⟩ (htx _ kw_5_13)) ⟨xPre_blind, (fun U hU hW => ⟨rfl, xPre_of hZ hS hFc hPc hDc hK U hU hW⟩)⟩ rfl rfl hl.1 rfl (lv_room (Nat.le_of_ble_eq_true rfl)) dL_law_748 ⟨Nat.le_of_ble_eq_true rfl, Nat.le_of_ble_eq_true rfl⟩) hS (fun q _ h => hFc q h) hFc (fun r1 u9 t H1 locs ht hvm hr9 hB hz1 hk1 hS => ?_)
  obtain ⟨hP1, hK1, hD1⟩ := hB
  rw [ht] at hP1
  obtain ⟨hP, hD⟩ := xjoin (W := [(a1, .inr (5, [v17, .ref a10, v18, v19, v20, v21, v22, v23, v24, v25, v26, v27, v28, v29, v30, v31, v32, v33, v34, v35, v36, v37, v38, v39, .ref a7, .ref a8, v40, v41, v42, v43, v44, v45])), (a2, .inl (cT 2, 1, .inr (.inl f46))), (a7, .inl (cT 5, 8, .inr (.inr (.inr (.inr f56))))), (a8, .inl (cT 1, 8, .inl f59)), (a9, .inl (cT 0, 4096, .inl f62)), (a10, .inl (cT 4, 1024, .inr (.inr (.inr (.inr f67))))), (a0, .inr (0, [v11, v12, v13, .ref a4, .ref b14, .ref a3, v15, .int 1])), (a3, .inr (2, [v47, .int 0, .int 0])), (a4, .inl (cT 3, 8, .inr (.inr (.inr (.inr f50))))), (a5, .inr (2, [.ref a6, .int 1, v53])), (a6, .inl (cT 2, 4096, .inr (.inl f54)))]) hP hD [0, 3, 4, 5, 6] [1, 2, 7, 8, 9, 10] 6 rfl rfl (by decide) (by decide) hk1 hFc hP1 hD1
  generalize H1 = H at hP hS ⊢
  rw [hr9]
  refine W.eq (g2 := F0 m 751 ls [.int 2]) rfl ?_
  refine lv_istore (lv' := [(5, .int 2), (4, .int 0), (3, .ref a2), (2, .ref a1), (1, .ref a0), (0, .ref b)]) hx hb dL_law_751 hl (by decide) rfl (fun ls hl => ?_)
  refine lv_aload_n hx hb dL_law_753 rfl (lv_at hl 3 rfl) ?_
  refine lv_aload_n hx hb dL_law_754 rfl (lv_at hl 5 rfl) ?_
  refine lv_iload hx hb dL_law_755 (lv_at hl 1 rfl) ?_
  refine lv_iconst (v := 1) hx hb dL_law_757 (by decide) ?_
  refine lv_iadd hx hb dL_law_758 ?_
  refine W.eq (g2 := F0 m 759 ls [.int 1, .ref b, .ref a1]) rfl ?_
  refine va_sld hx hb hXs hbl hbA hS (i := 1) (show ¬ ((1 : Int32) < 0 ∨ 6 ≤ (1 : Int32).toNatClampNeg) by decide) dL_law_759 ?_
  refine W.eq (g2 := F0 m 760 ls [.int (xs 1), .ref a1]) rfl ?_
  refine lv_aload_n hx hb dL_law_760 rfl (lv_at hl 5 rfl) ?_
  refine lv_iload hx hb dL_law_761 (lv_at hl 1 rfl) ?_
  refine lv_iconst (v := 2) hx hb dL_law_763 (by decide) ?_
  refine lv_iadd hx hb dL_law_764 ?_
  refine W.eq (g2 := F0 m 765 ls [.int 2, .ref b, .int (xs 1), .ref a1]) rfl ?_
  refine va_sld hx hb hXs hbl hbA hS (i := 2) (show ¬ ((2 : Int32) < 0 ∨ 6 ≤ (2 : Int32).toNatClampNeg) by decide) dL_law_765 ?_
  refine W.eq (g2 := F0 m 766 ls [.int (xs 2), .int (xs 1), .ref a1]) rfl ?_
  rw [hf]
  refine W.eq (g2 := F0 m 766 ls [.int 4, .int (xs 1), .ref a1]) rfl ?_
  refine lv_aload_n hx hb dL_law_766 rfl (lv_at hl 5 rfl) ?_
  refine lv_iload hx hb dL_law_767 (lv_at hl 1 rfl) ?_
  refine lv_iconst (v := 3) hx hb dL_law_769 (by decide) ?_
  refine lv_iadd hx hb dL_law_770 ?_
  refine W.eq (g2 := F0 m 771 ls [.int 3, .ref b, .int 4, .int (xs 1), .ref a1]) rfl ?_
  refine va_sld hx hb hXs hbl hbA hS (i := 3) (show ¬ ((3 : Int32) < 0 ∨ 6 ≤ (3 : Int32).toNatClampNeg) by decide) dL_law_771 ?_
  refine W.eq (g2 := F0 m 772 ls [.int (xs 3), .int 4, .int (xs 1), .ref a1]) rfl ?_
  refine lv_aload_n hx hb dL_law_772 rfl (lv_at hl 5 rfl) ?_
  refine lv_iload hx hb dL_law_773 (lv_at hl 1 rfl) ?_
  refine lv_iconst (v := 4) hx hb dL_law_775 (by decide) ?_
  refine lv_iadd hx hb dL_law_776 ?_
  refine W.eq (g2 := F0 m 777 ls [.int 4, .ref b, .int (xs 3), .int 4, .int (xs 1), .ref a1]) rfl ?_
  refine va_sld hx hb hXs hbl hbA hS (i := 4) (show ¬ ((4 : Int32) < 0 ∨ 6 ≤ (4 : Int32).toNatClampNeg) by decide) dL_law_777 ?_
  refine W.eq (g2 := F0 m 778 ls [.int (xs 4), .int (xs 3), .int 4, .int (xs 1), .ref a1]) rfl ?_
  obtain ⟨hPc, hDc, hFc⟩ := xcut (wc := [(a1, .inr (5, [v17, .ref a10, v18, v19, v20, v21, v22, v23, v24, v25, v26, v27, v28, v29, v30, v31, v32, v33, v34, v35, v36, v37, v38, v39, .ref a7, .ref a8, v40, v41, v42, v43, v44, v45])), (a7, .inl (cT 5, 8, .inr (.inr (.inr (.inr f56))))), (a8, .inl (cT 1, 8, .inl f59)), (a9, .inl (cT 0, 4096, .inl f62)), (a10, .inl (cT 4, 1024, .inr (.inr (.inr (.inr f67)))))]) hP hD hS hA [0, 2, 3, 4, 5] rfl rfl (by decide)
  refine va_callv (va_runV (C := "ValueBenchModel") (As := [.int (xs 1), .int 4, .int (xs 3), .int (xs 4)]) (rest := []) ⟨hx, hb, hml, hown, htx⟩ (cM_sort0_16 l hl9 D cT aK aV H.size a1 a7 a8 a9 a10 (xs 1) (xs 3) (xs 4) v17 v18 v19 v20 v21 v22 v23 v24 v25 v26 v27 v28 v29 v30 v31 v32 v33 v34 v35 v36 v37 v38 v39 v40 v41 v42 v43 v44 v45 f56 f59 f62 f67 hto1 hto2 hto3 hto4 ha1 ha2 ha3 ha4 hb1 hb2 hb3 hb4 (by first | rfl | exact h51 | exact h52 | exact h55 | exact h57 | exact h58 | exact h60 | exact h61 | exact h63 | exact h64 | exact h65 | exact h66 | exact h68 | exact h69) (by first | rfl | exact h51 | exact h52 | exact h55 | exact h57 | exact h58 | exact h60 | exact h61 | exact h63 | exact h64 | exact h65 | exact h66 | exact h68 | exact h69) (by first | rfl | exact h51 | exact h52 | exact h55 | exact h57 | exact h58 | exact h60 | exact h61 | exact h63 | exact h64 | exact h65 | exact h66 | exact h68 | exact h69) (by first | rfl | exact h51 | exact h52 | exact h55 | exact h57 | exact h58 | exact h60 | exact h61 | exact h63 | exact h64 | exact h65 | exact h66 | exact h68 | exact h69) (by first | rfl | exact h51 | exact h52 | exact h55 | exact h57 | exact h58 | exact h60 | exact h61 | exact h63 | exact h64 | exact h65 | exact h66 | exact h68 | exact h69) (by first | rfl | exact h51 | exact h52 | exact h55 | exact h57 | exact h58 | exact h60 | exact h61 | exact h63 | exact h64 | exact h65 | exact h66 | exact h68 | exact h69) (by first | rfl | exact h51 | exact h52 | exact h55 | exact h57 | exact h58 | exact h60 | exact h61 | exact h63 | exact h64 | exact h65 | exact h66 | exact h68 | exact h69) (by first | rfl | exact h51 | exact h52 | exact h55 | exact h57 | exact h58 | exact h60 | exact h61 | exact h63 | exact h64 | exact h65 | exact h66 | exact h68 | exact h69) (by first | rfl | exact h51 | exact h52 | exact h55 | exact h57 | exact h58 | exact h60 | exact h61 | exact h63 | exact h64 | exact h65 | exact h66 | exact h68 | exact h69) (by first | rfl | exact h51 | exact h52 | exact h55 | exact h57 | exact h58 | exact h60 | exact h61 | exact h63 | exact h64 | exact h65 | exact h66 | exact h68 | exact h69)) ⟨callB_of 4 htx (xw_goodC kw_7_131) rfl rfl rfl (htx _ kw_1_5) (htx _ kw_7_128) ⟨by decide, by decide, by decide +kernel⟩ ⟨Nat.le_of_ble_eq_true rfl, Nat.le_of_ble_eq_true rfl⟩, (htx _ kw_7_129), (htx _ kw_7_130)⟩ ⟨xPre_blind, va_recv hK hP (ci := 5) rfl (q0 := 0) rfl, (fun U hU hW => ⟨rfl, xPre_of hZ hS hFc hPc hDc hK U hU hW⟩)⟩ rfl rfl hl.1 rfl (lv_room (Nat.le_of_ble_eq_true rfl)) dL_law_778 ⟨Nat.le_of_ble_eq_true rfl, Nat.le_of_ble_eq_true rfl⟩) hS (fun q _ h => hFc q h) hFc (fun u9 t H1 locs ht hvm hr9 hB hz1 hk1 hS => ?_)
  obtain ⟨q2, q3, hP1, hK1, hD1⟩ := hB
  rw [ht] at hP1
  obtain ⟨hP, hD⟩ := xjoin (W := [(a2, .inl (cT 2, 1, .inr (.inl f46))), (a0, .inr (0, [v11, v12, v13, .ref a4, .ref b14, .ref a3, v15, .int 1])), (a3, .inr (2, [v47, .int 0, .int 0])), (a4, .inl (cT 3, 8, .inr (.inr (.inr (.inr f50))))), (a5, .inr (2, [.ref a6, .int 1, v53])), (a6, .inl (cT 2, 4096, .inr (.inl f54))), (a1, .inr (5, [.int 2, .ref a10, .int 2, v19, .int 0, v21, v22, .int 0, .int 1, .int 0, v26, v27, .int 0, v29, v30, .ref a9, .int 4, .int 4, .int 0, .int 100, v36, v37, .int 0, .int 1000000000, .ref a7, .ref a8, v40, v41, v42, v43, .int 1, v45])), (a7, .inl (cT 5, 8, .inr (.inr (.inr (.inr f56))))), (a8, .inl (cT 1, 8, .inl f59)), (a9, .inl (cT 0, 4096, .inl f62)), (a10, .inl (cT 4, 1024, .inr (.inr (.inr (.inr (va_up (va_up f67 0 (some q2)) 1 (some q3))))))), (q2, .inr (6, [.int 0, .long 0, .int 0, .int 0, .int 0, .int 1])), (q3, .inr (6, [.int 0, .long 0, .int 0, .int 0, .int 0, .int 1]))]) hP hD [0, 2, 3, 4, 5] [1, 6, 7, 8, 9, 10] 6 rfl rfl (by decide) (by decide) hk1 hFc hP1 hD1
  generalize H1 = H at hP hS ⊢
  refine lv_aload_n hx hb dL_law_781 rfl (lv_at hl 3 rfl) ?_
  obtain ⟨hPc, hDc, hFc⟩ := xcut (wc := [(a1, .inr (5, [.int 2, .ref a10, .int 2, v19, .int 0, v21, v22, .int 0, .int 1, .int 0, v26, v27, .int 0, v29, v30, .ref a9, .int 4, .int 4, .int 0, .int 100, v36, v37, .int 0, .int 1000000000, .ref a7, .ref a8, v40, v41, v42, v43, .int 1, v45]))]) hP hD hS hA [6] rfl rfl (by decide)
  refine va_calli (va_runV (C := "ValueBenchModel") (As := []) (rest := []) ⟨hx, hb, hml, hown, htx⟩ (cM_thrown_2 l hl9 D cT aK aV H.size a1 (.ref a10) (.int 2) v19 (.int 0) v21 v22 (.int 0) (.int 1) (.int 0) v26 v27 (.int 0) v29 v30 (.ref a9) (.int 4) (.int 4) (.int 0) (.int 100) v36 v37 (.int 0) (.int 1000000000) (.ref a7) (.ref a8) v40 v41 v42 v43 (.int 1) v45) ⟨callB_of 0 htx (xw_goodC kw_5_187) rfl rfl rfl (htx _ kw_1_5) (htx _ kw_5_184) ⟨by decide, by decide, by decide +kernel⟩ ⟨Nat.le_of_ble_eq_true rfl, Nat.le_of_ble_eq_true rfl⟩, (htx _ kw_5_185), (htx _ kw_5_186)⟩ ⟨xPre_blind, va_recv hK hP (ci := 5) rfl (q0 := 6) rfl, (fun U hU hW => ⟨rfl, xPre_of hZ hS hFc hPc hDc hK U hU hW⟩)⟩ rfl rfl hl.1 rfl (lv_room (Nat.le_of_ble_eq_true rfl)) dL_law_782 ⟨Nat.le_of_ble_eq_true rfl, Nat.le_of_ble_eq_true rfl⟩) hS (fun q _ h => hFc q h) hFc (fun r4 u9 t H1 locs ht hvm hr9 hB hz1 hk1 hS => ?_)
  obtain ⟨hP1, hK1, hD1⟩ := hB
  rw [ht] at hP1
  obtain ⟨hP, hD⟩ := xjoin (W := [(a2, .inl (cT 2, 1, .inr (.inl f46))), (a0, .inr (0, [v11, v12, v13, .ref a4, .ref b14, .ref a3, v15, .int 1])), (a3, .inr (2, [v47, .int 0, .int 0])), (a4, .inl (cT 3, 8, .inr (.inr (.inr (.inr f50))))), (a5, .inr (2, [.ref a6, .int 1, v53])), (a6, .inl (cT 2, 4096, .inr (.inl f54))), (a7, .inl (cT 5, 8, .inr (.inr (.inr (.inr f56))))), (a8, .inl (cT 1, 8, .inl f59)), (a9, .inl (cT 0, 4096, .inl f62)), (a10, .inl (cT 4, 1024, .inr (.inr (.inr (.inr (va_up (va_up f67 0 (some q2)) 1 (some q3))))))), (q2, .inr (6, [.int 0, .long 0, .int 0, .int 0, .int 0, .int 1])), (q3, .inr (6, [.int 0, .long 0, .int 0, .int 0, .int 0, .int 1])), (a1, .inr (5, [.int 2, .ref a10, .int 2, v19, .int 0, v21, v22, .int 0, .int 1, .int 0, v26, v27, .int 0, v29, v30, .ref a9, .int 4, .int 4, .int 0, .int 100, v36, v37, .int 0, .int 1000000000, .ref a7, .ref a8, v40, v41, v42, v43, .int 1, v45]))]) hP hD [6] [0, 1, 2, 3, 4, 5, 7, 8, 9, 10, 11, 12] 12 rfl rfl (by decide) (by decide) hk1 hFc hP1 hD1
  generalize H1 = H at hP hS ⊢
  rw [hr9]
  refine W.eq (g2 := F0 m 785 ls [.int 2]) rfl ?_
  refine lv_iload hx hb dL_law_785 (lv_at hl 0 rfl) ?_
  refine lv_icmp_eq (tgt := 792) hx hb dL_law_787 (by decide) (fun _ => ?_) (fun h => ((by revert h; decide : False)).elim)
  refine lv_goto (tgt := 906) hx hb dL_law_792 (by decide) ?_
  refine lv_iinc (v := 6) (lv' := [(4, .int 6), (5, .int 2), (3, .ref a2), (2, .ref a1), (1, .ref a0), (0, .ref b)]) hx hb dL_law_906 hl (k := 1) rfl (by decide) (by decide) rfl (fun ls hl => ?_)
  refine lv_goto (tgt := 23) hx hb dL_law_909 (by decide) ?_
  refine lv_iload hx hb dL_law_23 (lv_at hl 0 rfl) ?_
  refine lv_aload_n hx hb dL_law_25 rfl (lv_at hl 5 rfl) ?_
  refine va_slen hx hb hXs hbl hbA hS dL_law_26 ?_
  refine W.eq (g2 := F0 m 27 ls [.int 6, .int 6]) rfl ?_
  refine lv_bipush (v := 6) hx hb dL_law_27 (by decide) ?_
  refine lv_isub hx hb dL_law_29 ?_
  refine W.eq (g2 := F0 m 30 ls [.int 0, .int 6]) rfl ?_
  refine lv_icmp_gt (tgt := 912) hx hb dL_law_30 (by decide) (fun _ => ?_) (fun h => ((by revert h; decide : False)).elim)
  refine lv_iconst (v := 1) hx hb dL_law_912 (by decide) ?_
  exact va_forget (fun q h => hA2 _ (hS.2.2 q h)) (W.widen (k := 600002) (n := 7302232) (Nat.le_of_ble_eq_true rfl) (Nat.le_of_ble_eq_true rfl) (lw_ret hx hb hr hlocks dL_law_913))
set_option maxHeartbeats 400000000 in
set_option maxRecDepth 100000 in
theorem lf_sort4_p1 {p : Program} {e : Env} {s : State} {m : MethodId} {below : List Frame} {meth : Method} {c : Code} (l : Launch) (hl9 : l.stackTraces = false) (D : va_G) (cT : Nat → ClassId) (aK aV : Nat → Nat) {A : Nat → Prop} {b : Nat} {xs : Nat → Int32} (C : xLw p s m meth c b D cT aK aV A) {H : Heap} {locs : List Loc} {ls : Array Slot} (a0 : Nat) (a1 : Nat) (a2 : Nat) (a3 : Nat) (a4 : Nat) (a5 : Nat) (a6 : Nat) (a7 : Nat) (a8 : Nat) (a9 : Nat) (a10 : Nat) (v11 : Value) (v12 : Value) (v13 : Value) (b14 : Nat) (v15 : Value) (v16 : Value) (v17 : Value) (v18 : Value) (v19 : Value) (v20 : Value) (v21 : Value) (v22 : Value) (v23 : Value) (v24 : Value) (v25 : Value) (v26 : Value) (v27 : Value) (v28 : Value) (v29 : Value) (v30 : Value) (v31 : Value) (v32 : Value) (v33 : Value) (v34 : Value) (v35 : Value) (v36 : Value) (v37 : Value) (v38 : Value) (v39 : Value) (v40 : Value) (v41 : Value) (v42 : Value) (v43 : Value) (v44 : Value) (v45 : Value) (f46 : Nat → Int64) (v47 : Value) (v48 : Value) (v49 : Value) (f50 : Nat → Option Nat) (v53 : Value) (f54 : Nat → Int64) (f56 : Nat → Option Nat) (f59 : Nat → Int32) (f62 : Nat → Int32) (f67 : Nat → Option Nat) (h51 : f50 (xs 3).toNatClampNeg = some a5) (h52 : f50 (xs 4).toNatClampNeg = some a5) (h55 : f54 0 = 0) (h57 : f56 (xs 3).toNatClampNeg = some a9) (h58 : f56 (xs 4).toNatClampNeg = some a9) (h60 : f59 (xs 3).toNatClampNeg = 4) (h61 : f59 (xs 4).toNatClampNeg = 4) (h63 : f62 0 = 110) (h64 : f62 1 = 117) (h65 : f62 2 = 108) (h66 : f62 3 = 108) (h68 : f67 0 = none) (h69 : f67 1 = none) (hto1 : ¬ (xs 1) < 0) (hto2 : ¬ 7 < (xs 1)) (hto3 : (xs 1) ≤ 7) (hto4 : vp_in (xs 1) 8) (hf : xs 2 = 4) (ha1 : ¬ (xs 3) < 0) (ha2 : ¬ 7 < (xs 3)) (ha3 : (xs 3) ≤ 7) (ha4 : vp_in (xs 3) 8) (hb1 : ¬ (xs 4) < 0) (hb2 : ¬ 7 < (xs 4)) (hb3 : (xs 4) ≤ 7) (hb4 : vp_in (xs 4) 8) (hXs : va_X b 6 xs s s.heap) (hP : va_P D xcl [(a0, .inr (0, [v11, v12, v13, .ref a4, .ref b14, .ref a3, v15, v16])), (a1, .inr (5, [v17, .ref a10, v18, v19, v20, v21, v22, v23, v24, v25, v26, v27, v28, v29, v30, v31, v32, v33, v34, v35, v36, v37, v38, v39, .ref a7, .ref a8, v40, v41, v42, v43, v44, v45])), (a2, .inl (cT 2, 1, .inr (.inl f46))), (a3, .inr (2, [v47, v48, v49])), (a4, .inl (cT 3, 8, .inr (.inr (.inr (.inr f50))))), (a5, .inr (2, [.ref a6, .int 1, v53])), (a6, .inl (cT 2, 4096, .inr (.inl f54))), (a7, .inl (cT 5, 8, .inr (.inr (.inr (.inr f56))))), (a8, .inl (cT 1, 8, .inl f59)), (a9, .inl (cT 0, 4096, .inl f62)), (a10, .inl (cT 4, 1024, .inr (.inr (.inr (.inr f67)))))] H) (hD : va_D A [(a0, .inr (0, [v11, v12, v13, .ref a4, .ref b14, .ref a3, v15, v16])), (a1, .inr (5, [v17, .ref a10, v18, v19, v20, v21, v22, v23, v24, v25, v26, v27, v28, v29, v30, v31, v32, v33, v34, v35, v36, v37, v38, v39, .ref a7, .ref a8, v40, v41, v42, v43, v44, v45])), (a2, .inl (cT 2, 1, .inr (.inl f46))), (a3, .inr (2, [v47, v48, v49])), (a4, .inl (cT 3, 8, .inr (.inr (.inr (.inr f50))))), (a5, .inr (2, [.ref a6, .int 1, v53])), (a6, .inl (cT 2, 4096, .inr (.inl f54))), (a7, .inl (cT 5, 8, .inr (.inr (.inr (.inr f56))))), (a8, .inl (cT 1, 8, .inl f59)), (a9, .inl (cT 0, 4096, .inl f62)), (a10, .inl (cT 4, 1024, .inr (.inr (.inr (.inr f67)))))]) (hS : va_S A s.heap H locs) (hl : lv_has ls 8 [(4, .int 0), (3, .ref a2), (2, .ref a1), (1, .ref a0), (0, .ref b)]) : W p l e room_1 s m #[Value.ref b] below meth c H locs 54 107242 (lw_Z below #[Value.ref b] s) (F0 m 723 ls []) := by
  obtain ⟨hx, hb, hr, hml, hown, htx, hbl, hbA, hlocks, hK, hZ, hA, hA2⟩ := C
  refine lv_aload_n hx hb dL_law_723 rfl (lv_at hl 3 rfl) ?_
  refine lv_aload_n hx hb dL_law_724 rfl (lv_at hl 4 rfl) ?_
  refine lv_iload hx hb dL_law_725 (lv_at hl 0 rfl) ?_
  refine lv_iconst (v := 1) hx hb dL_law_727 (by decide) ?_
  refine lv_iadd hx hb dL_law_728 ?_
  refine W.eq (g2 := F0 m 729 ls [.int 1, .ref b, .ref a0]) rfl ?_
  refine va_sld hx hb hXs hbl hbA hS (i := 1) (show ¬ ((1 : Int32) < 0 ∨ 6 ≤ (1 : Int32).toNatClampNeg) by decide) dL_law_729 ?_
  refine W.eq (g2 := F0 m 730 ls [.int (xs 1), .ref a0]) rfl ?_
  refine lv_aload_n hx hb dL_law_730 rfl (lv_at hl 4 rfl) ?_
  refine lv_iload hx hb dL_law_731 (lv_at hl 0 rfl) ?_
  refine lv_iconst (v := 2) hx hb dL_law_733 (by decide) ?_
  refine lv_iadd hx hb dL_law_734 ?_
  refine W.eq (g2 := F0 m 735 ls [.int 2, .ref b, .int (xs 1), .ref a0]) rfl ?_
  refine va_sld hx hb hXs hbl hbA hS (i := 2) (show ¬ ((2 : Int32) < 0 ∨ 6 ≤ (2 : Int32).toNatClampNeg) by decide) dL_law_735 ?_
  refine W.eq (g2 := F0 m 736 ls [.int (xs 2), .int (xs 1), .ref a0]) rfl ?_
  rw [hf]
  refine W.eq (g2 := F0 m 736 ls [.int 4, .int (xs 1), .ref a0]) rfl ?_
  refine lv_aload_n hx hb dL_law_736 rfl (lv_at hl 4 rfl) ?_
  refine lv_iload hx hb dL_law_737 (lv_at hl 0 rfl) ?_
  refine lv_iconst (v := 3) hx hb dL_law_739 (by decide) ?_
  refine lv_iadd hx hb dL_law_740 ?_
  refine W.eq (g2 := F0 m 741 ls [.int 3, .ref b, .int 4, .int (xs 1), .ref a0]) rfl ?_
  refine va_sld hx hb hXs hbl hbA hS (i := 3) (show ¬ ((3 : Int32) < 0 ∨ 6 ≤ (3 : Int32).toNatClampNeg) by decide) dL_law_741 ?_
  refine W.eq (g2 := F0 m 742 ls [.int (xs 3), .int 4, .int (xs 1), .ref a0]) rfl ?_
  refine lv_aload_n hx hb dL_law_742 rfl (lv_at hl 4 rfl) ?_
  refine lv_iload hx hb dL_law_743 (lv_at hl 0 rfl) ?_
  refine lv_iconst (v := 4) hx hb dL_law_745 (by decide) ?_
  refine lv_iadd hx hb dL_law_746 ?_
  refine W.eq (g2 := F0 m 747 ls [.int 4, .ref b, .int (xs 3), .int 4, .int (xs 1), .ref a0]) rfl ?_
  refine va_sld hx hb hXs hbl hbA hS (i := 4) (show ¬ ((4 : Int32) < 0 ∨ 6 ≤ (4 : Int32).toNatClampNeg) by decide) dL_law_747 ?_
  refine W.eq (g2 := F0 m 748 ls [.int (xs 4), .int (xs 3), .int 4, .int (xs 1), .ref a0]) rfl ?_
  obtain ⟨hPc, hDc, hFc⟩ := xcut (wc := [(a0, .inr (0, [v11, v12, v13, .ref a4, .ref b14, .ref a3, v15, v16])), (a3, .inr (2, [v47, v48, v49])), (a4, .inl (cT 3, 8, .inr (.inr (.inr (.inr f50))))), (a5, .inr (2, [.ref a6, .int 1, v53])), (a6, .inl (cT 2, 4096, .inr (.inl f54)))]) hP hD hS hA [0, 3, 4, 5, 6] rfl rfl (by decide)
  refine va_calli (vx_runSW (As := [.ref a0, .int (xs 1), .int 4, .int (xs 3), .int (xs 4)]) (rest := []) ⟨hx, hb, hml, hown, htx⟩ (cL_sort_16 l hl9 D cT aK aV H.size a0 a3 a4 a5 a6 (xs 1) (xs 3) (xs 4) v11 v12 v13 b14 v15 v16 v47 v48 v49 f50 v53 f54 hto1 hto2 hto3 hto4 ha1 ha2 ha3 ha4 hb1 hb2 hb3 hb4 (by first | rfl | exact h51 | exact h52 | exact h55 | exact h57 | exact h58 | exact h60 | exact h61 | exact h63 | exact h64 | exact h65 | exact h66 | exact h68 | exact h69) (by first | rfl | exact h51 | exact h52 | exact h55 | exact h57 | exact h58 | exact h60 | exact h61 | exact h63 | exact h64 | exact h65 | exact h66 | exact h68 | exact h69) (by first | rfl | exact h51 | exact h52 | exact h55 | exact h57 | exact h58 | exact h60 | exact h61 | exact h63 | exact h64 | exact h65 | exact h66 | exact h68 | exact h69)) (xcSW 5 htx (xw_goodC kw_5_14) rfl rfl rfl (htx _ kw_1_0) (htx _ kw_5_12) ⟨by decide, by decide, by decide +kernel⟩ ⟨Nat.le_of_ble_eq_true rfl, Nat.le_of_ble_eq_true rfl⟩ (htx _ kw_5_13)) ⟨xPre_blind, (fun U hU hW => ⟨rfl, xPre_of hZ hS hFc hPc hDc hK U hU hW⟩)⟩ rfl rfl hl.1 rfl (lv_room (Nat.le_of_ble_eq_true rfl)) dL_law_748 ⟨Nat.le_of_ble_eq_true rfl, Nat.le_of_ble_eq_true rfl⟩) hS (fun q _ h => hFc q h) hFc (fun r1 u9 t H1 locs ht hvm hr9 hB hz1 hk1 hS => ?_)
  obtain ⟨hP1, hK1, hD1⟩ := hB
  rw [ht] at hP1
  obtain ⟨hP, hD⟩ := xjoin (W := [(a1, .inr (5, [v17, .ref a10, v18, v19, v20, v21, v22, v23, v24, v25, v26, v27, v28, v29, v30, v31, v32, v33, v34, v35, v36, v37, v38, v39, .ref a7, .ref a8, v40, v41, v42, v43, v44, v45])), (a2, .inl (cT 2, 1, .inr (.inl f46))), (a7, .inl (cT 5, 8, .inr (.inr (.inr (.inr f56))))), (a8, .inl (cT 1, 8, .inl f59)), (a9, .inl (cT 0, 4096, .inl f62)), (a10, .inl (cT 4, 1024, .inr (.inr (.inr (.inr f67))))), (a0, .inr (0, [v11, v12, v13, .ref a4, .ref b14, .ref a3, v15, .int 1])), (a3, .inr (2, [v47, .int 0, .int 0])), (a4, .inl (cT 3, 8, .inr (.inr (.inr (.inr f50))))), (a5, .inr (2, [.ref a6, .int 1, v53])), (a6, .inl (cT 2, 4096, .inr (.inl f54)))]) hP hD [0, 3, 4, 5, 6] [1, 2, 7, 8, 9, 10] 6 rfl rfl (by decide) (by decide) hk1 hFc hP1 hD1
  generalize H1 = H at hP hS ⊢
  rw [hr9]
  refine W.eq (g2 := F0 m 751 ls [.int 2]) rfl ?_
  refine lv_istore (lv' := [(5, .int 2), (4, .int 0), (3, .ref a2), (2, .ref a1), (1, .ref a0), (0, .ref b)]) hx hb dL_law_751 hl (by decide) rfl (fun ls hl => ?_)
  refine lv_aload_n hx hb dL_law_753 rfl (lv_at hl 3 rfl) ?_
  refine lv_aload_n hx hb dL_law_754 rfl (lv_at hl 5 rfl) ?_
  refine lv_iload hx hb dL_law_755 (lv_at hl 1 rfl) ?_
  refine lv_iconst (v := 1) hx hb dL_law_757 (by decide) ?_
  refine lv_iadd hx hb dL_law_758 ?_
  refine W.eq (g2 := F0 m 759 ls [.int 1, .ref b, .ref a1]) rfl ?_
  refine va_sld hx hb hXs hbl hbA hS (i := 1) (show ¬ ((1 : Int32) < 0 ∨ 6 ≤ (1 : Int32).toNatClampNeg) by decide) dL_law_759 ?_
  refine W.eq (g2 := F0 m 760 ls [.int (xs 1), .ref a1]) rfl ?_
  refine lv_aload_n hx hb dL_law_760 rfl (lv_at hl 5 rfl) ?_
  refine lv_iload hx hb dL_law_761 (lv_at hl 1 rfl) ?_
  refine lv_iconst (v := 2) hx hb dL_law_763 (by decide) ?_
  refine lv_iadd hx hb dL_law_764 ?_
  refine W.eq (g2 := F0 m 765 ls [.int 2, .ref b, .int (xs 1), .ref a1]) rfl ?_
  refine va_sld hx hb hXs hbl hbA hS (i := 2) (show ¬ ((2 : Int32) < 0 ∨ 6 ≤ (2 : Int32).toNatClampNeg) by decide) dL_law_765 ?_
  refine W.eq (g2 := F0 m 766 ls [.int (xs 2), .int (xs 1), .ref a1]) rfl ?_
  rw [hf]
  refine W.eq (g2 := F0 m 766 ls [.int 4, .int (xs 1), .ref a1]) rfl ?_
  refine lv_aload_n hx hb dL_law_766 rfl (lv_at hl 5 rfl) ?_
  refine lv_iload hx hb dL_law_767 (lv_at hl 1 rfl) ?_
  refine lv_iconst (v := 3) hx hb dL_law_769 (by decide) ?_
  refine lv_iadd hx hb dL_law_770 ?_
  refine W.eq (g2 := F0 m 771 ls [.int 3, .ref b, .int 4, .int (xs 1), .ref a1]) rfl ?_
  refine va_sld hx hb hXs hbl hbA hS (i := 3) (show ¬ ((3 : Int32) < 0 ∨ 6 ≤ (3 : Int32).toNatClampNeg) by decide) dL_law_771 ?_
  refine W.eq (g2 := F0 m 772 ls [.int (xs 3), .int 4, .int (xs 1), .ref a1]) rfl ?_
  refine lv_aload_n hx hb dL_law_772 rfl (lv_at hl 5 rfl) ?_
  refine lv_iload hx hb dL_law_773 (lv_at hl 1 rfl) ?_
  refine lv_iconst (v := 4) hx hb dL_law_775 (by decide) ?_
  refine lv_iadd hx hb dL_law_776 ?_
  refine W.eq (g2 := F0 m 777 ls [.int 4, .ref b, .int (xs 3), .int 4, .int (xs 1), .ref a1]) rfl ?_
  refine va_sld hx hb hXs hbl hbA hS (i := 4) (show ¬ ((4 : Int32) < 0 ∨ 6 ≤ (4 : Int32).toNatClampNeg) by decide) dL_law_777 ?_
  refine W.eq (g2 := F0 m 778 ls [.int (xs 4), .int (xs 3), .int 4, .int (xs 1), .ref a1]) rfl ?_
  obtain ⟨hPc, hDc, hFc⟩ := xcut (wc := [(a1, .inr (5, [v17, .ref a10, v18, v19, v20, v21, v22, v23, v24, v25, v26, v27, v28, v29, v30, v31, v32, v33, v34, v35, v36, v37, v38, v39, .ref a7, .ref a8, v40, v41, v42, v43, v44, v45])), (a7, .inl (cT 5, 8, .inr (.inr (.inr (.inr f56))))), (a8, .inl (cT 1, 8, .inl f59)), (a9, .inl (cT 0, 4096, .inl f62)), (a10, .inl (cT 4, 1024, .inr (.inr (.inr (.inr f67)))))]) hP hD hS hA [0, 2, 3, 4, 5] rfl rfl (by decide)
  refine va_callv (va_runV (C := "ValueBenchModel") (As := [.int (xs 1), .int 4, .int (xs 3), .int (xs 4)]) (rest := []) ⟨hx, hb, hml, hown, htx⟩ (cM_sort0_16 l hl9 D cT aK aV H.size a1 a7 a8 a9 a10 (xs 1) (xs 3) (xs 4) v17 v18 v19 v20 v21 v22 v23 v24 v25 v26 v27 v28 v29 v30 v31 v32 v33 v34 v35 v36 v37 v38 v39 v40 v41 v42 v43 v44 v45 f56 f59 f62 f67 hto1 hto2 hto3 hto4 ha1 ha2 ha3 ha4 hb1 hb2 hb3 hb4 (by first | rfl | exact h51 | exact h52 | exact h55 | exact h57 | exact h58 | exact h60 | exact h61 | exact h63 | exact h64 | exact h65 | exact h66 | exact h68 | exact h69) (by first | rfl | exact h51 | exact h52 | exact h55 | exact h57 | exact h58 | exact h60 | exact h61 | exact h63 | exact h64 | exact h65 | exact h66 | exact h68 | exact h69) (by first | rfl | exact h51 | exact h52 | exact h55 | exact h57 | exact h58 | exact h60 | exact h61 | exact h63 | exact h64 | exact h65 | exact h66 | exact h68 | exact h69) (by first | rfl | exact h51 | exact h52 | exact h55 | exact h57 | exact h58 | exact h60 | exact h61 | exact h63 | exact h64 | exact h65 | exact h66 | exact h68 | exact h69) (by first | rfl | exact h51 | exact h52 | exact h55 | exact h57 | exact h58 | exact h60 | exact h61 | exact h63 | exact h64 | exact h65 | exact h66 | exact h68 | exact h69) (by first | rfl | exact h51 | exact h52 | exact h55 | exact h57 | exact h58 | exact h60 | exact h61 | exact h63 | exact h64 | exact h65 | exact h66 | exact h68 | exact h69) (by first | rfl | exact h51 | exact h52 | exact h55 | exact h57 | exact h58 | exact h60 | exact h61 | exact h63 | exact h64 | exact h65 | exact h66 | exact h68 | exact h69) (by first | rfl | exact h51 | exact h52 | exact h55 | exact h57 | exact h58 | exact h60 | exact h61 | exact h63 | exact h64 | exact h65 | exact h66 | exact h68 | exact h69) (by first | rfl | exact h51 | exact h52 | exact h55 | exact h57 | exact h58 | exact h60 | exact h61 | exact h63 | exact h64 | exact h65 | exact h66 | exact h68 | exact h69) (by first | rfl | exact h51 | exact h52 | exact h55 | exact h57 | exact h58 | exact h60 | exact h61 | exact h63 | exact h64 | exact h65 | exact h66 | exact h68 | exact h69)) ⟨callB_of 4 htx (xw_goodC kw_7_131) rfl rfl rfl (htx _ kw_1_5) (htx _ kw_7_128) ⟨by decide, by decide, by decide +kernel⟩ ⟨Nat.le_of_ble_eq_true rfl, Nat.le_of_ble_eq_true rfl⟩, (htx _ kw_7_129), (htx _ kw_7_130)⟩ ⟨xPre_blind, va_recv hK hP (ci := 5) rfl (q0 := 0) rfl, (fun U hU hW => ⟨rfl, xPre_of hZ hS hFc hPc hDc hK U hU hW⟩)⟩ rfl rfl hl.1 rfl (lv_room (Nat.le_of_ble_eq_true rfl)) dL_law_778 ⟨Nat.le_of_ble_eq_true rfl, Nat.le_of_ble_eq_true rfl⟩) hS (fun q _ h => hFc q h) hFc (fun u9 t H1 locs ht hvm hr9 hB hz1 hk1 hS => ?_)
  obtain ⟨q2, q3, hP1, hK1, hD1⟩ := hB
  rw [ht] at hP1
  obtain ⟨hP, hD⟩ := xjoin (W := [(a2, .inl (cT 2, 1, .inr (.inl f46))), (a0, .inr (0, [v11, v12, v13, .ref a4, .ref b14, .ref a3, v15, .int 1])), (a3, .inr (2, [v47, .int 0, .int 0])), (a4, .inl (cT 3, 8, .inr (.inr (.inr (.inr f50))))), (a5, .inr (2, [.ref a6, .int 1, v53])), (a6, .inl (cT 2, 4096, .inr (.inl f54))), (a1, .inr (5, [.int 2, .ref a10, .int 2, v19, .int 0, v21, v22, .int 0, .int 1, .int 0, v26, v27, .int 0, v29, v30, .ref a9, .int 4, .int 4, .int 0, .int 100, v36, v37, .int 0, .int 1000000000, .ref a7, .ref a8, v40, v41, v42, v43, .int 1, v45])), (a7, .inl (cT 5, 8, .inr (.inr (.inr (.inr f56))))), (a8, .inl (cT 1, 8, .inl f59)), (a9, .inl (cT 0, 4096, .inl f62)), (a10, .inl (cT 4, 1024, .inr (.inr (.inr (.inr (va_up (va_up f67 0 (some q2)) 1 (some q3))))))), (q2, .inr (6, [.int 0, .long 0, .int 0, .int 0, .int 0, .int 1])), (q3, .inr (6, [.int 0, .long 0, .int 0, .int 0, .int 0, .int 1]))]) hP hD [0, 2, 3, 4, 5] [1, 6, 7, 8, 9, 10] 6 rfl rfl (by decide) (by decide) hk1 hFc hP1 hD1
  generalize H1 = H at hP hS ⊢
  refine lv_aload_n hx hb dL_law_781 rfl (lv_at hl 3 rfl) ?_
  obtain ⟨hPc, hDc, hFc⟩ := xcut (wc := [(a1, .inr (5, [.int 2, .ref a10, .int 2, v19, .int 0, v21, v22, .int 0, .int 1, .int 0, v26, v27, .int 0, v29, v30, .ref a9, .int 4, .int 4, .int 0, .int 100, v36, v37, .int 0, .int 1000000000, .ref a7, .ref a8, v40, v41, v42, v43, .int 1, v45]))]) hP hD hS hA [6] rfl rfl (by decide)
  refine va_calli (va_runV (C := "ValueBenchModel") (As := []) (rest := []) ⟨hx, hb, hml, hown, htx⟩ (cM_thrown_2 l hl9 D cT aK aV H.size a1 (.ref a10) (.int 2) v19 (.int 0) v21 v22 (.int 0) (.int 1) (.int 0) v26 v27 (.int 0) v29 v30 (.ref a9) (.int 4) (.int 4) (.int 0) (.int 100) v36 v37 (.int 0) (.int 1000000000) (.ref a7) (.ref a8) v40 v41 v42 v43 (.int 1) v45) ⟨callB_of 0 htx (xw_goodC kw_5_187) rfl rfl rfl (htx _ kw_1_5) (htx _ kw_5_184) ⟨by decide, by decide, by decide +kernel⟩ ⟨Nat.le_of_ble_eq_true rfl, Nat.le_of_ble_eq_true rfl⟩, (htx _ kw_5_185), (htx _ kw_5_186)⟩ ⟨xPre_blind, va_recv hK hP (ci := 5) rfl (q0 := 6) rfl, (fun U hU hW => ⟨rfl, xPre_of hZ hS hFc hPc hDc hK U hU hW⟩)⟩ rfl rfl hl.1 rfl (lv_room (Nat.le_of_ble_eq_true rfl)) dL_law_782 ⟨Nat.le_of_ble_eq_true rfl, Nat.le_of_ble_eq_true rfl⟩) hS (fun q _ h => hFc q h) hFc (fun r4 u9 t H1 locs ht hvm hr9 hB hz1 hk1 hS => ?_)
  obtain ⟨hP1, hK1, hD1⟩ := hB
  rw [ht] at hP1
  obtain ⟨hP, hD⟩ := xjoin (W := [(a2, .inl (cT 2, 1, .inr (.inl f46))), (a0, .inr (0, [v11, v12, v13, .ref a4, .ref b14, .ref a3, v15, .int 1])), (a3, .inr (2, [v47, .int 0, .int 0])), (a4, .inl (cT 3, 8, .inr (.inr (.inr (.inr f50))))), (a5, .inr (2, [.ref a6, .int 1, v53])), (a6, .inl (cT 2, 4096, .inr (.inl f54))), (a7, .inl (cT 5, 8, .inr (.inr (.inr (.inr f56))))), (a8, .inl (cT 1, 8, .inl f59)), (a9, .inl (cT 0, 4096, .inl f62)), (a10, .inl (cT 4, 1024, .inr (.inr (.inr (.inr (va_up (va_up f67 0 (some q2)) 1 (some q3))))))), (q2, .inr (6, [.int 0, .long 0, .int 0, .int 0, .int 0, .int 1])), (q3, .inr (6, [.int 0, .long 0, .int 0, .int 0, .int 0, .int 1])), (a1, .inr (5, [.int 2, .ref a10, .int 2, v19, .int 0, v21, v22, .int 0, .int 1, .int 0, v26, v27, .int 0, v29, v30, .ref a9, .int 4, .int 4, .int 0, .int 100, v36, v37, .int 0, .int 1000000000, .ref a7, .ref a8, v40, v41, v42, v43, .int 1, v45]))]) hP hD [6] [0, 1, 2, 3, 4, 5, 7, 8, 9, 10, 11, 12] 12 rfl rfl (by decide) (by decide) hk1 hFc hP1 hD1
  generalize H1 = H at hP hS ⊢
  rw [hr9]
  refine W.eq (g2 := F0 m 785 ls [.int 2]) rfl ?_
  refine lv_iload hx hb dL_law_785 (lv_at hl 0 rfl) ?_
  refine lv_icmp_eq (tgt := 792) hx hb dL_law_787 (by decide) (fun _ => ?_) (fun h => ((by revert h; decide : False)).elim)
  refine lv_goto (tgt := 906) hx hb dL_law_792 (by decide) ?_
  refine lv_iinc (v := 6) (lv' := [(4, .int 6), (5, .int 2), (3, .ref a2), (2, .ref a1), (1, .ref a0), (0, .ref b)]) hx hb dL_law_906 hl (k := 1) rfl (by decide) (by decide) rfl (fun ls hl => ?_)
  refine lv_goto (tgt := 23) hx hb dL_law_909 (by decide) ?_
  refine lv_iload hx hb dL_law_23 (lv_at hl 0 rfl) ?_
  refine lv_aload_n hx hb dL_law_25 rfl (lv_at hl 5 rfl) ?_
  refine va_slen hx hb hXs hbl hbA hS dL_law_26 ?_
  refine W.eq (g2 := F0 m 27 ls [.int 6, .int 6]) rfl ?_
  refine lv_bipush (v := 6) hx hb dL_law_27 (by decide) ?_
  refine lv_isub hx hb dL_law_29 ?_
  refine W.eq (g2 := F0 m 30 ls [.int 0, .int 6]) rfl ?_
  refine lv_icmp_gt (tgt := 912) hx hb dL_law_30 (by decide) (fun _ => ?_) (fun h => ((by revert h; decide : False)).elim)
  refine lv_iconst (v := 1) hx hb dL_law_912 (by decide) ?_
  exact va_forget (fun q h => hA2 _ (hS.2.2 q h)) (W.widen (k := 600002) (n := 7302232) (Nat.le_of_ble_eq_true rfl) (Nat.le_of_ble_eq_true rfl) (lw_ret hx hb hr hlocks dL_law_913))
set_option maxHeartbeats 400000000 in
set_option maxRecDepth 100000 in
theorem lf_sort4_p2 {p : Program} {e : Env} {s : State} {m : MethodId} {below : List Frame} {meth : Method} {c : Code} (l : Launch) (hl9 : l.stackTraces = false) (D : va_G) (cT : Nat → ClassId) (aK aV : Nat → Nat) {A : Nat → Prop} {b : Nat} {xs : Nat → Int32} (C : xLw p s m meth c b D cT aK aV A) {H : Heap} {locs : List Loc} {ls : Array Slot} (a0 : Nat) (a1 : Nat) (a2 : Nat) (a3 : Nat) (a4 : Nat) (a5 : Nat) (a6 : Nat) (a7 : Nat) (a8 : Nat) (a9 : Nat) (a10 : Nat) (a11 : Nat) (v12 : Value) (v13 : Value) (v14 : Value) (b15 : Nat) (v16 : Value) (v17 : Value) (v18 : Value) (v19 : Value) (v20 : Value) (v21 : Value) (v22 : Value) (v23 : Value) (v24 : Value) (v25 : Value) (v26 : Value) (v27 : Value) (v28 : Value) (v29 : Value) (v30 : Value) (v31 : Value) (v32 : Value) (v33 : Value) (v34 : Value) (v35 : Value) (v36 : Value) (v37 : Value) (v38 : Value) (v39 : Value) (v40 : Value) (v41 : Value) (v42 : Value) (v43 : Value) (v44 : Value) (v45 : Value) (v46 : Value) (f47 : Nat → Int64) (v48 : Value) (v49 : Value) (v50 : Value) (f51 : Nat → Option Nat) (b53 : Nat) (v55 : Value) (f56 : Nat → Int64) (f58 : Nat → Option Nat) (f61 : Nat → Int32) (f64 : Nat → Int32) (f69 : Nat → Option Nat) (f72 : Nat → Int32) (h52 : f51 (xs 3).toNatClampNeg = some a5) (h54 : f51 (xs 4).toNatClampNeg = some b53) (h57 : f56 0 = 0) (h59 : f58 (xs 3).toNatClampNeg = some a9) (h60 : f58 (xs 4).toNatClampNeg = some a11) (h62 : f61 (xs 3).toNatClampNeg = 4) (h63 : f61 (xs 4).toNatClampNeg = 4) (h65 : f64 0 = 110) (h66 : f64 1 = 117) (h67 : f64 2 = 108) (h68 : f64 3 = 108) (h70 : f69 0 = none) (h71 : f69 1 = none) (h73 : f72 0 = 110) (h74 : f72 1 = 117) (h75 : f72 2 = 108) (h76 : f72 3 = 108) (hto1 : ¬ (xs 1) < 0) (hto2 : ¬ 7 < (xs 1)) (hto3 : (xs 1) ≤ 7) (hto4 : vp_in (xs 1) 8) (hf : xs 2 = 4) (ha1 : ¬ (xs 3) < 0) (ha2 : ¬ 7 < (xs 3)) (ha3 : (xs 3) ≤ 7) (ha4 : vp_in (xs 3) 8) (hb1 : ¬ (xs 4) < 0) (hb2 : ¬ 7 < (xs 4)) (hb3 : (xs 4) ≤ 7) (hb4 : vp_in (xs 4) 8) (hXs : va_X b 6 xs s s.heap) (hP : va_P D xcl [(a0, .inr (0, [v12, v13, v14, .ref a4, .ref b15, .ref a3, v16, v17])), (a1, .inr (5, [v18, .ref a10, v19, v20, v21, v22, v23, v24, v25, v26, v27, v28, v29, v30, v31, v32, v33, v34, v35, v36, v37, v38, v39, v40, .ref a7, .ref a8, v41, v42, v43, v44, v45, v46])), (a2, .inl (cT 2, 1, .inr (.inl f47))), (a3, .inr (2, [v48, v49, v50])), (a4, .inl (cT 3, 8, .inr (.inr (.inr (.inr f51))))), (a5, .inr (2, [.ref a6, .int 1, v55])), (a6, .inl (cT 2, 4096, .inr (.inl f56))), (a7, .inl (cT 5, 8, .inr (.inr (.inr (.inr f58))))), (a8, .inl (cT 1, 8, .inl f61)), (a9, .inl (cT 0, 4096, .inl f64)), (a10, .inl (cT 4, 1024, .inr (.inr (.inr (.inr f69))))), (a11, .inl (cT 0, 4096, .inl f72))] H) (hD : va_D A [(a0, .inr (0, [v12, v13, v14, .ref a4, .ref b15, .ref a3, v16, v17])), (a1, .inr (5, [v18, .ref a10, v19, v20, v21, v22, v23, v24, v25, v26, v27, v28, v29, v30, v31, v32, v33, v34, v35, v36, v37, v38, v39, v40, .ref a7, .ref a8, v41, v42, v43, v44, v45, v46])), (a2, .inl (cT 2, 1, .inr (.inl f47))), (a3, .inr (2, [v48, v49, v50])), (a4, .inl (cT 3, 8, .inr (.inr (.inr (.inr f51))))), (a5, .inr (2, [.ref a6, .int 1, v55])), (a6, .inl (cT 2, 4096, .inr (.inl f56))), (a7, .inl (cT 5, 8, .inr (.inr (.inr (.inr f58))))), (a8, .inl (cT 1, 8, .inl f61)), (a9, .inl (cT 0, 4096, .inl f64)), (a10, .inl (cT 4, 1024, .inr (.inr (.inr (.inr f69))))), (a11, .inl (cT 0, 4096, .inl f72))]) (hS : va_S A s.heap H locs) (hl : lv_has ls 8 [(4, .int 0), (3, .ref a2), (2, .ref a1), (1, .ref a0), (0, .ref b)]) : W p l e room_1 s m #[Value.ref b] below meth c H locs 54 107242 (lw_Z below #[Value.ref b] s) (F0 m 723 ls []) := by
  obtain ⟨hx, hb, hr, hml, hown, htx, hbl, hbA, hlocks, hK, hZ, hA, hA2⟩ := C
  refine lv_aload_n hx hb dL_law_723 rfl (lv_at hl 3 rfl) ?_
  refine lv_aload_n hx hb dL_law_724 rfl (lv_at hl 4 rfl) ?_
  refine lv_iload hx hb dL_law_725 (lv_at hl 0 rfl) ?_
  refine lv_iconst (v := 1) hx hb dL_law_727 (by decide) ?_
  refine lv_iadd hx hb dL_law_728 ?_
  refine W.eq (g2 := F0 m 729 ls [.int 1, .ref b, .ref a0]) rfl ?_
  refine va_sld hx hb hXs hbl hbA hS (i := 1) (show ¬ ((1 : Int32) < 0 ∨ 6 ≤ (1 : Int32).toNatClampNeg) by decide) dL_law_729 ?_
  refine W.eq (g2 := F0 m 730 ls [.int (xs 1), .ref a0]) rfl ?_
  refine lv_aload_n hx hb dL_law_730 rfl (lv_at hl 4 rfl) ?_
  refine lv_iload hx hb dL_law_731 (lv_at hl 0 rfl) ?_
  refine lv_iconst (v := 2) hx hb dL_law_733 (by decide) ?_
  refine lv_iadd hx hb dL_law_734 ?_
  refine W.eq (g2 := F0 m 735 ls [.int 2, .ref b, .int (xs 1), .ref a0]) rfl ?_
  refine va_sld hx hb hXs hbl hbA hS (i := 2) (show ¬ ((2 : Int32) < 0 ∨ 6 ≤ (2 : Int32).toNatClampNeg) by decide) dL_law_735 ?_
  refine W.eq (g2 := F0 m 736 ls [.int (xs 2), .int (xs 1), .ref a0]) rfl ?_
  rw [hf]
  refine W.eq (g2 := F0 m 736 ls [.int 4, .int (xs 1), .ref a0]) rfl ?_
  refine lv_aload_n hx hb dL_law_736 rfl (lv_at hl 4 rfl) ?_
  refine lv_iload hx hb dL_law_737 (lv_at hl 0 rfl) ?_
  refine lv_iconst (v := 3) hx hb dL_law_739 (by decide) ?_
  refine lv_iadd hx hb dL_law_740 ?_
  refine W.eq (g2 := F0 m 741 ls [.int 3, .ref b, .int 4, .int (xs 1), .ref a0]) rfl ?_
  refine va_sld hx hb hXs hbl hbA hS (i := 3) (show ¬ ((3 : Int32) < 0 ∨ 6 ≤ (3 : Int32).toNatClampNeg) by decide) dL_law_741 ?_
  refine W.eq (g2 := F0 m 742 ls [.int (xs 3), .int 4, .int (xs 1), .ref a0]) rfl ?_
  refine lv_aload_n hx hb dL_law_742 rfl (lv_at hl 4 rfl) ?_
  refine lv_iload hx hb dL_law_743 (lv_at hl 0 rfl) ?_
  refine lv_iconst (v := 4) hx hb dL_law_745 (by decide) ?_
  refine lv_iadd hx hb dL_law_746 ?_
  refine W.eq (g2 := F0 m 747 ls [.int 4, .ref b, .int (xs 3), .int 4, .int (xs 1), .ref a0]) rfl ?_
  refine va_sld hx hb hXs hbl hbA hS (i := 4) (show ¬ ((4 : Int32) < 0 ∨ 6 ≤ (4 : Int32).toNatClampNeg) by decide) dL_law_747 ?_
  refine W.eq (g2 := F0 m 748 ls [.int (xs 4), .int (xs 3), .int 4, .int (xs 1), .ref a0]) rfl ?_
  obtain ⟨hPc, hDc, hFc⟩ := xcut (wc := [(a0, .inr (0, [v12, v13, v14, .ref a4, .ref b15, .ref a3, v16, v17])), (a3, .inr (2, [v48, v49, v50])), (a4, .inl (cT 3, 8, .inr (.inr (.inr (.inr f51))))), (a5, .inr (2, [.ref a6, .int 1, v55])), (a6, .inl (cT 2, 4096, .inr (.inl f56)))]) hP hD hS hA [0, 3, 4, 5, 6] rfl rfl (by decide)
  refine va_calli (vx_runSW (As := [.ref a0, .int (xs 1), .int 4, .int (xs 3), .int (xs 4)]) (rest := []) ⟨hx, hb, hml, hown, htx⟩ (cL_sort_17 l hl9 D cT aK aV H.size a0 a3 a4 a5 a6 (xs 1) (xs 3) (xs 4) v12 v13 v14 b15 v16 v17 v48 v49 v50 f51 b53 v55 f56 hto1 hto2 hto3 hto4 ha1 ha2 ha3 ha4 hb1 hb2 hb3 hb4 (by first | rfl | exact h52 | exact h54 | exact h57 | exact h59 | exact h60 | exact h62 | exact h63 | exact h65 | exact h66 | exact h67 | exact h68 | exact h70 | exact h71 | exact h73 | exact h74 | exact h75 | exact h76) (by first | rfl | exact h52 | exact h54 | exact h57 | exact h59 | exact h60 | exact h62 | exact h63 | exact h65 | exact h66 | exact h67 | exact h68 | exact h70 | exact h71 | exact h73 | exact h74 | exact h75 | exact h76) (by first | rfl | exact h52 | exact h54 | exact h57 | exact h59 | exact h60 | exact h62 | exact h63 | exact h65 | exact h66 | exact h67 | exact h68 | exact h70 | exact h71 | exact h73 | exact h74 | exact h75 | exact h76)) (xcSW 5 htx (xw_goodC kw_5_14) rfl rfl rfl (htx _ kw_1_0) (htx _ kw_5_12) ⟨by decide, by decide, by decide +kernel⟩ ⟨Nat.le_of_ble_eq_true rfl, Nat.le_of_ble_eq_true rfl⟩ (htx _ kw_5_13)) ⟨xPre_blind, (fun U hU hW => ⟨rfl, xPre_of hZ hS hFc hPc hDc hK U hU hW⟩)⟩ rfl rfl hl.1 rfl (lv_room (Nat.le_of_ble_eq_true rfl)) dL_law_748 ⟨Nat.le_of_ble_eq_true rfl, Nat.le_of_ble_eq_true rfl⟩) hS (fun q _ h => hFc q h) hFc (fun r1 u9 t H1 locs ht hvm hr9 hB hz1 hk1 hS => ?_)
  obtain ⟨hP1, hK1, hD1⟩ := hB
  rw [ht] at hP1
  obtain ⟨hP, hD⟩ := xjoin (W := [(a1, .inr (5, [v18, .ref a10, v19, v20, v21, v22, v23, v24, v25, v26, v27, v28, v29, v30, v31, v32, v33, v34, v35, v36, v37, v38, v39, v40, .ref a7, .ref a8, v41, v42, v43, v44, v45, v46])), (a2, .inl (cT 2, 1, .inr (.inl f47))), (a7, .inl (cT 5, 8, .inr (.inr (.inr (.inr f58))))), (a8, .inl (cT 1, 8, .inl f61)), (a9, .inl (cT 0, 4096, .inl f64)), (a10, .inl (cT 4, 1024, .inr (.inr (.inr (.inr f69))))), (a11, .inl (cT 0, 4096, .inl f72)), (a0, .inr (0, [v12, v13, v14, .ref a4, .ref b15, .ref a3, v16, .int 1])), (a3, .inr (2, [v48, .int 0, .int 0])), (a4, .inl (cT 3, 8, .inr (.inr (.inr (.inr f51))))), (a5, .inr (2, [.ref a6, .int 1, v55])), (a6, .inl (cT 2, 4096, .inr (.inl f56)))]) hP hD [0, 3, 4, 5, 6] [1, 2, 7, 8, 9, 10, 11] 7 rfl rfl (by decide) (by decide) hk1 hFc hP1 hD1
  generalize H1 = H at hP hS ⊢
  rw [hr9]
  refine W.eq (g2 := F0 m 751 ls [.int 2]) rfl ?_
  refine lv_istore (lv' := [(5, .int 2), (4, .int 0), (3, .ref a2), (2, .ref a1), (1, .ref a0), (0, .ref b)]) hx hb dL_law_751 hl (by decide) rfl (fun ls hl => ?_)
  refine lv_aload_n hx hb dL_law_753 rfl (lv_at hl 3 rfl) ?_
  refine lv_aload_n hx hb dL_law_754 rfl (lv_at hl 5 rfl) ?_
  refine lv_iload hx hb dL_law_755 (lv_at hl 1 rfl) ?_
  refine lv_iconst (v := 1) hx hb dL_law_757 (by decide) ?_
  refine lv_iadd hx hb dL_law_758 ?_
  refine W.eq (g2 := F0 m 759 ls [.int 1, .ref b, .ref a1]) rfl ?_
  refine va_sld hx hb hXs hbl hbA hS (i := 1) (show ¬ ((1 : Int32) < 0 ∨ 6 ≤ (1 : Int32).toNatClampNeg) by decide) dL_law_759 ?_
  refine W.eq (g2 := F0 m 760 ls [.int (xs 1), .ref a1]) rfl ?_
  refine lv_aload_n hx hb dL_law_760 rfl (lv_at hl 5 rfl) ?_
  refine lv_iload hx hb dL_law_761 (lv_at hl 1 rfl) ?_
  refine lv_iconst (v := 2) hx hb dL_law_763 (by decide) ?_
  refine lv_iadd hx hb dL_law_764 ?_
  refine W.eq (g2 := F0 m 765 ls [.int 2, .ref b, .int (xs 1), .ref a1]) rfl ?_
  refine va_sld hx hb hXs hbl hbA hS (i := 2) (show ¬ ((2 : Int32) < 0 ∨ 6 ≤ (2 : Int32).toNatClampNeg) by decide) dL_law_765 ?_
  refine W.eq (g2 := F0 m 766 ls [.int (xs 2), .int (xs 1), .ref a1]) rfl ?_
  rw [hf]
  refine W.eq (g2 := F0 m 766 ls [.int 4, .int (xs 1), .ref a1]) rfl ?_
  refine lv_aload_n hx hb dL_law_766 rfl (lv_at hl 5 rfl) ?_
  refine lv_iload hx hb dL_law_767 (lv_at hl 1 rfl) ?_
  refine lv_iconst (v := 3) hx hb dL_law_769 (by decide) ?_
  refine lv_iadd hx hb dL_law_770 ?_
  refine W.eq (g2 := F0 m 771 ls [.int 3, .ref b, .int 4, .int (xs 1), .ref a1]) rfl ?_
  refine va_sld hx hb hXs hbl hbA hS (i := 3) (show ¬ ((3 : Int32) < 0 ∨ 6 ≤ (3 : Int32).toNatClampNeg) by decide) dL_law_771 ?_
  refine W.eq (g2 := F0 m 772 ls [.int (xs 3), .int 4, .int (xs 1), .ref a1]) rfl ?_
  refine lv_aload_n hx hb dL_law_772 rfl (lv_at hl 5 rfl) ?_
  refine lv_iload hx hb dL_law_773 (lv_at hl 1 rfl) ?_
  refine lv_iconst (v := 4) hx hb dL_law_775 (by decide) ?_
  refine lv_iadd hx hb dL_law_776 ?_
  refine W.eq (g2 := F0 m 777 ls [.int 4, .ref b, .int (xs 3), .int 4, .int (xs 1), .ref a1]) rfl ?_
  refine va_sld hx hb hXs hbl hbA hS (i := 4) (show ¬ ((4 : Int32) < 0 ∨ 6 ≤ (4 : Int32).toNatClampNeg) by decide) dL_law_777 ?_
  refine W.eq (g2 := F0 m 778 ls [.int (xs 4), .int (xs 3), .int 4, .int (xs 1), .ref a1]) rfl ?_
  obtain ⟨hPc, hDc, hFc⟩ := xcut (wc := [(a1, .inr (5, [v18, .ref a10, v19, v20, v21, v22, v23, v24, v25, v26, v27, v28, v29, v30, v31, v32, v33, v34, v35, v36, v37, v38, v39, v40, .ref a7, .ref a8, v41, v42, v43, v44, v45, v46])), (a7, .inl (cT 5, 8, .inr (.inr (.inr (.inr f58))))), (a8, .inl (cT 1, 8, .inl f61)), (a9, .inl (cT 0, 4096, .inl f64)), (a10, .inl (cT 4, 1024, .inr (.inr (.inr (.inr f69))))), (a11, .inl (cT 0, 4096, .inl f72))]) hP hD hS hA [0, 2, 3, 4, 5, 6] rfl rfl (by decide)
  refine va_callv (va_runV (C := "ValueBenchModel") (As := [.int (xs 1), .int 4, .int (xs 3), .int (xs 4)]) (rest := []) ⟨hx, hb, hml, hown, htx⟩ (cM_sort0_17 l hl9 D cT aK aV H.size a1 a7 a8 a9 a10 a11 (xs 1) (xs 3) (xs 4) v18 v19 v20 v21 v22 v23 v24 v25 v26 v27 v28 v29 v30 v31 v32 v33 v34 v35 v36 v37 v38 v39 v40 v41 v42 v43 v44 v45 v46 f58 f61 f64 f69 f72 hto1 hto2 hto3 hto4 ha1 ha2 ha3 ha4 hb1 hb2 hb3 hb4 (by first | rfl | exact h52 | exact h54 | exact h57 | exact h59 | exact h60 | exact h62 | exact h63 | exact h65 | exact h66 | exact h67 | exact h68 | exact h70 | exact h71 | exact h73 | exact h74 | exact h75 | exact h76) (by first | rfl | exact h52 | exact h54 | exact h57 | exact h59 | exact h60 | exact h62 | exact h63 | exact h65 | exact h66 | exact h67 | exact h68 | exact h70 | exact h71 | exact h73 | exact h74 | exact h75 | exact h76) (by first | rfl | exact h52 | exact h54 | exact h57 | exact h59 | exact h60 | exact h62 | exact h63 | exact h65 | exact h66 | exact h67 | exact h68 | exact h70 | exact h71 | exact h73 | exact h74 | exact h75 | exact h76) (by first | rfl | exact h52 | exact h54 | exact h57 | exact h59 | exact h60 | exact h62 | exact h63 | exact h65 | exact h66 | exact h67 | exact h68 | exact h70 | exact h71 | exact h73 | exact h74 | exact h75 | exact h76) (by first | rfl | exact h52 | exact h54 | exact h57 | exact h59 | exact h60 | exact h62 | exact h63 | exact h65 | exact h66 | exact h67 | exact h68 | exact h70 | exact h71 | exact h73 | exact h74 | exact h75 | exact h76) (by first | rfl | exact h52 | exact h54 | exact h57 | exact h59 | exact h60 | exact h62 | exact h63 | exact h65 | exact h66 | exact h67 | exact h68 | exact h70 | exact h71 | exact h73 | exact h74 | exact h75 | exact h76) (by first | rfl | exact h52 | exact h54 | exact h57 | exact h59 | exact h60 | exact h62 | exact h63 | exact h65 | exact h66 | exact h67 | exact h68 | exact h70 | exact h71 | exact h73 | exact h74 | exact h75 | exact h76) (by first | rfl | exact h52 | exact h54 | exact h57 | exact h59 | exact h60 | exact h62 | exact h63 | exact h65 | exact h66 | exact h67 | exact h68 | exact h70 | exact h71 | exact h73 | exact h74 | exact h75 | exact h76) (by first | rfl | exact h52 | exact h54 | exact h57 | exact h59 | exact h60 | exact h62 | exact h63 | exact h65 | exact h66 | exact h67 | exact h68 | exact h70 | exact h71 | exact h73 | exact h74 | exact h75 | exact h76) (by first | rfl | exact h52 | exact h54 | exact h57 | exact h59 | exact h60 | exact h62 | exact h63 | exact h65 | exact h66 | exact h67 | exact h68 | exact h70 | exact h71 | exact h73 | exact h74 | exact h75 | exact h76) (by first | rfl | exact h52 | exact h54 | exact h57 | exact h59 | exact h60 | exact h62 | exact h63 | exact h65 | exact h66 | exact h67 | exact h68 | exact h70 | exact h71 | exact h73 | exact h74 | exact h75 | exact h76) (by first | rfl | exact h52 | exact h54 | exact h57 | exact h59 | exact h60 | exact h62 | exact h63 | exact h65 | exact h66 | exact h67 | exact h68 | exact h70 | exact h71 | exact h73 | exact h74 | exact h75 | exact h76) (by first | rfl | exact h52 | exact h54 | exact h57 | exact h59 | exact h60 | exact h62 | exact h63 | exact h65 | exact h66 | exact h67 | exact h68 | exact h70 | exact h71 | exact h73 | exact h74 | exact h75 | exact h76) (by first | rfl | exact h52 | exact h54 | exact h57 | exact h59 | exact h60 | exact h62 | exact h63 | exact h65 | exact h66 | exact h67 | exact h68 | exact h70 | exact h71 | exact h73 | exact h74 | exact h75 | exact h76)) ⟨callB_of 4 htx (xw_goodC kw_7_131) rfl rfl rfl (htx _ kw_1_5) (htx _ kw_7_128) ⟨by decide, by decide, by decide +kernel⟩ ⟨Nat.le_of_ble_eq_true rfl, Nat.le_of_ble_eq_true rfl⟩, (htx _ kw_7_129), (htx _ kw_7_130)⟩ ⟨xPre_blind, va_recv hK hP (ci := 5) rfl (q0 := 0) rfl, (fun U hU hW => ⟨rfl, xPre_of hZ hS hFc hPc hDc hK U hU hW⟩)⟩ rfl rfl hl.1 rfl (lv_room (Nat.le_of_ble_eq_true rfl)) dL_law_778 ⟨Nat.le_of_ble_eq_true rfl, Nat.le_of_ble_eq_true rfl⟩) hS (fun q _ h => hFc q h) hFc (fun u9 t H1 locs ht hvm hr9 hB hz1 hk1 hS => ?_)
  obtain ⟨q2, q3, hP1, hK1, hD1⟩ := hB
  rw [ht] at hP1
  obtain ⟨hP, hD⟩ := xjoin (W := [(a2, .inl (cT 2, 1, .inr (.inl f47))), (a0, .inr (0, [v12, v13, v14, .ref a4, .ref b15, .ref a3, v16, .int 1])), (a3, .inr (2, [v48, .int 0, .int 0])), (a4, .inl (cT 3, 8, .inr (.inr (.inr (.inr f51))))), (a5, .inr (2, [.ref a6, .int 1, v55])), (a6, .inl (cT 2, 4096, .inr (.inl f56))), (a1, .inr (5, [.int 2, .ref a10, .int 2, v20, .int 0, v22, v23, .int 0, .int 1, .int 0, v27, v28, .int 0, v30, v31, .ref a11, .int 4, .int 4, .int 0, .int 100, v37, v38, .int 0, .int 1000000000, .ref a7, .ref a8, v41, v42, v43, v44, .int 1, v46])), (a7, .inl (cT 5, 8, .inr (.inr (.inr (.inr f58))))), (a8, .inl (cT 1, 8, .inl f61)), (a9, .inl (cT 0, 4096, .inl f64)), (a10, .inl (cT 4, 1024, .inr (.inr (.inr (.inr (va_up (va_up f69 0 (some q2)) 1 (some q3))))))), (a11, .inl (cT 0, 4096, .inl f72)), (q2, .inr (6, [.int 0, .long 0, .int 0, .int 0, .int 0, .int 1])), (q3, .inr (6, [.int 0, .long 0, .int 0, .int 0, .int 0, .int 1]))]) hP hD [0, 2, 3, 4, 5, 6] [1, 7, 8, 9, 10, 11] 6 rfl rfl (by decide) (by decide) hk1 hFc hP1 hD1
  generalize H1 = H at hP hS ⊢
  refine lv_aload_n hx hb dL_law_781 rfl (lv_at hl 3 rfl) ?_
  obtain ⟨hPc, hDc, hFc⟩ := xcut (wc := [(a1, .inr (5, [.int 2, .ref a10, .int 2, v20, .int 0, v22, v23, .int 0, .int 1, .int 0, v27, v28, .int 0, v30, v31, .ref a11, .int 4, .int 4, .int 0, .int 100, v37, v38, .int 0, .int 1000000000, .ref a7, .ref a8, v41, v42, v43, v44, .int 1, v46]))]) hP hD hS hA [6] rfl rfl (by decide)
  refine va_calli (va_runV (C := "ValueBenchModel") (As := []) (rest := []) ⟨hx, hb, hml, hown, htx⟩ (cM_thrown_2 l hl9 D cT aK aV H.size a1 (.ref a10) (.int 2) v20 (.int 0) v22 v23 (.int 0) (.int 1) (.int 0) v27 v28 (.int 0) v30 v31 (.ref a11) (.int 4) (.int 4) (.int 0) (.int 100) v37 v38 (.int 0) (.int 1000000000) (.ref a7) (.ref a8) v41 v42 v43 v44 (.int 1) v46) ⟨callB_of 0 htx (xw_goodC kw_5_187) rfl rfl rfl (htx _ kw_1_5) (htx _ kw_5_184) ⟨by decide, by decide, by decide +kernel⟩ ⟨Nat.le_of_ble_eq_true rfl, Nat.le_of_ble_eq_true rfl⟩, (htx _ kw_5_185), (htx _ kw_5_186)⟩ ⟨xPre_blind, va_recv hK hP (ci := 5) rfl (q0 := 6) rfl, (fun U hU hW => ⟨rfl, xPre_of hZ hS hFc hPc hDc hK U hU hW⟩)⟩ rfl rfl hl.1 rfl (lv_room (Nat.le_of_ble_eq_true rfl)) dL_law_782 ⟨Nat.le_of_ble_eq_true rfl, Nat.le_of_ble_eq_true rfl⟩) hS (fun q _ h => hFc q h) hFc (fun r4 u9 t H1 locs ht hvm hr9 hB hz1 hk1 hS => ?_)
  obtain ⟨hP1, hK1, hD1⟩ := hB
  rw [ht] at hP1
  obtain ⟨hP, hD⟩ := xjoin (W := [(a2, .inl (cT 2, 1, .inr (.inl f47))), (a0, .inr (0, [v12, v13, v14, .ref a4, .ref b15, .ref a3, v16, .int 1])), (a3, .inr (2, [v48, .int 0, .int 0])), (a4, .inl (cT 3, 8, .inr (.inr (.inr (.inr f51))))), (a5, .inr (2, [.ref a6, .int 1, v55])), (a6, .inl (cT 2, 4096, .inr (.inl f56))), (a7, .inl (cT 5, 8, .inr (.inr (.inr (.inr f58))))), (a8, .inl (cT 1, 8, .inl f61)), (a9, .inl (cT 0, 4096, .inl f64)), (a10, .inl (cT 4, 1024, .inr (.inr (.inr (.inr (va_up (va_up f69 0 (some q2)) 1 (some q3))))))), (a11, .inl (cT 0, 4096, .inl f72)), (q2, .inr (6, [.int 0, .long 0, .int 0, .int 0, .int 0, .int 1])), (q3, .inr (6, [.int 0, .long 0, .int 0, .int 0, .int 0, .int 1])), (a1, .inr (5, [.int 2, .ref a10, .int 2, v20, .int 0, v22, v23, .int 0, .int 1, .int 0, v27, v28, .int 0, v30, v31, .ref a11, .int 4, .int 4, .int 0, .int 100, v37, v38, .int 0, .int 1000000000, .ref a7, .ref a8, v41, v42, v43, v44, .int 1, v46]))]) hP hD [6] [0, 1, 2, 3, 4, 5, 7, 8, 9, 10, 11, 12, 13] 13 rfl rfl (by decide) (by decide) hk1 hFc hP1 hD1
  generalize H1 = H at hP hS ⊢
  rw [hr9]
  refine W.eq (g2 := F0 m 785 ls [.int 2]) rfl ?_
  refine lv_iload hx hb dL_law_785 (lv_at hl 0 rfl) ?_
  refine lv_icmp_eq (tgt := 792) hx hb dL_law_787 (by decide) (fun _ => ?_) (fun h => ((by revert h; decide : False)).elim)
  refine lv_goto (tgt := 906) hx hb dL_law_792 (by decide) ?_
  refine lv_iinc (v := 6) (lv' := [(4, .int 6), (5, .int 2), (3, .ref a2), (2, .ref a1), (1, .ref a0), (0, .ref b)]) hx hb dL_law_906 hl (k := 1) rfl (by decide) (by decide) rfl (fun ls hl => ?_)
  refine lv_goto (tgt := 23) hx hb dL_law_909 (by decide) ?_
  refine lv_iload hx hb dL_law_23 (lv_at hl 0 rfl) ?_
  refine lv_aload_n hx hb dL_law_25 rfl (lv_at hl 5 rfl) ?_
  refine va_slen hx hb hXs hbl hbA hS dL_law_26 ?_
  refine W.eq (g2 := F0 m 27 ls [.int 6, .int 6]) rfl ?_
  refine lv_bipush (v := 6) hx hb dL_law_27 (by decide) ?_
  refine lv_isub hx hb dL_law_29 ?_
  refine W.eq (g2 := F0 m 30 ls [.int 0, .int 6]) rfl ?_
  refine lv_icmp_gt (tgt := 912) hx hb dL_law_30 (by decide) (fun _ => ?_) (fun h => ((by revert h; decide : False)).elim)
  refine lv_iconst (v := 1) hx hb dL_law_912 (by decide) ?_
  exact va_forget (fun q h => hA2 _ (hS.2.2 q h)) (W.widen (k := 600002) (n := 7302232) (Nat.le_of_ble_eq_true rfl) (Nat.le_of_ble_eq_true rfl) (lw_ret hx hb hr hlocks dL_law_913))
set_option maxHeartbeats 400000000 in
set_option maxRecDepth 100000 in
theorem lf_sort4_p3 {p : Program} {e : Env} {s : State} {m : MethodId} {below : List Frame} {meth : Method} {c : Code} (l : Launch) (hl9 : l.stackTraces = false) (D : va_G) (cT : Nat → ClassId) (aK aV : Nat → Nat) {A : Nat → Prop} {b : Nat} {xs : Nat → Int32} (C : xLw p s m meth c b D cT aK aV A) {H : Heap} {locs : List Loc} {ls : Array Slot} (a0 : Nat) (a1 : Nat) (a2 : Nat) (a3 : Nat) (a4 : Nat) (a5 : Nat) (a6 : Nat) (a7 : Nat) (a8 : Nat) (a9 : Nat) (a10 : Nat) (a11 : Nat) (v12 : Value) (v13 : Value) (v14 : Value) (b15 : Nat) (v16 : Value) (v17 : Value) (v18 : Value) (v19 : Value) (v20 : Value) (v21 : Value) (v22 : Value) (v23 : Value) (v24 : Value) (v25 : Value) (v26 : Value) (v27 : Value) (v28 : Value) (v29 : Value) (v30 : Value) (v31 : Value) (v32 : Value) (v33 : Value) (v34 : Value) (v35 : Value) (v36 : Value) (v37 : Value) (v38 : Value) (v39 : Value) (v40 : Value) (v41 : Value) (v42 : Value) (v43 : Value) (v44 : Value) (v45 : Value) (v46 : Value) (f47 : Nat → Int64) (v48 : Value) (v49 : Value) (v50 : Value) (f51 : Nat → Option Nat) (b53 : Nat) (v55 : Value) (f56 : Nat → Int64) (f58 : Nat → Option Nat) (f61 : Nat → Int32) (f64 : Nat → Int32) (f69 : Nat → Option Nat) (f72 : Nat → Int32) (h52 : f51 (xs 3).toNatClampNeg = some a5) (h54 : f51 (xs 4).toNatClampNeg = some b53) (h57 : f56 0 = 0) (h59 : f58 (xs 3).toNatClampNeg = some a9) (h60 : f58 (xs 4).toNatClampNeg = some a11) (h62 : f61 (xs 3).toNatClampNeg = 4) (h63 : f61 (xs 4).toNatClampNeg = 4) (h65 : f64 0 = 110) (h66 : f64 1 = 117) (h67 : f64 2 = 108) (h68 : f64 3 = 108) (h70 : f69 0 = none) (h71 : f69 1 = none) (h73 : f72 0 = 110) (h74 : f72 1 = 117) (h75 : f72 2 = 108) (h76 : f72 3 = 108) (hto1 : ¬ (xs 1) < 0) (hto2 : ¬ 7 < (xs 1)) (hto3 : (xs 1) ≤ 7) (hto4 : vp_in (xs 1) 8) (hf : xs 2 = 4) (ha1 : ¬ (xs 3) < 0) (ha2 : ¬ 7 < (xs 3)) (ha3 : (xs 3) ≤ 7) (ha4 : vp_in (xs 3) 8) (hb1 : ¬ (xs 4) < 0) (hb2 : ¬ 7 < (xs 4)) (hb3 : (xs 4) ≤ 7) (hb4 : vp_in (xs 4) 8) (hXs : va_X b 6 xs s s.heap) (hP : va_P D xcl [(a0, .inr (0, [v12, v13, v14, .ref a4, .ref b15, .ref a3, v16, v17])), (a1, .inr (5, [v18, .ref a10, v19, v20, v21, v22, v23, v24, v25, v26, v27, v28, v29, v30, v31, v32, v33, v34, v35, v36, v37, v38, v39, v40, .ref a7, .ref a8, v41, v42, v43, v44, v45, v46])), (a2, .inl (cT 2, 1, .inr (.inl f47))), (a3, .inr (2, [v48, v49, v50])), (a4, .inl (cT 3, 8, .inr (.inr (.inr (.inr f51))))), (a5, .inr (2, [.ref a6, .int 1, v55])), (a6, .inl (cT 2, 4096, .inr (.inl f56))), (a7, .inl (cT 5, 8, .inr (.inr (.inr (.inr f58))))), (a8, .inl (cT 1, 8, .inl f61)), (a9, .inl (cT 0, 4096, .inl f64)), (a10, .inl (cT 4, 1024, .inr (.inr (.inr (.inr f69))))), (a11, .inl (cT 0, 4096, .inl f72))] H) (hD : va_D A [(a0, .inr (0, [v12, v13, v14, .ref a4, .ref b15, .ref a3, v16, v17])), (a1, .inr (5, [v18, .ref a10, v19, v20, v21, v22, v23, v24, v25, v26, v27, v28, v29, v30, v31, v32, v33, v34, v35, v36, v37, v38, v39, v40, .ref a7, .ref a8, v41, v42, v43, v44, v45, v46])), (a2, .inl (cT 2, 1, .inr (.inl f47))), (a3, .inr (2, [v48, v49, v50])), (a4, .inl (cT 3, 8, .inr (.inr (.inr (.inr f51))))), (a5, .inr (2, [.ref a6, .int 1, v55])), (a6, .inl (cT 2, 4096, .inr (.inl f56))), (a7, .inl (cT 5, 8, .inr (.inr (.inr (.inr f58))))), (a8, .inl (cT 1, 8, .inl f61)), (a9, .inl (cT 0, 4096, .inl f64)), (a10, .inl (cT 4, 1024, .inr (.inr (.inr (.inr f69))))), (a11, .inl (cT 0, 4096, .inl f72))]) (hS : va_S A s.heap H locs) (hl : lv_has ls 8 [(4, .int 0), (3, .ref a2), (2, .ref a1), (1, .ref a0), (0, .ref b)]) : W p l e room_1 s m #[Value.ref b] below meth c H locs 54 107242 (lw_Z below #[Value.ref b] s) (F0 m 723 ls []) := by
  obtain ⟨hx, hb, hr, hml, hown, htx, hbl, hbA, hlocks, hK, hZ, hA, hA2⟩ := C
  refine lv_aload_n hx hb dL_law_723 rfl (lv_at hl 3 rfl) ?_
  refine lv_aload_n hx hb dL_law_724 rfl (lv_at hl 4 rfl) ?_
  refine lv_iload hx hb dL_law_725 (lv_at hl 0 rfl) ?_
  refine lv_iconst (v := 1) hx hb dL_law_727 (by decide) ?_
  refine lv_iadd hx hb dL_law_728 ?_
  refine W.eq (g2 := F0 m 729 ls [.int 1, .ref b, .ref a0]) rfl ?_
  refine va_sld hx hb hXs hbl hbA hS (i := 1) (show ¬ ((1 : Int32) < 0 ∨ 6 ≤ (1 : Int32).toNatClampNeg) by decide) dL_law_729 ?_
  refine W.eq (g2 := F0 m 730 ls [.int (xs 1), .ref a0]) rfl ?_
  refine lv_aload_n hx hb dL_law_730 rfl (lv_at hl 4 rfl) ?_
  refine lv_iload hx hb dL_law_731 (lv_at hl 0 rfl) ?_
  refine lv_iconst (v := 2) hx hb dL_law_733 (by decide) ?_
  refine lv_iadd hx hb dL_law_734 ?_
  refine W.eq (g2 := F0 m 735 ls [.int 2, .ref b, .int (xs 1), .ref a0]) rfl ?_
  refine va_sld hx hb hXs hbl hbA hS (i := 2) (show ¬ ((2 : Int32) < 0 ∨ 6 ≤ (2 : Int32).toNatClampNeg) by decide) dL_law_735 ?_
  refine W.eq (g2 := F0 m 736 ls [.int (xs 2), .int (xs 1), .ref a0]) rfl ?_
  rw [hf]
  refine W.eq (g2 := F0 m 736 ls [.int 4, .int (xs 1), .ref a0]) rfl ?_
  refine lv_aload_n hx hb dL_law_736 rfl (lv_at hl 4 rfl) ?_
  refine lv_iload hx hb dL_law_737 (lv_at hl 0 rfl) ?_
  refine lv_iconst (v := 3) hx hb dL_law_739 (by decide) ?_
  refine lv_iadd hx hb dL_law_740 ?_
  refine W.eq (g2 := F0 m 741 ls [.int 3, .ref b, .int 4, .int (xs 1), .ref a0]) rfl ?_
  refine va_sld hx hb hXs hbl hbA hS (i := 3) (show ¬ ((3 : Int32) < 0 ∨ 6 ≤ (3 : Int32).toNatClampNeg) by decide) dL_law_741 ?_
  refine W.eq (g2 := F0 m 742 ls [.int (xs 3), .int 4, .int (xs 1), .ref a0]) rfl ?_
  refine lv_aload_n hx hb dL_law_742 rfl (lv_at hl 4 rfl) ?_
  refine lv_iload hx hb dL_law_743 (lv_at hl 0 rfl) ?_
  refine lv_iconst (v := 4) hx hb dL_law_745 (by decide) ?_
  refine lv_iadd hx hb dL_law_746 ?_
  refine W.eq (g2 := F0 m 747 ls [.int 4, .ref b, .int (xs 3), .int 4, .int (xs 1), .ref a0]) rfl ?_
  refine va_sld hx hb hXs hbl hbA hS (i := 4) (show ¬ ((4 : Int32) < 0 ∨ 6 ≤ (4 : Int32).toNatClampNeg) by decide) dL_law_747 ?_
  refine W.eq (g2 := F0 m 748 ls [.int (xs 4), .int (xs 3), .int 4, .int (xs 1), .ref a0]) rfl ?_
  obtain ⟨hPc, hDc, hFc⟩ := xcut (wc := [(a0, .inr (0, [v12, v13, v14, .ref a4, .ref b15, .ref a3, v16, v17])), (a3, .inr (2, [v48, v49, v50])), (a4, .inl (cT 3, 8, .inr (.inr (.inr (.inr f51))))), (a5, .inr (2, [.ref a6, .int 1, v55])), (a6, .inl (cT 2, 4096, .inr (.inl f56)))]) hP hD hS hA [0, 3, 4, 5, 6] rfl rfl (by decide)
  refine va_calli (vx_runSW (As := [.ref a0, .int (xs 1), .int 4, .int (xs 3), .int (xs 4)]) (rest := []) ⟨hx, hb, hml, hown, htx⟩ (cL_sort_17 l hl9 D cT aK aV H.size a0 a3 a4 a5 a6 (xs 1) (xs 3) (xs 4) v12 v13 v14 b15 v16 v17 v48 v49 v50 f51 b53 v55 f56 hto1 hto2 hto3 hto4 ha1 ha2 ha3 ha4 hb1 hb2 hb3 hb4 (by first | rfl | exact h52 | exact h54 | exact h57 | exact h59 | exact h60 | exact h62 | exact h63 | exact h65 | exact h66 | exact h67 | exact h68 | exact h70 | exact h71 | exact h73 | exact h74 | exact h75 | exact h76) (by first | rfl | exact h52 | exact h54 | exact h57 | exact h59 | exact h60 | exact h62 | exact h63 | exact h65 | exact h66 | exact h67 | exact h68 | exact h70 | exact h71 | exact h73 | exact h74 | exact h75 | exact h76) (by first | rfl | exact h52 | exact h54 | exact h57 | exact h59 | exact h60 | exact h62 | exact h63 | exact h65 | exact h66 | exact h67 | exact h68 | exact h70 | exact h71 | exact h73 | exact h74 | exact h75 | exact h76)) (xcSW 5 htx (xw_goodC kw_5_14) rfl rfl rfl (htx _ kw_1_0) (htx _ kw_5_12) ⟨by decide, by decide, by decide +kernel⟩ ⟨Nat.le_of_ble_eq_true rfl, Nat.le_of_ble_eq_true rfl⟩ (htx _ kw_5_13)) ⟨xPre_blind, (fun U hU hW => ⟨rfl, xPre_of hZ hS hFc hPc hDc hK U hU hW⟩)⟩ rfl rfl hl.1 rfl (lv_room (Nat.le_of_ble_eq_true rfl)) dL_law_748 ⟨Nat.le_of_ble_eq_true rfl, Nat.le_of_ble_eq_true rfl⟩) hS (fun q _ h => hFc q h) hFc (fun r1 u9 t H1 locs ht hvm hr9 hB hz1 hk1 hS => ?_)
  obtain ⟨hP1, hK1, hD1⟩ := hB
  rw [ht] at hP1
  obtain ⟨hP, hD⟩ := xjoin (W := [(a1, .inr (5, [v18, .ref a10, v19, v20, v21, v22, v23, v24, v25, v26, v27, v28, v29, v30, v31, v32, v33, v34, v35, v36, v37, v38, v39, v40, .ref a7, .ref a8, v41, v42, v43, v44, v45, v46])), (a2, .inl (cT 2, 1, .inr (.inl f47))), (a7, .inl (cT 5, 8, .inr (.inr (.inr (.inr f58))))), (a8, .inl (cT 1, 8, .inl f61)), (a9, .inl (cT 0, 4096, .inl f64)), (a10, .inl (cT 4, 1024, .inr (.inr (.inr (.inr f69))))), (a11, .inl (cT 0, 4096, .inl f72)), (a0, .inr (0, [v12, v13, v14, .ref a4, .ref b15, .ref a3, v16, .int 1])), (a3, .inr (2, [v48, .int 0, .int 0])), (a4, .inl (cT 3, 8, .inr (.inr (.inr (.inr f51))))), (a5, .inr (2, [.ref a6, .int 1, v55])), (a6, .inl (cT 2, 4096, .inr (.inl f56)))]) hP hD [0, 3, 4, 5, 6] [1, 2, 7, 8, 9, 10, 11] 7 rfl rfl (by decide) (by decide) hk1 hFc hP1 hD1
  generalize H1 = H at hP hS ⊢
  rw [hr9]
  refine W.eq (g2 := F0 m 751 ls [.int 2]) rfl ?_
  refine lv_istore (lv' := [(5, .int 2), (4, .int 0), (3, .ref a2), (2, .ref a1), (1, .ref a0), (0, .ref b)]) hx hb dL_law_751 hl (by decide) rfl (fun ls hl => ?_)
  refine lv_aload_n hx hb dL_law_753 rfl (lv_at hl 3 rfl) ?_
  refine lv_aload_n hx hb dL_law_754 rfl (lv_at hl 5 rfl) ?_
  refine lv_iload hx hb dL_law_755 (lv_at hl 1 rfl) ?_
  refine lv_iconst (v := 1) hx hb dL_law_757 (by decide) ?_
  refine lv_iadd hx hb dL_law_758 ?_
  refine W.eq (g2 := F0 m 759 ls [.int 1, .ref b, .ref a1]) rfl ?_
  refine va_sld hx hb hXs hbl hbA hS (i := 1) (show ¬ ((1 : Int32) < 0 ∨ 6 ≤ (1 : Int32).toNatClampNeg) by decide) dL_law_759 ?_
  refine W.eq (g2 := F0 m 760 ls [.int (xs 1), .ref a1]) rfl ?_
  refine lv_aload_n hx hb dL_law_760 rfl (lv_at hl 5 rfl) ?_
  refine lv_iload hx hb dL_law_761 (lv_at hl 1 rfl) ?_
  refine lv_iconst (v := 2) hx hb dL_law_763 (by decide) ?_
  refine lv_iadd hx hb dL_law_764 ?_
  refine W.eq (g2 := F0 m 765 ls [.int 2, .ref b, .int (xs 1), .ref a1]) rfl ?_
  refine va_sld hx hb hXs hbl hbA hS (i := 2) (show ¬ ((2 : Int32) < 0 ∨ 6 ≤ (2 : Int32).toNatClampNeg) by decide) dL_law_765 ?_
  refine W.eq (g2 := F0 m 766 ls [.int (xs 2), .int (xs 1), .ref a1]) rfl ?_
  rw [hf]
  refine W.eq (g2 := F0 m 766 ls [.int 4, .int (xs 1), .ref a1]) rfl ?_
  refine lv_aload_n hx hb dL_law_766 rfl (lv_at hl 5 rfl) ?_
  refine lv_iload hx hb dL_law_767 (lv_at hl 1 rfl) ?_
  refine lv_iconst (v := 3) hx hb dL_law_769 (by decide) ?_
  refine lv_iadd hx hb dL_law_770 ?_
  refine W.eq (g2 := F0 m 771 ls [.int 3, .ref b, .int 4, .int (xs 1), .ref a1]) rfl ?_
  refine va_sld hx hb hXs hbl hbA hS (i := 3) (show ¬ ((3 : Int32) < 0 ∨ 6 ≤ (3 : Int32).toNatClampNeg) by decide) dL_law_771 ?_
  refine W.eq (g2 := F0 m 772 ls [.int (xs 3), .int 4, .int (xs 1), .ref a1]) rfl ?_
  refine lv_aload_n hx hb dL_law_772 rfl (lv_at hl 5 rfl) ?_
  refine lv_iload hx hb dL_law_773 (lv_at hl 1 rfl) ?_
  refine lv_iconst (v := 4) hx hb dL_law_775 (by decide) ?_
  refine lv_iadd hx hb dL_law_776 ?_
  refine W.eq (g2 := F0 m 777 ls [.int 4, .ref b, .int (xs 3), .int 4, .int (xs 1), .ref a1]) rfl ?_
  refine va_sld hx hb hXs hbl hbA hS (i := 4) (show ¬ ((4 : Int32) < 0 ∨ 6 ≤ (4 : Int32).toNatClampNeg) by decide) dL_law_777 ?_
  refine W.eq (g2 := F0 m 778 ls [.int (xs 4), .int (xs 3), .int 4, .int (xs 1), .ref a1]) rfl ?_
  obtain ⟨hPc, hDc, hFc⟩ := xcut (wc := [(a1, .inr (5, [v18, .ref a10, v19, v20, v21, v22, v23, v24, v25, v26, v27, v28, v29, v30, v31, v32, v33, v34, v35, v36, v37, v38, v39, v40, .ref a7, .ref a8, v41, v42, v43, v44, v45, v46])), (a7, .inl (cT 5, 8, .inr (.inr (.inr (.inr f58))))), (a8, .inl (cT 1, 8, .inl f61)), (a9, .inl (cT 0, 4096, .inl f64)), (a10, .inl (cT 4, 1024, .inr (.inr (.inr (.inr f69))))), (a11, .inl (cT 0, 4096, .inl f72))]) hP hD hS hA [0, 2, 3, 4, 5, 6] rfl rfl (by decide)
  refine va_callv (va_runV (C := "ValueBenchModel") (As := [.int (xs 1), .int 4, .int (xs 3), .int (xs 4)]) (rest := []) ⟨hx, hb, hml, hown, htx⟩ (cM_sort0_17 l hl9 D cT aK aV H.size a1 a7 a8 a9 a10 a11 (xs 1) (xs 3) (xs 4) v18 v19 v20 v21 v22 v23 v24 v25 v26 v27 v28 v29 v30 v31 v32 v33 v34 v35 v36 v37 v38 v39 v40 v41 v42 v43 v44 v45 v46 f58 f61 f64 f69 f72 hto1 hto2 hto3 hto4 ha1 ha2 ha3 ha4 hb1 hb2 hb3 hb4 (by first | rfl | exact h52 | exact h54 | exact h57 | exact h59 | exact h60 | exact h62 | exact h63 | exact h65 | exact h66 | exact h67 | exact h68 | exact h70 | exact h71 | exact h73 | exact h74 | exact h75 | exact h76) (by first | rfl | exact h52 | exact h54 | exact h57 | exact h59 | exact h60 | exact h62 | exact h63 | exact h65 | exact h66 | exact h67 | exact h68 | exact h70 | exact h71 | exact h73 | exact h74 | exact h75 | exact h76) (by first | rfl | exact h52 | exact h54 | exact h57 | exact h59 | exact h60 | exact h62 | exact h63 | exact h65 | exact h66 | exact h67 | exact h68 | exact h70 | exact h71 | exact h73 | exact h74 | exact h75 | exact h76) (by first | rfl | exact h52 | exact h54 | exact h57 | exact h59 | exact h60 | exact h62 | exact h63 | exact h65 | exact h66 | exact h67 | exact h68 | exact h70 | exact h71 | exact h73 | exact h74 | exact h75 | exact h76) (by first | rfl | exact h52 | exact h54 | exact h57 | exact h59 | exact h60 | exact h62 | exact h63 | exact h65 | exact h66 | exact h67 | exact h68 | exact h70 | exact h71 | exact h73 | exact h74 | exact h75 | exact h76) (by first | rfl | exact h52 | exact h54 | exact h57 | exact h59 | exact h60 | exact h62 | exact h63 | exact h65 | exact h66 | exact h67 | exact h68 | exact h70 | exact h71 | exact h73 | exact h74 | exact h75 | exact h76) (by first | rfl | exact h52 | exact h54 | exact h57 | exact h59 | exact h60 | exact h62 | exact h63 | exact h65 | exact h66 | exact h67 | exact h68 | exact h70 | exact h71 | exact h73 | exact h74 | exact h75 | exact h76) (by first | rfl | exact h52 | exact h54 | exact h57 | exact h59 | exact h60 | exact h62 | exact h63 | exact h65 | exact h66 | exact h67 | exact h68 | exact h70 | exact h71 | exact h73 | exact h74 | exact h75 | exact h76) (by first | rfl | exact h52 | exact h54 | exact h57 | exact h59 | exact h60 | exact h62 | exact h63 | exact h65 | exact h66 | exact h67 | exact h68 | exact h70 | exact h71 | exact h73 | exact h74 | exact h75 | exact h76) (by first | rfl | exact h52 | exact h54 | exact h57 | exact h59 | exact h60 | exact h62 | exact h63 | exact h65 | exact h66 | exact h67 | exact h68 | exact h70 | exact h71 | exact h73 | exact h74 | exact h75 | exact h76) (by first | rfl | exact h52 | exact h54 | exact h57 | exact h59 | exact h60 | exact h62 | exact h63 | exact h65 | exact h66 | exact h67 | exact h68 | exact h70 | exact h71 | exact h73 | exact h74 | exact h75 | exact h76) (by first | rfl | exact h52 | exact h54 | exact h57 | exact h59 | exact h60 | exact h62 | exact h63 | exact h65 | exact h66 | exact h67 | exact h68 | exact h70 | exact h71 | exact h73 | exact h74 | exact h75 | exact h76) (by first | rfl | exact h52 | exact h54 | exact h57 | exact h59 | exact h60 | exact h62 | exact h63 | exact h65 | exact h66 | exact h67 | exact h68 | exact h70 | exact h71 | exact h73 | exact h74 | exact h75 | exact h76) (by first | rfl | exact h52 | exact h54 | exact h57 | exact h59 | exact h60 | exact h62 | exact h63 | exact h65 | exact h66 | exact h67 | exact h68 | exact h70 | exact h71 | exact h73 | exact h74 | exact h75 | exact h76)) ⟨callB_of 4 htx (xw_goodC kw_7_131) rfl rfl rfl (htx _ kw_1_5) (htx _ kw_7_128) ⟨by decide, by decide, by decide +kernel⟩ ⟨Nat.le_of_ble_eq_true rfl, Nat.le_of_ble_eq_true rfl⟩, (htx _ kw_7_129), (htx _ kw_7_130)⟩ ⟨xPre_blind, va_recv hK hP (ci := 5) rfl (q0 := 0) rfl, (fun U hU hW => ⟨rfl, xPre_of hZ hS hFc hPc hDc hK U hU hW⟩)⟩ rfl rfl hl.1 rfl (lv_room (Nat.le_of_ble_eq_true rfl)) dL_law_778 ⟨Nat.le_of_ble_eq_true rfl, Nat.le_of_ble_eq_true rfl⟩) hS (fun q _ h => hFc q h) hFc (fun u9 t H1 locs ht hvm hr9 hB hz1 hk1 hS => ?_)
  obtain ⟨q2, q3, hP1, hK1, hD1⟩ := hB
  rw [ht] at hP1
  obtain ⟨hP, hD⟩ := xjoin (W := [(a2, .inl (cT 2, 1, .inr (.inl f47))), (a0, .inr (0, [v12, v13, v14, .ref a4, .ref b15, .ref a3, v16, .int 1])), (a3, .inr (2, [v48, .int 0, .int 0])), (a4, .inl (cT 3, 8, .inr (.inr (.inr (.inr f51))))), (a5, .inr (2, [.ref a6, .int 1, v55])), (a6, .inl (cT 2, 4096, .inr (.inl f56))), (a1, .inr (5, [.int 2, .ref a10, .int 2, v20, .int 0, v22, v23, .int 0, .int 1, .int 0, v27, v28, .int 0, v30, v31, .ref a11, .int 4, .int 4, .int 0, .int 100, v37, v38, .int 0, .int 1000000000, .ref a7, .ref a8, v41, v42, v43, v44, .int 1, v46])), (a7, .inl (cT 5, 8, .inr (.inr (.inr (.inr f58))))), (a8, .inl (cT 1, 8, .inl f61)), (a9, .inl (cT 0, 4096, .inl f64)), (a10, .inl (cT 4, 1024, .inr (.inr (.inr (.inr (va_up (va_up f69 0 (some q2)) 1 (some q3))))))), (a11, .inl (cT 0, 4096, .inl f72)), (q2, .inr (6, [.int 0, .long 0, .int 0, .int 0, .int 0, .int 1])), (q3, .inr (6, [.int 0, .long 0, .int 0, .int 0, .int 0, .int 1]))]) hP hD [0, 2, 3, 4, 5, 6] [1, 7, 8, 9, 10, 11] 6 rfl rfl (by decide) (by decide) hk1 hFc hP1 hD1
  generalize H1 = H at hP hS ⊢
  refine lv_aload_n hx hb dL_law_781 rfl (lv_at hl 3 rfl) ?_
  obtain ⟨hPc, hDc, hFc⟩ := xcut (wc := [(a1, .inr (5, [.int 2, .ref a10, .int 2, v20, .int 0, v22, v23, .int 0, .int 1, .int 0, v27, v28, .int 0, v30, v31, .ref a11, .int 4, .int 4, .int 0, .int 100, v37, v38, .int 0, .int 1000000000, .ref a7, .ref a8, v41, v42, v43, v44, .int 1, v46]))]) hP hD hS hA [6] rfl rfl (by decide)
  refine va_calli (va_runV (C := "ValueBenchModel") (As := []) (rest := []) ⟨hx, hb, hml, hown, htx⟩ (cM_thrown_2 l hl9 D cT aK aV H.size a1 (.ref a10) (.int 2) v20 (.int 0) v22 v23 (.int 0) (.int 1) (.int 0) v27 v28 (.int 0) v30 v31 (.ref a11) (.int 4) (.int 4) (.int 0) (.int 100) v37 v38 (.int 0) (.int 1000000000) (.ref a7) (.ref a8) v41 v42 v43 v44 (.int 1) v46) ⟨callB_of 0 htx (xw_goodC kw_5_187) rfl rfl rfl (htx _ kw_1_5) (htx _ kw_5_184) ⟨by decide, by decide, by decide +kernel⟩ ⟨Nat.le_of_ble_eq_true rfl, Nat.le_of_ble_eq_true rfl⟩, (htx _ kw_5_185), (htx _ kw_5_186)⟩ ⟨xPre_blind, va_recv hK hP (ci := 5) rfl (q0 := 6) rfl, (fun U hU hW => ⟨rfl, xPre_of hZ hS hFc hPc hDc hK U hU hW⟩)⟩ rfl rfl hl.1 rfl (lv_room (Nat.le_of_ble_eq_true rfl)) dL_law_782 ⟨Nat.le_of_ble_eq_true rfl, Nat.le_of_ble_eq_true rfl⟩) hS (fun q _ h => hFc q h) hFc (fun r4 u9 t H1 locs ht hvm hr9 hB hz1 hk1 hS => ?_)
  obtain ⟨hP1, hK1, hD1⟩ := hB
  rw [ht] at hP1
  obtain ⟨hP, hD⟩ := xjoin (W := [(a2, .inl (cT 2, 1, .inr (.inl f47))), (a0, .inr (0, [v12, v13, v14, .ref a4, .ref b15, .ref a3, v16, .int 1])), (a3, .inr (2, [v48, .int 0, .int 0])), (a4, .inl (cT 3, 8, .inr (.inr (.inr (.inr f51))))), (a5, .inr (2, [.ref a6, .int 1, v55])), (a6, .inl (cT 2, 4096, .inr (.inl f56))), (a7, .inl (cT 5, 8, .inr (.inr (.inr (.inr f58))))), (a8, .inl (cT 1, 8, .inl f61)), (a9, .inl (cT 0, 4096, .inl f64)), (a10, .inl (cT 4, 1024, .inr (.inr (.inr (.inr (va_up (va_up f69 0 (some q2)) 1 (some q3))))))), (a11, .inl (cT 0, 4096, .inl f72)), (q2, .inr (6, [.int 0, .long 0, .int 0, .int 0, .int 0, .int 1])), (q3, .inr (6, [.int 0, .long 0, .int 0, .int 0, .int 0, .int 1])), (a1, .inr (5, [.int 2, .ref a10, .int 2, v20, .int 0, v22, v23, .int 0, .int 1, .int 0, v27, v28, .int 0, v30, v31, .ref a11, .int 4, .int 4, .int 0, .int 100, v37, v38, .int 0, .int 1000000000, .ref a7, .ref a8, v41, v42, v43, v44, .int 1, v46]))]) hP hD [6] [0, 1, 2, 3, 4, 5, 7, 8, 9, 10, 11, 12, 13] 13 rfl rfl (by decide) (by decide) hk1 hFc hP1 hD1
  generalize H1 = H at hP hS ⊢
  rw [hr9]
  refine W.eq (g2 := F0 m 785 ls [.int 2]) rfl ?_
  refine lv_iload hx hb dL_law_785 (lv_at hl 0 rfl) ?_
  refine lv_icmp_eq (tgt := 792) hx hb dL_law_787 (by decide) (fun _ => ?_) (fun h => ((by revert h; decide : False)).elim)
  refine lv_goto (tgt := 906) hx hb dL_law_792 (by decide) ?_
  refine lv_iinc (v := 6) (lv' := [(4, .int 6), (5, .int 2), (3, .ref a2), (2, .ref a1), (1, .ref a0), (0, .ref b)]) hx hb dL_law_906 hl (k := 1) rfl (by decide) (by decide) rfl (fun ls hl => ?_)
  refine lv_goto (tgt := 23) hx hb dL_law_909 (by decide) ?_
  refine lv_iload hx hb dL_law_23 (lv_at hl 0 rfl) ?_
  refine lv_aload_n hx hb dL_law_25 rfl (lv_at hl 5 rfl) ?_
  refine va_slen hx hb hXs hbl hbA hS dL_law_26 ?_
  refine W.eq (g2 := F0 m 27 ls [.int 6, .int 6]) rfl ?_
  refine lv_bipush (v := 6) hx hb dL_law_27 (by decide) ?_
  refine lv_isub hx hb dL_law_29 ?_
  refine W.eq (g2 := F0 m 30 ls [.int 0, .int 6]) rfl ?_
  refine lv_icmp_gt (tgt := 912) hx hb dL_law_30 (by decide) (fun _ => ?_) (fun h => ((by revert h; decide : False)).elim)
  refine lv_iconst (v := 1) hx hb dL_law_912 (by decide) ?_
  exact va_forget (fun q h => hA2 _ (hS.2.2 q h)) (W.widen (k := 600002) (n := 7302232) (Nat.le_of_ble_eq_true rfl) (Nat.le_of_ble_eq_true rfl) (lw_ret hx hb hr hlocks dL_law_913))
set_option maxHeartbeats 400000000 in
set_option maxRecDepth 100000 in
theorem lf_sort4_p0 {p : Program} {e : Env} {s : State} {m : MethodId} {below : List Frame} {meth : Method} {c : Code} (l : Launch) (hl9 : l.stackTraces = false) (D : va_G) (cT : Nat → ClassId) (aK aV : Nat → Nat) {A : Nat → Prop} {b : Nat} {xs : Nat → Int32} (C : xLw p s m meth c b D cT aK aV A) {H : Heap} {locs : List Loc} {ls : Array Slot} (a0 : Nat) (a1 : Nat) (a2 : Nat) (a3 : Nat) (a4 : Nat) (a5 : Nat) (a6 : Nat) (a7 : Nat) (a8 : Nat) (a9 : Nat) (a10 : Nat) (a11 : Nat) (v12 : Value) (v13 : Value) (v14 : Value) (b15 : Nat) (v16 : Value) (v17 : Value) (v18 : Value) (v19 : Value) (v20 : Value) (v21 : Value) (v22 : Value) (v23 : Value) (v24 : Value) (v25 : Value) (v26 : Value) (v27 : Value) (v28 : Value) (v29 : Value) (v30 : Value) (v31 : Value) (v32 : Value) (v33 : Value) (v34 : Value) (v35 : Value) (v36 : Value) (v37 : Value) (v38 : Value) (v39 : Value) (v40 : Value) (v41 : Value) (v42 : Value) (v43 : Value) (v44 : Value) (v45 : Value) (v46 : Value) (f47 : Nat → Int64) (v48 : Value) (v49 : Value) (v50 : Value) (f51 : Nat → Option Nat) (b53 : Nat) (v55 : Value) (f56 : Nat → Int64) (f58 : Nat → Option Nat) (f61 : Nat → Int32) (f64 : Nat → Int32) (f69 : Nat → Option Nat) (f72 : Nat → Int32) (h52 : f51 (xs 3).toNatClampNeg = some a5) (h54 : f51 (xs 4).toNatClampNeg = some b53) (h57 : f56 0 = 0) (h59 : f58 (xs 3).toNatClampNeg = some a9) (h60 : f58 (xs 4).toNatClampNeg = some a11) (h62 : f61 (xs 3).toNatClampNeg = 4) (h63 : f61 (xs 4).toNatClampNeg = 4) (h65 : f64 0 = 110) (h66 : f64 1 = 117) (h67 : f64 2 = 108) (h68 : f64 3 = 108) (h70 : f69 0 = none) (h71 : f69 1 = none) (h73 : f72 0 = 110) (h74 : f72 1 = 117) (h75 : f72 2 = 108) (h76 : f72 3 = 108) (hto1 : ¬ (xs 1) < 0) (hto2 : ¬ 7 < (xs 1)) (hto3 : (xs 1) ≤ 7) (hto4 : vp_in (xs 1) 8) (hf : xs 2 = 4) (ha1 : ¬ (xs 3) < 0) (ha2 : ¬ 7 < (xs 3)) (ha3 : (xs 3) ≤ 7) (ha4 : vp_in (xs 3) 8) (hb1 : ¬ (xs 4) < 0) (hb2 : ¬ 7 < (xs 4)) (hb3 : (xs 4) ≤ 7) (hb4 : vp_in (xs 4) 8) (hXs : va_X b 6 xs s s.heap) (hP : va_P D xcl [(a0, .inr (0, [v12, v13, v14, .ref a4, .ref b15, .ref a3, v16, v17])), (a1, .inr (5, [v18, .ref a10, v19, v20, v21, v22, v23, v24, v25, v26, v27, v28, v29, v30, v31, v32, v33, v34, v35, v36, v37, v38, v39, v40, .ref a7, .ref a8, v41, v42, v43, v44, v45, v46])), (a2, .inl (cT 2, 1, .inr (.inl f47))), (a3, .inr (2, [v48, v49, v50])), (a4, .inl (cT 3, 8, .inr (.inr (.inr (.inr f51))))), (a5, .inr (2, [.ref a6, .int 1, v55])), (a6, .inl (cT 2, 4096, .inr (.inl f56))), (a7, .inl (cT 5, 8, .inr (.inr (.inr (.inr f58))))), (a8, .inl (cT 1, 8, .inl f61)), (a9, .inl (cT 0, 4096, .inl f64)), (a10, .inl (cT 4, 1024, .inr (.inr (.inr (.inr f69))))), (a11, .inl (cT 0, 4096, .inl f72))] H) (hD : va_D A [(a0, .inr (0, [v12, v13, v14, .ref a4, .ref b15, .ref a3, v16, v17])), (a1, .inr (5, [v18, .ref a10, v19, v20, v21, v22, v23, v24, v25, v26, v27, v28, v29, v30, v31, v32, v33, v34, v35, v36, v37, v38, v39, v40, .ref a7, .ref a8, v41, v42, v43, v44, v45, v46])), (a2, .inl (cT 2, 1, .inr (.inl f47))), (a3, .inr (2, [v48, v49, v50])), (a4, .inl (cT 3, 8, .inr (.inr (.inr (.inr f51))))), (a5, .inr (2, [.ref a6, .int 1, v55])), (a6, .inl (cT 2, 4096, .inr (.inl f56))), (a7, .inl (cT 5, 8, .inr (.inr (.inr (.inr f58))))), (a8, .inl (cT 1, 8, .inl f61)), (a9, .inl (cT 0, 4096, .inl f64)), (a10, .inl (cT 4, 1024, .inr (.inr (.inr (.inr f69))))), (a11, .inl (cT 0, 4096, .inl f72))]) (hS : va_S A s.heap H locs) (hl : lv_has ls 8 [(4, .int 0), (3, .ref a2), (2, .ref a1), (1, .ref a0), (0, .ref b)]) : W p l e room_1 s m #[Value.ref b] below meth c H locs 54 107242 (lw_Z below #[Value.ref b] s) (F0 m 723 ls []) := by
  obtain ⟨hx, hb, hr, hml, hown, htx, hbl, hbA, hlocks, hK, hZ, hA, hA2⟩ := C
  refine lv_aload_n hx hb dL_law_723 rfl (lv_at hl 3 rfl) ?_
  refine lv_aload_n hx hb dL_law_724 rfl (lv_at hl 4 rfl) ?_
  refine lv_iload hx hb dL_law_725 (lv_at hl 0 rfl) ?_
  refine lv_iconst (v := 1) hx hb dL_law_727 (by decide) ?_
  refine lv_iadd hx hb dL_law_728 ?_
  refine W.eq (g2 := F0 m 729 ls [.int 1, .ref b, .ref a0]) rfl ?_
  refine va_sld hx hb hXs hbl hbA hS (i := 1) (show ¬ ((1 : Int32) < 0 ∨ 6 ≤ (1 : Int32).toNatClampNeg) by decide) dL_law_729 ?_
  refine W.eq (g2 := F0 m 730 ls [.int (xs 1), .ref a0]) rfl ?_
  refine lv_aload_n hx hb dL_law_730 rfl (lv_at hl 4 rfl) ?_
  refine lv_iload hx hb dL_law_731 (lv_at hl 0 rfl) ?_
  refine lv_iconst (v := 2) hx hb dL_law_733 (by decide) ?_
  refine lv_iadd hx hb dL_law_734 ?_
  refine W.eq (g2 := F0 m 735 ls [.int 2, .ref b, .int (xs 1), .ref a0]) rfl ?_
  refine va_sld hx hb hXs hbl hbA hS (i := 2) (show ¬ ((2 : Int32) < 0 ∨ 6 ≤ (2 : Int32).toNatClampNeg) by decide) dL_law_735 ?_
  refine W.eq (g2 := F0 m 736 ls [.int (xs 2), .int (xs 1), .ref a0]) rfl ?_
  rw [hf]
  refine W.eq (g2 := F0 m 736 ls [.int 4, .int (xs 1), .ref a0]) rfl ?_
  refine lv_aload_n hx hb dL_law_736 rfl (lv_at hl 4 rfl) ?_
  refine lv_iload hx hb dL_law_737 (lv_at hl 0 rfl) ?_
  refine lv_iconst (v := 3) hx hb dL_law_739 (by decide) ?_
  refine lv_iadd hx hb dL_law_740 ?_
  refine W.eq (g2 := F0 m 741 ls [.int 3, .ref b, .int 4, .int (xs 1), .ref a0]) rfl ?_
  refine va_sld hx hb hXs hbl hbA hS (i := 3) (show ¬ ((3 : Int32) < 0 ∨ 6 ≤ (3 : Int32).toNatClampNeg) by decide) dL_law_741 ?_
  refine W.eq (g2 := F0 m 742 ls [.int (xs 3), .int 4, .int (xs 1), .ref a0]) rfl ?_
  refine lv_aload_n hx hb dL_law_742 rfl (lv_at hl 4 rfl) ?_
  refine lv_iload hx hb dL_law_743 (lv_at hl 0 rfl) ?_
  refine lv_iconst (v := 4) hx hb dL_law_745 (by decide) ?_
  refine lv_iadd hx hb dL_law_746 ?_
  refine W.eq (g2 := F0 m 747 ls [.int 4, .ref b, .int (xs 3), .int 4, .int (xs 1), .ref a0]) rfl ?_
  refine va_sld hx hb hXs hbl hbA hS (i := 4) (show ¬ ((4 : Int32) < 0 ∨ 6 ≤ (4 : Int32).toNatClampNeg) by decide) dL_law_747 ?_
  refine W.eq (g2 := F0 m 748 ls [.int (xs 4), .int (xs 3), .int 4, .int (xs 1), .ref a0]) rfl ?_
  obtain ⟨hPc, hDc, hFc⟩ := xcut (wc := [(a0, .inr (0, [v12, v13, v14, .ref a4, .ref b15, .ref a3, v16, v17])), (a3, .inr (2, [v48, v49, v50])), (a4, .inl (cT 3, 8, .inr (.inr (.inr (.inr f51))))), (a5, .inr (2, [.ref a6, .int 1, v55])), (a6, .inl (cT 2, 4096, .inr (.inl f56)))]) hP hD hS hA [0, 3, 4, 5, 6] rfl rfl (by decide)
  refine va_calli (vx_runSW (As := [.ref a0, .int (xs 1), .int 4, .int (xs 3), .int (xs 4)]) (rest := []) ⟨hx, hb, hml, hown, htx⟩ (cL_sort_17 l hl9 D cT aK aV H.size a0 a3 a4 a5 a6 (xs 1) (xs 3) (xs 4) v12 v13 v14 b15 v16 v17 v48 v49 v50 f51 b53 v55 f56 hto1 hto2 hto3 hto4 ha1 ha2 ha3 ha4 hb1 hb2 hb3 hb4 (by first | rfl | exact h52 | exact h54 | exact h57 | exact h59 | exact h60 | exact h62 | exact h63 | exact h65 | exact h66 | exact h67 | exact h68 | exact h70 | exact h71 | exact h73 | exact h74 | exact h75 | exact h76) (by first | rfl | exact h52 | exact h54 | exact h57 | exact h59 | exact h60 | exact h62 | exact h63 | exact h65 | exact h66 | exact h67 | exact h68 | exact h70 | exact h71 | exact h73 | exact h74 | exact h75 | exact h76) (by first | rfl | exact h52 | exact h54 | exact h57 | exact h59 | exact h60 | exact h62 | exact h63 | exact h65 | exact h66 | exact h67 | exact h68 | exact h70 | exact h71 | exact h73 | exact h74 | exact h75 | exact h76)) (xcSW 5 htx (xw_goodC kw_5_14) rfl rfl rfl (htx _ kw_1_0) (htx _ kw_5_12) ⟨by decide, by decide, by decide +kernel⟩ ⟨Nat.le_of_ble_eq_true rfl, Nat.le_of_ble_eq_true rfl⟩ (htx _ kw_5_13)) ⟨xPre_blind, (fun U hU hW => ⟨rfl, xPre_of hZ hS hFc hPc hDc hK U hU hW⟩)⟩ rfl rfl hl.1 rfl (lv_room (Nat.le_of_ble_eq_true rfl)) dL_law_748 ⟨Nat.le_of_ble_eq_true rfl, Nat.le_of_ble_eq_true rfl⟩) hS (fun q _ h => hFc q h) hFc (fun r1 u9 t H1 locs ht hvm hr9 hB hz1 hk1 hS => ?_)
  obtain ⟨hP1, hK1, hD1⟩ := hB
  rw [ht] at hP1
  obtain ⟨hP, hD⟩ := xjoin (W := [(a1, .inr (5, [v18, .ref a10, v19, v20, v21, v22, v23, v24, v25, v26, v27, v28, v29, v30, v31, v32, v33, v34, v35, v36, v37, v38, v39, v40, .ref a7, .ref a8, v41, v42, v43, v44, v45, v46])), (a2, .inl (cT 2, 1, .inr (.inl f47))), (a7, .inl (cT 5, 8, .inr (.inr (.inr (.inr f58))))), (a8, .inl (cT 1, 8, .inl f61)), (a9, .inl (cT 0, 4096, .inl f64)), (a10, .inl (cT 4, 1024, .inr (.inr (.inr (.inr f69))))), (a11, .inl (cT 0, 4096, .inl f72)), (a0, .inr (0, [v12, v13, v14, .ref a4, .ref b15, .ref a3, v16, .int 1])), (a3, .inr (2, [v48, .int 0, .int 0])), (a4, .inl (cT 3, 8, .inr (.inr (.inr (.inr f51))))), (a5, .inr (2, [.ref a6, .int 1, v55])), (a6, .inl (cT 2, 4096, .inr (.inl f56)))]) hP hD [0, 3, 4, 5, 6] [1, 2, 7, 8, 9, 10, 11] 7 rfl rfl (by decide) (by decide) hk1 hFc hP1 hD1
  generalize H1 = H at hP hS ⊢
  rw [hr9]
  refine W.eq (g2 := F0 m 751 ls [.int 2]) rfl ?_
  refine lv_istore (lv' := [(5, .int 2), (4, .int 0), (3, .ref a2), (2, .ref a1), (1, .ref a0), (0, .ref b)]) hx hb dL_law_751 hl (by decide) rfl (fun ls hl => ?_)
  refine lv_aload_n hx hb dL_law_753 rfl (lv_at hl 3 rfl) ?_
  refine lv_aload_n hx hb dL_law_754 rfl (lv_at hl 5 rfl) ?_
  refine lv_iload hx hb dL_law_755 (lv_at hl 1 rfl) ?_
  refine lv_iconst (v := 1) hx hb dL_law_757 (by decide) ?_
  refine lv_iadd hx hb dL_law_758 ?_
  refine W.eq (g2 := F0 m 759 ls [.int 1, .ref b, .ref a1]) rfl ?_
  refine va_sld hx hb hXs hbl hbA hS (i := 1) (show ¬ ((1 : Int32) < 0 ∨ 6 ≤ (1 : Int32).toNatClampNeg) by decide) dL_law_759 ?_
  refine W.eq (g2 := F0 m 760 ls [.int (xs 1), .ref a1]) rfl ?_
  refine lv_aload_n hx hb dL_law_760 rfl (lv_at hl 5 rfl) ?_
  refine lv_iload hx hb dL_law_761 (lv_at hl 1 rfl) ?_
  refine lv_iconst (v := 2) hx hb dL_law_763 (by decide) ?_
  refine lv_iadd hx hb dL_law_764 ?_
  refine W.eq (g2 := F0 m 765 ls [.int 2, .ref b, .int (xs 1), .ref a1]) rfl ?_
  refine va_sld hx hb hXs hbl hbA hS (i := 2) (show ¬ ((2 : Int32) < 0 ∨ 6 ≤ (2 : Int32).toNatClampNeg) by decide) dL_law_765 ?_
  refine W.eq (g2 := F0 m 766 ls [.int (xs 2), .int (xs 1), .ref a1]) rfl ?_
  rw [hf]
  refine W.eq (g2 := F0 m 766 ls [.int 4, .int (xs 1), .ref a1]) rfl ?_
  refine lv_aload_n hx hb dL_law_766 rfl (lv_at hl 5 rfl) ?_
  refine lv_iload hx hb dL_law_767 (lv_at hl 1 rfl) ?_
  refine lv_iconst (v := 3) hx hb dL_law_769 (by decide) ?_
  refine lv_iadd hx hb dL_law_770 ?_
  refine W.eq (g2 := F0 m 771 ls [.int 3, .ref b, .int 4, .int (xs 1), .ref a1]) rfl ?_
  refine va_sld hx hb hXs hbl hbA hS (i := 3) (show ¬ ((3 : Int32) < 0 ∨ 6 ≤ (3 : Int32).toNatClampNeg) by decide) dL_law_771 ?_
  refine W.eq (g2 := F0 m 772 ls [.int (xs 3), .int 4, .int (xs 1), .ref a1]) rfl ?_
  refine lv_aload_n hx hb dL_law_772 rfl (lv_at hl 5 rfl) ?_
  refine lv_iload hx hb dL_law_773 (lv_at hl 1 rfl) ?_
  refine lv_iconst (v := 4) hx hb dL_law_775 (by decide) ?_
  refine lv_iadd hx hb dL_law_776 ?_
  refine W.eq (g2 := F0 m 777 ls [.int 4, .ref b, .int (xs 3), .int 4, .int (xs 1), .ref a1]) rfl ?_
  refine va_sld hx hb hXs hbl hbA hS (i := 4) (show ¬ ((4 : Int32) < 0 ∨ 6 ≤ (4 : Int32).toNatClampNeg) by decide) dL_law_777 ?_
  refine W.eq (g2 := F0 m 778 ls [.int (xs 4), .int (xs 3), .int 4, .int (xs 1), .ref a1]) rfl ?_
  obtain ⟨hPc, hDc, hFc⟩ := xcut (wc := [(a1, .inr (5, [v18, .ref a10, v19, v20, v21, v22, v23, v24, v25, v26, v27, v28, v29, v30, v31, v32, v33, v34, v35, v36, v37, v38, v39, v40, .ref a7, .ref a8, v41, v42, v43, v44, v45, v46])), (a7, .inl (cT 5, 8, .inr (.inr (.inr (.inr f58))))), (a8, .inl (cT 1, 8, .inl f61)), (a9, .inl (cT 0, 4096, .inl f64)), (a10, .inl (cT 4, 1024, .inr (.inr (.inr (.inr f69))))), (a11, .inl (cT 0, 4096, .inl f72))]) hP hD hS hA [0, 2, 3, 4, 5, 6] rfl rfl (by decide)
  refine va_callv (va_runV (C := "ValueBenchModel") (As := [.int (xs 1), .int 4, .int (xs 3), .int (xs 4)]) (rest := []) ⟨hx, hb, hml, hown, htx⟩ (cM_sort0_17 l hl9 D cT aK aV H.size a1 a7 a8 a9 a10 a11 (xs 1) (xs 3) (xs 4) v18 v19 v20 v21 v22 v23 v24 v25 v26 v27 v28 v29 v30 v31 v32 v33 v34 v35 v36 v37 v38 v39 v40 v41 v42 v43 v44 v45 v46 f58 f61 f64 f69 f72 hto1 hto2 hto3 hto4 ha1 ha2 ha3 ha4 hb1 hb2 hb3 hb4 (by first | rfl | exact h52 | exact h54 | exact h57 | exact h59 | exact h60 | exact h62 | exact h63 | exact h65 | exact h66 | exact h67 | exact h68 | exact h70 | exact h71 | exact h73 | exact h74 | exact h75 | exact h76) (by first | rfl | exact h52 | exact h54 | exact h57 | exact h59 | exact h60 | exact h62 | exact h63 | exact h65 | exact h66 | exact h67 | exact h68 | exact h70 | exact h71 | exact h73 | exact h74 | exact h75 | exact h76) (by first | rfl | exact h52 | exact h54 | exact h57 | exact h59 | exact h60 | exact h62 | exact h63 | exact h65 | exact h66 | exact h67 | exact h68 | exact h70 | exact h71 | exact h73 | exact h74 | exact h75 | exact h76) (by first | rfl | exact h52 | exact h54 | exact h57 | exact h59 | exact h60 | exact h62 | exact h63 | exact h65 | exact h66 | exact h67 | exact h68 | exact h70 | exact h71 | exact h73 | exact h74 | exact h75 | exact h76) (by first | rfl | exact h52 | exact h54 | exact h57 | exact h59 | exact h60 | exact h62 | exact h63 | exact h65 | exact h66 | exact h67 | exact h68 | exact h70 | exact h71 | exact h73 | exact h74 | exact h75 | exact h76) (by first | rfl | exact h52 | exact h54 | exact h57 | exact h59 | exact h60 | exact h62 | exact h63 | exact h65 | exact h66 | exact h67 | exact h68 | exact h70 | exact h71 | exact h73 | exact h74 | exact h75 | exact h76) (by first | rfl | exact h52 | exact h54 | exact h57 | exact h59 | exact h60 | exact h62 | exact h63 | exact h65 | exact h66 | exact h67 | exact h68 | exact h70 | exact h71 | exact h73 | exact h74 | exact h75 | exact h76) (by first | rfl | exact h52 | exact h54 | exact h57 | exact h59 | exact h60 | exact h62 | exact h63 | exact h65 | exact h66 | exact h67 | exact h68 | exact h70 | exact h71 | exact h73 | exact h74 | exact h75 | exact h76) (by first | rfl | exact h52 | exact h54 | exact h57 | exact h59 | exact h60 | exact h62 | exact h63 | exact h65 | exact h66 | exact h67 | exact h68 | exact h70 | exact h71 | exact h73 | exact h74 | exact h75 | exact h76) (by first | rfl | exact h52 | exact h54 | exact h57 | exact h59 | exact h60 | exact h62 | exact h63 | exact h65 | exact h66 | exact h67 | exact h68 | exact h70 | exact h71 | exact h73 | exact h74 | exact h75 | exact h76) (by first | rfl | exact h52 | exact h54 | exact h57 | exact h59 | exact h60 | exact h62 | exact h63 | exact h65 | exact h66 | exact h67 | exact h68 | exact h70 | exact h71 | exact h73 | exact h74 | exact h75 | exact h76) (by first | rfl | exact h52 | exact h54 | exact h57 | exact h59 | exact h60 | exact h62 | exact h63 | exact h65 | exact h66 | exact h67 | exact h68 | exact h70 | exact h71 | exact h73 | exact h74 | exact h75 | exact h76) (by first | rfl | exact h52 | exact h54 | exact h57 | exact h59 | exact h60 | exact h62 | exact h63 | exact h65 | exact h66 | exact h67 | exact h68 | exact h70 | exact h71 | exact h73 | exact h74 | exact h75 | exact h76) (by first | rfl | exact h52 | exact h54 | exact h57 | exact h59 | exact h60 | exact h62 | exact h63 | exact h65 | exact h66 | exact h67 | exact h68 | exact h70 | exact h71 | exact h73 | exact h74 | exact h75 | exact h76)) ⟨callB_of 4 htx (xw_goodC kw_7_131) rfl rfl rfl (htx _ kw_1_5) (htx _ kw_7_128) ⟨by decide, by decide, by decide +kernel⟩ ⟨Nat.le_of_ble_eq_true rfl, Nat.le_of_ble_eq_true rfl⟩, (htx _ kw_7_129), (htx _ kw_7_130)⟩ ⟨xPre_blind, va_recv hK hP (ci := 5) rfl (q0 := 0) rfl, (fun U hU hW => ⟨rfl, xPre_of hZ hS hFc hPc hDc hK U hU hW⟩)⟩ rfl rfl hl.1 rfl (lv_room (Nat.le_of_ble_eq_true rfl)) dL_law_778 ⟨Nat.le_of_ble_eq_true rfl, Nat.le_of_ble_eq_true rfl⟩) hS (fun q _ h => hFc q h) hFc (fun u9 t H1 locs ht hvm hr9 hB hz1 hk1 hS => ?_)
  obtain ⟨q2, q3, hP1, hK1, hD1⟩ := hB
  rw [ht] at hP1
  obtain ⟨hP, hD⟩ := xjoin (W := [(a2, .inl (cT 2, 1, .inr (.inl f47))), (a0, .inr (0, [v12, v13, v14, .ref a4, .ref b15, .ref a3, v16, .int 1])), (a3, .inr (2, [v48, .int 0, .int 0])), (a4, .inl (cT 3, 8, .inr (.inr (.inr (.inr f51))))), (a5, .inr (2, [.ref a6, .int 1, v55])), (a6, .inl (cT 2, 4096, .inr (.inl f56))), (a1, .inr (5, [.int 2, .ref a10, .int 2, v20, .int 0, v22, v23, .int 0, .int 1, .int 0, v27, v28, .int 0, v30, v31, .ref a11, .int 4, .int 4, .int 0, .int 100, v37, v38, .int 0, .int 1000000000, .ref a7, .ref a8, v41, v42, v43, v44, .int 1, v46])), (a7, .inl (cT 5, 8, .inr (.inr (.inr (.inr f58))))), (a8, .inl (cT 1, 8, .inl f61)), (a9, .inl (cT 0, 4096, .inl f64)), (a10, .inl (cT 4, 1024, .inr (.inr (.inr (.inr (va_up (va_up f69 0 (some q2)) 1 (some q3))))))), (a11, .inl (cT 0, 4096, .inl f72)), (q2, .inr (6, [.int 0, .long 0, .int 0, .int 0, .int 0, .int 1])), (q3, .inr (6, [.int 0, .long 0, .int 0, .int 0, .int 0, .int 1]))]) hP hD [0, 2, 3, 4, 5, 6] [1, 7, 8, 9, 10, 11] 6 rfl rfl (by decide) (by decide) hk1 hFc hP1 hD1
  generalize H1 = H at hP hS ⊢
  refine lv_aload_n hx hb dL_law_781 rfl (lv_at hl 3 rfl) ?_
  obtain ⟨hPc, hDc, hFc⟩ := xcut (wc := [(a1, .inr (5, [.int 2, .ref a10, .int 2, v20, .int 0, v22, v23, .int 0, .int 1, .int 0, v27, v28, .int 0, v30, v31, .ref a11, .int 4, .int 4, .int 0, .int 100, v37, v38, .int 0, .int 1000000000, .ref a7, .ref a8, v41, v42, v43, v44, .int 1, v46]))]) hP hD hS hA [6] rfl rfl (by decide)
  refine va_calli (va_runV (C := "ValueBenchModel") (As := []) (rest := []) ⟨hx, hb, hml, hown, htx⟩ (cM_thrown_2 l hl9 D cT aK aV H.size a1 (.ref a10) (.int 2) v20 (.int 0) v22 v23 (.int 0) (.int 1) (.int 0) v27 v28 (.int 0) v30 v31 (.ref a11) (.int 4) (.int 4) (.int 0) (.int 100) v37 v38 (.int 0) (.int 1000000000) (.ref a7) (.ref a8) v41 v42 v43 v44 (.int 1) v46) ⟨callB_of 0 htx (xw_goodC kw_5_187) rfl rfl rfl (htx _ kw_1_5) (htx _ kw_5_184) ⟨by decide, by decide, by decide +kernel⟩ ⟨Nat.le_of_ble_eq_true rfl, Nat.le_of_ble_eq_true rfl⟩, (htx _ kw_5_185), (htx _ kw_5_186)⟩ ⟨xPre_blind, va_recv hK hP (ci := 5) rfl (q0 := 6) rfl, (fun U hU hW => ⟨rfl, xPre_of hZ hS hFc hPc hDc hK U hU hW⟩)⟩ rfl rfl hl.1 rfl (lv_room (Nat.le_of_ble_eq_true rfl)) dL_law_782 ⟨Nat.le_of_ble_eq_true rfl, Nat.le_of_ble_eq_true rfl⟩) hS (fun q _ h => hFc q h) hFc (fun r4 u9 t H1 locs ht hvm hr9 hB hz1 hk1 hS => ?_)
  obtain ⟨hP1, hK1, hD1⟩ := hB
  rw [ht] at hP1
  obtain ⟨hP, hD⟩ := xjoin (W := [(a2, .inl (cT 2, 1, .inr (.inl f47))), (a0, .inr (0, [v12, v13, v14, .ref a4, .ref b15, .ref a3, v16, .int 1])), (a3, .inr (2, [v48, .int 0, .int 0])), (a4, .inl (cT 3, 8, .inr (.inr (.inr (.inr f51))))), (a5, .inr (2, [.ref a6, .int 1, v55])), (a6, .inl (cT 2, 4096, .inr (.inl f56))), (a7, .inl (cT 5, 8, .inr (.inr (.inr (.inr f58))))), (a8, .inl (cT 1, 8, .inl f61)), (a9, .inl (cT 0, 4096, .inl f64)), (a10, .inl (cT 4, 1024, .inr (.inr (.inr (.inr (va_up (va_up f69 0 (some q2)) 1 (some q3))))))), (a11, .inl (cT 0, 4096, .inl f72)), (q2, .inr (6, [.int 0, .long 0, .int 0, .int 0, .int 0, .int 1])), (q3, .inr (6, [.int 0, .long 0, .int 0, .int 0, .int 0, .int 1])), (a1, .inr (5, [.int 2, .ref a10, .int 2, v20, .int 0, v22, v23, .int 0, .int 1, .int 0, v27, v28, .int 0, v30, v31, .ref a11, .int 4, .int 4, .int 0, .int 100, v37, v38, .int 0, .int 1000000000, .ref a7, .ref a8, v41, v42, v43, v44, .int 1, v46]))]) hP hD [6] [0, 1, 2, 3, 4, 5, 7, 8, 9, 10, 11, 12, 13] 13 rfl rfl (by decide) (by decide) hk1 hFc hP1 hD1
  generalize H1 = H at hP hS ⊢
  rw [hr9]
  refine W.eq (g2 := F0 m 785 ls [.int 2]) rfl ?_
  refine lv_iload hx hb dL_law_785 (lv_at hl 0 rfl) ?_
  refine lv_icmp_eq (tgt := 792) hx hb dL_law_787 (by decide) (fun _ => ?_) (fun h => ((by revert h; decide : False)).elim)
  refine lv_goto (tgt := 906) hx hb dL_law_792 (by decide) ?_
  refine lv_iinc (v := 6) (lv' := [(4, .int 6), (5, .int 2), (3, .ref a2), (2, .ref a1), (1, .ref a0), (0, .ref b)]) hx hb dL_law_906 hl (k := 1) rfl (by decide) (by decide) rfl (fun ls hl => ?_)
  refine lv_goto (tgt := 23) hx hb dL_law_909 (by decide) ?_
  refine lv_iload hx hb dL_law_23 (lv_at hl 0 rfl) ?_
  refine lv_aload_n hx hb dL_law_25 rfl (lv_at hl 5 rfl) ?_
  refine va_slen hx hb hXs hbl hbA hS dL_law_26 ?_
  refine W.eq (g2 := F0 m 27 ls [.int 6, .int 6]) rfl ?_
  refine lv_bipush (v := 6) hx hb dL_law_27 (by decide) ?_
  refine lv_isub hx hb dL_law_29 ?_
  refine W.eq (g2 := F0 m 30 ls [.int 0, .int 6]) rfl ?_
  refine lv_icmp_gt (tgt := 912) hx hb dL_law_30 (by decide) (fun _ => ?_) (fun h => ((by revert h; decide : False)).elim)
  refine lv_iconst (v := 1) hx hb dL_law_912 (by decide) ?_
  exact va_forget (fun q h => hA2 _ (hS.2.2 q h)) (W.widen (k := 600002) (n := 7302232) (Nat.le_of_ble_eq_true rfl) (Nat.le_of_ble_eq_true rfl) (lw_ret hx hb hr hlocks dL_law_913))
set_option maxHeartbeats 400000000 in
set_option maxRecDepth 100000 in
theorem lf_word_lo {p : Program} {e : Env} {s : State} {m : MethodId} {below : List Frame} {meth : Method} {c : Code} (l : Launch) (hl9 : l.stackTraces = false) (D : va_G) (cT : Nat → ClassId) (aK aV : Nat → Nat) {A : Nat → Prop} {b : Nat} {xs : Nat → Int32} (C : xLw p s m meth c b D cT aK aV A) {H : Heap} {locs : List Loc} {ls : Array Slot} (a0 : Nat) (a1 : Nat) (a2 : Nat) (v3 : Value) (v4 : Value) (v5 : Value) (v6 : Value) (v7 : Value) (v8 : Value) (v9 : Value) (v10 : Value) (v11 : Value) (v12 : Value) (v13 : Value) (v14 : Value) (v15 : Value) (v16 : Value) (v17 : Value) (v18 : Value) (v19 : Value) (v20 : Value) (v21 : Value) (v22 : Value) (v23 : Value) (v24 : Value) (v25 : Value) (v26 : Value) (v27 : Value) (v28 : Value) (v29 : Value) (v30 : Value) (v31 : Value) (v32 : Value) (v33 : Value) (v34 : Value) (v35 : Value) (v36 : Value) (v37 : Value) (v38 : Value) (v39 : Value) (v40 : Value) (v41 : Value) (v42 : Value) (f43 : Nat → Int64) (hn1 : (xs 1) < 0) (hXs : va_X b 6 xs s s.heap) (hP : va_P D xcl [(a0, .inr (0, [v3, v4, v5, v6, v7, v8, v9, v10])), (a1, .inr (5, [v11, v12, v13, v14, v15, v16, v17, v18, v19, v20, v21, v22, v23, v24, v25, v26, v27, v28, v29, v30, v31, v32, v33, v34, v35, v36, v37, v38, v39, v40, v41, v42])), (a2, .inl (cT 2, 1, .inr (.inl f43)))] H) (hD : va_D A [(a0, .inr (0, [v3, v4, v5, v6, v7, v8, v9, v10])), (a1, .inr (5, [v11, v12, v13, v14, v15, v16, v17, v18, v19, v20, v21, v22, v23, v24, v25, v26, v27, v28, v29, v30, v31, v32, v33, v34, v35, v36, v37, v38, v39, v40, v41, v42])), (a2, .inl (cT 2, 1, .inr (.inl f43)))]) (hS : va_S A s.heap H locs) (hl : lv_has ls 8 [(4, .int 0), (3, .ref a2), (2, .ref a1), (1, .ref a0), (0, .ref b)]) : W p l e room_1 s m #[Value.ref b] below meth c H locs 54 107242 (lw_Z below #[Value.ref b] s) (F0 m 795 ls []) := by
  obtain ⟨hx, hb, hr, hml, hown, htx, hbl, hbA, hlocks, hK, hZ, hA, hA2⟩ := C
  refine lv_aload_n hx hb dL_law_795 rfl (lv_at hl 3 rfl) ?_
  refine lv_aload_n hx hb dL_law_796 rfl (lv_at hl 4 rfl) ?_
  refine lv_iload hx hb dL_law_797 (lv_at hl 0 rfl) ?_
  refine lv_iconst (v := 1) hx hb dL_law_799 (by decide) ?_
  refine lv_iadd hx hb dL_law_800 ?_
  refine W.eq (g2 := F0 m 801 ls [.int 1, .ref b, .ref a0]) rfl ?_
  refine va_sld hx hb hXs hbl hbA hS (i := 1) (show ¬ ((1 : Int32) < 0 ∨ 6 ≤ (1 : Int32).toNatClampNeg) by decide) dL_law_801 ?_
  refine W.eq (g2 := F0 m 802 ls [.int (xs 1), .ref a0]) rfl ?_
  refine lv_aload_n hx hb dL_law_802 rfl (lv_at hl 1 rfl) ?_
  obtain ⟨hPc, hDc, hFc⟩ := xcut (wc := [(a0, .inr (0, [v3, v4, v5, v6, v7, v8, v9, v10]))]) hP hD hS hA [0] rfl rfl (by decide)
  refine va_calli (vx_runSW (As := [.ref a0, .int (xs 1), .ref a2]) (rest := []) ⟨hx, hb, hml, hown, htx⟩ (cL_word_0 l hl9 D cT aK aV H.size a0 (xs 1) a2 v3 v4 v5 v6 v7 v8 v9 v10 hn1) (xcSW 3 htx (xw_goodC kw_5_59) rfl rfl rfl (htx _ kw_1_0) (htx _ kw_5_57) ⟨by decide, by decide, by decide +kernel⟩ ⟨Nat.le_of_ble_eq_true rfl, Nat.le_of_ble_eq_true rfl⟩ (htx _ kw_5_58)) ⟨xPre_blind, (fun U hU hW => ⟨rfl, xPre_of hZ hS hFc hPc hDc hK U hU hW⟩)⟩ rfl rfl hl.1 rfl (lv_room (Nat.le_of_ble_eq_true rfl)) dL_law_803 ⟨Nat.le_of_ble_eq_true rfl, Nat.le_of_ble_eq_true rfl⟩) hS (fun q _ h => hFc q h) hFc (fun r1 u9 t H1 locs ht hvm hr9 hB hz1 hk1 hS => ?_)
  obtain ⟨hP1, hK1, hD1⟩ := hB
  rw [ht] at hP1
  obtain ⟨hP, hD⟩ := xjoin (W := [(a1, .inr (5, [v11, v12, v13, v14, v15, v16, v17, v18, v19, v20, v21, v22, v23, v24, v25, v26, v27, v28, v29, v30, v31, v32, v33, v34, v35, v36, v37, v38, v39, v40, v41, v42])), (a2, .inl (cT 2, 1, .inr (.inl f43))), (a0, .inr (0, [v3, v4, v5, v6, v7, v8, v9, v10]))]) hP hD [0] [1, 2] 2 rfl rfl (by decide) (by decide) hk1 hFc hP1 hD1
  generalize H1 = H at hP hS ⊢
  rw [hr9]
  refine W.eq (g2 := F0 m 806 ls [.int 1]) rfl ?_
  refine lv_istore (lv' := [(5, .int 1), (4, .int 0), (3, .ref a2), (2, .ref a1), (1, .ref a0), (0, .ref b)]) hx hb dL_law_806 hl (by decide) rfl (fun ls hl => ?_)
  refine lv_aload_n hx hb dL_law_808 rfl (lv_at hl 3 rfl) ?_
  refine lv_aload_n hx hb dL_law_809 rfl (lv_at hl 5 rfl) ?_
  refine lv_iload hx hb dL_law_810 (lv_at hl 1 rfl) ?_
  refine lv_iconst (v := 1) hx hb dL_law_812 (by decide) ?_
  refine lv_iadd hx hb dL_law_813 ?_
  refine W.eq (g2 := F0 m 814 ls [.int 1, .ref b, .ref a1]) rfl ?_
  refine va_sld hx hb hXs hbl hbA hS (i := 1) (show ¬ ((1 : Int32) < 0 ∨ 6 ≤ (1 : Int32).toNatClampNeg) by decide) dL_law_814 ?_
  refine W.eq (g2 := F0 m 815 ls [.int (xs 1), .ref a1]) rfl ?_
  obtain ⟨hPc, hDc, hFc⟩ := xcut (wc := [(a1, .inr (5, [v11, v12, v13, v14, v15, v16, v17, v18, v19, v20, v21, v22, v23, v24, v25, v26, v27, v28, v29, v30, v31, v32, v33, v34, v35, v36, v37, v38, v39, v40, v41, v42]))]) hP hD hS hA [0] rfl rfl (by decide)
  refine va_calll (va_runV (C := "ValueBenchModel") (As := [.int (xs 1)]) (rest := []) ⟨hx, hb, hml, hown, htx⟩ (cM_word_0 l hl9 D cT aK aV H.size a1 (xs 1) v11 v12 v13 v14 v15 v16 v17 v18 v19 v20 v21 v22 v23 v24 v25 v26 v27 v28 v29 v30 v31 v32 v33 v34 v35 v36 v37 v38 v39 v40 v41 v42 hn1) ⟨callB_of 1 htx (xw_goodC kw_6_182) rfl rfl rfl (htx _ kw_1_5) (htx _ kw_6_179) ⟨by decide, by decide, by decide +kernel⟩ ⟨Nat.le_of_ble_eq_true rfl, Nat.le_of_ble_eq_true rfl⟩, (htx _ kw_6_180), (htx _ kw_6_181)⟩ ⟨xPre_blind, va_recv hK hP (ci := 5) rfl (q0 := 0) rfl, (fun U hU hW => ⟨rfl, xPre_of hZ hS hFc hPc hDc hK U hU hW⟩)⟩ rfl rfl hl.1 rfl (lv_room (Nat.le_of_ble_eq_true rfl)) dL_law_815 ⟨Nat.le_of_ble_eq_true rfl, Nat.le_of_ble_eq_true rfl⟩) hS (fun q _ h => hFc q h) hFc (fun r2 u9 t H1 locs ht hvm hr9 hB hz1 hk1 hS => ?_)
  obtain ⟨hP1, hK1, hD1⟩ := hB
  rw [ht] at hP1
  obtain ⟨hP, hD⟩ := xjoin (W := [(a2, .inl (cT 2, 1, .inr (.inl f43))), (a0, .inr (0, [v3, v4, v5, v6, v7, v8, v9, v10])), (a1, .inr (5, [.int 1, v12, v13, v14, v15, v16, v17, v18, v19, v20, v21, v22, v23, v24, v25, v26, v27, v28, v29, v30, v31, v32, v33, v34, v35, v36, v37, v38, v39, v40, v41, v42]))]) hP hD [0] [1, 2] 2 rfl rfl (by decide) (by decide) hk1 hFc hP1 hD1
  generalize H1 = H at hP hS ⊢
  rw [hr9]
  refine W.eq (g2 := F0 m 818 ls [.long 0]) rfl ?_
  refine lv_lstore (lv' := [(6, .long 0), (5, .int 1), (4, .int 0), (3, .ref a2), (2, .ref a1), (1, .ref a0), (0, .ref b)]) hx hb dL_law_818 hl (by decide) rfl (fun ls hl => ?_)
  refine lv_aload_n hx hb dL_law_820 rfl (lv_at hl 4 rfl) ?_
  obtain ⟨hPc, hDc, hFc⟩ := xcut (wc := [(a1, .inr (5, [.int 1, v12, v13, v14, v15, v16, v17, v18, v19, v20, v21, v22, v23, v24, v25, v26, v27, v28, v29, v30, v31, v32, v33, v34, v35, v36, v37, v38, v39, v40, v41, v42]))]) hP hD hS hA [2] rfl rfl (by decide)
  refine va_calli (va_runV (C := "ValueBenchModel") (As := []) (rest := []) ⟨hx, hb, hml, hown, htx⟩ (cM_thrown_1 l hl9 D cT aK aV H.size a1 v12 v13 v14 v15 v16 v17 v18 v19 v20 v21 v22 v23 v24 v25 v26 v27 v28 v29 v30 v31 v32 v33 v34 v35 v36 v37 v38 v39 v40 v41 v42) ⟨callB_of 0 htx (xw_goodC kw_5_187) rfl rfl rfl (htx _ kw_1_5) (htx _ kw_5_184) ⟨by decide, by decide, by decide +kernel⟩ ⟨Nat.le_of_ble_eq_true rfl, Nat.le_of_ble_eq_true rfl⟩, (htx _ kw_5_185), (htx _ kw_5_186)⟩ ⟨xPre_blind, va_recv hK hP (ci := 5) rfl (q0 := 2) rfl, (fun U hU hW => ⟨rfl, xPre_of hZ hS hFc hPc hDc hK U hU hW⟩)⟩ rfl rfl hl.1 rfl (lv_room (Nat.le_of_ble_eq_true rfl)) dL_law_821 ⟨Nat.le_of_ble_eq_true rfl, Nat.le_of_ble_eq_true rfl⟩) hS (fun q _ h => hFc q h) hFc (fun r3 u9 t H1 locs ht hvm hr9 hB hz1 hk1 hS => ?_)
  obtain ⟨hP1, hK1, hD1⟩ := hB
  rw [ht] at hP1
  obtain ⟨hP, hD⟩ := xjoin (W := [(a2, .inl (cT 2, 1, .inr (.inl f43))), (a0, .inr (0, [v3, v4, v5, v6, v7, v8, v9, v10])), (a1, .inr (5, [.int 1, v12, v13, v14, v15, v16, v17, v18, v19, v20, v21, v22, v23, v24, v25, v26, v27, v28, v29, v30, v31, v32, v33, v34, v35, v36, v37, v38, v39, v40, v41, v42]))]) hP hD [2] [0, 1] 2 rfl rfl (by decide) (by decide) hk1 hFc hP1 hD1
  generalize H1 = H at hP hS ⊢
  rw [hr9]
  refine W.eq (g2 := F0 m 824 ls [.int 1]) rfl ?_
  refine lv_iload hx hb dL_law_824 (lv_at hl 1 rfl) ?_
  refine lv_icmp_eq (tgt := 831) hx hb dL_law_826 (by decide) (fun _ => ?_) (fun h => ((by revert h; decide : False)).elim)
  refine lv_iload hx hb dL_law_831 (lv_at hl 1 rfl) ?_
  refine lv_if_ne (tgt := 847) hx hb dL_law_833 (by decide) (fun _ => ?_) (fun h => ((by revert h; decide : False)).elim)
  refine lv_goto (tgt := 906) hx hb dL_law_847 (by decide) ?_
  refine lv_iinc (v := 6) (lv' := [(4, .int 6), (6, .long 0), (5, .int 1), (3, .ref a2), (2, .ref a1), (1, .ref a0), (0, .ref b)]) hx hb dL_law_906 hl (k := 2) rfl (by decide) (by decide) rfl (fun ls hl => ?_)
  refine lv_goto (tgt := 23) hx hb dL_law_909 (by decide) ?_
  refine lv_iload hx hb dL_law_23 (lv_at hl 0 rfl) ?_
  refine lv_aload_n hx hb dL_law_25 rfl (lv_at hl 6 rfl) ?_
  refine va_slen hx hb hXs hbl hbA hS dL_law_26 ?_
  refine W.eq (g2 := F0 m 27 ls [.int 6, .int 6]) rfl ?_
  refine lv_bipush (v := 6) hx hb dL_law_27 (by decide) ?_
  refine lv_isub hx hb dL_law_29 ?_
  refine W.eq (g2 := F0 m 30 ls [.int 0, .int 6]) rfl ?_
  refine lv_icmp_gt (tgt := 912) hx hb dL_law_30 (by decide) (fun _ => ?_) (fun h => ((by revert h; decide : False)).elim)
  refine lv_iconst (v := 1) hx hb dL_law_912 (by decide) ?_
  exact va_forget (fun q h => hA2 _ (hS.2.2 q h)) (W.widen (k := 600002) (n := 7302232) (Nat.le_of_ble_eq_true rfl) (Nat.le_of_ble_eq_true rfl) (lw_ret hx hb hr hlocks dL_law_913))
set_option maxHeartbeats 400000000 in
set_option maxRecDepth 100000 in
theorem lf_word_hi {p : Program} {e : Env} {s : State} {m : MethodId} {below : List Frame} {meth : Method} {c : Code} (l : Launch) (hl9 : l.stackTraces = false) (D : va_G) (cT : Nat → ClassId) (aK aV : Nat → Nat) {A : Nat → Prop} {b : Nat} {xs : Nat → Int32} (C : xLw p s m meth c b D cT aK aV A) {H : Heap} {locs : List Loc} {ls : Array Slot} (a0 : Nat) (a1 : Nat) (a2 : Nat) (a3 : Nat) (v4 : Value) (v5 : Value) (v6 : Value) (v7 : Value) (v8 : Value) (v9 : Value) (v10 : Value) (v11 : Value) (v12 : Value) (v13 : Value) (v14 : Value) (v15 : Value) (v16 : Value) (v17 : Value) (v18 : Value) (v19 : Value) (v20 : Value) (v21 : Value) (v22 : Value) (v23 : Value) (v24 : Value) (v25 : Value) (v26 : Value) (v27 : Value) (v28 : Value) (v29 : Value) (v30 : Value) (v31 : Value) (v32 : Value) (v33 : Value) (v34 : Value) (v35 : Value) (v36 : Value) (v37 : Value) (v38 : Value) (v39 : Value) (v40 : Value) (v41 : Value) (f42 : Nat → Int64) (v43 : Value) (v44 : Value) (h1 : ¬ (xs 1) < 0) (h2 : 0 ≤ (xs 1)) (hXs : va_X b 6 xs s s.heap) (hP : va_P D xcl [(a0, .inr (0, [v4, .ref a3, v5, v6, v7, v8, v9, v10])), (a1, .inr (5, [v11, v12, v13, v14, v15, v16, v17, v18, v19, v20, v21, v22, v23, v24, v25, v26, v27, v28, v29, v30, v31, v32, v33, v34, v35, v36, v37, v38, v39, .int 0, v40, v41])), (a2, .inl (cT 2, 1, .inr (.inl f42))), (a3, .inr (1, [v43, .int 0, v44]))] H) (hD : va_D A [(a0, .inr (0, [v4, .ref a3, v5, v6, v7, v8, v9, v10])), (a1, .inr (5, [v11, v12, v13, v14, v15, v16, v17, v18, v19, v20, v21, v22, v23, v24, v25, v26, v27, v28, v29, v30, v31, v32, v33, v34, v35, v36, v37, v38, v39, .int 0, v40, v41])), (a2, .inl (cT 2, 1, .inr (.inl f42))), (a3, .inr (1, [v43, .int 0, v44]))]) (hS : va_S A s.heap H locs) (hl : lv_has ls 8 [(4, .int 0), (3, .ref a2), (2, .ref a1), (1, .ref a0), (0, .ref b)]) : W p l e room_1 s m #[Value.ref b] below meth c H locs 54 107242 (lw_Z below #[Value.ref b] s) (F0 m 795 ls []) := by
  obtain ⟨hx, hb, hr, hml, hown, htx, hbl, hbA, hlocks, hK, hZ, hA, hA2⟩ := C
  refine lv_aload_n hx hb dL_law_795 rfl (lv_at hl 3 rfl) ?_
  refine lv_aload_n hx hb dL_law_796 rfl (lv_at hl 4 rfl) ?_
  refine lv_iload hx hb dL_law_797 (lv_at hl 0 rfl) ?_
  refine lv_iconst (v := 1) hx hb dL_law_799 (by decide) ?_
  refine lv_iadd hx hb dL_law_800 ?_
  refine W.eq (g2 := F0 m 801 ls [.int 1, .ref b, .ref a0]) rfl ?_
  refine va_sld hx hb hXs hbl hbA hS (i := 1) (show ¬ ((1 : Int32) < 0 ∨ 6 ≤ (1 : Int32).toNatClampNeg) by decide) dL_law_801 ?_
  refine W.eq (g2 := F0 m 802 ls [.int (xs 1), .ref a0]) rfl ?_
  refine lv_aload_n hx hb dL_law_802 rfl (lv_at hl 1 rfl) ?_
  obtain ⟨hPc, hDc, hFc⟩ := xcut (wc := [(a0, .inr (0, [v4, .ref a3, v5, v6, v7, v8, v9, v10])), (a3, .inr (1, [v43, .int 0, v44]))]) hP hD hS hA [0, 3] rfl rfl (by decide)
  refine va_calli (vx_runSW (As := [.ref a0, .int (xs 1), .ref a2]) (rest := []) ⟨hx, hb, hml, hown, htx⟩ (cL_word_1 l hl9 D cT aK aV H.size a0 a3 (xs 1) a2 v4 v5 v6 v7 v8 v9 v10 v43 v44 h1 h2) (xcSW 3 htx (xw_goodC kw_5_59) rfl rfl rfl (htx _ kw_1_0) (htx _ kw_5_57) ⟨by decide, by decide, by decide +kernel⟩ ⟨Nat.le_of_ble_eq_true rfl, Nat.le_of_ble_eq_true rfl⟩ (htx _ kw_5_58)) ⟨xPre_blind, (fun U hU hW => ⟨rfl, xPre_of hZ hS hFc hPc hDc hK U hU hW⟩)⟩ rfl rfl hl.1 rfl (lv_room (Nat.le_of_ble_eq_true rfl)) dL_law_803 ⟨Nat.le_of_ble_eq_true rfl, Nat.le_of_ble_eq_true rfl⟩) hS (fun q _ h => hFc q h) hFc (fun r1 u9 t H1 locs ht hvm hr9 hB hz1 hk1 hS => ?_)
  obtain ⟨hP1, hK1, hD1⟩ := hB
  rw [ht] at hP1
  obtain ⟨hP, hD⟩ := xjoin (W := [(a1, .inr (5, [v11, v12, v13, v14, v15, v16, v17, v18, v19, v20, v21, v22, v23, v24, v25, v26, v27, v28, v29, v30, v31, v32, v33, v34, v35, v36, v37, v38, v39, .int 0, v40, v41])), (a2, .inl (cT 2, 1, .inr (.inl f42))), (a0, .inr (0, [v4, .ref a3, v5, v6, v7, v8, v9, v10])), (a3, .inr (1, [v43, .int 0, v44]))]) hP hD [0, 3] [1, 2] 2 rfl rfl (by decide) (by decide) hk1 hFc hP1 hD1
  generalize H1 = H at hP hS ⊢
  rw [hr9]
  refine W.eq (g2 := F0 m 806 ls [.int 1]) rfl ?_
  refine lv_istore (lv' := [(5, .int 1), (4, .int 0), (3, .ref a2), (2, .ref a1), (1, .ref a0), (0, .ref b)]) hx hb dL_law_806 hl (by decide) rfl (fun ls hl => ?_)
  refine lv_aload_n hx hb dL_law_808 rfl (lv_at hl 3 rfl) ?_
  refine lv_aload_n hx hb dL_law_809 rfl (lv_at hl 5 rfl) ?_
  refine lv_iload hx hb dL_law_810 (lv_at hl 1 rfl) ?_
  refine lv_iconst (v := 1) hx hb dL_law_812 (by decide) ?_
  refine lv_iadd hx hb dL_law_813 ?_
  refine W.eq (g2 := F0 m 814 ls [.int 1, .ref b, .ref a1]) rfl ?_
  refine va_sld hx hb hXs hbl hbA hS (i := 1) (show ¬ ((1 : Int32) < 0 ∨ 6 ≤ (1 : Int32).toNatClampNeg) by decide) dL_law_814 ?_
  refine W.eq (g2 := F0 m 815 ls [.int (xs 1), .ref a1]) rfl ?_
  obtain ⟨hPc, hDc, hFc⟩ := xcut (wc := [(a1, .inr (5, [v11, v12, v13, v14, v15, v16, v17, v18, v19, v20, v21, v22, v23, v24, v25, v26, v27, v28, v29, v30, v31, v32, v33, v34, v35, v36, v37, v38, v39, .int 0, v40, v41]))]) hP hD hS hA [0] rfl rfl (by decide)
  refine va_calll (va_runV (C := "ValueBenchModel") (As := [.int (xs 1)]) (rest := []) ⟨hx, hb, hml, hown, htx⟩ (cM_word_1 l hl9 D cT aK aV H.size a1 (xs 1) v11 v12 v13 v14 v15 v16 v17 v18 v19 v20 v21 v22 v23 v24 v25 v26 v27 v28 v29 v30 v31 v32 v33 v34 v35 v36 v37 v38 v39 v40 v41 h1 h2) ⟨callB_of 1 htx (xw_goodC kw_6_182) rfl rfl rfl (htx _ kw_1_5) (htx _ kw_6_179) ⟨by decide, by decide, by decide +kernel⟩ ⟨Nat.le_of_ble_eq_true rfl, Nat.le_of_ble_eq_true rfl⟩, (htx _ kw_6_180), (htx _ kw_6_181)⟩ ⟨xPre_blind, va_recv hK hP (ci := 5) rfl (q0 := 0) rfl, (fun U hU hW => ⟨rfl, xPre_of hZ hS hFc hPc hDc hK U hU hW⟩)⟩ rfl rfl hl.1 rfl (lv_room (Nat.le_of_ble_eq_true rfl)) dL_law_815 ⟨Nat.le_of_ble_eq_true rfl, Nat.le_of_ble_eq_true rfl⟩) hS (fun q _ h => hFc q h) hFc (fun r2 u9 t H1 locs ht hvm hr9 hB hz1 hk1 hS => ?_)
  obtain ⟨hP1, hK1, hD1⟩ := hB
  rw [ht] at hP1
  obtain ⟨hP, hD⟩ := xjoin (W := [(a2, .inl (cT 2, 1, .inr (.inl f42))), (a0, .inr (0, [v4, .ref a3, v5, v6, v7, v8, v9, v10])), (a3, .inr (1, [v43, .int 0, v44])), (a1, .inr (5, [.int 1, v12, v13, v14, v15, v16, v17, v18, v19, v20, v21, v22, v23, v24, v25, v26, v27, v28, v29, v30, v31, v32, v33, v34, v35, v36, v37, v38, v39, .int 0, v40, v41]))]) hP hD [0] [1, 2, 3] 3 rfl rfl (by decide) (by decide) hk1 hFc hP1 hD1
  generalize H1 = H at hP hS ⊢
  rw [hr9]
  refine W.eq (g2 := F0 m 818 ls [.long 0]) rfl ?_
  refine lv_lstore (lv' := [(6, .long 0), (5, .int 1), (4, .int 0), (3, .ref a2), (2, .ref a1), (1, .ref a0), (0, .ref b)]) hx hb dL_law_818 hl (by decide) rfl (fun ls hl => ?_)
  refine lv_aload_n hx hb dL_law_820 rfl (lv_at hl 4 rfl) ?_
  obtain ⟨hPc, hDc, hFc⟩ := xcut (wc := [(a1, .inr (5, [.int 1, v12, v13, v14, v15, v16, v17, v18, v19, v20, v21, v22, v23, v24, v25, v26, v27, v28, v29, v30, v31, v32, v33, v34, v35, v36, v37, v38, v39, .int 0, v40, v41]))]) hP hD hS hA [3] rfl rfl (by decide)
  refine va_calli (va_runV (C := "ValueBenchModel") (As := []) (rest := []) ⟨hx, hb, hml, hown, htx⟩ (cM_thrown_1 l hl9 D cT aK aV H.size a1 v12 v13 v14 v15 v16 v17 v18 v19 v20 v21 v22 v23 v24 v25 v26 v27 v28 v29 v30 v31 v32 v33 v34 v35 v36 v37 v38 v39 (.int 0) v40 v41) ⟨callB_of 0 htx (xw_goodC kw_5_187) rfl rfl rfl (htx _ kw_1_5) (htx _ kw_5_184) ⟨by decide, by decide, by decide +kernel⟩ ⟨Nat.le_of_ble_eq_true rfl, Nat.le_of_ble_eq_true rfl⟩, (htx _ kw_5_185), (htx _ kw_5_186)⟩ ⟨xPre_blind, va_recv hK hP (ci := 5) rfl (q0 := 3) rfl, (fun U hU hW => ⟨rfl, xPre_of hZ hS hFc hPc hDc hK U hU hW⟩)⟩ rfl rfl hl.1 rfl (lv_room (Nat.le_of_ble_eq_true rfl)) dL_law_821 ⟨Nat.le_of_ble_eq_true rfl, Nat.le_of_ble_eq_true rfl⟩) hS (fun q _ h => hFc q h) hFc (fun r3 u9 t H1 locs ht hvm hr9 hB hz1 hk1 hS => ?_)
  obtain ⟨hP1, hK1, hD1⟩ := hB
  rw [ht] at hP1
  obtain ⟨hP, hD⟩ := xjoin (W := [(a2, .inl (cT 2, 1, .inr (.inl f42))), (a0, .inr (0, [v4, .ref a3, v5, v6, v7, v8, v9, v10])), (a3, .inr (1, [v43, .int 0, v44])), (a1, .inr (5, [.int 1, v12, v13, v14, v15, v16, v17, v18, v19, v20, v21, v22, v23, v24, v25, v26, v27, v28, v29, v30, v31, v32, v33, v34, v35, v36, v37, v38, v39, .int 0, v40, v41]))]) hP hD [3] [0, 1, 2] 3 rfl rfl (by decide) (by decide) hk1 hFc hP1 hD1
  generalize H1 = H at hP hS ⊢
  rw [hr9]
  refine W.eq (g2 := F0 m 824 ls [.int 1]) rfl ?_
  refine lv_iload hx hb dL_law_824 (lv_at hl 1 rfl) ?_
  refine lv_icmp_eq (tgt := 831) hx hb dL_law_826 (by decide) (fun _ => ?_) (fun h => ((by revert h; decide : False)).elim)
  refine lv_iload hx hb dL_law_831 (lv_at hl 1 rfl) ?_
  refine lv_if_ne (tgt := 847) hx hb dL_law_833 (by decide) (fun _ => ?_) (fun h => ((by revert h; decide : False)).elim)
  refine lv_goto (tgt := 906) hx hb dL_law_847 (by decide) ?_
  refine lv_iinc (v := 6) (lv' := [(4, .int 6), (6, .long 0), (5, .int 1), (3, .ref a2), (2, .ref a1), (1, .ref a0), (0, .ref b)]) hx hb dL_law_906 hl (k := 2) rfl (by decide) (by decide) rfl (fun ls hl => ?_)
  refine lv_goto (tgt := 23) hx hb dL_law_909 (by decide) ?_
  refine lv_iload hx hb dL_law_23 (lv_at hl 0 rfl) ?_
  refine lv_aload_n hx hb dL_law_25 rfl (lv_at hl 6 rfl) ?_
  refine va_slen hx hb hXs hbl hbA hS dL_law_26 ?_
  refine W.eq (g2 := F0 m 27 ls [.int 6, .int 6]) rfl ?_
  refine lv_bipush (v := 6) hx hb dL_law_27 (by decide) ?_
  refine lv_isub hx hb dL_law_29 ?_
  refine W.eq (g2 := F0 m 30 ls [.int 0, .int 6]) rfl ?_
  refine lv_icmp_gt (tgt := 912) hx hb dL_law_30 (by decide) (fun _ => ?_) (fun h => ((by revert h; decide : False)).elim)
  refine lv_iconst (v := 1) hx hb dL_law_912 (by decide) ?_
  exact va_forget (fun q h => hA2 _ (hS.2.2 q h)) (W.widen (k := 600002) (n := 7302232) (Nat.le_of_ble_eq_true rfl) (Nat.le_of_ble_eq_true rfl) (lw_ret hx hb hr hlocks dL_law_913))
