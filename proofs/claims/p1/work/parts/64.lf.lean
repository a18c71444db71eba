set_option maxHeartbeats 400000000 in
set_option maxRecDepth 100000 in
theorem lf_one_tolo {p : Program} {e : Env} {s : State} {m : MethodId} {below : List Frame} {meth : Method} {c : Code} (l : Launch) (hl9 : l.stackTraces = false) (D : va_G) (cT : Nat → ClassId) (aK aV : Nat → Nat) {A : Nat → Prop} {b : Nat} {xs : Nat → Int32} (C : xLw p s m meth c b D cT aK aV A) {H : Heap} {locs : List Loc} {ls : Array Slot} (a0 : Nat) (a1 : Nat) (a2 : Nat) (v3 : Value) (v4 : Value) (v5 : Value) (v6 : Value) (v7 : Value) (v8 : Value) (v9 : Value) (v10 : Value) (v11 : Value) (v12 : Value) (v13 : Value) (v14 : Value) (v15 : Value) (v16 : Value) (v17 : Value) (v18 : Value) (v19 : Value) (v20 : Value) (v21 : Value) (v22 : Value) (v23 : Value) (v24 : Value) (v25 : Value) (v26 : Value) (v27 : Value) (v28 : Value) (v29 : Value) (v30 : Value) (v31 : Value) (v32 : Value) (v33 : Value) (v34 : Value) (v35 : Value) (v36 : Value) (v37 : Value) (v38 : Value) (v39 : Value) (v40 : Value) (v41 : Value) (v42 : Value) (f43 : Nat → Int64) (hto1 : (xs 1) < 0) (hXs : va_X b 6 xs s s.heap) (hP : va_P D xcl [(a0, .inr (0, [v3, v4, v5, v6, v7, v8, v9, v10])), (a1, .inr (5, [v11, v12, v13, v14, v15, v16, v17, v18, v19, v20, v21, v22, v23, v24, v25, v26, v27, v28, v29, v30, v31, v32, v33, v34, v35, v36, v37, v38, v39, v40, v41, v42])), (a2, .inl (cT 2, 1, .inr (.inl f43)))] H) (hD : va_D A [(a0, .inr (0, [v3, v4, v5, v6, v7, v8, v9, v10])), (a1, .inr (5, [v11, v12, v13, v14, v15, v16, v17, v18, v19, v20, v21, v22, v23, v24, v25, v26, v27, v28, v29, v30, v31, v32, v33, v34, v35, v36, v37, v38, v39, v40, v41, v42])), (a2, .inl (cT 2, 1, .inr (.inl f43)))]) (hS : va_S A s.heap H locs) (hl : lv_has ls 8 [(4, .int 0), (3, .ref a2), (2, .ref a1), (1, .ref a0), (0, .ref b)]) : W p l e room_1 s m #[Value.ref b] below meth c H locs 54 107242 (lw_Z below #[Value.ref b] s) (F0 m 591 ls []) := by
  obtain ⟨hx, hb, hr, hml, hown, htx, hbl, hbA, hlocks, hK, hZ, hA, hA2⟩ := C
  refine lv_aload_n hx hb dL_law_591 rfl (lv_at hl 3 rfl) ?_
  refine lv_aload_n hx hb dL_law_592 rfl (lv_at hl 4 rfl) ?_
  refine lv_iload hx hb dL_law_593 (lv_at hl 0 rfl) ?_
  refine lv_iconst (v := 1) hx hb dL_law_595 (by decide) ?_
  refine lv_iadd hx hb dL_law_596 ?_
  refine W.eq (g2 := F0 m 597 ls [.int 1, .ref b, .ref a0]) rfl ?_
  refine va_sld hx hb hXs hbl hbA hS (i := 1) (show ¬ ((1 : Int32) < 0 ∨ 6 ≤ (1 : Int32).toNatClampNeg) by decide) dL_law_597 ?_
  refine W.eq (g2 := F0 m 598 ls [.int (xs 1), .ref a0]) rfl ?_
  refine lv_aload_n hx hb dL_law_598 rfl (lv_at hl 4 rfl) ?_
  refine lv_iload hx hb dL_law_599 (lv_at hl 0 rfl) ?_
  refine lv_iconst (v := 2) hx hb dL_law_601 (by decide) ?_
  refine lv_iadd hx hb dL_law_602 ?_
  refine W.eq (g2 := F0 m 603 ls [.int 2, .ref b, .int (xs 1), .ref a0]) rfl ?_
  refine va_sld hx hb hXs hbl hbA hS (i := 2) (show ¬ ((2 : Int32) < 0 ∨ 6 ≤ (2 : Int32).toNatClampNeg) by decide) dL_law_603 ?_
  refine W.eq (g2 := F0 m 604 ls [.int (xs 2), .int (xs 1), .ref a0]) rfl ?_
  refine lv_aload_n hx hb dL_law_604 rfl (lv_at hl 4 rfl) ?_
  refine lv_iload hx hb dL_law_605 (lv_at hl 0 rfl) ?_
  refine lv_iconst (v := 3) hx hb dL_law_607 (by decide) ?_
  refine lv_iadd hx hb dL_law_608 ?_
  refine W.eq (g2 := F0 m 609 ls [.int 3, .ref b, .int (xs 2), .int (xs 1), .ref a0]) rfl ?_
  refine va_sld hx hb hXs hbl hbA hS (i := 3) (show ¬ ((3 : Int32) < 0 ∨ 6 ≤ (3 : Int32).toNatClampNeg) by decide) dL_law_609 ?_
  refine W.eq (g2 := F0 m 610 ls [.int (xs 3), .int (xs 2), .int (xs 1), .ref a0]) rfl ?_
  obtain ⟨hPc, hDc, hFc⟩ := xcut (wc := [(a0, .inr (0, [v3, v4, v5, v6, v7, v8, v9, v10]))]) hP hD hS hA [0] rfl rfl (by decide)
  refine va_calli (vx_runSW (As := [.ref a0, .int (xs 1), .int (xs 2), .int (xs 3)]) (rest := []) ⟨hx, hb, hml, hown, htx⟩ (cL_one_0 l hl9 D cT aK aV H.size a0 (xs 1) (xs 2) (xs 3) v3 v4 v5 v6 v7 v8 v9 v10 hto1) (xcSW 4 htx (xw_goodC kw_4_21) rfl rfl rfl (htx _ kw_1_0) (htx _ kw_4_19) ⟨by decide, by decide, by decide +kernel⟩ ⟨Nat.le_of_ble_eq_true rfl, Nat.le_of_ble_eq_true rfl⟩ (htx _ kw_4_20)) ⟨xPre_blind, (fun U hU hW => ⟨rfl, xPre_of hZ hS hFc hPc hDc hK U hU hW⟩)⟩ rfl rfl hl.1 rfl (lv_room (Nat.le_of_ble_eq_true rfl)) dL_law_610 ⟨Nat.le_of_ble_eq_true rfl, Nat.le_of_ble_eq_true rfl⟩) hS (fun q _ h => hFc q h) hFc (fun r1 u9 t H1 locs ht hvm hr9 hB hz1 hk1 hS => ?_)
  obtain ⟨hP1, hK1, hD1⟩ := hB
  rw [ht] at hP1
  obtain ⟨hP, hD⟩ := xjoin (W := [(a1, .inr (5, [v11, v12, v13, v14, v15, v16, v17, v18, v19, v20, v21, v22, v23, v24, v25, v26, v27, v28, v29, v30, v31, v32, v33, v34, v35, v36, v37, v38, v39, v40, v41, v42])), (a2, .inl (cT 2, 1, .inr (.inl f43))), (a0, .inr (0, [v3, v4, v5, v6, v7, v8, v9, v10]))]) hP hD [0] [1, 2] 2 rfl rfl (by decide) (by decide) hk1 hFc hP1 hD1
  generalize H1 = H at hP hS ⊢
  rw [hr9]
  refine W.eq (g2 := F0 m 613 ls [.int 1]) rfl ?_
  refine lv_istore (lv' := [(5, .int 1), (4, .int 0), (3, .ref a2), (2, .ref a1), (1, .ref a0), (0, .ref b)]) hx hb dL_law_613 hl (by decide) rfl (fun ls hl => ?_)
  refine lv_aload_n hx hb dL_law_615 rfl (lv_at hl 3 rfl) ?_
  refine lv_aload_n hx hb dL_law_616 rfl (lv_at hl 5 rfl) ?_
  refine lv_iload hx hb dL_law_617 (lv_at hl 1 rfl) ?_
  refine lv_iconst (v := 1) hx hb dL_law_619 (by decide) ?_
  refine lv_iadd hx hb dL_law_620 ?_
  refine W.eq (g2 := F0 m 621 ls [.int 1, .ref b, .ref a1]) rfl ?_
  refine va_sld hx hb hXs hbl hbA hS (i := 1) (show ¬ ((1 : Int32) < 0 ∨ 6 ≤ (1 : Int32).toNatClampNeg) by decide) dL_law_621 ?_
  refine W.eq (g2 := F0 m 622 ls [.int (xs 1), .ref a1]) rfl ?_
  refine lv_aload_n hx hb dL_law_622 rfl (lv_at hl 5 rfl) ?_
  refine lv_iload hx hb dL_law_623 (lv_at hl 1 rfl) ?_
  refine lv_iconst (v := 2) hx hb dL_law_625 (by decide) ?_
  refine lv_iadd hx hb dL_law_626 ?_
  refine W.eq (g2 := F0 m 627 ls [.int 2, .ref b, .int (xs 1), .ref a1]) rfl ?_
  refine va_sld hx hb hXs hbl hbA hS (i := 2) (show ¬ ((2 : Int32) < 0 ∨ 6 ≤ (2 : Int32).toNatClampNeg) by decide) dL_law_627 ?_
  refine W.eq (g2 := F0 m 628 ls [.int (xs 2), .int (xs 1), .ref a1]) rfl ?_
  refine lv_aload_n hx hb dL_law_628 rfl (lv_at hl 5 rfl) ?_
  refine lv_iload hx hb dL_law_629 (lv_at hl 1 rfl) ?_
  refine lv_iconst (v := 3) hx hb dL_law_631 (by decide) ?_
  refine lv_iadd hx hb dL_law_632 ?_
  refine W.eq (g2 := F0 m 633 ls [.int 3, .ref b, .int (xs 2), .int (xs 1), .ref a1]) rfl ?_
  refine va_sld hx hb hXs hbl hbA hS (i := 3) (show ¬ ((3 : Int32) < 0 ∨ 6 ≤ (3 : Int32).toNatClampNeg) by decide) dL_law_633 ?_
  refine W.eq (g2 := F0 m 634 ls [.int (xs 3), .int (xs 2), .int (xs 1), .ref a1]) rfl ?_
  obtain ⟨hPc, hDc, hFc⟩ := xcut (wc := [(a1, .inr (5, [v11, v12, v13, v14, v15, v16, v17, v18, v19, v20, v21, v22, v23, v24, v25, v26, v27, v28, v29, v30, v31, v32, v33, v34, v35, v36, v37, v38, v39, v40, v41, v42]))]) hP hD hS hA [0] rfl rfl (by decide)
  refine va_callv (va_runV (C := "ValueBenchModel") (As := [.int (xs 1), .int (xs 2), .int (xs 3)]) (rest := []) ⟨hx, hb, hml, hown, htx⟩ (cM_one0_0 l hl9 D cT aK aV H.size a1 (xs 1) (xs 2) (xs 3) v11 v12 v13 v14 v15 v16 v17 v18 v19 v20 v21 v22 v23 v24 v25 v26 v27 v28 v29 v30 v31 v32 v33 v34 v35 v36 v37 v38 v39 v40 v41 v42 hto1) ⟨callB_of 3 htx (xw_goodC kw_7_123) rfl rfl rfl (htx _ kw_1_5) (htx _ kw_7_120) ⟨by decide, by decide, by decide +kernel⟩ ⟨Nat.le_of_ble_eq_true rfl, Nat.le_of_ble_eq_true rfl⟩, (htx _ kw_7_121), (htx _ kw_7_122)⟩ ⟨xPre_blind, va_recv hK hP (ci := 5) rfl (q0 := 0) rfl, (fun U hU hW => ⟨rfl, xPre_of hZ hS hFc hPc hDc hK U hU hW⟩)⟩ rfl rfl hl.1 rfl (lv_room (Nat.le_of_ble_eq_true rfl)) dL_law_634 ⟨Nat.le_of_ble_eq_true rfl, Nat.le_of_ble_eq_true rfl⟩) hS (fun q _ h => hFc q h) hFc (fun u9 t H1 locs ht hvm hr9 hB hz1 hk1 hS => ?_)
  obtain ⟨hP1, hK1, hD1⟩ := hB
  rw [ht] at hP1
  obtain ⟨hP, hD⟩ := xjoin (W := [(a2, .inl (cT 2, 1, .inr (.inl f43))), (a0, .inr (0, [v3, v4, v5, v6, v7, v8, v9, v10])), (a1, .inr (5, [.int 1, v12, .int 0, v14, .int 0, v16, v17, .int 0, v19, .int 0, v21, v22, .int 0, v24, v25, v26, v27, v28, v29, v30, v31, v32, .int 0, .int 1000000000, v35, v36, v37, v38, v39, v40, v41, v42]))]) hP hD [0] [1, 2] 2 rfl rfl (by decide) (by decide) hk1 hFc hP1 hD1
  generalize H1 = H at hP hS ⊢
  refine lv_aload_n hx hb dL_law_637 rfl (lv_at hl 3 rfl) ?_
  obtain ⟨hPc, hDc, hFc⟩ := xcut (wc := [(a1, .inr (5, [.int 1, v12, .int 0, v14, .int 0, v16, v17, .int 0, v19, .int 0, v21, v22, .int 0, v24, v25, v26, v27, v28, v29, v30, v31, v32, .int 0, .int 1000000000, v35, v36, v37, v38, v39, v40, v41, v42]))]) hP hD hS hA [2] rfl rfl (by decide)
  refine va_calli (va_runV (C := "ValueBenchModel") (As := []) (rest := []) ⟨hx, hb, hml, hown, htx⟩ (cM_thrown_1 l hl9 D cT aK aV H.size a1 v12 (.int 0) v14 (.int 0) v16 v17 (.int 0) v19 (.int 0) v21 v22 (.int 0) v24 v25 v26 v27 v28 v29 v30 v31 v32 (.int 0) (.int 1000000000) v35 v36 v37 v38 v39 v40 v41 v42) ⟨callB_of 0 htx (xw_goodC kw_5_187) rfl rfl rfl (htx _ kw_1_5) (htx _ kw_5_184) ⟨by decide, by decide, by decide +kernel⟩ ⟨Nat.le_of_ble_eq_true rfl, Nat.le_of_ble_eq_true rfl⟩, (htx _ kw_5_185), (htx _ kw_5_186)⟩ ⟨xPre_blind, va_recv hK hP (ci := 5) rfl (q0 := 2) rfl, (fun U hU hW => ⟨rfl, xPre_of hZ hS hFc hPc hDc hK U hU hW⟩)⟩ rfl rfl hl.1 rfl (lv_room (Nat.le_of_ble_eq_true rfl)) dL_law_638 ⟨Nat.le_of_ble_eq_true rfl, Nat.le_of_ble_eq_true rfl⟩) hS (fun q _ h => hFc q h) hFc (fun r2 u9 t H1 locs ht hvm hr9 hB hz1 hk1 hS => ?_)
  obtain ⟨hP1, hK1, hD1⟩ := hB
  rw [ht] at hP1
  obtain ⟨hP, hD⟩ := xjoin (W := [(a2, .inl (cT 2, 1, .inr (.inl f43))), (a0, .inr (0, [v3, v4, v5, v6, v7, v8, v9, v10])), (a1, .inr (5, [.int 1, v12, .int 0, v14, .int 0, v16, v17, .int 0, v19, .int 0, v21, v22, .int 0, v24, v25, v26, v27, v28, v29, v30, v31, v32, .int 0, .int 1000000000, v35, v36, v37, v38, v39, v40, v41, v42]))]) hP hD [2] [0, 1] 2 rfl rfl (by decide) (by decide) hk1 hFc hP1 hD1
  generalize H1 = H at hP hS ⊢
  rw [hr9]
  refine W.eq (g2 := F0 m 641 ls [.int 1]) rfl ?_
  refine lv_iload hx hb dL_law_641 (lv_at hl 0 rfl) ?_
  refine lv_icmp_eq (tgt := 648) hx hb dL_law_643 (by decide) (fun _ => ?_) (fun h => ((by revert h; decide : False)).elim)
  refine lv_goto (tgt := 906) hx hb dL_law_648 (by decide) ?_
  refine lv_iinc (v := 6) (lv' := [(4, .int 6), (5, .int 1), (3, .ref a2), (2, .ref a1), (1, .ref a0), (0, .ref b)]) hx hb dL_law_906 hl (k := 1) rfl (by decide) (by decide) rfl (fun ls hl => ?_)
  refine lv_goto (tgt := 23) hx hb dL_law_909 (by decide) ?_
  refine lv_iload hx hb dL_law_23 (lv_at hl 0 rfl) ?_
  refine lv_aload_n hx hb dL_law_25 rfl (lv_at hl 5 rfl) ?_
  refine va_slen hx hb hXs hbl hbA hS dL_law_26 ?_
  refine W.eq (g2 := F0 m 27 ls [.int 6, .int 6]) rfl ?_
  refine lv_bipush (v := 6) hx hb dL_law_27 (by decide) ?_
  refine lv_isub hx hb dL_law_29 ?_
  refine W.eq (g2 := F0 m 30 ls [.int 0, .int 6]) rfl ?_
  refine lv_icmp_gt (tgt := 912) hx hb dL_law_30 (by decide) (fun _ => ?_) (fun h => ((by revert h; decide : False)).elim)
  refine lv_iconst (v := 1) hx hb dL_law_912 (by decide) ?_
  exact va_forget (fun q h => hA2 _ (hS.2.2 q h)) (W.widen (k := 600002) (n := 7302232) (Nat.le_of_ble_eq_true rfl) (Nat.le_of_ble_eq_true rfl) (lw_ret hx hb hr hlocks dL_law_913))
set_option maxHeartbeats 400000000 in
set_option maxRecDepth 100000 in
theorem lf_one_tohi {p : Program} {e : Env} {s : State} {m : MethodId} {below : List Frame} {meth : Method} {c : Code} (l : Launch) (hl9 : l.stackTraces = false) (D : va_G) (cT : Nat → ClassId) (aK aV : Nat → Nat) {A : Nat → Prop} {b : Nat} {xs : Nat → Int32} (C : xLw p s m meth c b D cT aK aV A) {H : Heap} {locs : List Loc} {ls : Array Slot} (a0 : Nat) (a1 : Nat) (a2 : Nat) (v3 : Value) (v4 : Value) (v5 : Value) (v6 : Value) (v7 : Value) (v8 : Value) (v9 : Value) (v10 : Value) (v11 : Value) (v12 : Value) (v13 : Value) (v14 : Value) (v15 : Value) (v16 : Value) (v17 : Value) (v18 : Value) (v19 : Value) (v20 : Value) (v21 : Value) (v22 : Value) (v23 : Value) (v24 : Value) (v25 : Value) (v26 : Value) (v27 : Value) (v28 : Value) (v29 : Value) (v30 : Value) (v31 : Value) (v32 : Value) (v33 : Value) (v34 : Value) (v35 : Value) (v36 : Value) (v37 : Value) (v38 : Value) (v39 : Value) (v40 : Value) (v41 : Value) (v42 : Value) (f43 : Nat → Int64) (hto1 : ¬ (xs 1) < 0) (hto2 : 7 < (xs 1)) (hto3 : ¬ (xs 1) ≤ 7) (hXs : va_X b 6 xs s s.heap) (hP : va_P D xcl [(a0, .inr (0, [v3, v4, v5, v6, v7, v8, v9, v10])), (a1, .inr (5, [v11, v12, v13, v14, v15, v16, v17, v18, v19, v20, v21, v22, v23, v24, v25, v26, v27, v28, v29, v30, v31, v32, v33, v34, v35, v36, v37, v38, v39, v40, v41, v42])), (a2, .inl (cT 2, 1, .inr (.inl f43)))] H) (hD : va_D A [(a0, .inr (0, [v3, v4, v5, v6, v7, v8, v9, v10])), (a1, .inr (5, [v11, v12, v13, v14, v15, v16, v17, v18, v19, v20, v21, v22, v23, v24, v25, v26, v27, v28, v29, v30, v31, v32, v33, v34, v35, v36, v37, v38, v39, v40, v41, v42])), (a2, .inl (cT 2, 1, .inr (.inl f43)))]) (hS : va_S A s.heap H locs) (hl : lv_has ls 8 [(4, .int 0), (3, .ref a2), (2, .ref a1), (1, .ref a0), (0, .ref b)]) : W p l e room_1 s m #[Value.ref b] below meth c H locs 54 107242 (lw_Z below #[Value.ref b] s) (F0 m 591 ls []) := by
  obtain ⟨hx, hb, hr, hml, hown, htx, hbl, hbA, hlocks, hK, hZ, hA, hA2⟩ := C
  refine lv_aload_n hx hb dL_law_591 rfl (lv_at hl 3 rfl) ?_
  refine lv_aload_n hx hb dL_law_592 rfl (lv_at hl 4 rfl) ?_
  refine lv_iload hx hb dL_law_593 (lv_at hl 0 rfl) ?_
  refine lv_iconst (v := 1) hx hb dL_law_595 (by decide) ?_
  refine lv_iadd hx hb dL_law_596 ?_
  refine W.eq (g2 := F0 m 597 ls [.int 1, .ref b, .ref a0]) rfl ?_
  refine va_sld hx hb hXs hbl hbA hS (i := 1) (show ¬ ((1 : Int32) < 0 ∨ 6 ≤ (1 : Int32).toNatClampNeg) by decide) dL_law_597 ?_
  refine W.eq (g2 := F0 m 598 ls [.int (xs 1), .ref a0]) rfl ?_
  refine lv_aload_n hx hb dL_law_598 rfl (lv_at hl 4 rfl) ?_
  refine lv_iload hx hb dL_law_599 (lv_at hl 0 rfl) ?_
  refine lv_iconst (v := 2) hx hb dL_law_601 (by decide) ?_
  refine lv_iadd hx hb dL_law_602 ?_
  refine W.eq (g2 := F0 m 603 ls [.int 2, .ref b, .int (xs 1), .ref a0]) rfl ?_
  refine va_sld hx hb hXs hbl hbA hS (i := 2) (show ¬ ((2 : Int32) < 0 ∨ 6 ≤ (2 : Int32).toNatClampNeg) by decide) dL_law_603 ?_
  refine W.eq (g2 := F0 m 604 ls [.int (xs 2), .int (xs 1), .ref a0]) rfl ?_
  refine lv_aload_n hx hb dL_law_604 rfl (lv_at hl 4 rfl) ?_
  refine lv_iload hx hb dL_law_605 (lv_at hl 0 rfl) ?_
  refine lv_iconst (v := 3) hx hb dL_law_607 (by decide) ?_
  refine lv_iadd hx hb dL_law_608 ?_
  refine W.eq (g2 := F0 m 609 ls [.int 3, .ref b, .int (xs 2), .int (xs 1), .ref a0]) rfl ?_
  refine va_sld hx hb hXs hbl hbA hS (i := 3) (show ¬ ((3 : Int32) < 0 ∨ 6 ≤ (3 : Int32).toNatClampNeg) by decide) dL_law_609 ?_
  refine W.eq (g2 := F0 m 610 ls [.int (xs 3), .int (xs 2), .int (xs 1), .ref a0]) rfl ?_
  obtain ⟨hPc, hDc, hFc⟩ := xcut (wc := [(a0, .inr (0, [v3, v4, v5, v6, v7, v8, v9, v10]))]) hP hD hS hA [0] rfl rfl (by decide)
  refine va_calli (vx_runSW (As := [.ref a0, .int (xs 1), .int (xs 2), .int (xs 3)]) (rest := []) ⟨hx, hb, hml, hown, htx⟩ (cL_one_1 l hl9 D cT aK aV H.size a0 (xs 1) (xs 2) (xs 3) v3 v4 v5 v6 v7 v8 v9 v10 hto1 hto2 hto3) (xcSW 4 htx (xw_goodC kw_4_21) rfl rfl rfl (htx _ kw_1_0) (htx _ kw_4_19) ⟨by decide, by decide, by decide +kernel⟩ ⟨Nat.le_of_ble_eq_true rfl, Nat.le_of_ble_eq_true rfl⟩ (htx _ kw_4_20)) ⟨xPre_blind, (fun U hU hW => ⟨rfl, xPre_of hZ hS hFc hPc hDc hK U hU hW⟩)⟩ rfl rfl hl.1 rfl (lv_room (Nat.le_of_ble_eq_true rfl)) dL_law_610 ⟨Nat.le_of_ble_eq_true rfl, Nat.le_of_ble_eq_true rfl⟩) hS (fun q _ h => hFc q h) hFc (fun r1 u9 t H1 locs ht hvm hr9 hB hz1 hk1 hS => ?_)
  obtain ⟨hP1, hK1, hD1⟩ := hB
  rw [ht] at hP1
  obtain ⟨hP, hD⟩ := xjoin (W := [(a1, .inr (5, [v11, v12, v13, v14, v15, v16, v17, v18, v19, v20, v21, v22, v23, v24, v25, v26, v27, v28, v29, v30, v31, v32, v33, v34, v35, v36, v37, v38, v39, v40, v41, v42])), (a2, .inl (cT 2, 1, .inr (.inl f43))), (a0, .inr (0, [v3, v4, v5, v6, v7, v8, v9, v10]))]) hP hD [0] [1, 2] 2 rfl rfl (by decide) (by decide) hk1 hFc hP1 hD1
  generalize H1 = H at hP hS ⊢
  rw [hr9]
  refine W.eq (g2 := F0 m 613 ls [.int 1]) rfl ?_
  refine lv_istore (lv' := [(5, .int 1), (4, .int 0), (3, .ref a2), (2, .ref a1), (1, .ref a0), (0, .ref b)]) hx hb dL_law_613 hl (by decide) rfl (fun ls hl => ?_)
  refine lv_aload_n hx hb dL_law_615 rfl (lv_at hl 3 rfl) ?_
  refine lv_aload_n hx hb dL_law_616 rfl (lv_at hl 5 rfl) ?_
  refine lv_iload hx hb dL_law_617 (lv_at hl 1 rfl) ?_
  refine lv_iconst (v := 1) hx hb dL_law_619 (by decide) ?_
  refine lv_iadd hx hb dL_law_620 ?_
  refine W.eq (g2 := F0 m 621 ls [.int 1, .ref b, .ref a1]) rfl ?_
  refine va_sld hx hb hXs hbl hbA hS (i := 1) (show ¬ ((1 : Int32) < 0 ∨ 6 ≤ (1 : Int32).toNatClampNeg) by decide) dL_law_621 ?_
  refine W.eq (g2 := F0 m 622 ls [.int (xs 1), .ref a1]) rfl ?_
  refine lv_aload_n hx hb dL_law_622 rfl (lv_at hl 5 rfl) ?_
  refine lv_iload hx hb dL_law_623 (lv_at hl 1 rfl) ?_
  refine lv_iconst (v := 2) hx hb dL_law_625 (by decide) ?_
  refine lv_iadd hx hb dL_law_626 ?_
  refine W.eq (g2 := F0 m 627 ls [.int 2, .ref b, .int (xs 1), .ref a1]) rfl ?_
  refine va_sld hx hb hXs hbl hbA hS (i := 2) (show ¬ ((2 : Int32) < 0 ∨ 6 ≤ (2 : Int32).toNatClampNeg) by decide) dL_law_627 ?_
  refine W.eq (g2 := F0 m 628 ls [.int (xs 2), .int (xs 1), .ref a1]) rfl ?_
  refine lv_aload_n hx hb dL_law_628 rfl (lv_at hl 5 rfl) ?_
  refine lv_iload hx hb dL_law_629 (lv_at hl 1 rfl) ?_
  refine lv_iconst (v := 3) hx hb dL_law_631 (by decide) ?_
  refine lv_iadd hx hb dL_law_632 ?_
  refine W.eq (g2 := F0 m 633 ls [.int 3, .ref b, .int (xs 2), .int (xs 1), .ref a1]) rfl ?_
  refine va_sld hx hb hXs hbl hbA hS (i := 3) (show ¬ ((3 : Int32) < 0 ∨ 6 ≤ (3 : Int32).toNatClampNeg) by decide) dL_law_633 ?_
  refine W.eq (g2 := F0 m 634 ls [.int (xs 3), .int (xs 2), .int (xs 1), .ref a1]) rfl ?_
  obtain ⟨hPc, hDc, hFc⟩ := xcut (wc := [(a1, .inr (5, [v11, v12, v13, v14, v15, v16, v17, v18, v19, v20, v21, v22, v23, v24, v25, v26, v27, v28, v29, v30, v31, v32, v33, v34, v35, v36, v37, v38, v39, v40, v41, v42]))]) hP hD hS hA [0] rfl rfl (by decide)
  refine va_callv (va_runV (C := "ValueBenchModel") (As := [.int (xs 1), .int (xs 2), .int (xs 3)]) (rest := []) ⟨hx, hb, hml, hown, htx⟩ (cM_one0_1 l hl9 D cT aK aV H.size a1 (xs 1) (xs 2) (xs 3) v11 v12 v13 v14 v15 v16 v17 v18 v19 v20 v21 v22 v23 v24 v25 v26 v27 v28 v29 v30 v31 v32 v33 v34 v35 v36 v37 v38 v39 v40 v41 v42 hto1 hto2 hto3) ⟨callB_of 3 htx (xw_goodC kw_7_123) rfl rfl rfl (htx _ kw_1_5) (htx _ kw_7_120) ⟨by decide, by decide, by decide +kernel⟩ ⟨Nat.le_of_ble_eq_true rfl, Nat.le_of_ble_eq_true rfl⟩, (htx _ kw_7_121), (htx _ kw_7_122)⟩ ⟨xPre_blind, va_recv hK hP (ci := 5) rfl (q0 := 0) rfl, (fun U hU hW => ⟨rfl, xPre_of hZ hS hFc hPc hDc hK U hU hW⟩)⟩ rfl rfl hl.1 rfl (lv_room (Nat.le_of_ble_eq_true rfl)) dL_law_634 ⟨Nat.le_of_ble_eq_true rfl, Nat.le_of_ble_eq_true rfl⟩) hS (fun q _ h => hFc q h) hFc (fun u9 t H1 locs ht hvm hr9 hB hz1 hk1 hS => ?_)
  obtain ⟨hP1, hK1, hD1⟩ := hB
  rw [ht] at hP1
  obtain ⟨hP, hD⟩ := xjoin (W := [(a2, .inl (cT 2, 1, .inr (.inl f43))), (a0, .inr (0, [v3, v4, v5, v6, v7, v8, v9, v10])), (a1, .inr (5, [.int 1, v12, .int 0, v14, .int 0, v16, v17, .int 0, v19, .int 0, v21, v22, .int 0, v24, v25, v26, v27, v28, v29, v30, v31, v32, .int 0, .int 1000000000, v35, v36, v37, v38, v39, v40, v41, v42]))]) hP hD [0] [1, 2] 2 rfl rfl (by decide) (by decide) hk1 hFc hP1 hD1
  generalize H1 = H at hP hS ⊢
  refine lv_aload_n hx hb dL_law_637 rfl (lv_at hl 3 rfl) ?_
  obtain ⟨hPc, hDc, hFc⟩ := xcut (wc := [(a1, .inr (5, [.int 1, v12, .int 0, v14, .int 0, v16, v17, .int 0, v19, .int 0, v21, v22, .int 0, v24, v25, v26, v27, v28, v29, v30, v31, v32, .int 0, .int 1000000000, v35, v36, v37, v38, v39, v40, v41, v42]))]) hP hD hS hA [2] rfl rfl (by decide)
  refine va_calli (va_runV (C := "ValueBenchModel") (As := []) (rest := []) ⟨hx, hb, hml, hown, htx⟩ (cM_thrown_1 l hl9 D cT aK aV H.size a1 v12 (.int 0) v14 (.int 0) v16 v17 (.int 0) v19 (.int 0) v21 v22 (.int 0) v24 v25 v26 v27 v28 v29 v30 v31 v32 (.int 0) (.int 1000000000) v35 v36 v37 v38 v39 v40 v41 v42) ⟨callB_of 0 htx (xw_goodC kw_5_187) rfl rfl rfl (htx _ kw_1_5) (htx _ kw_5_184) ⟨by decide, by decide, by decide +kernel⟩ ⟨Nat.le_of_ble_eq_true rfl, Nat.le_of_ble_eq_true rfl⟩, (htx _ kw_5_185), (htx _ kw_5_186)⟩ ⟨xPre_blind, va_recv hK hP (ci := 5) rfl (q0 := 2) rfl, (fun U hU hW => ⟨rfl, xPre_of hZ hS hFc hPc hDc hK U hU hW⟩)⟩ rfl rfl hl.1 rfl (lv_room (Nat.le_of_ble_eq_true rfl)) dL_law_638 ⟨Nat.le_of_ble_eq_true rfl, Nat.le_of_ble_eq_true rfl⟩) hS (fun q _ h => hFc q h) hFc (fun r2 u9 t H1 locs ht hvm hr9 hB hz1 hk1 hS => ?_)
  obtain ⟨hP1, hK1, hD1⟩ := hB
  rw [ht] at hP1
  obtain ⟨hP, hD⟩ := xjoin (W := [(a2, .inl (cT 2, 1, .inr (.inl f43))), (a0, .inr (0, [v3, v4, v5, v6, v7, v8, v9, v10])), (a1, .inr (5, [.int 1, v12, .int 0, v14, .int 0, v16, v17, .int 0, v19, .int 0, v21, v22, .int 0, v24, v25, v26, v27, v28, v29, v30, v31, v32, .int 0, .int 1000000000, v35, v36, v37, v38, v39, v40, v41, v42]))]) hP hD [2] [0, 1] 2 rfl rfl (by decide) (by decide) hk1 hFc hP1 hD1
  generalize H1 = H at hP hS ⊢
  rw [hr9]
  refine W.eq (g2 := F0 m 641 ls [.int 1]) rfl ?_
  refine lv_iload hx hb dL_law_641 (lv_at hl 0 rfl) ?_
  refine lv_icmp_eq (tgt := 648) hx hb dL_law_643 (by decide) (fun _ => ?_) (fun h => ((by revert h; decide : False)).elim)
  refine lv_goto (tgt := 906) hx hb dL_law_648 (by decide) ?_
  refine lv_iinc (v := 6) (lv' := [(4, .int 6), (5, .int 1), (3, .ref a2), (2, .ref a1), (1, .ref a0), (0, .ref b)]) hx hb dL_law_906 hl (k := 1) rfl (by decide) (by decide) rfl (fun ls hl => ?_)
  refine lv_goto (tgt := 23) hx hb dL_law_909 (by decide) ?_
  refine lv_iload hx hb dL_law_23 (lv_at hl 0 rfl) ?_
  refine lv_aload_n hx hb dL_law_25 rfl (lv_at hl 5 rfl) ?_
  refine va_slen hx hb hXs hbl hbA hS dL_law_26 ?_
  refine W.eq (g2 := F0 m 27 ls [.int 6, .int 6]) rfl ?_
  refine lv_bipush (v := 6) hx hb dL_law_27 (by decide) ?_
  refine lv_isub hx hb dL_law_29 ?_
  refine W.eq (g2 := F0 m 30 ls [.int 0, .int 6]) rfl ?_
  refine lv_icmp_gt (tgt := 912) hx hb dL_law_30 (by decide) (fun _ => ?_) (fun h => ((by revert h; decide : False)).elim)
  refine lv_iconst (v := 1) hx hb dL_law_912 (by decide) ?_
  exact va_forget (fun q h => hA2 _ (hS.2.2 q h)) (W.widen (k := 600002) (n := 7302232) (Nat.le_of_ble_eq_true rfl) (Nat.le_of_ble_eq_true rfl) (lw_ret hx hb hr hlocks dL_law_913))
set_option maxHeartbeats 400000000 in
set_option maxRecDepth 100000 in
theorem lf_one_flo {p : Program} {e : Env} {s : State} {m : MethodId} {below : List Frame} {meth : Method} {c : Code} (l : Launch) (hl9 : l.stackTraces = false) (D : va_G) (cT : Nat → ClassId) (aK aV : Nat → Nat) {A : Nat → Prop} {b : Nat} {xs : Nat → Int32} (C : xLw p s m meth c b D cT aK aV A) {H : Heap} {locs : List Loc} {ls : Array Slot} (a0 : Nat) (a1 : Nat) (a2 : Nat) (v3 : Value) (v4 : Value) (v5 : Value) (v6 : Value) (v7 : Value) (v8 : Value) (v9 : Value) (v10 : Value) (v11 : Value) (v12 : Value) (v13 : Value) (v14 : Value) (v15 : Value) (v16 : Value) (v17 : Value) (v18 : Value) (v19 : Value) (v20 : Value) (v21 : Value) (v22 : Value) (v23 : Value) (v24 : Value) (v25 : Value) (v26 : Value) (v27 : Value) (v28 : Value) (v29 : Value) (v30 : Value) (v31 : Value) (v32 : Value) (v33 : Value) (v34 : Value) (v35 : Value) (v36 : Value) (v37 : Value) (v38 : Value) (v39 : Value) (v40 : Value) (v41 : Value) (v42 : Value) (f43 : Nat → Int64) (hto1 : ¬ (xs 1) < 0) (hto2 : ¬ 7 < (xs 1)) (hto3 : (xs 1) ≤ 7) (hto4 : vp_in (xs 1) 8) (hf1 : (xs 2) < 0) (hXs : va_X b 6 xs s s.heap) (hP : va_P D xcl [(a0, .inr (0, [v3, v4, v5, v6, v7, v8, v9, v10])), (a1, .inr (5, [v11, v12, v13, v14, v15, v16, v17, v18, v19, v20, v21, v22, v23, v24, v25, v26, v27, v28, v29, v30, v31, v32, v33, v34, v35, v36, v37, v38, v39, v40, v41, v42])), (a2, .inl (cT 2, 1, .inr (.inl f43)))] H) (hD : va_D A [(a0, .inr (0, [v3, v4, v5, v6, v7, v8, v9, v10])), (a1, .inr (5, [v11, v12, v13, v14, v15, v16, v17, v18, v19, v20, v21, v22, v23, v24, v25, v26, v27, v28, v29, v30, v31, v32, v33, v34, v35, v36, v37, v38, v39, v40, v41, v42])), (a2, .inl (cT 2, 1, .inr (.inl f43)))]) (hS : va_S A s.heap H locs) (hl : lv_has ls 8 [(4, .int 0), (3, .ref a2), (2, .ref a1), (1, .ref a0), (0, .ref b)]) : W p l e room_1 s m #[Value.ref b] below meth c H locs 54 107242 (lw_Z below #[Value.ref b] s) (F0 m 591 ls []) := by
  obtain ⟨hx, hb, hr, hml, hown, htx, hbl, hbA, hlocks, hK, hZ, hA, hA2⟩ := C
  refine lv_aload_n hx hb dL_law_591 rfl (lv_at hl 3 rfl) ?_
  refine lv_aload_n hx hb dL_law_592 rfl (lv_at hl 4 rfl) ?_
  refine lv_iload hx hb dL_law_593 (lv_at hl 0 rfl) ?_
  refine lv_iconst (v := 1) hx hb dL_law_595 (by decide) ?_
  refine lv_iadd hx hb dL_law_596 ?_
  refine W.eq (g2 := F0 m 597 ls [.int 1, .ref b, .ref a0]) rfl ?_
  refine va_sld hx hb hXs hbl hbA hS (i := 1) (show ¬ ((1 : Int32) < 0 ∨ 6 ≤ (1 : Int32).toNatClampNeg) by decide) dL_law_597 ?_
  refine W.eq (g2 := F0 m 598 ls [.int (xs 1), .ref a0]) rfl ?_
  refine lv_aload_n hx hb dL_law_598 rfl (lv_at hl 4 rfl) ?_
  refine lv_iload hx hb dL_law_599 (lv_at hl 0 rfl) ?_
  refine lv_iconst (v := 2) hx hb dL_law_601 (by decide) ?_
  refine lv_iadd hx hb dL_law_602 ?_
  refine W.eq (g2 := F0 m 603 ls [.int 2, .ref b, .int (xs 1), .ref a0]) rfl ?_
  refine va_sld hx hb hXs hbl hbA hS (i := 2) (show ¬ ((2 : Int32) < 0 ∨ 6 ≤ (2 : Int32).toNatClampNeg) by decide) dL_law_603 ?_
  refine W.eq (g2 := F0 m 604 ls [.int (xs 2), .int (xs 1), .ref a0]) rfl ?_
  refine lv_aload_n hx hb dL_law_604 rfl (lv_at hl 4 rfl) ?_
  refine lv_iload hx hb dL_law_605 (lv_at hl 0 rfl) ?_
  refine lv_iconst (v := 3) hx hb dL_law_607 (by decide) ?_
  refine lv_iadd hx hb dL_law_608 ?_
  refine W.eq (g2 := F0 m 609 ls [.int 3, .ref b, .int (xs 2), .int (xs 1), .ref a0]) rfl ?_
  refine va_sld hx hb hXs hbl hbA hS (i := 3) (show ¬ ((3 : Int32) < 0 ∨ 6 ≤ (3 : Int32).toNatClampNeg) by decide) dL_law_609 ?_
  refine W.eq (g2 := F0 m 610 ls [.int (xs 3), .int (xs 2), .int (xs 1), .ref a0]) rfl ?_
  obtain ⟨hPc, hDc, hFc⟩ := xcut (wc := [(a0, .inr (0, [v3, v4, v5, v6, v7, v8, v9, v10]))]) hP hD hS hA [0] rfl rfl (by decide)
  refine va_calli (vx_runSW (As := [.ref a0, .int (xs 1), .int (xs 2), .int (xs 3)]) (rest := []) ⟨hx, hb, hml, hown, htx⟩ (cL_one_2 l hl9 D cT aK aV H.size a0 (xs 1) (xs 2) (xs 3) v3 v4 v5 v6 v7 v8 v9 v10 hto1 hto2 hto3 hto4 hf1) (xcSW 4 htx (xw_goodC kw_4_21) rfl rfl rfl (htx _ kw_1_0) (htx _ kw_4_19) ⟨by decide, by decide, by decide +kernel⟩ ⟨Nat.le_of_ble_eq_true rfl, Nat.le_of_ble_eq_true rfl⟩ (htx _ kw_4_20)) ⟨xPre_blind, (fun U hU hW => ⟨rfl, xPre_of hZ hS hFc hPc hDc hK U hU hW⟩)⟩ rfl rfl hl.1 rfl (lv_room (Nat.le_of_ble_eq_true rfl)) dL_law_610 ⟨Nat.le_of_ble_eq_true rfl, Nat.le_of_ble_eq_true rfl⟩) hS (fun q _ h => hFc q h) hFc (fun r1 u9 t H1 locs ht hvm hr9 hB hz1 hk1 hS => ?_)
  obtain ⟨hP1, hK1, hD1⟩ := hB
  rw [ht] at hP1
  obtain ⟨hP, hD⟩ := xjoin (W := [(a1, .inr (5, [v11, v12, v13, v14, v15, v16, v17, v18, v19, v20, v21, v22, v23, v24, v25, v26, v27, v28, v29, v30, v31, v32, v33, v34, v35, v36, v37, v38, v39, v40, v41, v42])), (a2, .inl (cT 2, 1, .inr (.inl f43))), (a0, .inr (0, [v3, v4, v5, v6, v7, v8, v9, v10]))]) hP hD [0] [1, 2] 2 rfl rfl (by decide) (by decide) hk1 hFc hP1 hD1
  generalize H1 = H at hP hS ⊢
  rw [hr9]
  refine W.eq (g2 := F0 m 613 ls [.int 1]) rfl ?_
  refine lv_istore (lv' := [(5, .int 1), (4, .int 0), (3, .ref a2), (2, .ref a1), (1, .ref a0), (0, .ref b)]) hx hb dL_law_613 hl (by decide) rfl (fun ls hl => ?_)
  refine lv_aload_n hx hb dL_law_615 rfl (lv_at hl 3 rfl) ?_
  refine lv_aload_n hx hb dL_law_616 rfl (lv_at hl 5 rfl) ?_
  refine lv_iload hx hb dL_law_617 (lv_at hl 1 rfl) ?_
  refine lv_iconst (v := 1) hx hb dL_law_619 (by decide) ?_
  refine lv_iadd hx hb dL_law_620 ?_
  refine W.eq (g2 := F0 m 621 ls [.int 1, .ref b, .ref a1]) rfl ?_
  refine va_sld hx hb hXs hbl hbA hS (i := 1) (show ¬ ((1 : Int32) < 0 ∨ 6 ≤ (1 : Int32).toNatClampNeg) by decide) dL_law_621 ?_
  refine W.eq (g2 := F0 m 622 ls [.int (xs 1), .ref a1]) rfl ?_
  refine lv_aload_n hx hb dL_law_622 rfl (lv_at hl 5 rfl) ?_
  refine lv_iload hx hb dL_law_623 (lv_at hl 1 rfl) ?_
  refine lv_iconst (v := 2) hx hb dL_law_625 (by decide) ?_
  refine lv_iadd hx hb dL_law_626 ?_
  refine W.eq (g2 := F0 m 627 ls [.int 2, .ref b, .int (xs 1), .ref a1]) rfl ?_
  refine va_sld hx hb hXs hbl hbA hS (i := 2) (show ¬ ((2 : Int32) < 0 ∨ 6 ≤ (2 : Int32).toNatClampNeg) by decide) dL_law_627 ?_
  refine W.eq (g2 := F0 m 628 ls [.int (xs 2), .int (xs 1), .ref a1]) rfl ?_
  refine lv_aload_n hx hb dL_law_628 rfl (lv_at hl 5 rfl) ?_
  refine lv_iload hx hb dL_law_629 (lv_at hl 1 rfl) ?_
  refine lv_iconst (v := 3) hx hb dL_law_631 (by decide) ?_
  refine lv_iadd hx hb dL_law_632 ?_
  refine W.eq (g2 := F0 m 633 ls [.int 3, .ref b, .int (xs 2), .int (xs 1), .ref a1]) rfl ?_
  refine va_sld hx hb hXs hbl hbA hS (i := 3) (show ¬ ((3 : Int32) < 0 ∨ 6 ≤ (3 : Int32).toNatClampNeg) by decide) dL_law_633 ?_
  refine W.eq (g2 := F0 m 634 ls [.int (xs 3), .int (xs 2), .int (xs 1), .ref a1]) rfl ?_
  obtain ⟨hPc, hDc, hFc⟩ := xcut (wc := [(a1, .inr (5, [v11, v12, v13, v14, v15, v16, v17, v18, v19, v20, v21, v22, v23, v24, v25, v26, v27, v28, v29, v30, v31, v32, v33, v34, v35, v36, v37, v38, v39, v40, v41, v42]))]) hP hD hS hA [0] rfl rfl (by decide)
  refine va_callv (va_runV (C := "ValueBenchModel") (As := [.int (xs 1), .int (xs 2), .int (xs 3)]) (rest := []) ⟨hx, hb, hml, hown, htx⟩ (cM_one0_2 l hl9 D cT aK aV H.size a1 (xs 1) (xs 2) (xs 3) v11 v12 v13 v14 v15 v16 v17 v18 v19 v20 v21 v22 v23 v24 v25 v26 v27 v28 v29 v30 v31 v32 v33 v34 v35 v36 v37 v38 v39 v40 v41 v42 hto1 hto2 hto3 hto4 hf1) ⟨callB_of 3 htx (xw_goodC kw_7_123) rfl rfl rfl (htx _ kw_1_5) (htx _ kw_7_120) ⟨by decide, by decide, by decide +kernel⟩ ⟨Nat.le_of_ble_eq_true rfl, Nat.le_of_ble_eq_true rfl⟩, (htx _ kw_7_121), (htx _ kw_7_122)⟩ ⟨xPre_blind, va_recv hK hP (ci := 5) rfl (q0 := 0) rfl, (fun U hU hW => ⟨rfl, xPre_of hZ hS hFc hPc hDc hK U hU hW⟩)⟩ rfl rfl hl.1 rfl (lv_room (Nat.le_of_ble_eq_true rfl)) dL_law_634 ⟨Nat.le_of_ble_eq_true rfl, Nat.le_of_ble_eq_true rfl⟩) hS (fun q _ h => hFc q h) hFc (fun u9 t H1 locs ht hvm hr9 hB hz1 hk1 hS => ?_)
  obtain ⟨hP1, hK1, hD1⟩ := hB
  rw [ht] at hP1
  obtain ⟨hP, hD⟩ := xjoin (W := [(a2, .inl (cT 2, 1, .inr (.inl f43))), (a0, .inr (0, [v3, v4, v5, v6, v7, v8, v9, v10])), (a1, .inr (5, [.int 1, v12, .int 0, v14, .int 0, v16, v17, .int 0, v19, .int 0, v21, v22, .int 0, v24, v25, v26, v27, v28, v29, v30, v31, v32, .int 0, .int 1000000000, v35, v36, v37, v38, v39, v40, v41, v42]))]) hP hD [0] [1, 2] 2 rfl rfl (by decide) (by decide) hk1 hFc hP1 hD1
  generalize H1 = H at hP hS ⊢
  refine lv_aload_n hx hb dL_law_637 rfl (lv_at hl 3 rfl) ?_
  obtain ⟨hPc, hDc, hFc⟩ := xcut (wc := [(a1, .inr (5, [.int 1, v12, .int 0, v14, .int 0, v16, v17, .int 0, v19, .int 0, v21, v22, .int 0, v24, v25, v26, v27, v28, v29, v30, v31, v32, .int 0, .int 1000000000, v35, v36, v37, v38, v39, v40, v41, v42]))]) hP hD hS hA [2] rfl rfl (by decide)
  refine va_calli (va_runV (C := "ValueBenchModel") (As := []) (rest := []) ⟨hx, hb, hml, hown, htx⟩ (cM_thrown_1 l hl9 D cT aK aV H.size a1 v12 (.int 0) v14 (.int 0) v16 v17 (.int 0) v19 (.int 0) v21 v22 (.int 0) v24 v25 v26 v27 v28 v29 v30 v31 v32 (.int 0) (.int 1000000000) v35 v36 v37 v38 v39 v40 v41 v42) ⟨callB_of 0 htx (xw_goodC kw_5_187) rfl rfl rfl (htx _ kw_1_5) (htx _ kw_5_184) ⟨by decide, by decide, by decide +kernel⟩ ⟨Nat.le_of_ble_eq_true rfl, Nat.le_of_ble_eq_true rfl⟩, (htx _ kw_5_185), (htx _ kw_5_186)⟩ ⟨xPre_blind, va_recv hK hP (ci := 5) rfl (q0 := 2) rfl, (fun U hU hW => ⟨rfl, xPre_of hZ hS hFc hPc hDc hK U hU hW⟩)⟩ rfl rfl hl.1 rfl (lv_room (Nat.le_of_ble_eq_true rfl)) dL_law_638 ⟨Nat.le_of_ble_eq_true rfl, Nat.le_of_ble_eq_true rfl⟩) hS (fun q _ h => hFc q h) hFc (fun r2 u9 t H1 locs ht hvm hr9 hB hz1 hk1 hS => ?_)
  obtain ⟨hP1, hK1, hD1⟩ := hB
  rw [ht] at hP1
  obtain ⟨hP, hD⟩ := xjoin (W := [(a2, .inl (cT 2, 1, .inr (.inl f43))), (a0, .inr (0, [v3, v4, v5, v6, v7, v8, v9, v10])), (a1, .inr (5, [.int 1, v12, .int 0, v14, .int 0, v16, v17, .int 0, v19, .int 0, v21, v22, .int 0, v24, v25, v26, v27, v28, v29, v30, v31, v32, .int 0, .int 1000000000, v35, v36, v37, v38, v39, v40, v41, v42]))]) hP hD [2] [0, 1] 2 rfl rfl (by decide) (by decide) hk1 hFc hP1 hD1
  generalize H1 = H at hP hS ⊢
  rw [hr9]
  refine W.eq (g2 := F0 m 641 ls [.int 1]) rfl ?_
  refine lv_iload hx hb dL_law_641 (lv_at hl 0 rfl) ?_
  refine lv_icmp_eq (tgt := 648) hx hb dL_law_643 (by decide) (fun _ => ?_) (fun h => ((by revert h; decide : False)).elim)
  refine lv_goto (tgt := 906) hx hb dL_law_648 (by decide) ?_
  refine lv_iinc (v := 6) (lv' := [(4, .int 6), (5, .int 1), (3, .ref a2), (2, .ref a1), (1, .ref a0), (0, .ref b)]) hx hb dL_law_906 hl (k := 1) rfl (by decide) (by decide) rfl (fun ls hl => ?_)
  refine lv_goto (tgt := 23) hx hb dL_law_909 (by decide) ?_
  refine lv_iload hx hb dL_law_23 (lv_at hl 0 rfl) ?_
  refine lv_aload_n hx hb dL_law_25 rfl (lv_at hl 5 rfl) ?_
  refine va_slen hx hb hXs hbl hbA hS dL_law_26 ?_
  refine W.eq (g2 := F0 m 27 ls [.int 6, .int 6]) rfl ?_
  refine lv_bipush (v := 6) hx hb dL_law_27 (by decide) ?_
  refine lv_isub hx hb dL_law_29 ?_
  refine W.eq (g2 := F0 m 30 ls [.int 0, .int 6]) rfl ?_
  refine lv_icmp_gt (tgt := 912) hx hb dL_law_30 (by decide) (fun _ => ?_) (fun h => ((by revert h; decide : False)).elim)
  refine lv_iconst (v := 1) hx hb dL_law_912 (by decide) ?_
  exact va_forget (fun q h => hA2 _ (hS.2.2 q h)) (W.widen (k := 600002) (n := 7302232) (Nat.le_of_ble_eq_true rfl) (Nat.le_of_ble_eq_true rfl) (lw_ret hx hb hr hlocks dL_law_913))
set_option maxHeartbeats 400000000 in
set_option maxRecDepth 100000 in
theorem lf_one_fhi {p : Program} {e : Env} {s : State} {m : MethodId} {below : List Frame} {meth : Method} {c : Code} (l : Launch) (hl9 : l.stackTraces = false) (D : va_G) (cT : Nat → ClassId) (aK aV : Nat → Nat) {A : Nat → Prop} {b : Nat} {xs : Nat → Int32} (C : xLw p s m meth c b D cT aK aV A) {H : Heap} {locs : List Loc} {ls : Array Slot} (a0 : Nat) (a1 : Nat) (a2 : Nat) (v3 : Value) (v4 : Value) (v5 : Value) (v6 : Value) (v7 : Value) (v8 : Value) (v9 : Value) (v10 : Value) (v11 : Value) (v12 : Value) (v13 : Value) (v14 : Value) (v15 : Value) (v16 : Value) (v17 : Value) (v18 : Value) (v19 : Value) (v20 : Value) (v21 : Value) (v22 : Value) (v23 : Value) (v24 : Value) (v25 : Value) (v26 : Value) (v27 : Value) (v28 : Value) (v29 : Value) (v30 : Value) (v31 : Value) (v32 : Value) (v33 : Value) (v34 : Value) (v35 : Value) (v36 : Value) (v37 : Value) (v38 : Value) (v39 : Value) (v40 : Value) (v41 : Value) (v42 : Value) (f43 : Nat → Int64) (hto1 : ¬ (xs 1) < 0) (hto2 : ¬ 7 < (xs 1)) (hto3 : (xs 1) ≤ 7) (hto4 : vp_in (xs 1) 8) (hf1 : ¬ (xs 2) < 0) (hf2 : 13 < (xs 2)) (hf3 : ¬ (xs 2) ≤ 13) (hXs : va_X b 6 xs s s.heap) (hP : va_P D xcl [(a0, .inr (0, [v3, v4, v5, v6, v7, v8, v9, v10])), (a1, .inr (5, [v11, v12, v13, v14, v15, v16, v17, v18, v19, v20, v21, v22, v23, v24, v25, v26, v27, v28, v29, v30, v31, v32, v33, v34, v35, v36, v37, v38, v39, v40, v41, v42])), (a2, .inl (cT 2, 1, .inr (.inl f43)))] H) (hD : va_D A [(a0, .inr (0, [v3, v4, v5, v6, v7, v8, v9, v10])), (a1, .inr (5, [v11, v12, v13, v14, v15, v16, v17, v18, v19, v20, v21, v22, v23, v24, v25, v26, v27, v28, v29, v30, v31, v32, v33, v34, v35, v36, v37, v38, v39, v40, v41, v42])), (a2, .inl (cT 2, 1, .inr (.inl f43)))]) (hS : va_S A s.heap H locs) (hl : lv_has ls 8 [(4, .int 0), (3, .ref a2), (2, .ref a1), (1, .ref a0), (0, .ref b)]) : W p l e room_1 s m #[Value.ref b] below meth c H locs 54 107242 (lw_Z below #[Value.ref b] s) (F0 m 591 ls []) := by
  obtain ⟨hx, hb, hr, hml, hown, htx, hbl, hbA, hlocks, hK, hZ, hA, hA2⟩ := C
  refine lv_aload_n hx hb dL_law_591 rfl (lv_at hl 3 rfl) ?_
  refine lv_aload_n hx hb dL_law_592 rfl (lv_at hl 4 rfl) ?_
  refine lv_iload hx hb dL_law_593 (lv_at hl 0 rfl) ?_
  refine lv_iconst (v := 1) hx hb dL_law_595 (by decide) ?_
  refine lv_iadd hx hb dL_law_596 ?_
  refine W.eq (g2 := F0 m 597 ls [.int 1, .ref b, .ref a0]) rfl ?_
  refine va_sld hx hb hXs hbl hbA hS (i := 1) (show ¬ ((1 : Int32) < 0 ∨ 6 ≤ (1 : Int32).toNatClampNeg) by decide) dL_law_597 ?_
  refine W.eq (g2 := F0 m 598 ls [.int (xs 1), .ref a0]) rfl ?_
  refine lv_aload_n hx hb dL_law_598 rfl (lv_at hl 4 rfl) ?_
  refine lv_iload hx hb dL_law_599 (lv_at hl 0 rfl) ?_
  refine lv_iconst (v := 2) hx hb dL_law_601 (by decide) ?_
  refine lv_iadd hx hb dL_law_602 ?_
  refine W.eq (g2 := F0 m 603 ls [.int 2, .ref b, .int (xs 1), .ref a0]) rfl ?_
  refine va_sld hx hb hXs hbl hbA hS (i := 2) (show ¬ ((2 : Int32) < 0 ∨ 6 ≤ (2 : Int32).toNatClampNeg) by decide) dL_law_603 ?_
  refine W.eq (g2 := F0 m 604 ls [.int (xs 2), .int (xs 1), .ref a0]) rfl ?_
  refine lv_aload_n hx hb dL_law_604 rfl (lv_at hl 4 rfl) ?_
  refine lv_iload hx hb dL_law_605 (lv_at hl 0 rfl) ?_
  refine lv_iconst (v := 3) hx hb dL_law_607 (by decide) ?_
  refine lv_iadd hx hb dL_law_608 ?_
  refine W.eq (g2 := F0 m 609 ls [.int 3, .ref b, .int (xs 2), .int (xs 1), .ref a0]) rfl ?_
  refine va_sld hx hb hXs hbl hbA hS (i := 3) (show ¬ ((3 : Int32) < 0 ∨ 6 ≤ (3 : Int32).toNatClampNeg) by decide) dL_law_609 ?_
  refine W.eq (g2 := F0 m 610 ls [.int (xs 3), .int (xs 2), .int (xs 1), .ref a0]) rfl ?_
  obtain ⟨hPc, hDc, hFc⟩ := xcut (wc := [(a0, .inr (0, [v3, v4, v5, v6, v7, v8, v9, v10]))]) hP hD hS hA [0] rfl rfl (by decide)
  refine va_calli (vx_runSW (As := [.ref a0, .int (xs 1), .int (xs 2), .int (xs 3)]) (rest := []) ⟨hx, hb, hml, hown, htx⟩ (cL_one_3 l hl9 D cT aK aV H.size a0 (xs 1) (xs 2) (xs 3) v3 v4 v5 v6 v7 v8 v9 v10 hto1 hto2 hto3 hto4 hf1 hf2 hf3) (xcSW 4 htx (xw_goodC kw_4_21) rfl rfl rfl (htx _ kw_1_0) (htx _ kw_4_19) ⟨by decide, by decide, by decide +kernel⟩ ⟨Nat.le_of_ble_eq_true rfl, Nat.le_of_ble_eq_true rfl⟩ (htx _ kw_4_20)) ⟨xPre_blind, (fun U hU hW => ⟨rfl, xPre_of hZ hS hFc hPc hDc hK U hU hW⟩)⟩ rfl rfl hl.1 rfl (lv_room (Nat.le_of_ble_eq_true rfl)) dL_law_610 ⟨Nat.le_of_ble_eq_true rfl, Nat.le_of_ble_eq_true rfl⟩) hS (fun q _ h => hFc q h) hFc (fun r1 u9 t H1 locs ht hvm hr9 hB hz1 hk1 hS => ?_)
  obtain ⟨hP1, hK1, hD1⟩ := hB
  rw [ht] at hP1
  obtain ⟨hP, hD⟩ := xjoin (W := [(a1, .inr (5, [v11, v12, v13, v14, v15, v16, v17, v18, v19, v20, v21, v22, v23, v24, v25, v26, v27, v28, v29, v30, v31, v32, v33, v34, v35, v36, v37, v38, v39, v40, v41, v42])), (a2, .inl (cT 2, 1, .inr (.inl f43))), (a0, .inr (0, [v3, v4, v5, v6, v7, v8, v9, v10]))]) hP hD [0] [1, 2] 2 rfl rfl (by decide) (by decide) hk1 hFc hP1 hD1
  generalize H1 = H at hP hS ⊢
  rw [hr9]
  refine W.eq (g2 := F0 m 613 ls [.int 1]) rfl ?_
  refine lv_istore (lv' := [(5, .int 1), (4, .int 0), (3, .ref a2), (2, .ref a1), (1, .ref a0), (0, .ref b)]) hx hb dL_law_613 hl (by decide) rfl (fun ls hl => ?_)
  refine lv_aload_n hx hb dL_law_615 rfl (lv_at hl 3 rfl) ?_
  refine lv_aload_n hx hb dL_law_616 rfl (lv_at hl 5 rfl) ?_
  refine lv_iload hx hb dL_law_617 (lv_at hl 1 rfl) ?_
  refine lv_iconst (v := 1) hx hb dL_law_619 (by decide) ?_
  refine lv_iadd hx hb dL_law_620 ?_
  refine W.eq (g2 := F0 m 621 ls [.int 1, .ref b, .ref a1]) rfl ?_
  refine va_sld hx hb hXs hbl hbA hS (i := 1) (show ¬ ((1 : Int32) < 0 ∨ 6 ≤ (1 : Int32).toNatClampNeg) by decide) dL_law_621 ?_
  refine W.eq (g2 := F0 m 622 ls [.int (xs 1), .ref a1]) rfl ?_
  refine lv_aload_n hx hb dL_law_622 rfl (lv_at hl 5 rfl) ?_
  refine lv_iload hx hb dL_law_623 (lv_at hl 1 rfl) ?_
  refine lv_iconst (v := 2) hx hb dL_law_625 (by decide) ?_
  refine lv_iadd hx hb dL_law_626 ?_
  refine W.eq (g2 := F0 m 627 ls [.int 2, .ref b, .int (xs 1), .ref a1]) rfl ?_
  refine va_sld hx hb hXs hbl hbA hS (i := 2) (show ¬ ((2 : Int32) < 0 ∨ 6 ≤ (2 : Int32).toNatClampNeg) by decide) dL_law_627 ?_
  refine W.eq (g2 := F0 m 628 ls [.int (xs 2), .int (xs 1), .ref a1]) rfl ?_
  refine lv_aload_n hx hb dL_law_628 rfl (lv_at hl 5 rfl) ?_
  refine lv_iload hx hb dL_law_629 (lv_at hl 1 rfl) ?_
  refine lv_iconst (v := 3) hx hb dL_law_631 (by decide) ?_
  refine lv_iadd hx hb dL_law_632 ?_
  refine W.eq (g2 := F0 m 633 ls [.int 3, .ref b, .int (xs 2), .int (xs 1), .ref a1]) rfl ?_
  refine va_sld hx hb hXs hbl hbA hS (i := 3) (show ¬ ((3 : Int32) < 0 ∨ 6 ≤ (3 : Int32).toNatClampNeg) by decide) dL_law_633 ?_
  refine W.eq (g2 := F0 m 634 ls [.int (xs 3), .int (xs 2), .int (xs 1), .ref a1]) rfl ?_
  obtain ⟨hPc, hDc, hFc⟩ := xcut (wc := [(a1, .inr (5, [v11, v12, v13, v14, v15, v16, v17, v18, v19, v20, v21, v22, v23, v24, v25, v26, v27, v28, v29, v30, v31, v32, v33, v34, v35, v36, v37, v38, v39, v40, v41, v42]))]) hP hD hS hA [0] rfl rfl (by decide)
  refine va_callv (va_runV (C := "ValueBenchModel") (As := [.int (xs 1), .int (xs 2), .int (xs 3)]) (rest := []) ⟨hx, hb, hml, hown, htx⟩ (cM_one0_3 l hl9 D cT aK aV H.size a1 (xs 1) (xs 2) (xs 3) v11 v12 v13 v14 v15 v16 v17 v18 v19 v20 v21 v22 v23 v24 v25 v26 v27 v28 v29 v30 v31 v32 v33 v34 v35 v36 v37 v38 v39 v40 v41 v42 hto1 hto2 hto3 hto4 hf1 hf2 hf3) ⟨callB_of 3 htx (xw_goodC kw_7_123) rfl rfl rfl (htx _ kw_1_5) (htx _ kw_7_120) ⟨by decide, by decide, by decide +kernel⟩ ⟨Nat.le_of_ble_eq_true rfl, Nat.le_of_ble_eq_true rfl⟩, (htx _ kw_7_121), (htx _ kw_7_122)⟩ ⟨xPre_blind, va_recv hK hP (ci := 5) rfl (q0 := 0) rfl, (fun U hU hW => ⟨rfl, xPre_of hZ hS hFc hPc hDc hK U hU hW⟩)⟩ rfl rfl hl.1 rfl (lv_room (Nat.le_of_ble_eq_true rfl)) dL_law_634 ⟨Nat.le_of_ble_eq_true rfl, Nat.le_of_ble_eq_true rfl⟩) hS (fun q _ h => hFc q h) hFc (fun u9 t H1 locs ht hvm hr9 hB hz1 hk1 hS => ?_)
  obtain ⟨hP1, hK1, hD1⟩ := hB
  rw [ht] at hP1
  obtain ⟨hP, hD⟩ := xjoin (W := [(a2, .inl (cT 2, 1, .inr (.inl f43))), (a0, .inr (0, [v3, v4, v5, v6, v7, v8, v9, v10])), (a1, .inr (5, [.int 1, v12, .int 0, v14, .int 0, v16, v17, .int 0, v19, .int 0, v21, v22, .int 0, v24, v25, v26, v27, v28, v29, v30, v31, v32, .int 0, .int 1000000000, v35, v36, v37, v38, v39, v40, v41, v42]))]) hP hD [0] [1, 2] 2 rfl rfl (by decide) (by decide) hk1 hFc hP1 hD1
  generalize H1 = H at hP hS ⊢
  refine lv_aload_n hx hb dL_law_637 rfl (lv_at hl 3 rfl) ?_
  obtain ⟨hPc, hDc, hFc⟩ := xcut (wc := [(a1, .inr (5, [.int 1, v12, .int 0, v14, .int 0, v16, v17, .int 0, v19, .int 0, v21, v22, .int 0, v24, v25, v26, v27, v28, v29, v30, v31, v32, .int 0, .int 1000000000, v35, v36, v37, v38, v39, v40, v41, v42]))]) hP hD hS hA [2] rfl rfl (by decide)
  refine va_calli (va_runV (C := "ValueBenchModel") (As := []) (rest := []) ⟨hx, hb, hml, hown, htx⟩ (cM_thrown_1 l hl9 D cT aK aV H.size a1 v12 (.int 0) v14 (.int 0) v16 v17 (.int 0) v19 (.int 0) v21 v22 (.int 0) v24 v25 v26 v27 v28 v29 v30 v31 v32 (.int 0) (.int 1000000000) v35 v36 v37 v38 v39 v40 v41 v42) ⟨callB_of 0 htx (xw_goodC kw_5_187) rfl rfl rfl (htx _ kw_1_5) (htx _ kw_5_184) ⟨by decide, by decide, by decide +kernel⟩ ⟨Nat.le_of_ble_eq_true rfl, Nat.le_of_ble_eq_true rfl⟩, (htx _ kw_5_185), (htx _ kw_5_186)⟩ ⟨xPre_blind, va_recv hK hP (ci := 5) rfl (q0 := 2) rfl, (fun U hU hW => ⟨rfl, xPre_of hZ hS hFc hPc hDc hK U hU hW⟩)⟩ rfl rfl hl.1 rfl (lv_room (Nat.le_of_ble_eq_true rfl)) dL_law_638 ⟨Nat.le_of_ble_eq_true rfl, Nat.le_of_ble_eq_true rfl⟩) hS (fun q _ h => hFc q h) hFc (fun r2 u9 t H1 locs ht hvm hr9 hB hz1 hk1 hS => ?_)
  obtain ⟨hP1, hK1, hD1⟩ := hB
  rw [ht] at hP1
  obtain ⟨hP, hD⟩ := xjoin (W := [(a2, .inl (cT 2, 1, .inr (.inl f43))), (a0, .inr (0, [v3, v4, v5, v6, v7, v8, v9, v10])), (a1, .inr (5, [.int 1, v12, .int 0, v14, .int 0, v16, v17, .int 0, v19, .int 0, v21, v22, .int 0, v24, v25, v26, v27, v28, v29, v30, v31, v32, .int 0, .int 1000000000, v35, v36, v37, v38, v39, v40, v41, v42]))]) hP hD [2] [0, 1] 2 rfl rfl (by decide) (by decide) hk1 hFc hP1 hD1
  generalize H1 = H at hP hS ⊢
  rw [hr9]
  refine W.eq (g2 := F0 m 641 ls [.int 1]) rfl ?_
  refine lv_iload hx hb dL_law_641 (lv_at hl 0 rfl) ?_
  refine lv_icmp_eq (tgt := 648) hx hb dL_law_643 (by decide) (fun _ => ?_) (fun h => ((by revert h; decide : False)).elim)
  refine lv_goto (tgt := 906) hx hb dL_law_648 (by decide) ?_
  refine lv_iinc (v := 6) (lv' := [(4, .int 6), (5, .int 1), (3, .ref a2), (2, .ref a1), (1, .ref a0), (0, .ref b)]) hx hb dL_law_906 hl (k := 1) rfl (by decide) (by decide) rfl (fun ls hl => ?_)
  refine lv_goto (tgt := 23) hx hb dL_law_909 (by decide) ?_
  refine lv_iload hx hb dL_law_23 (lv_at hl 0 rfl) ?_
  refine lv_aload_n hx hb dL_law_25 rfl (lv_at hl 5 rfl) ?_
  refine va_slen hx hb hXs hbl hbA hS dL_law_26 ?_
  refine W.eq (g2 := F0 m 27 ls [.int 6, .int 6]) rfl ?_
  refine lv_bipush (v := 6) hx hb dL_law_27 (by decide) ?_
  refine lv_isub hx hb dL_law_29 ?_
  refine W.eq (g2 := F0 m 30 ls [.int 0, .int 6]) rfl ?_
  refine lv_icmp_gt (tgt := 912) hx hb dL_law_30 (by decide) (fun _ => ?_) (fun h => ((by revert h; decide : False)).elim)
  refine lv_iconst (v := 1) hx hb dL_law_912 (by decide) ?_
  exact va_forget (fun q h => hA2 _ (hS.2.2 q h)) (W.widen (k := 600002) (n := 7302232) (Nat.le_of_ble_eq_true rfl) (Nat.le_of_ble_eq_true rfl) (lw_ret hx hb hr hlocks dL_law_913))
set_option maxHeartbeats 400000000 in
set_option maxRecDepth 100000 in
theorem lf_one_alo {p : Program} {e : Env} {s : State} {m : MethodId} {below : List Frame} {meth : Method} {c : Code} (l : Launch) (hl9 : l.stackTraces = false) (D : va_G) (cT : Nat → ClassId) (aK aV : Nat → Nat) {A : Nat → Prop} {b : Nat} {xs : Nat → Int32} (C : xLw p s m meth c b D cT aK aV A) {H : Heap} {locs : List Loc} {ls : Array Slot} (a0 : Nat) (a1 : Nat) (a2 : Nat) (v3 : Value) (v4 : Value) (v5 : Value) (v6 : Value) (v7 : Value) (v8 : Value) (v9 : Value) (v10 : Value) (v11 : Value) (v12 : Value) (v13 : Value) (v14 : Value) (v15 : Value) (v16 : Value) (v17 : Value) (v18 : Value) (v19 : Value) (v20 : Value) (v21 : Value) (v22 : Value) (v23 : Value) (v24 : Value) (v25 : Value) (v26 : Value) (v27 : Value) (v28 : Value) (v29 : Value) (v30 : Value) (v31 : Value) (v32 : Value) (v33 : Value) (v34 : Value) (v35 : Value) (v36 : Value) (v37 : Value) (v38 : Value) (v39 : Value) (v40 : Value) (v41 : Value) (v42 : Value) (f43 : Nat → Int64) (hto1 : ¬ (xs 1) < 0) (hto2 : ¬ 7 < (xs 1)) (hto3 : (xs 1) ≤ 7) (hto4 : vp_in (xs 1) 8) (hf1 : ¬ (xs 2) < 0) (hf2 : ¬ 13 < (xs 2)) (hf3 : (xs 2) ≤ 13) (ha1 : (xs 3) < 0) (hXs : va_X b 6 xs s s.heap) (hP : va_P D xcl [(a0, .inr (0, [v3, v4, v5, v6, v7, v8, v9, v10])), (a1, .inr (5, [v11, v12, v13, v14, v15, v16, v17, v18, v19, v20, v21, v22, v23, v24, v25, v26, v27, v28, v29, v30, v31, v32, v33, v34, v35, v36, v37, v38, v39, v40, v41, v42])), (a2, .inl (cT 2, 1, .inr (.inl f43)))] H) (hD : va_D A [(a0, .inr (0, [v3, v4, v5, v6, v7, v8, v9, v10])), (a1, .inr (5, [v11, v12, v13, v14, v15, v16, v17, v18, v19, v20, v21, v22, v23, v24, v25, v26, v27, v28, v29, v30, v31, v32, v33, v34, v35, v36, v37, v38, v39, v40, v41, v42])), (a2, .inl (cT 2, 1, .inr (.inl f43)))]) (hS : va_S A s.heap H locs) (hl : lv_has ls 8 [(4, .int 0), (3, .ref a2), (2, .ref a1), (1, .ref a0), (0, .ref b)]) : W p l e room_1 s m #[Value.ref b] below meth c H locs 54 107242 (lw_Z below #[Value.ref b] s) (F0 m 591 ls []) := by
  obtain ⟨hx, hb, hr, hml, hown, htx, hbl, hbA, hlocks, hK, hZ, hA, hA2⟩ := C
  refine lv_aload_n hx hb dL_law_591 rfl (lv_at hl 3 rfl) ?_
  refine lv_aload_n hx hb dL_law_592 rfl (lv_at hl 4 rfl) ?_
  refine lv_iload hx hb dL_law_593 (lv_at hl 0 rfl) ?_
  refine lv_iconst (v := 1) hx hb dL_law_595 (by decide) ?_
  refine lv_iadd hx hb dL_law_596 ?_
  refine W.eq (g2 := F0 m 597 ls [.int 1, .ref b, .ref a0]) rfl ?_
  refine va_sld hx hb hXs hbl hbA hS (i := 1) (show ¬ ((1 : Int32) < 0 ∨ 6 ≤ (1 : Int32).toNatClampNeg) by decide) dL_law_597 ?_
  refine W.eq (g2 := F0 m 598 ls [.int (xs 1), .ref a0]) rfl ?_
  refine lv_aload_n hx hb dL_law_598 rfl (lv_at hl 4 rfl) ?_
  refine lv_iload hx hb dL_law_599 (lv_at hl 0 rfl) ?_
  refine lv_iconst (v := 2) hx hb dL_law_601 (by decide) ?_
  refine lv_iadd hx hb dL_law_602 ?_
  refine W.eq (g2 := F0 m 603 ls [.int 2, .ref b, .int (xs 1), .ref a0]) rfl ?_
  refine va_sld hx hb hXs hbl hbA hS (i := 2) (show ¬ ((2 : Int32) < 0 ∨ 6 ≤ (2 : Int32).toNatClampNeg) by decide) dL_law_603 ?_
  refine W.eq (g2 := F0 m 604 ls [.int (xs 2), .int (xs 1), .ref a0]) rfl ?_
  refine lv_aload_n hx hb dL_law_604 rfl (lv_at hl 4 rfl) ?_
  refine lv_iload hx hb dL_law_605 (lv_at hl 0 rfl) ?_
  refine lv_iconst (v := 3) hx hb dL_law_607 (by decide) ?_
  refine lv_iadd hx hb dL_law_608 ?_
  refine W.eq (g2 := F0 m 609 ls [.int 3, .ref b, .int (xs 2), .int (xs 1), .ref a0]) rfl ?_
  refine va_sld hx hb hXs hbl hbA hS (i := 3) (show ¬ ((3 : Int32) < 0 ∨ 6 ≤ (3 : Int32).toNatClampNeg) by decide) dL_law_609 ?_
  refine W.eq (g2 := F0 m 610 ls [.int (xs 3), .int (xs 2), .int (xs 1), .ref a0]) rfl ?_
  obtain ⟨hPc, hDc, hFc⟩ := xcut (wc := [(a0, .inr (0, [v3, v4, v5, v6, v7, v8, v9, v10]))]) hP hD hS hA [0] rfl rfl (by decide)
  refine va_calli (vx_runSW (As := [.ref a0, .int (xs 1), .int (xs 2), .int (xs 3)]) (rest := []) ⟨hx, hb, hml, hown, htx⟩ (cL_one_4 l hl9 D cT aK aV H.size a0 (xs 1) (xs 2) (xs 3) v3 v4 v5 v6 v7 v8 v9 v10 hto1 hto2 hto3 hto4 hf1 hf2 hf3 ha1) (xcSW 4 htx (xw_goodC kw_4_21) rfl rfl rfl (htx _ kw_1_0) (htx _ kw_4_19) ⟨by decide, by decide, by decide +kernel⟩ ⟨Nat.le_of_ble_eq_true rfl, Nat.le_of_ble_eq_true rfl⟩ (htx _ kw_4_20)) ⟨xPre_blind, (fun U hU hW => ⟨rfl, xPre_of hZ hS hFc hPc hDc hK U hU hW⟩)⟩ rfl rfl hl.1 rfl (lv_room (Nat.le_of_ble_eq_true rfl)) dL_law_610 ⟨Nat.le_of_ble_eq_true rfl, Nat.le_of_ble_eq_true rfl⟩) hS (fun q _ h => hFc q h) hFc (fun r1 u9 t H1 locs ht hvm hr9 hB hz1 hk1 hS => ?_)
  obtain ⟨hP1, hK1, hD1⟩ := hB
  rw [ht] at hP1
  obtain ⟨hP, hD⟩ := xjoin (W := [(a1, .inr (5, [v11, v12, v13, v14, v15, v16, v17, v18, v19, v20, v21, v22, v23, v24, v25, v26, v27, v28, v29, v30, v31, v32, v33, v34, v35, v36, v37, v38, v39, v40, v41, v42])), (a2, .inl (cT 2, 1, .inr (.inl f43))), (a0, .inr (0, [v3, v4, v5, v6, v7, v8, v9, v10]))]) hP hD [0] [1, 2] 2 rfl rfl (by decide) (by decide) hk1 hFc hP1 hD1
  generalize H1 = H at hP hS ⊢
  rw [hr9]
  refine W.eq (g2 := F0 m 613 ls [.int 1]) rfl ?_
  refine lv_istore (lv' := [(5, .int 1), (4, .int 0), (3, .ref a2), (2, .ref a1), (1, .ref a0), (0, .ref b)]) hx hb dL_law_613 hl (by decide) rfl (fun ls hl => ?_)
  refine lv_aload_n hx hb dL_law_615 rfl (lv_at hl 3 rfl) ?_
  refine lv_aload_n hx hb dL_law_616 rfl (lv_at hl 5 rfl) ?_
  refine lv_iload hx hb dL_law_617 (lv_at hl 1 rfl) ?_
  refine lv_iconst (v := 1) hx hb dL_law_619 (by decide) ?_
  refine lv_iadd hx hb dL_law_620 ?_
  refine W.eq (g2 := F0 m 621 ls [.int 1, .ref b, .ref a1]) rfl ?_
  refine va_sld hx hb hXs hbl hbA hS (i := 1) (show ¬ ((1 : Int32) < 0 ∨ 6 ≤ (1 : Int32).toNatClampNeg) by decide) dL_law_621 ?_
  refine W.eq (g2 := F0 m 622 ls [.int (xs 1), .ref a1]) rfl ?_
  refine lv_aload_n hx hb dL_law_622 rfl (lv_at hl 5 rfl) ?_
  refine lv_iload hx hb dL_law_623 (lv_at hl 1 rfl) ?_
  refine lv_iconst (v := 2) hx hb dL_law_625 (by decide) ?_
  refine lv_iadd hx hb dL_law_626 ?_
  refine W.eq (g2 := F0 m 627 ls [.int 2, .ref b, .int (xs 1), .ref a1]) rfl ?_
  refine va_sld hx hb hXs hbl hbA hS (i := 2) (show ¬ ((2 : Int32) < 0 ∨ 6 ≤ (2 : Int32).toNatClampNeg) by decide) dL_law_627 ?_
  refine W.eq (g2 := F0 m 628 ls [.int (xs 2), .int (xs 1), .ref a1]) rfl ?_
  refine lv_aload_n hx hb dL_law_628 rfl (lv_at hl 5 rfl) ?_
  refine lv_iload hx hb dL_law_629 (lv_at hl 1 rfl) ?_
  refine lv_iconst (v := 3) hx hb dL_law_631 (by decide) ?_
  refine lv_iadd hx hb dL_law_632 ?_
  refine W.eq (g2 := F0 m 633 ls [.int 3, .ref b, .int (xs 2), .int (xs 1), .ref a1]) rfl ?_
  refine va_sld hx hb hXs hbl hbA hS (i := 3) (show ¬ ((3 : Int32) < 0 ∨ 6 ≤ (3 : Int32).toNatClampNeg) by decide) dL_law_633 ?_
  refine W.eq (g2 := F0 m 634 ls [.int (xs 3), .int (xs 2), .int (xs 1), .ref a1]) rfl ?_
  obtain ⟨hPc, hDc, hFc⟩ := xcut (wc := [(a1, .inr (5, [v11, v12, v13, v14, v15, v16, v17, v18, v19, v20, v21, v22, v23, v24, v25, v26, v27, v28, v29, v30, v31, v32, v33, v34, v35, v36, v37, v38, v39, v40, v41, v42]))]) hP hD hS hA [0] rfl rfl (by decide)
  refine va_callv (va_runV (C := "ValueBenchModel") (As := [.int (xs 1), .int (xs 2), .int (xs 3)]) (rest := []) ⟨hx, hb, hml, hown, htx⟩ (cM_one0_4 l hl9 D cT aK aV H.size a1 (xs 1) (xs 2) (xs 3) v11 v12 v13 v14 v15 v16 v17 v18 v19 v20 v21 v22 v23 v24 v25 v26 v27 v28 v29 v30 v31 v32 v33 v34 v35 v36 v37 v38 v39 v40 v41 v42 hto1 hto2 hto3 hto4 hf1 hf2 hf3 ha1) ⟨callB_of 3 htx (xw_goodC kw_7_123) rfl rfl rfl (htx _ kw_1_5) (htx _ kw_7_120) ⟨by decide, by decide, by decide +kernel⟩ ⟨Nat.le_of_ble_eq_true rfl, Nat.le_of_ble_eq_true rfl⟩, (htx _ kw_7_121), (htx _ kw_7_122)⟩ ⟨xPre_blind, va_recv hK hP (ci := 5) rfl (q0 := 0) rfl, (fun U hU hW => ⟨rfl, xPre_of hZ hS hFc hPc hDc hK U hU hW⟩)⟩ rfl rfl hl.1 rfl (lv_room (Nat.le_of_ble_eq_true rfl)) dL_law_634 ⟨Nat.le_of_ble_eq_true rfl, Nat.le_of_ble_eq_true rfl⟩) hS (fun q _ h => hFc q h) hFc (fun u9 t H1 locs ht hvm hr9 hB hz1 hk1 hS => ?_)
  obtain ⟨hP1, hK1, hD1⟩ := hB
  rw [ht] at hP1
  obtain ⟨hP, hD⟩ := xjoin (W := [(a2, .inl (cT 2, 1, .inr (.inl f43))), (a0, .inr (0, [v3, v4, v5, v6, v7, v8, v9, v10])), (a1, .inr (5, [.int 1, v12, .int 0, v14, .int 0, v16, v17, .int 0, v19, .int 0, v21, v22, .int 0, v24, v25, v26, v27, v28, v29, v30, v31, v32, .int 0, .int 1000000000, v35, v36, v37, v38, v39, v40, v41, v42]))]) hP hD [0] [1, 2] 2 rfl rfl (by decide) (by decide) hk1 hFc hP1 hD1
  generalize H1 = H at hP hS ⊢
  refine lv_aload_n hx hb dL_law_637 rfl (lv_at hl 3 rfl) ?_
  obtain ⟨hPc, hDc, hFc⟩ := xcut (wc := [(a1, .inr (5, [.int 1, v12, .int 0, v14, .int 0, v16, v17, .int 0, v19, .int 0, v21, v22, .int 0, v24, v25, v26, v27, v28, v29, v30, v31, v32, .int 0, .int 1000000000, v35, v36, v37, v38, v39, v40, v41, v42]))]) hP hD hS hA [2] rfl rfl (by decide)
  refine va_calli (va_runV (C := "ValueBenchModel") (As := []) (rest := []) ⟨hx, hb, hml, hown, htx⟩ (cM_thrown_1 l hl9 D cT aK aV H.size a1 v12 (.int 0) v14 (.int 0) v16 v17 (.int 0) v19 (.int 0) v21 v22 (.int 0) v24 v25 v26 v27 v28 v29 v30 v31 v32 (.int 0) (.int 1000000000) v35 v36 v37 v38 v39 v40 v41 v42) ⟨callB_of 0 htx (xw_goodC kw_5_187) rfl rfl rfl (htx _ kw_1_5) (htx _ kw_5_184) ⟨by decide, by decide, by decide +kernel⟩ ⟨Nat.le_of_ble_eq_true rfl, Nat.le_of_ble_eq_true rfl⟩, (htx _ kw_5_185), (htx _ kw_5_186)⟩ ⟨xPre_blind, va_recv hK hP (ci := 5) rfl (q0 := 2) rfl, (fun U hU hW => ⟨rfl, xPre_of hZ hS hFc hPc hDc hK U hU hW⟩)⟩ rfl rfl hl.1 rfl (lv_room (Nat.le_of_ble_eq_true rfl)) dL_law_638 ⟨Nat.le_of_ble_eq_true rfl, Nat.le_of_ble_eq_true rfl⟩) hS (fun q _ h => hFc q h) hFc (fun r2 u9 t H1 locs ht hvm hr9 hB hz1 hk1 hS => ?_)
  obtain ⟨hP1, hK1, hD1⟩ := hB
  rw [ht] at hP1
  obtain ⟨hP, hD⟩ := xjoin (W := [(a2, .inl (cT 2, 1, .inr (.inl f43))), (a0, .inr (0, [v3, v4, v5, v6, v7, v8, v9, v10])), (a1, .inr (5, [.int 1, v12, .int 0, v14, .int 0, v16, v17, .int 0, v19, .int 0, v21, v22, .int 0, v24, v25, v26, v27, v28, v29, v30, v31, v32, .int 0, .int 1000000000, v35, v36, v37, v38, v39, v40, v41, v42]))]) hP hD [2] [0, 1] 2 rfl rfl (by decide) (by decide) hk1 hFc hP1 hD1
  generalize H1 = H at hP hS ⊢
  rw [hr9]
  refine W.eq (g2 := F0 m 641 ls [.int 1]) rfl ?_
  refine lv_iload hx hb dL_law_641 (lv_at hl 0 rfl) ?_
  refine lv_icmp_eq (tgt := 648) hx hb dL_law_643 (by decide) (fun _ => ?_) (fun h => ((by revert h; decide : False)).elim)
  refine lv_goto (tgt := 906) hx hb dL_law_648 (by decide) ?_
  refine lv_iinc (v := 6) (lv' := [(4, .int 6), (5, .int 1), (3, .ref a2), (2, .ref a1), (1, .ref a0), (0, .ref b)]) hx hb dL_law_906 hl (k := 1) rfl (by decide) (by decide) rfl (fun ls hl => ?_)
  refine lv_goto (tgt := 23) hx hb dL_law_909 (by decide) ?_
  refine lv_iload hx hb dL_law_23 (lv_at hl 0 rfl) ?_
  refine lv_aload_n hx hb dL_law_25 rfl (lv_at hl 5 rfl) ?_
  refine va_slen hx hb hXs hbl hbA hS dL_law_26 ?_
  refine W.eq (g2 := F0 m 27 ls [.int 6, .int 6]) rfl ?_
  refine lv_bipush (v := 6) hx hb dL_law_27 (by decide) ?_
  refine lv_isub hx hb dL_law_29 ?_
  refine W.eq (g2 := F0 m 30 ls [.int 0, .int 6]) rfl ?_
  refine lv_icmp_gt (tgt := 912) hx hb dL_law_30 (by decide) (fun _ => ?_) (fun h => ((by revert h; decide : False)).elim)
  refine lv_iconst (v := 1) hx hb dL_law_912 (by decide) ?_
  exact va_forget (fun q h => hA2 _ (hS.2.2 q h)) (W.widen (k := 600002) (n := 7302232) (Nat.le_of_ble_eq_true rfl) (Nat.le_of_ble_eq_true rfl) (lw_ret hx hb hr hlocks dL_law_913))
set_option maxHeartbeats 400000000 in
set_option maxRecDepth 100000 in
theorem lf_one_ahi {p : Program} {e : Env} {s : State} {m : MethodId} {below : List Frame} {meth : Method} {c : Code} (l : Launch) (hl9 : l.stackTraces = false) (D : va_G) (cT : Nat → ClassId) (aK aV : Nat → Nat) {A : Nat → Prop} {b : Nat} {xs : Nat → Int32} (C : xLw p s m meth c b D cT aK aV A) {H : Heap} {locs : List Loc} {ls : Array Slot} (a0 : Nat) (a1 : Nat) (a2 : Nat) (v3 : Value) (v4 : Value) (v5 : Value) (v6 : Value) (v7 : Value) (v8 : Value) (v9 : Value) (v10 : Value) (v11 : Value) (v12 : Value) (v13 : Value) (v14 : Value) (v15 : Value) (v16 : Value) (v17 : Value) (v18 : Value) (v19 : Value) (v20 : Value) (v21 : Value) (v22 : Value) (v23 : Value) (v24 : Value) (v25 : Value) (v26 : Value) (v27 : Value) (v28 : Value) (v29 : Value) (v30 : Value) (v31 : Value) (v32 : Value) (v33 : Value) (v34 : Value) (v35 : Value) (v36 : Value) (v37 : Value) (v38 : Value) (v39 : Value) (v40 : Value) (v41 : Value) (v42 : Value) (f43 : Nat → Int64) (hto1 : ¬ (xs 1) < 0) (hto2 : ¬ 7 < (xs 1)) (hto3 : (xs 1) ≤ 7) (hto4 : vp_in (xs 1) 8) (hf1 : ¬ (xs 2) < 0) (hf2 : ¬ 13 < (xs 2)) (hf3 : (xs 2) ≤ 13) (ha1 : ¬ (xs 3) < 0) (ha2 : 7 < (xs 3)) (ha3 : ¬ (xs 3) ≤ 7) (hXs : va_X b 6 xs s s.heap) (hP : va_P D xcl [(a0, .inr (0, [v3, v4, v5, v6, v7, v8, v9, v10])), (a1, .inr (5, [v11, v12, v13, v14, v15, v16, v17, v18, v19, v20, v21, v22, v23, v24, v25, v26, v27, v28, v29, v30, v31, v32, v33, v34, v35, v36, v37, v38, v39, v40, v41, v42])), (a2, .inl (cT 2, 1, .inr (.inl f43)))] H) (hD : va_D A [(a0, .inr (0, [v3, v4, v5, v6, v7, v8, v9, v10])), (a1, .inr (5, [v11, v12, v13, v14, v15, v16, v17, v18, v19, v20, v21, v22, v23, v24, v25, v26, v27, v28, v29, v30, v31, v32, v33, v34, v35, v36, v37, v38, v39, v40, v41, v42])), (a2, .inl (cT 2, 1, .inr (.inl f43)))]) (hS : va_S A s.heap H locs) (hl : lv_has ls 8 [(4, .int 0), (3, .ref a2), (2, .ref a1), (1, .ref a0), (0, .ref b)]) : W p l e room_1 s m #[Value.ref b] below meth c H locs 54 107242 (lw_Z below #[Value.ref b] s) (F0 m 591 ls []) := by
  obtain ⟨hx, hb, hr, hml, hown, htx, hbl, hbA, hlocks, hK, hZ, hA, hA2⟩ := C
  refine lv_aload_n hx hb dL_law_591 rfl (lv_at hl 3 rfl) ?_
  refine lv_aload_n hx hb dL_law_592 rfl (lv_at hl 4 rfl) ?_
  refine lv_iload hx hb dL_law_593 (lv_at hl 0 rfl) ?_
  refine lv_iconst (v := 1) hx hb dL_law_595 (by decide) ?_
  refine lv_iadd hx hb dL_law_596 ?_
  refine W.eq (g2 := F0 m 597 ls [.int 1, .ref b, .ref a0]) rfl ?_
  refine va_sld hx hb hXs hbl hbA hS (i := 1) (show ¬ ((1 : Int32) < 0 ∨ 6 ≤ (1 : Int32).toNatClampNeg) by decide) dL_law_597 ?_
  refine W.eq (g2 := F0 m 598 ls [.int (xs 1), .ref a0]) rfl ?_
  refine lv_aload_n hx hb dL_law_598 rfl (lv_at hl 4 rfl) ?_
  refine lv_iload hx hb dL_law_599 (lv_at hl 0 rfl) ?_
  refine lv_iconst (v := 2) hx hb dL_law_601 (by decide) ?_
  refine lv_iadd hx hb dL_law_602 ?_
  refine W.eq (g2 := F0 m 603 ls [.int 2, .ref b, .int (xs 1), .ref a0]) rfl ?_
  refine va_sld hx hb hXs hbl hbA hS (i := 2) (show ¬ ((2 : Int32) < 0 ∨ 6 ≤ (2 : Int32).toNatClampNeg) by decide) dL_law_603 ?_
  refine W.eq (g2 := F0 m 604 ls [.int (xs 2), .int (xs 1), .ref a0]) rfl ?_
  refine lv_aload_n hx hb dL_law_604 rfl (lv_at hl 4 rfl) ?_
  refine lv_iload hx hb dL_law_605 (lv_at hl 0 rfl) ?_
  refine lv_iconst (v := 3) hx hb dL_law_607 (by decide) ?_
  refine lv_iadd hx hb dL_law_608 ?_
  refine W.eq (g2 := F0 m 609 ls [.int 3, .ref b, .int (xs 2), .int (xs 1), .ref a0]) rfl ?_
  refine va_sld hx hb hXs hbl hbA hS (i := 3) (show ¬ ((3 : Int32) < 0 ∨ 6 ≤ (3 : Int32).toNatClampNeg) by decide) dL_law_609 ?_
  refine W.eq (g2 := F0 m 610 ls [.int (xs 3), .int (xs 2), .int (xs 1), .ref a0]) rfl ?_
  obtain ⟨hPc, hDc, hFc⟩ := xcut (wc := [(a0, .inr (0, [v3, v4, v5, v6, v7, v8, v9, v10]))]) hP hD hS hA [0] rfl rfl (by decide)
  refine va_calli (vx_runSW (As := [.ref a0, .int (xs 1), .int (xs 2), .int (xs 3)]) (rest := []) ⟨hx, hb, hml, hown, htx⟩ (cL_one_5 l hl9 D cT aK aV H.size a0 (xs 1) (xs 2) (xs 3) v3 v4 v5 v6 v7 v8 v9 v10 hto1 hto2 hto3 hto4 hf1 hf2 hf3 ha1 ha2 ha3) (xcSW 4 htx (xw_goodC kw_4_21) rfl rfl rfl (htx _ kw_1_0) (htx _ kw_4_19) ⟨by decide, by decide, by decide +kernel⟩ ⟨Nat.le_of_ble_eq_true rfl, Nat.le_of_ble_eq_true rfl⟩ (htx _ kw_4_20)) ⟨xPre_blind, (fun U hU hW => ⟨rfl, xPre_of hZ hS hFc hPc hDc hK U hU hW⟩)⟩ rfl rfl hl.1 rfl (lv_room (Nat.le_of_ble_eq_true rfl)) dL_law_610 ⟨Nat.le_of_ble_eq_true rfl, Nat.le_of_ble_eq_true rfl⟩) hS (fun q _ h => hFc q h) hFc (fun r1 u9 t H1 locs ht hvm hr9 hB hz1 hk1 hS => ?_)
  obtain ⟨hP1, hK1, hD1⟩ := hB
  rw [ht] at hP1
  obtain ⟨hP, hD⟩ := xjoin (W := [(a1, .inr (5, [v11, v12, v13, v14, v15, v16, v17, v18, v19, v20, v21, v22, v23, v24, v25, v26, v27, v28, v29, v30, v31, v32, v33, v34, v35, v36, v37, v38, v39, v40, v41, v42])), (a2, .inl (cT 2, 1, .inr (.inl f43))), (a0, .inr (0, [v3, v4, v5, v6, v7, v8, v9, v10]))]) hP hD [0] [1, 2] 2 rfl rfl (by decide) (by decide) hk1 hFc hP1 hD1
  generalize H1 = H at hP hS ⊢
  rw [hr9]
  refine W.eq (g2 := F0 m 613 ls [.int 1]) rfl ?_
  refine lv_istore (lv' := [(5, .int 1), (4, .int 0), (3, .ref a2), (2, .ref a1), (1, .ref a0), (0, .ref b)]) hx hb dL_law_613 hl (by decide) rfl (fun ls hl => ?_)
  refine lv_aload_n hx hb dL_law_615 rfl (lv_at hl 3 rfl) ?_
  refine lv_aload_n hx hb dL_law_616 rfl (lv_at hl 5 rfl) ?_
  refine lv_iload hx hb dL_law_617 (lv_at hl 1 rfl) ?_
  refine lv_iconst (v := 1) hx hb dL_law_619 (by decide) ?_
  refine lv_iadd hx hb dL_law_620 ?_
  refine W.eq (g2 := F0 m 621 ls [.int 1, .ref b, .ref a1]) rfl ?_
  refine va_sld hx hb hXs hbl hbA hS (i := 1) (show ¬ ((1 : Int32) < 0 ∨ 6 ≤ (1 : Int32).toNatClampNeg) by decide) dL_law_621 ?_
  refine W.eq (g2 := F0 m 622 ls [.int (xs 1), .ref a1]) rfl ?_
  refine lv_aload_n hx hb dL_law_622 rfl (lv_at hl 5 rfl) ?_
  refine lv_iload hx hb dL_law_623 (lv_at hl 1 rfl) ?_
  refine lv_iconst (v := 2) hx hb dL_law_625 (by decide) ?_
  refine lv_iadd hx hb dL_law_626 ?_
  refine W.eq (g2 := F0 m 627 ls [.int 2, .ref b, .int (xs 1), .ref a1]) rfl ?_
  refine va_sld hx hb hXs hbl hbA hS (i := 2) (show ¬ ((2 : Int32) < 0 ∨ 6 ≤ (2 : Int32).toNatClampNeg) by decide) dL_law_627 ?_
  refine W.eq (g2 := F0 m 628 ls [.int (xs 2), .int (xs 1), .ref a1]) rfl ?_
  refine lv_aload_n hx hb dL_law_628 rfl (lv_at hl 5 rfl) ?_
  refine lv_iload hx hb dL_law_629 (lv_at hl 1 rfl) ?_
  refine lv_iconst (v := 3) hx hb dL_law_631 (by decide) ?_
  refine lv_iadd hx hb dL_law_632 ?_
  refine W.eq (g2 := F0 m 633 ls [.int 3, .ref b, .int (xs 2), .int (xs 1), .ref a1]) rfl ?_
  refine va_sld hx hb hXs hbl hbA hS (i := 3) (show ¬ ((3 : Int32) < 0 ∨ 6 ≤ (3 : Int32).toNatClampNeg) by decide) dL_law_633 ?_
  refine W.eq (g2 := F0 m 634 ls [.int (xs 3), .int (xs 2), .int (xs 1), .ref a1]) rfl ?_
  obtain ⟨hPc, hDc, hFc⟩ := xcut (wc := [(a1, .inr (5, [v11, v12, v13, v14, v15, v16, v17, v18, v19, v20, v21, v22, v23, v24, v25, v26, v27, v28, v29, v30, v31, v32, v33, v34, v35, v36, v37, v38, v39, v40, v41, v42]))]) hP hD hS hA [0] rfl rfl (by decide)
  refine va_callv (va_runV (C := "ValueBenchModel") (As := [.int (xs 1), .int (xs 2), .int (xs 3)]) (rest := []) ⟨hx, hb, hml, hown, htx⟩ (cM_one0_5 l hl9 D cT aK aV H.size a1 (xs 1) (xs 2) (xs 3) v11 v12 v13 v14 v15 v16 v17 v18 v19 v20 v21 v22 v23 v24 v25 v26 v27 v28 v29 v30 v31 v32 v33 v34 v35 v36 v37 v38 v39 v40 v41 v42 hto1 hto2 hto3 hto4 hf1 hf2 hf3 ha1 ha2 ha3) ⟨callB_of 3 htx (xw_goodC kw_7_123) rfl rfl rfl (htx _ kw_1_5) (htx _ kw_7_120) ⟨by decide, by decide, by decide +kernel⟩ ⟨Nat.le_of_ble_eq_true rfl, Nat.le_of_ble_eq_true rfl⟩, (htx _ kw_7_121), (htx _ kw_7_122)⟩ ⟨xPre_blind, va_recv hK hP (ci := 5) rfl (q0 := 0) rfl, (fun U hU hW => ⟨rfl, xPre_of hZ hS hFc hPc hDc hK U hU hW⟩)⟩ rfl rfl hl.1 rfl (lv_room (Nat.le_of_ble_eq_true rfl)) dL_law_634 ⟨Nat.le_of_ble_eq_true rfl, Nat.le_of_ble_eq_true rfl⟩) hS (fun q _ h => hFc q h) hFc (fun u9 t H1 locs ht hvm hr9 hB hz1 hk1 hS => ?_)
  obtain ⟨hP1, hK1, hD1⟩ := hB
  rw [ht] at hP1
  obtain ⟨hP, hD⟩ := xjoin (W := [(a2, .inl (cT 2, 1, .inr (.inl f43))), (a0, .inr (0, [v3, v4, v5, v6, v7, v8, v9, v10])), (a1, .inr (5, [.int 1, v12, .int 0, v14, .int 0, v16, v17, .int 0, v19, .int 0, v21, v22, .int 0, v24, v25, v26, v27, v28, v29, v30, v31, v32, .int 0, .int 1000000000, v35, v36, v37, v38, v39, v40, v41, v42]))]) hP hD [0] [1, 2] 2 rfl rfl (by decide) (by decide) hk1 hFc hP1 hD1
  generalize H1 = H at hP hS ⊢
  refine lv_aload_n hx hb dL_law_637 rfl (lv_at hl 3 rfl) ?_
  obtain ⟨hPc, hDc, hFc⟩ := xcut (wc := [(a1, .inr (5, [.int 1, v12, .int 0, v14, .int 0, v16, v17, .int 0, v19, .int 0, v21, v22, .int 0, v24, v25, v26, v27, v28, v29, v30, v31, v32, .int 0, .int 1000000000, v35, v36, v37, v38, v39, v40, v41, v42]))]) hP hD hS hA [2] rfl rfl (by decide)
  refine va_calli (va_runV (C := "ValueBenchModel") (As := []) (rest := []) ⟨hx, hb, hml, hown, htx⟩ (cM_thrown_1 l hl9 D cT aK aV H.size a1 v12 (.int 0) v14 (.int 0) v16 v17 (.int 0) v19 (.int 0) v21 v22 (.int 0) v24 v25 v26 v27 v28 v29 v30 v31 v32 (.int 0) (.int 1000000000) v35 v36 v37 v38 v39 v40 v41 v42) ⟨callB_of 0 htx (xw_goodC kw_5_187) rfl rfl rfl (htx _ kw_1_5) (htx _ kw_5_184) ⟨by decide, by decide, by decide +kernel⟩ ⟨Nat.le_of_ble_eq_true rfl, Nat.le_of_ble_eq_true rfl⟩, (htx _ kw_5_185), (htx _ kw_5_186)⟩ ⟨xPre_blind, va_recv hK hP (ci := 5) rfl (q0 := 2) rfl, (fun U hU hW => ⟨rfl, xPre_of hZ hS hFc hPc hDc hK U hU hW⟩)⟩ rfl rfl hl.1 rfl (lv_room (Nat.le_of_ble_eq_true rfl)) dL_law_638 ⟨Nat.le_of_ble_eq_true rfl, Nat.le_of_ble_eq_true rfl⟩) hS (fun q _ h => hFc q h) hFc (fun r2 u9 t H1 locs ht hvm hr9 hB hz1 hk1 hS => ?_)
  obtain ⟨hP1, hK1, hD1⟩ := hB
  rw [ht] at hP1
  obtain ⟨hP, hD⟩ := xjoin (W := [(a2, .inl (cT 2, 1, .inr (.inl f43))), (a0, .inr (0, [v3, v4, v5, v6, v7, v8, v9, v10])), (a1, .inr (5, [.int 1, v12, .int 0, v14, .int 0, v16, v17, .int 0, v19, .int 0, v21, v22, .int 0, v24, v25, v26, v27, v28, v29, v30, v31, v32, .int 0, .int 1000000000, v35, v36, v37, v38, v39, v40, v41, v42]))]) hP hD [2] [0, 1] 2 rfl rfl (by decide) (by decide) hk1 hFc hP1 hD1
  generalize H1 = H at hP hS ⊢
  rw [hr9]
  refine W.eq (g2 := F0 m 641 ls [.int 1]) rfl ?_
  refine lv_iload hx hb dL_law_641 (lv_at hl 0 rfl) ?_
  refine lv_icmp_eq (tgt := 648) hx hb dL_law_643 (by decide) (fun _ => ?_) (fun h => ((by revert h; decide : False)).elim)
  refine lv_goto (tgt := 906) hx hb dL_law_648 (by decide) ?_
  refine lv_iinc (v := 6) (lv' := [(4, .int 6), (5, .int 1), (3, .ref a2), (2, .ref a1), (1, .ref a0), (0, .ref b)]) hx hb dL_law_906 hl (k := 1) rfl (by decide) (by decide) rfl (fun ls hl => ?_)
  refine lv_goto (tgt := 23) hx hb dL_law_909 (by decide) ?_
  refine lv_iload hx hb dL_law_23 (lv_at hl 0 rfl) ?_
  refine lv_aload_n hx hb dL_law_25 rfl (lv_at hl 5 rfl) ?_
  refine va_slen hx hb hXs hbl hbA hS dL_law_26 ?_
  refine W.eq (g2 := F0 m 27 ls [.int 6, .int 6]) rfl ?_
  refine lv_bipush (v := 6) hx hb dL_law_27 (by decide) ?_
  refine lv_isub hx hb dL_law_29 ?_
  refine W.eq (g2 := F0 m 30 ls [.int 0, .int 6]) rfl ?_
  refine lv_icmp_gt (tgt := 912) hx hb dL_law_30 (by decide) (fun _ => ?_) (fun h => ((by revert h; decide : False)).elim)
  refine lv_iconst (v := 1) hx hb dL_law_912 (by decide) ?_
  exact va_forget (fun q h => hA2 _ (hS.2.2 q h)) (W.widen (k := 600002) (n := 7302232) (Nat.le_of_ble_eq_true rfl) (Nat.le_of_ble_eq_true rfl) (lw_ret hx hb hr hlocks dL_law_913))
set_option maxHeartbeats 400000000 in
set_option maxRecDepth 100000 in
theorem lf_one0_p2 {p : Program} {e : Env} {s : State} {m : MethodId} {below : List Frame} {meth : Method} {c : Code} (l : Launch) (hl9 : l.stackTraces = false) (D : va_G) (cT : Nat → ClassId) (aK aV : Nat → Nat) {A : Nat → Prop} {b : Nat} {xs : Nat → Int32} (C : xLw p s m meth c b D cT aK aV A) {H : Heap} {locs : List Loc} {ls : Array Slot} (a0 : Nat) (a1 : Nat) (a2 : Nat) (a3 : Nat) (a4 : Nat) (a5 : Nat) (a6 : Nat) (a7 : Nat) (a8 : Nat) (a9 : Nat) (a10 : Nat) (a11 : Nat) (a12 : Nat) (a13 : Nat) (a14 : Nat) (v15 : Value) (v16 : Value) (b17 : Nat) (v18 : Value) (v19 : Value) (v20 : Value) (v21 : Value) (v22 : Value) (v23 : Value) (v24 : Value) (v25 : Value) (v26 : Value) (v27 : Value) (v28 : Value) (v29 : Value) (v30 : Value) (v31 : Value) (v32 : Value) (v33 : Value) (v34 : Value) (v35 : Value) (v36 : Value) (v37 : Value) (v38 : Value) (v39 : Value) (v40 : Value) (v41 : Value) (v42 : Value) (v43 : Value) (v44 : Value) (v45 : Value) (v46 : Value) (v47 : Value) (f48 : Nat → Int64) (v49 : Value) (v50 : Value) (f51 : Nat → Option Nat) (b53 : Nat) (v55 : Value) (f56 : Nat → Int64) (f58 : Nat → Int64) (v59 : Value) (v60 : Value) (f61 : Nat → Int32) (f62 : Nat → Option Nat) (f65 : Nat → Int32) (f67 : Nat → Int32) (f72 : Nat → Option Nat) (f75 : Nat → Int32) (h52 : f51 (xs 3).toNatClampNeg = some a5) (h54 : f51 (xs 1).toNatClampNeg = some b53) (h57 : f56 0 = 0) (h63 : f62 (xs 3).toNatClampNeg = some a12) (h64 : f62 (xs 1).toNatClampNeg = some a12) (h66 : f65 (xs 3).toNatClampNeg = 4) (h68 : f67 0 = 110) (h69 : f67 1 = 117) (h70 : f67 2 = 108) (h71 : f67 3 = 108) (h73 : f72 0 = none) (h74 : f72 1 = none) (hto1 : ¬ (xs 1) < 0) (hto2 : ¬ 7 < (xs 1)) (hto3 : (xs 1) ≤ 7) (hto4 : vp_in (xs 1) 8) (hf : xs 2 = 0) (ha1 : ¬ (xs 3) < 0) (ha2 : ¬ 7 < (xs 3)) (ha3 : (xs 3) ≤ 7) (ha4 : vp_in (xs 3) 8) (hXs : va_X b 6 xs s s.heap) (hP : va_P D xcl [(a0, .inr (0, [v15, v16, .ref a8, .ref a4, .ref b17, .ref a3, v18, v19])), (a1, .inr (5, [v20, .ref a13, v21, v22, v23, v24, v25, v26, v27, v28, v29, v30, v31, v32, v33, v34, v35, v36, v37, v38, v39, .ref a14, v40, v41, .ref a10, .ref a11, v42, v43, v44, v45, v46, v47])), (a2, .inl (cT 2, 1, .inr (.inl f48))), (a3, .inr (2, [.ref a7, v49, v50])), (a4, .inl (cT 3, 8, .inr (.inr (.inr (.inr f51))))), (a5, .inr (2, [.ref a6, .int 1, v55])), (a6, .inl (cT 2, 4096, .inr (.inl f56))), (a7, .inl (cT 2, 4096, .inr (.inl f58))), (a8, .inr (1, [.ref a9, v59, v60])), (a9, .inl (cT 0, 4096, .inl f61)), (a10, .inl (cT 5, 8, .inr (.inr (.inr (.inr f62))))), (a11, .inl (cT 1, 8, .inl f65)), (a12, .inl (cT 0, 4096, .inl f67)), (a13, .inl (cT 4, 1024, .inr (.inr (.inr (.inr f72))))), (a14, .inl (cT 0, 1024, .inl f75))] H) (hD : va_D A [(a0, .inr (0, [v15, v16, .ref a8, .ref a4, .ref b17, .ref a3, v18, v19])), (a1, .inr (5, [v20, .ref a13, v21, v22, v23, v24, v25, v26, v27, v28, v29, v30, v31, v32, v33, v34, v35, v36, v37, v38, v39, .ref a14, v40, v41, .ref a10, .ref a11, v42, v43, v44, v45, v46, v47])), (a2, .inl (cT 2, 1, .inr (.inl f48))), (a3, .inr (2, [.ref a7, v49, v50])), (a4, .inl (cT 3, 8, .inr (.inr (.inr (.inr f51))))), (a5, .inr (2, [.ref a6, .int 1, v55])), (a6, .inl (cT 2, 4096, .inr (.inl f56))), (a7, .inl (cT 2, 4096, .inr (.inl f58))), (a8, .inr (1, [.ref a9, v59, v60])), (a9, .inl (cT 0, 4096, .inl f61)), (a10, .inl (cT 5, 8, .inr (.inr (.inr (.inr f62))))), (a11, .inl (cT 1, 8, .inl f65)), (a12, .inl (cT 0, 4096, .inl f67)), (a13, .inl (cT 4, 1024, .inr (.inr (.inr (.inr f72))))), (a14, .inl (cT 0, 1024, .inl f75))]) (hS : va_S A s.heap H locs) (hl : lv_has ls 8 [(4, .int 0), (3, .ref a2), (2, .ref a1), (1, .ref a0), (0, .ref b)]) : W p l e room_1 s m #[Value.ref b] below meth c H locs 54 107242 (lw_Z below #[Value.ref b] s) (F0 m 591 ls []) := by
  obtain ⟨hx, hb, hr, hml, hown, htx, hbl, hbA, hlocks, hK, hZ, hA, hA2⟩ := C
  refine lv_aload_n hx hb dL_law_591 rfl (lv_at hl 3 rfl) ?_
  refine lv_aload_n hx hb dL_law_592 rfl (lv_at hl 4 rfl) ?_
  refine lv_iload hx hb dL_law_593 (lv_at hl 0 rfl) ?_
  refine lv_iconst (v := 1) hx hb dL_law_595 (by decide) ?_
  refine lv_iadd hx hb dL_law_596 ?_
  refine W.eq (g2 := F0 m 597 ls [.int 1, .ref b, .ref a0]) rfl ?_
  refine va_sld hx hb hXs hbl hbA hS (i := 1) (show ¬ ((1 : Int32) < 0 ∨ 6 ≤ (1 : Int32).toNatClampNeg) by decide) dL_law_597 ?_
  refine W.eq (g2 := F0 m 598 ls [.int (xs 1), .ref a0]) rfl ?_
  refine lv_aload_n hx hb dL_law_598 rfl (lv_at hl 4 rfl) ?_
  refine lv_iload hx hb dL_law_599 (lv_at hl 0 rfl) ?_
  refine lv_iconst (v := 2) hx hb dL_law_601 (by decide) ?_
  refine lv_iadd hx hb dL_law_602 ?_
  refine W.eq (g2 := F0 m 603 ls [.int 2, .ref b, .int (xs 1), .ref a0]) rfl ?_
  refine va_sld hx hb hXs hbl hbA hS (i := 2) (show ¬ ((2 : Int32) < 0 ∨ 6 ≤ (2 : Int32).toNatClampNeg) by decide) dL_law_603 ?_
  refine W.eq (g2 := F0 m 604 ls [.int (xs 2), .int (xs 1), .ref a0]) rfl ?_
  rw [hf]
  refine W.eq (g2 := F0 m 604 ls [.int 0, .int (xs 1), .ref a0]) rfl ?_
  refine lv_aload_n hx hb dL_law_604 rfl (lv_at hl 4 rfl) ?_
  refine lv_iload hx hb dL_law_605 (lv_at hl 0 rfl) ?_
  refine lv_iconst (v := 3) hx hb dL_law_607 (by decide) ?_
  refine lv_iadd hx hb dL_law_608 ?_
  refine W.eq (g2 := F0 m 609 ls [.int 3, .ref b, .int 0, .int (xs 1), .ref a0]) rfl ?_
  refine va_sld hx hb hXs hbl hbA hS (i := 3) (show ¬ ((3 : Int32) < 0 ∨ 6 ≤ (3 : Int32).toNatClampNeg) by decide) dL_law_609 ?_
  refine W.eq (g2 := F0 m 610 ls [.int (xs 3), .int 0, .int (xs 1), .ref a0]) rfl ?_
  obtain ⟨hPc, hDc, hFc⟩ := xcut (wc := [(a0, .inr (0, [v15, v16, .ref a8, .ref a4, .ref b17, .ref a3, v18, v19])), (a3, .inr (2, [.ref a7, v49, v50])), (a4, .inl (cT 3, 8, .inr (.inr (.inr (.inr f51))))), (a5, .inr (2, [.ref a6, .int 1, v55])), (a6, .inl (cT 2, 4096, .inr (.inl f56))), (a7, .inl (cT 2, 4096, .inr (.inl f58))), (a8, .inr (1, [.ref a9, v59, v60])), (a9, .inl (cT 0, 4096, .inl f61))]) hP hD hS hA [0, 3, 4, 5, 6, 7, 8, 9] rfl rfl (by decide)
  refine va_calli (vx_runSW (As := [.ref a0, .int (xs 1), .int 0, .int (xs 3)]) (rest := []) ⟨hx, hb, hml, hown, htx⟩ (cL_one_6 l hl9 D cT aK aV H.size a0 a3 a4 a5 a6 a7 a8 a9 (xs 1) (xs 3) v15 v16 b17 v18 v19 v49 v50 f51 b53 v55 f56 f58 v59 v60 f61 hto1 hto2 hto3 hto4 ha1 ha2 ha3 ha4 (by first | rfl | exact h52 | exact h54 | exact h57 | exact h63 | exact h64 | exact h66 | exact h68 | exact h69 | exact h70 | exact h71 | exact h73 | exact h74) (by first | rfl | exact h52 | exact h54 | exact h57 | exact h63 | exact h64 | exact h66 | exact h68 | exact h69 | exact h70 | exact h71 | exact h73 | exact h74) (by first | rfl | exact h52 | exact h54 | exact h57 | exact h63 | exact h64 | exact h66 | exact h68 | exact h69 | exact h70 | exact h71 | exact h73 | exact h74)) (xcSW 4 htx (xw_goodC kw_4_21) rfl rfl rfl (htx _ kw_1_0) (htx _ kw_4_19) ⟨by decide, by decide, by decide +kernel⟩ ⟨Nat.le_of_ble_eq_true rfl, Nat.le_of_ble_eq_true rfl⟩ (htx _ kw_4_20)) ⟨xPre_blind, (fun U hU hW => ⟨rfl, xPre_of hZ hS hFc hPc hDc hK U hU hW⟩)⟩ rfl rfl hl.1 rfl (lv_room (Nat.le_of_ble_eq_true rfl)) dL_law_610 ⟨Nat.le_of_ble_eq_true rfl, Nat.le_of_ble_eq_true rfl⟩) hS (fun q _ h => hFc q h) hFc (fun r1 u9 t H1 locs ht hvm hr9 hB hz1 hk1 hS => ?_)
  obtain ⟨y2, y3, y4, y5, hP1, hK1, hD1⟩ := hB
  rw [ht] at hP1
  obtain ⟨hP, hD⟩ := xjoin (W := [(a1, .inr (5, [v20, .ref a13, v21, v22, v23, v24, v25, v26, v27, v28, v29, v30, v31, v32, v33, v34, v35, v36, v37, v38, v39, .ref a14, v40, v41, .ref a10, .ref a11, v42, v43, v44, v45, v46, v47])), (a2, .inl (cT 2, 1, .inr (.inl f48))), (a10, .inl (cT 5, 8, .inr (.inr (.inr (.inr f62))))), (a11, .inl (cT 1, 8, .inl f65)), (a12, .inl (cT 0, 4096, .inl f67)), (a13, .inl (cT 4, 1024, .inr (.inr (.inr (.inr f72))))), (a14, .inl (cT 0, 1024, .inl f75)), (a0, .inr (0, [v15, v16, .ref a8, .ref a4, .ref b17, .ref b53, v18, v19])), (a3, .inr (2, [.ref a7, .int 1, .int 0])), (a4, .inl (cT 3, 8, .inr (.inr (.inr (.inr (va_up f51 (xs 1).toNatClampNeg (some a3))))))), (a5, .inr (2, [.ref a6, .int 1, v55])), (a6, .inl (cT 2, 4096, .inr (.inl f56))), (a7, .inl (cT 2, 4096, .inr (.inl (vp_updL f58 0 2)))), (a8, .inr (1, [.ref a9, .int 4, .int 0])), (a9, .inl (cT 0, 4096, .inl (upd (upd (upd (upd f61 0 (vp_nar .byte y2)) 1 (vp_nar .byte y3)) 2 (vp_nar .byte y4)) 3 (vp_nar .byte y5))))]) hP hD [0, 3, 4, 5, 6, 7, 8, 9] [1, 2, 10, 11, 12, 13, 14] 7 rfl rfl (by decide) (by decide) hk1 hFc hP1 hD1
  generalize H1 = H at hP hS ⊢
  rw [hr9]
  refine W.eq (g2 := F0 m 613 ls [.int 0]) rfl ?_
  refine lv_istore (lv' := [(5, .int 0), (4, .int 0), (3, .ref a2), (2, .ref a1), (1, .ref a0), (0, .ref b)]) hx hb dL_law_613 hl (by decide) rfl (fun ls hl => ?_)
  refine lv_aload_n hx hb dL_law_615 rfl (lv_at hl 3 rfl) ?_
  refine lv_aload_n hx hb dL_law_616 rfl (lv_at hl 5 rfl) ?_
  refine lv_iload hx hb dL_law_617 (lv_at hl 1 rfl) ?_
  refine lv_iconst (v := 1) hx hb dL_law_619 (by decide) ?_
  refine lv_iadd hx hb dL_law_620 ?_
  refine W.eq (g2 := F0 m 621 ls [.int 1, .ref b, .ref a1]) rfl ?_
  refine va_sld hx hb hXs hbl hbA hS (i := 1) (show ¬ ((1 : Int32) < 0 ∨ 6 ≤ (1 : Int32).toNatClampNeg) by decide) dL_law_621 ?_
  refine W.eq (g2 := F0 m 622 ls [.int (xs 1), .ref a1]) rfl ?_
  refine lv_aload_n hx hb dL_law_622 rfl (lv_at hl 5 rfl) ?_
  refine lv_iload hx hb dL_law_623 (lv_at hl 1 rfl) ?_
  refine lv_iconst (v := 2) hx hb dL_law_625 (by decide) ?_
  refine lv_iadd hx hb dL_law_626 ?_
  refine W.eq (g2 := F0 m 627 ls [.int 2, .ref b, .int (xs 1), .ref a1]) rfl ?_
  refine va_sld hx hb hXs hbl hbA hS (i := 2) (show ¬ ((2 : Int32) < 0 ∨ 6 ≤ (2 : Int32).toNatClampNeg) by decide) dL_law_627 ?_
  refine W.eq (g2 := F0 m 628 ls [.int (xs 2), .int (xs 1), .ref a1]) rfl ?_
  rw [hf]
  refine W.eq (g2 := F0 m 628 ls [.int 0, .int (xs 1), .ref a1]) rfl ?_
  refine lv_aload_n hx hb dL_law_628 rfl (lv_at hl 5 rfl) ?_
  refine lv_iload hx hb dL_law_629 (lv_at hl 1 rfl) ?_
  refine lv_iconst (v := 3) hx hb dL_law_631 (by decide) ?_
  refine lv_iadd hx hb dL_law_632 ?_
  refine W.eq (g2 := F0 m 633 ls [.int 3, .ref b, .int 0, .int (xs 1), .ref a1]) rfl ?_
  refine va_sld hx hb hXs hbl hbA hS (i := 3) (show ¬ ((3 : Int32) < 0 ∨ 6 ≤ (3 : Int32).toNatClampNeg) by decide) dL_law_633 ?_
  refine W.eq (g2 := F0 m 634 ls [.int (xs 3), .int 0, .int (xs 1), .ref a1]) rfl ?_
  obtain ⟨hPc, hDc, hFc⟩ := xcut (wc := [(a1, .inr (5, [v20, .ref a13, v21, v22, v23, v24, v25, v26, v27, v28, v29, v30, v31, v32, v33, v34, v35, v36, v37, v38, v39, .ref a14, v40, v41, .ref a10, .ref a11, v42, v43, v44, v45, v46, v47])), (a10, .inl (cT 5, 8, .inr (.inr (.inr (.inr f62))))), (a11, .inl (cT 1, 8, .inl f65)), (a12, .inl (cT 0, 4096, .inl f67)), (a13, .inl (cT 4, 1024, .inr (.inr (.inr (.inr f72))))), (a14, .inl (cT 0, 1024, .inl f75))]) hP hD hS hA [0, 2, 3, 4, 5, 6] rfl rfl (by decide)
  refine va_callv (va_runV (C := "ValueBenchModel") (As := [.int (xs 1), .int 0, .int (xs 3)]) (rest := []) ⟨hx, hb, hml, hown, htx⟩ (cM_one0_6 l hl9 D cT aK aV H.size a1 a10 a11 a12 a13 a14 (xs 1) (xs 3) v20 v21 v22 v23 v24 v25 v26 v27 v28 v29 v30 v31 v32 v33 v34 v35 v36 v37 v38 v39 v40 v41 v42 v43 v44 v45 v46 v47 f62 f65 f67 f72 f75 hto1 hto2 hto3 hto4 ha1 ha2 ha3 ha4 (by first | rfl | exact h52 | exact h57 | exact h63 | exact h64 | exact h66 | exact h68 | exact h69 | exact h70 | exact h71 | exact h73 | exact h74) (by first | rfl | exact h52 | exact h57 | exact h63 | exact h64 | exact h66 | exact h68 | exact h69 | exact h70 | exact h71 | exact h73 | exact h74) (by first | rfl | exact h52 | exact h57 | exact h63 | exact h64 | exact h66 | exact h68 | exact h69 | exact h70 | exact h71 | exact h73 | exact h74) (by first | rfl | exact h52 | exact h57 | exact h63 | exact h64 | exact h66 | exact h68 | exact h69 | exact h70 | exact h71 | exact h73 | exact h74) (by first | rfl | exact h52 | exact h57 | exact h63 | exact h64 | exact h66 | exact h68 | exact h69 | exact h70 | exact h71 | exact h73 | exact h74) (by first | rfl | exact h52 | exact h57 | exact h63 | exact h64 | exact h66 | exact h68 | exact h69 | exact h70 | exact h71 | exact h73 | exact h74) (by first | rfl | exact h52 | exact h57 | exact h63 | exact h64 | exact h66 | exact h68 | exact h69 | exact h70 | exact h71 | exact h73 | exact h74) (by first | rfl | exact h52 | exact h57 | exact h63 | exact h64 | exact h66 | exact h68 | exact h69 | exact h70 | exact h71 | exact h73 | exact h74) (by first | rfl | exact h52 | exact h57 | exact h63 | exact h64 | exact h66 | exact h68 | exact h69 | exact h70 | exact h71 | exact h73 | exact h74)) ⟨callB_of 3 htx (xw_goodC kw_7_123) rfl rfl rfl (htx _ kw_1_5) (htx _ kw_7_120) ⟨by decide, by decide, by decide +kernel⟩ ⟨Nat.le_of_ble_eq_true rfl, Nat.le_of_ble_eq_true rfl⟩, (htx _ kw_7_121), (htx _ kw_7_122)⟩ ⟨xPre_blind, va_recv hK hP (ci := 5) rfl (q0 := 0) rfl, (fun U hU hW => ⟨rfl, xPre_of hZ hS hFc hPc hDc hK U hU hW⟩)⟩ rfl rfl hl.1 rfl (lv_room (Nat.le_of_ble_eq_true rfl)) dL_law_634 ⟨Nat.le_of_ble_eq_true rfl, Nat.le_of_ble_eq_true rfl⟩) hS (fun q _ h => hFc q h) hFc (fun u9 t H1 locs ht hvm hr9 hB hz1 hk1 hS => ?_)
  obtain ⟨q6, q7, y8, y9, y10, y11, hP1, hK1, hD1⟩ := hB
  rw [ht] at hP1
  obtain ⟨hP, hD⟩ := xjoin (W := [(a2, .inl (cT 2, 1, .inr (.inl f48))), (a0, .inr (0, [v15, v16, .ref a8, .ref a4, .ref b17, .ref b53, v18, v19])), (a3, .inr (2, [.ref a7, .int 1, .int 0])), (a4, .inl (cT 3, 8, .inr (.inr (.inr (.inr (va_up f51 (xs 1).toNatClampNeg (some a3))))))), (a5, .inr (2, [.ref a6, .int 1, v55])), (a6, .inl (cT 2, 4096, .inr (.inl f56))), (a7, .inl (cT 2, 4096, .inr (.inl (vp_updL f58 0 2)))), (a8, .inr (1, [.ref a9, .int 4, .int 0])), (a9, .inl (cT 0, 4096, .inl (upd (upd (upd (upd f61 0 (vp_nar .byte y2)) 1 (vp_nar .byte y3)) 2 (vp_nar .byte y4)) 3 (vp_nar .byte y5)))), (a1, .inr (5, [.int 0, .ref a13, .int 2, v22, .int 0, v24, v25, .int 0, v27, .int 0, v29, v30, .int 0, v32, v33, .ref a12, .int 4, .int 4, .int 0, .int 100, v39, .ref a14, .int 4, .int 4096, .ref a10, .ref a11, v42, v43, v44, v45, v46, v47])), (a10, .inl (cT 5, 8, .inr (.inr (.inr (.inr f62))))), (a11, .inl (cT 1, 8, .inl (upd f65 (xs 1).toNatClampNeg 4))), (a12, .inl (cT 0, 4096, .inl (upd (upd (upd (upd f67 0 (vp_nar .byte (vp_nar .byte y8))) 1 (vp_nar .byte (vp_nar .byte y9))) 2 (vp_nar .byte (vp_nar .byte y10))) 3 (vp_nar .byte (vp_nar .byte y11))))), (a13, .inl (cT 4, 1024, .inr (.inr (.inr (.inr (va_up (va_up f72 0 (some q6)) 1 (some q7))))))), (a14, .inl (cT 0, 1024, .inl (upd (upd (upd (upd f75 0 (vp_nar .byte y8)) 1 (vp_nar .byte y9)) 2 (vp_nar .byte y10)) 3 (vp_nar .byte y11)))), (q6, .inr (6, [.int 0, .long 0, .int 0, .int 0, .int 0, .int 1])), (q7, .inr (6, [.int 2, .long 0, .int 0, .int 0, .int 0, .int 1]))]) hP hD [0, 2, 3, 4, 5, 6] [1, 7, 8, 9, 10, 11, 12, 13, 14] 9 rfl rfl (by decide) (by decide) hk1 hFc hP1 hD1
  generalize H1 = H at hP hS ⊢
  refine lv_aload_n hx hb dL_law_637 rfl (lv_at hl 3 rfl) ?_
  obtain ⟨hPc, hDc, hFc⟩ := xcut (wc := [(a1, .inr (5, [.int 0, .ref a13, .int 2, v22, .int 0, v24, v25, .int 0, v27, .int 0, v29, v30, .int 0, v32, v33, .ref a12, .int 4, .int 4, .int 0, .int 100, v39, .ref a14, .int 4, .int 4096, .ref a10, .ref a11, v42, v43, v44, v45, v46, v47]))]) hP hD hS hA [9] rfl rfl (by decide)
  refine va_calli (va_runV (C := "ValueBenchModel") (As := []) (rest := []) ⟨hx, hb, hml, hown, htx⟩ (cM_thrown_0 l hl9 D cT aK aV H.size a1 (.ref a13) (.int 2) v22 (.int 0) v24 v25 (.int 0) v27 (.int 0) v29 v30 (.int 0) v32 v33 (.ref a12) (.int 4) (.int 4) (.int 0) (.int 100) v39 (.ref a14) (.int 4) (.int 4096) (.ref a10) (.ref a11) v42 v43 v44 v45 v46 v47) ⟨callB_of 0 htx (xw_goodC kw_5_187) rfl rfl rfl (htx _ kw_1_5) (htx _ kw_5_184) ⟨by decide, by decide, by decide +kernel⟩ ⟨Nat.le_of_ble_eq_true rfl, Nat.le_of_ble_eq_true rfl⟩, (htx _ kw_5_185), (htx _ kw_5_186)⟩ ⟨xPre_blind, va_recv hK hP (ci := 5) rfl (q0 := 9) rfl, (fun U hU hW => ⟨rfl, xPre_of hZ hS hFc hPc hDc hK U hU hW⟩)⟩ rfl rfl hl.1 rfl (lv_room (Nat.le_of_ble_eq_true rfl)) dL_law_638 ⟨Nat.le_of_ble_eq_true rfl, Nat.le_of_ble_eq_true rfl⟩) hS (fun q _ h => hFc q h) hFc (fun r12 u9 t H1 locs ht hvm hr9 hB hz1 hk1 hS => ?_)
  obtain ⟨hP1, hK1, hD1⟩ := hB
  rw [ht] at hP1
  obtain ⟨hP, hD⟩ := xjoin (W := [(a2, .inl (cT 2, 1, .inr (.inl f48))), (a0, .inr (0, [v15, v16, .ref a8, .ref a4, .ref b17, .ref b53, v18, v19])), (a3, .inr (2, [.ref a7, .int 1, .int 0])), (a4, .inl (cT 3, 8, .inr (.inr (.inr (.inr (va_up f51 (xs 1).toNatClampNeg (some a3))))))), (a5, .inr (2, [.ref a6, .int 1, v55])), (a6, .inl (cT 2, 4096, .inr (.inl f56))), (a7, .inl (cT 2, 4096, .inr (.inl (vp_updL f58 0 2)))), (a8, .inr (1, [.ref a9, .int 4, .int 0])), (a9, .inl (cT 0, 4096, .inl (upd (upd (upd (upd f61 0 (vp_nar .byte y2)) 1 (vp_nar .byte y3)) 2 (vp_nar .byte y4)) 3 (vp_nar .byte y5)))), (a10, .inl (cT 5, 8, .inr (.inr (.inr (.inr f62))))), (a11, .inl (cT 1, 8, .inl (upd f65 (xs 1).toNatClampNeg 4))), (a12, .inl (cT 0, 4096, .inl (upd (upd (upd (upd f67 0 (vp_nar .byte (vp_nar .byte y8))) 1 (vp_nar .byte (vp_nar .byte y9))) 2 (vp_nar .byte (vp_nar .byte y10))) 3 (vp_nar .byte (vp_nar .byte y11))))), (a13, .inl (cT 4, 1024, .inr (.inr (.inr (.inr (va_up (va_up f72 0 (some q6)) 1 (some q7))))))), (a14, .inl (cT 0, 1024, .inl (upd (upd (upd (upd f75 0 (vp_nar .byte y8)) 1 (vp_nar .byte y9)) 2 (vp_nar .byte y10)) 3 (vp_nar .byte y11)))), (q6, .inr (6, [.int 0, .long 0, .int 0, .int 0, .int 0, .int 1])), (q7, .inr (6, [.int 2, .long 0, .int 0, .int 0, .int 0, .int 1])), (a1, .inr (5, [.int 0, .ref a13, .int 2, v22, .int 0, v24, v25, .int 0, v27, .int 0, v29, v30, .int 0, v32, v33, .ref a12, .int 4, .int 4, .int 0, .int 100, v39, .ref a14, .int 4, .int 4096, .ref a10, .ref a11, v42, v43, v44, v45, v46, v47]))]) hP hD [9] [0, 1, 2, 3, 4, 5, 6, 7, 8, 10, 11, 12, 13, 14, 15, 16] 16 rfl rfl (by decide) (by decide) hk1 hFc hP1 hD1
  generalize H1 = H at hP hS ⊢
  rw [hr9]
  refine W.eq (g2 := F0 m 641 ls [.int 0]) rfl ?_
  refine lv_iload hx hb dL_law_641 (lv_at hl 0 rfl) ?_
  refine lv_icmp_eq (tgt := 648) hx hb dL_law_643 (by decide) (fun _ => ?_) (fun h => ((by revert h; decide : False)).elim)
  refine lv_goto (tgt := 906) hx hb dL_law_648 (by decide) ?_
  refine lv_iinc (v := 6) (lv' := [(4, .int 6), (5, .int 0), (3, .ref a2), (2, .ref a1), (1, .ref a0), (0, .ref b)]) hx hb dL_law_906 hl (k := 1) rfl (by decide) (by decide) rfl (fun ls hl => ?_)
  refine lv_goto (tgt := 23) hx hb dL_law_909 (by decide) ?_
  refine lv_iload hx hb dL_law_23 (lv_at hl 0 rfl) ?_
  refine lv_aload_n hx hb dL_law_25 rfl (lv_at hl 5 rfl) ?_
  refine va_slen hx hb hXs hbl hbA hS dL_law_26 ?_
  refine W.eq (g2 := F0 m 27 ls [.int 6, .int 6]) rfl ?_
  refine lv_bipush (v := 6) hx hb dL_law_27 (by decide) ?_
  refine lv_isub hx hb dL_law_29 ?_
  refine W.eq (g2 := F0 m 30 ls [.int 0, .int 6]) rfl ?_
  refine lv_icmp_gt (tgt := 912) hx hb dL_law_30 (by decide) (fun _ => ?_) (fun h => ((by revert h; decide : False)).elim)
  refine lv_iconst (v := 1) hx hb dL_law_912 (by decide) ?_
  exact va_forget (fun q h => hA2 _ (hS.2.2 q h)) (W.widen (k := 600002) (n := 7302232) (Nat.le_of_ble_eq_true rfl) (Nat.le_of_ble_eq_true rfl) (lw_ret hx hb hr hlocks dL_law_913))
set_option maxHeartbeats 400000000 in
set_option maxRecDepth 100000 in
theorem lf_one0_p0 {p : Program} {e : Env} {s : State} {m : MethodId} {below : List Frame} {meth : Method} {c : Code} (l : Launch) (hl9 : l.stackTraces = false) (D : va_G) (cT : Nat → ClassId) (aK aV : Nat → Nat) {A : Nat → Prop} {b : Nat} {xs : Nat → Int32} (C : xLw p s m meth c b D cT aK aV A) {H : Heap} {locs : List Loc} {ls : Array Slot} (a0 : Nat) (a1 : Nat) (a2 : Nat) (a3 : Nat) (a4 : Nat) (a5 : Nat) (a6 : Nat) (a7 : Nat) (a8 : Nat) (a9 : Nat) (a10 : Nat) (a11 : Nat) (a12 : Nat) (a13 : Nat) (a14 : Nat) (a15 : Nat) (v16 : Value) (v17 : Value) (b18 : Nat) (v19 : Value) (v20 : Value) (v21 : Value) (v22 : Value) (v23 : Value) (v24 : Value) (v25 : Value) (v26 : Value) (v27 : Value) (v28 : Value) (v29 : Value) (v30 : Value) (v31 : Value) (v32 : Value) (v33 : Value) (v34 : Value) (v35 : Value) (v36 : Value) (v37 : Value) (v38 : Value) (v39 : Value) (v40 : Value) (v41 : Value) (v42 : Value) (v43 : Value) (v44 : Value) (v45 : Value) (v46 : Value) (v47 : Value) (v48 : Value) (f49 : Nat → Int64) (v50 : Value) (v51 : Value) (f52 : Nat → Option Nat) (b54 : Nat) (v56 : Value) (f57 : Nat → Int64) (f59 : Nat → Int64) (v60 : Value) (v61 : Value) (f62 : Nat → Int32) (f63 : Nat → Option Nat) (f66 : Nat → Int32) (f68 : Nat → Int32) (f73 : Nat → Option Nat) (f76 : Nat → Int32) (f77 : Nat → Int32) (h53 : f52 (xs 3).toNatClampNeg = some a5) (h55 : f52 (xs 1).toNatClampNeg = some b54) (h58 : f57 0 = 0) (h64 : f63 (xs 3).toNatClampNeg = some a12) (h65 : f63 (xs 1).toNatClampNeg = some a15) (h67 : f66 (xs 3).toNatClampNeg = 4) (h69 : f68 0 = 110) (h70 : f68 1 = 117) (h71 : f68 2 = 108) (h72 : f68 3 = 108) (h74 : f73 0 = none) (h75 : f73 1 = none) (hto1 : ¬ (xs 1) < 0) (hto2 : ¬ 7 < (xs 1)) (hto3 : (xs 1) ≤ 7) (hto4 : vp_in (xs 1) 8) (hf : xs 2 = 0) (ha1 : ¬ (xs 3) < 0) (ha2 : ¬ 7 < (xs 3)) (ha3 : (xs 3) ≤ 7) (ha4 : vp_in (xs 3) 8) (hXs : va_X b 6 xs s s.heap) (hP : va_P D xcl [(a0, .inr (0, [v16, v17, .ref a8, .ref a4, .ref b18, .ref a3, v19, v20])), (a1, .inr (5, [v21, .ref a13, v22, v23, v24, v25, v26, v27, v28, v29, v30, v31, v32, v33, v34, v35, v36, v37, v38, v39, v40, .ref a14, v41, v42, .ref a10, .ref a11, v43, v44, v45, v46, v47, v48])), (a2, .inl (cT 2, 1, .inr (.inl f49))), (a3, .inr (2, [.ref a7, v50, v51])), (a4, .inl (cT 3, 8, .inr (.inr (.inr (.inr f52))))), (a5, .inr (2, [.ref a6, .int 1, v56])), (a6, .inl (cT 2, 4096, .inr (.inl f57))), (a7, .inl (cT 2, 4096, .inr (.inl f59))), (a8, .inr (1, [.ref a9, v60, v61])), (a9, .inl (cT 0, 4096, .inl f62)), (a10, .inl (cT 5, 8, .inr (.inr (.inr (.inr f63))))), (a11, .inl (cT 1, 8, .inl f66)), (a12, .inl (cT 0, 4096, .inl f68)), (a13, .inl (cT 4, 1024, .inr (.inr (.inr (.inr f73))))), (a14, .inl (cT 0, 1024, .inl f76)), (a15, .inl (cT 0, 4096, .inl f77))] H) (hD : va_D A [(a0, .inr (0, [v16, v17, .ref a8, .ref a4, .ref b18, .ref a3, v19, v20])), (a1, .inr (5, [v21, .ref a13, v22, v23, v24, v25, v26, v27, v28, v29, v30, v31, v32, v33, v34, v35, v36, v37, v38, v39, v40, .ref a14, v41, v42, .ref a10, .ref a11, v43, v44, v45, v46, v47, v48])), (a2, .inl (cT 2, 1, .inr (.inl f49))), (a3, .inr (2, [.ref a7, v50, v51])), (a4, .inl (cT 3, 8, .inr (.inr (.inr (.inr f52))))), (a5, .inr (2, [.ref a6, .int 1, v56])), (a6, .inl (cT 2, 4096, .inr (.inl f57))), (a7, .inl (cT 2, 4096, .inr (.inl f59))), (a8, .inr (1, [.ref a9, v60, v61])), (a9, .inl (cT 0, 4096, .inl f62)), (a10, .inl (cT 5, 8, .inr (.inr (.inr (.inr f63))))), (a11, .inl (cT 1, 8, .inl f66)), (a12, .inl (cT 0, 4096, .inl f68)), (a13, .inl (cT 4, 1024, .inr (.inr (.inr (.inr f73))))), (a14, .inl (cT 0, 1024, .inl f76)), (a15, .inl (cT 0, 4096, .inl f77))]) (hS : va_S A s.heap H locs) (hl : lv_has ls 8 [(4, .int 0), (3, .ref a2), (2, .ref a1), (1, .ref a0), (0, .ref b)]) : W p l e room_1 s m #[Value.ref b] below meth c H locs 54 107242 (lw_Z below #[Value.ref b] s) (F0 m 591 ls []) := by
  obtain ⟨hx, hb, hr, hml, hown, htx, hbl, hbA, hlocks, hK, hZ, hA, hA2⟩ := C
  refine lv_aload_n hx hb dL_law_591 rfl (lv_at hl 3 rfl) ?_
  refine lv_aload_n hx hb dL_law_592 rfl (lv_at hl 4 rfl) ?_
  refine lv_iload hx hb dL_law_593 (lv_at hl 0 rfl) ?_
  refine lv_iconst (v := 1) hx hb dL_law_595 (by decide) ?_
  refine lv_iadd hx hb dL_law_596 ?_
  refine W.eq (g2 := F0 m 597 ls [.int 1, .ref b, .ref a0]) rfl ?_
  refine va_sld hx hb hXs hbl hbA hS (i := 1) (show ¬ ((1 : Int32) < 0 ∨ 6 ≤ (1 : Int32).toNatClampNeg) by decide) dL_law_597 ?_
  refine W.eq (g2 := F0 m 598 ls [.int (xs 1), .ref a0]) rfl ?_
  refine lv_aload_n hx hb dL_law_598 rfl (lv_at hl 4 rfl) ?_
  refine lv_iload hx hb dL_law_599 (lv_at hl 0 rfl) ?_
  refine lv_iconst (v := 2) hx hb dL_law_601 (by decide) ?_
  refine lv_iadd hx hb dL_law_602 ?_
  refine W.eq (g2 := F0 m 603 ls [.int 2, .ref b, .int (xs 1), .ref a0]) rfl ?_
  refine va_sld hx hb hXs hbl hbA hS (i := 2) (show ¬ ((2 : Int32) < 0 ∨ 6 ≤ (2 : Int32).toNatClampNeg) by decide) dL_law_603 ?_
  refine W.eq (g2 := F0 m 604 ls [.int (xs 2), .int (xs 1), .ref a0]) rfl ?_
  rw [hf]
  refine W.eq (g2 := F0 m 604 ls [.int 0, .int (xs 1), .ref a0]) rfl ?_
  refine lv_aload_n hx hb dL_law_604 rfl (lv_at hl 4 rfl) ?_
  refine lv_iload hx hb dL_law_605 (lv_at hl 0 rfl) ?_
  refine lv_iconst (v := 3) hx hb dL_law_607 (by decide) ?_
  refine lv_iadd hx hb dL_law_608 ?_
  refine W.eq (g2 := F0 m 609 ls [.int 3, .ref b, .int 0, .int (xs 1), .ref a0]) rfl ?_
  refine va_sld hx hb hXs hbl hbA hS (i := 3) (show ¬ ((3 : Int32) < 0 ∨ 6 ≤ (3 : Int32).toNatClampNeg) by decide) dL_law_609 ?_
  refine W.eq (g2 := F0 m 610 ls [.int (xs 3), .int 0, .int (xs 1), .ref a0]) rfl ?_
  obtain ⟨hPc, hDc, hFc⟩ := xcut (wc := [(a0, .inr (0, [v16, v17, .ref a8, .ref a4, .ref b18, .ref a3, v19, v20])), (a3, .inr (2, [.ref a7, v50, v51])), (a4, .inl (cT 3, 8, .inr (.inr (.inr (.inr f52))))), (a5, .inr (2, [.ref a6, .int 1, v56])), (a6, .inl (cT 2, 4096, .inr (.inl f57))), (a7, .inl (cT 2, 4096, .inr (.inl f59))), (a8, .inr (1, [.ref a9, v60, v61])), (a9, .inl (cT 0, 4096, .inl f62))]) hP hD hS hA [0, 3, 4, 5, 6, 7, 8, 9] rfl rfl (by decide)
  refine va_calli (vx_runSW (As := [.ref a0, .int (xs 1), .int 0, .int (xs 3)]) (rest := []) ⟨hx, hb, hml, hown, htx⟩ (cL_one_6 l hl9 D cT aK aV H.size a0 a3 a4 a5 a6 a7 a8 a9 (xs 1) (xs 3) v16 v17 b18 v19 v20 v50 v51 f52 b54 v56 f57 f59 v60 v61 f62 hto1 hto2 hto3 hto4 ha1 ha2 ha3 ha4 (by first | rfl | exact h53 | exact h55 | exact h58 | exact h64 | exact h65 | exact h67 | exact h69 | exact h70 | exact h71 | exact h72 | exact h74 | exact h75) (by first | rfl | exact h53 | exact h55 | exact h58 | exact h64 | exact h65 | exact h67 | exact h69 | exact h70 | exact h71 | exact h72 | exact h74 | exact h75) (by first | rfl | exact h53 | exact h55 | exact h58 | exact h64 | exact h65 | exact h67 | exact h69 | exact h70 | exact h71 | exact h72 | exact h74 | exact h75)) (xcSW 4 htx (xw_goodC kw_4_21) rfl rfl rfl (htx _ kw_1_0) (htx _ kw_4_19) ⟨by decide, by decide, by decide +kernel⟩ ⟨Nat.le_of_ble_eq_true rfl, Nat.le_of_ble_eq_true rfl⟩ (htx _ kw_4_20)) ⟨xPre_blind, (fun U hU hW => ⟨rfl, xPre_of hZ hS hFc hPc hDc hK U hU hW⟩)⟩ rfl rfl hl.1 rfl (lv_room (Nat.le_of_ble_eq_true rfl)) dL_law_610 ⟨Nat.le_of_ble_eq_true rfl, Nat.le_of_ble_eq_true rfl⟩) hS (fun q _ h => hFc q h) hFc (fun r1 u9 t H1 locs ht hvm hr9 hB hz1 hk1 hS => ?_)
  obtain ⟨y2, y3, y4, y5, hP1, hK1, hD1⟩ := hB
  rw [ht] at hP1
  obtain ⟨hP, hD⟩ := xjoin (W := [(a1, .inr (5, [v21, .ref a13, v22, v23, v24, v25, v26, v27, v28, v29, v30, v31, v32, v33, v34, v35, v36, v37, v38, v39, v40, .ref a14, v41, v42, .ref a10, .ref a11, v43, v44, v45, v46, v47, v48])), (a2, .inl (cT 2, 1, .inr (.inl f49))), (a10, .inl (cT 5, 8, .inr (.inr (.inr (.inr f63))))), (a11, .inl (cT 1, 8, .inl f66)), (a12, .inl (cT 0, 4096, .inl f68)), (a13, .inl (cT 4, 1024, .inr (.inr (.inr (.inr f73))))), (a14, .inl (cT 0, 1024, .inl f76)), (a15, .inl (cT 0, 4096, .inl f77)), (a0, .inr (0, [v16, v17, .ref a8, .ref a4, .ref b18, .ref b54, v19, v20])), (a3, .inr (2, [.ref a7, .int 1, .int 0])), (a4, .inl (cT 3, 8, .inr (.inr (.inr (.inr (va_up f52 (xs 1).toNatClampNeg (some a3))))))), (a5, .inr (2, [.ref a6, .int 1, v56])), (a6, .inl (cT 2, 4096, .inr (.inl f57))), (a7, .inl (cT 2, 4096, .inr (.inl (vp_updL f59 0 2)))), (a8, .inr (1, [.ref a9, .int 4, .int 0])), (a9, .inl (cT 0, 4096, .inl (upd (upd (upd (upd f62 0 (vp_nar .byte y2)) 1 (vp_nar .byte y3)) 2 (vp_nar .byte y4)) 3 (vp_nar .byte y5))))]) hP hD [0, 3, 4, 5, 6, 7, 8, 9] [1, 2, 10, 11, 12, 13, 14, 15] 8 rfl rfl (by decide) (by decide) hk1 hFc hP1 hD1
  generalize H1 = H at hP hS ⊢
  rw [hr9]
  refine W.eq (g2 := F0 m 613 ls [.int 0]) rfl ?_
  refine lv_istore (lv' := [(5, .int 0), (4, .int 0), (3, .ref a2), (2, .ref a1), (1, .ref a0), (0, .ref b)]) hx hb dL_law_613 hl (by decide) rfl (fun ls hl => ?_)
  refine lv_aload_n hx hb dL_law_615 rfl (lv_at hl 3 rfl) ?_
  refine lv_aload_n hx hb dL_law_616 rfl (lv_at hl 5 rfl) ?_
  refine lv_iload hx hb dL_law_617 (lv_at hl 1 rfl) ?_
  refine lv_iconst (v := 1) hx hb dL_law_619 (by decide) ?_
  refine lv_iadd hx hb dL_law_620 ?_
  refine W.eq (g2 := F0 m 621 ls [.int 1, .ref b, .ref a1]) rfl ?_
  refine va_sld hx hb hXs hbl hbA hS (i := 1) (show ¬ ((1 : Int32) < 0 ∨ 6 ≤ (1 : Int32).toNatClampNeg) by decide) dL_law_621 ?_
  refine W.eq (g2 := F0 m 622 ls [.int (xs 1), .ref a1]) rfl ?_
  refine lv_aload_n hx hb dL_law_622 rfl (lv_at hl 5 rfl) ?_
  refine lv_iload hx hb dL_law_623 (lv_at hl 1 rfl) ?_
  refine lv_iconst (v := 2) hx hb dL_law_625 (by decide) ?_
  refine lv_iadd hx hb dL_law_626 ?_
  refine W.eq (g2 := F0 m 627 ls [.int 2, .ref b, .int (xs 1), .ref a1]) rfl ?_
  refine va_sld hx hb hXs hbl hbA hS (i := 2) (show ¬ ((2 : Int32) < 0 ∨ 6 ≤ (2 : Int32).toNatClampNeg) by decide) dL_law_627 ?_
  refine W.eq (g2 := F0 m 628 ls [.int (xs 2), .int (xs 1), .ref a1]) rfl ?_
  rw [hf]
  refine W.eq (g2 := F0 m 628 ls [.int 0, .int (xs 1), .ref a1]) rfl ?_
  refine lv_aload_n hx hb dL_law_628 rfl (lv_at hl 5 rfl) ?_
  refine lv_iload hx hb dL_law_629 (lv_at hl 1 rfl) ?_
  refine lv_iconst (v := 3) hx hb dL_law_631 (by decide) ?_
  refine lv_iadd hx hb dL_law_632 ?_
  refine W.eq (g2 := F0 m 633 ls [.int 3, .ref b, .int 0, .int (xs 1), .ref a1]) rfl ?_
  refine va_sld hx hb hXs hbl hbA hS (i := 3) (show ¬ ((3 : Int32) < 0 ∨ 6 ≤ (3 : Int32).toNatClampNeg) by decide) dL_law_633 ?_
  refine W.eq (g2 := F0 m 634 ls [.int (xs 3), .int 0, .int (xs 1), .ref a1]) rfl ?_
  obtain ⟨hPc, hDc, hFc⟩ := xcut (wc := [(a1, .inr (5, [v21, .ref a13, v22, v23, v24, v25, v26, v27, v28, v29, v30, v31, v32, v33, v34, v35, v36, v37, v38, v39, v40, .ref a14, v41, v42, .ref a10, .ref a11, v43, v44, v45, v46, v47, v48])), (a10, .inl (cT 5, 8, .inr (.inr (.inr (.inr f63))))), (a11, .inl (cT 1, 8, .inl f66)), (a12, .inl (cT 0, 4096, .inl f68)), (a13, .inl (cT 4, 1024, .inr (.inr (.inr (.inr f73))))), (a14, .inl (cT 0, 1024, .inl f76)), (a15, .inl (cT 0, 4096, .inl f77))]) hP hD hS hA [0, 2, 3, 4, 5, 6, 7] rfl rfl (by decide)
  refine va_callv (va_runV (C := "ValueBenchModel") (As := [.int (xs 1), .int 0, .int (xs 3)]) (rest := []) ⟨hx, hb, hml, hown, htx⟩ (cM_one0_7 l hl9 D cT aK aV H.size a1 a10 a11 a12 a13 a14 a15 (xs 1) (xs 3) v21 v22 v23 v24 v25 v26 v27 v28 v29 v30 v31 v32 v33 v34 v35 v36 v37 v38 v39 v40 v41 v42 v43 v44 v45 v46 v47 v48 f63 f66 f68 f73 f76 f77 hto1 hto2 hto3 hto4 ha1 ha2 ha3 ha4 (by first | rfl | exact h53 | exact h58 | exact h64 | exact h65 | exact h67 | exact h69 | exact h70 | exact h71 | exact h72 | exact h74 | exact h75) (by first | rfl | exact h53 | exact h58 | exact h64 | exact h65 | exact h67 | exact h69 | exact h70 | exact h71 | exact h72 | exact h74 | exact h75) (by first | rfl | exact h53 | exact h58 | exact h64 | exact h65 | exact h67 | exact h69 | exact h70 | exact h71 | exact h72 | exact h74 | exact h75) (by first | rfl | exact h53 | exact h58 | exact h64 | exact h65 | exact h67 | exact h69 | exact h70 | exact h71 | exact h72 | exact h74 | exact h75) (by first | rfl | exact h53 | exact h58 | exact h64 | exact h65 | exact h67 | exact h69 | exact h70 | exact h71 | exact h72 | exact h74 | exact h75) (by first | rfl | exact h53 | exact h58 | exact h64 | exact h65 | exact h67 | exact h69 | exact h70 | exact h71 | exact h72 | exact h74 | exact h75) (by first | rfl | exact h53 | exact h58 | exact h64 | exact h65 | exact h67 | exact h69 | exact h70 | exact h71 | exact h72 | exact h74 | exact h75) (by first | rfl | exact h53 | exact h58 | exact h64 | exact h65 | exact h67 | exact h69 | exact h70 | exact h71 | exact h72 | exact h74 | exact h75) (by first | rfl | exact h53 | exact h58 | exact h64 | exact h65 | exact h67 | exact h69 | exact h70 | exact h71 | exact h72 | exact h74 | exact h75)) ⟨callB_of 3 htx (xw_goodC kw_7_123) rfl rfl rfl (htx _ kw_1_5) (htx _ kw_7_120) ⟨by decide, by decide, by decide +kernel⟩ ⟨Nat.le_of_ble_eq_true rfl, Nat.le_of_ble_eq_true rfl⟩, (htx _ kw_7_121), (htx _ kw_7_122)⟩ ⟨xPre_blind, va_recv hK hP (ci := 5) rfl (q0 := 0) rfl, (fun U hU hW => ⟨rfl, xPre_of hZ hS hFc hPc hDc hK U hU hW⟩)⟩ rfl rfl hl.1 rfl (lv_room (Nat.le_of_ble_eq_true rfl)) dL_law_634 ⟨Nat.le_of_ble_eq_true rfl, Nat.le_of_ble_eq_true rfl⟩) hS (fun q _ h => hFc q h) hFc (fun u9 t H1 locs ht hvm hr9 hB hz1 hk1 hS => ?_)
  obtain ⟨q6, q7, y8, y9, y10, y11, hP1, hK1, hD1⟩ := hB
  rw [ht] at hP1
  obtain ⟨hP, hD⟩ := xjoin (W := [(a2, .inl (cT 2, 1, .inr (.inl f49))), (a0, .inr (0, [v16, v17, .ref a8, .ref a4, .ref b18, .ref b54, v19, v20])), (a3, .inr (2, [.ref a7, .int 1, .int 0])), (a4, .inl (cT 3, 8, .inr (.inr (.inr (.inr (va_up f52 (xs 1).toNatClampNeg (some a3))))))), (a5, .inr (2, [.ref a6, .int 1, v56])), (a6, .inl (cT 2, 4096, .inr (.inl f57))), (a7, .inl (cT 2, 4096, .inr (.inl (vp_updL f59 0 2)))), (a8, .inr (1, [.ref a9, .int 4, .int 0])), (a9, .inl (cT 0, 4096, .inl (upd (upd (upd (upd f62 0 (vp_nar .byte y2)) 1 (vp_nar .byte y3)) 2 (vp_nar .byte y4)) 3 (vp_nar .byte y5)))), (a1, .inr (5, [.int 0, .ref a13, .int 2, v23, .int 0, v25, v26, .int 0, v28, .int 0, v30, v31, .int 0, v33, v34, .ref a12, .int 4, .int 4, .int 0, .int 100, v40, .ref a14, .int 4, .int 4096, .ref a10, .ref a11, v43, v44, v45, v46, v47, v48])), (a10, .inl (cT 5, 8, .inr (.inr (.inr (.inr f63))))), (a11, .inl (cT 1, 8, .inl (upd f66 (xs 1).toNatClampNeg 4))), (a12, .inl (cT 0, 4096, .inl f68)), (a13, .inl (cT 4, 1024, .inr (.inr (.inr (.inr (va_up (va_up f73 0 (some q6)) 1 (some q7))))))), (a14, .inl (cT 0, 1024, .inl (upd (upd (upd (upd f76 0 (vp_nar .byte y8)) 1 (vp_nar .byte y9)) 2 (vp_nar .byte y10)) 3 (vp_nar .byte y11)))), (a15, .inl (cT 0, 4096, .inl (upd (upd (upd (upd f77 0 (vp_nar .byte (vp_nar .byte y8))) 1 (vp_nar .byte (vp_nar .byte y9))) 2 (vp_nar .byte (vp_nar .byte y10))) 3 (vp_nar .byte (vp_nar .byte y11))))), (q6, .inr (6, [.int 0, .long 0, .int 0, .int 0, .int 0, .int 1])), (q7, .inr (6, [.int 2, .long 0, .int 0, .int 0, .int 0, .int 1]))]) hP hD [0, 2, 3, 4, 5, 6, 7] [1, 8, 9, 10, 11, 12, 13, 14, 15] 9 rfl rfl (by decide) (by decide) hk1 hFc hP1 hD1
  generalize H1 = H at hP hS ⊢
  refine lv_aload_n hx hb dL_law_637 rfl (lv_at hl 3 rfl) ?_
  obtain ⟨hPc, hDc, hFc⟩ := xcut (wc := [(a1, .inr (5, [.int 0, .ref a13, .int 2, v23, .int 0, v25, v26, .int 0, v28, .int 0, v30, v31, .int 0, v33, v34, .ref a12, .int 4, .int 4, .int 0, .int 100, v40, .ref a14, .int 4, .int 4096, .ref a10, .ref a11, v43, v44, v45, v46, v47, v48]))]) hP hD hS hA [9] rfl rfl (by decide)
  refine va_calli (va_runV (C := "ValueBenchModel") (As := []) (rest := []) ⟨hx, hb, hml, hown, htx⟩ (cM_thrown_0 l hl9 D cT aK aV H.size a1 (.ref a13) (.int 2) v23 (.int 0) v25 v26 (.int 0) v28 (.int 0) v30 v31 (.int 0) v33 v34 (.ref a12) (.int 4) (.int 4) (.int 0) (.int 100) v40 (.ref a14) (.int 4) (.int 4096) (.ref a10) (.ref a11) v43 v44 v45 v46 v47 v48) ⟨callB_of 0 htx (xw_goodC kw_5_187) rfl rfl rfl (htx _ kw_1_5) (htx _ kw_5_184) ⟨by decide, by decide, by decide +kernel⟩ ⟨Nat.le_of_ble_eq_true rfl, Nat.le_of_ble_eq_true rfl⟩, (htx _ kw_5_185), (htx _ kw_5_186)⟩ ⟨xPre_blind, va_recv hK hP (ci := 5) rfl (q0 := 9) rfl, (fun U hU hW => ⟨rfl, xPre_of hZ hS hFc hPc hDc hK U hU hW⟩)⟩ rfl rfl hl.1 rfl (lv_room (Nat.le_of_ble_eq_true rfl)) dL_law_638 ⟨Nat.le_of_ble_eq_true rfl, Nat.le_of_ble_eq_true rfl⟩) hS (fun q _ h => hFc q h) hFc (fun r12 u9 t H1 locs ht hvm hr9 hB hz1 hk1 hS => ?_)
  obtain ⟨hP1, hK1, hD1⟩ := hB
  rw [ht] at hP1
  obtain ⟨hP, hD⟩ := xjoin (W := [(a2, .inl (cT 2, 1, .inr (.inl f49))), (a0, .inr (0, [v16, v17, .ref a8, .ref a4, .ref b18, .ref b54, v19, v20])), (a3, .inr (2, [.ref a7, .int 1, .int 0])), (a4, .inl (cT 3, 8, .inr (.inr (.inr (.inr (va_up f52 (xs 1).toNatClampNeg (some a3))))))), (a5, .inr (2, [.ref a6, .int 1, v56])), (a6, .inl (cT 2, 4096, .inr (.inl f57))), (a7, .inl (cT 2, 4096, .inr (.inl (vp_updL f59 0 2)))), (a8, .inr (1, [.ref a9, .int 4, .int 0])), (a9, .inl (cT 0, 4096, .inl (upd (upd (upd (upd f62 0 (vp_nar .byte y2)) 1 (vp_nar .byte y3)) 2 (vp_nar .byte y4)) 3 (vp_nar .byte y5)))), (a10, .inl (cT 5, 8, .inr (.inr (.inr (.inr f63))))), (a11, .inl (cT 1, 8, .inl (upd f66 (xs 1).toNatClampNeg 4))), (a12, .inl (cT 0, 4096, .inl f68)), (a13, .inl (cT 4, 1024, .inr (.inr (.inr (.inr (va_up (va_up f73 0 (some q6)) 1 (some q7))))))), (a14, .inl (cT 0, 1024, .inl (upd (upd (upd (upd f76 0 (vp_nar .byte y8)) 1 (vp_nar .byte y9)) 2 (vp_nar .byte y10)) 3 (vp_nar .byte y11)))), (a15, .inl (cT 0, 4096, .inl (upd (upd (upd (upd f77 0 (vp_nar .byte (vp_nar .byte y8))) 1 (vp_nar .byte (vp_nar .byte y9))) 2 (vp_nar .byte (vp_nar .byte y10))) 3 (vp_nar .byte (vp_nar .byte y11))))), (q6, .inr (6, [.int 0, .long 0, .int 0, .int 0, .int 0, .int 1])), (q7, .inr (6, [.int 2, .long 0, .int 0, .int 0, .int 0, .int 1])), (a1, .inr (5, [.int 0, .ref a13, .int 2, v23, .int 0, v25, v26, .int 0, v28, .int 0, v30, v31, .int 0, v33, v34, .ref a12, .int 4, .int 4, .int 0, .int 100, v40, .ref a14, .int 4, .int 4096, .ref a10, .ref a11, v43, v44, v45, v46, v47, v48]))]) hP hD [9] [0, 1, 2, 3, 4, 5, 6, 7, 8, 10, 11, 12, 13, 14, 15, 16, 17] 17 rfl rfl (by decide) (by decide) hk1 hFc hP1 hD1
  generalize H1 = H at hP hS ⊢
  rw [hr9]
  refine W.eq (g2 := F0 m 641 ls [.int 0]) rfl ?_
  refine lv_iload hx hb dL_law_641 (lv_at hl 0 rfl) ?_
  refine lv_icmp_eq (tgt := 648) hx hb dL_law_643 (by decide) (fun _ => ?_) (fun h => ((by revert h; decide : False)).elim)
  refine lv_goto (tgt := 906) hx hb dL_law_648 (by decide) ?_
  refine lv_iinc (v := 6) (lv' := [(4, .int 6), (5, .int 0), (3, .ref a2), (2, .ref a1), (1, .ref a0), (0, .ref b)]) hx hb dL_law_906 hl (k := 1) rfl (by decide) (by decide) rfl (fun ls hl => ?_)
  refine lv_goto (tgt := 23) hx hb dL_law_909 (by decide) ?_
  refine lv_iload hx hb dL_law_23 (lv_at hl 0 rfl) ?_
  refine lv_aload_n hx hb dL_law_25 rfl (lv_at hl 5 rfl) ?_
  refine va_slen hx hb hXs hbl hbA hS dL_law_26 ?_
  refine W.eq (g2 := F0 m 27 ls [.int 6, .int 6]) rfl ?_
  refine lv_bipush (v := 6) hx hb dL_law_27 (by decide) ?_
  refine lv_isub hx hb dL_law_29 ?_
  refine W.eq (g2 := F0 m 30 ls [.int 0, .int 6]) rfl ?_
  refine lv_icmp_gt (tgt := 912) hx hb dL_law_30 (by decide) (fun _ => ?_) (fun h => ((by revert h; decide : False)).elim)
  refine lv_iconst (v := 1) hx hb dL_law_912 (by decide) ?_
  exact va_forget (fun q h => hA2 _ (hS.2.2 q h)) (W.widen (k := 600002) (n := 7302232) (Nat.le_of_ble_eq_true rfl) (Nat.le_of_ble_eq_true rfl) (lw_ret hx hb hr hlocks dL_law_913))
set_option maxHeartbeats 400000000 in
set_option maxRecDepth 100000 in
theorem lf_one1_p2 {p : Program} {e : Env} {s : State} {m : MethodId} {below : List Frame} {meth : Method} {c : Code} (l : Launch) (hl9 : l.stackTraces = false) (D : va_G) (cT : Nat → ClassId) (aK aV : Nat → Nat) {A : Nat → Prop} {b : Nat} {xs : Nat → Int32} (C : xLw p s m meth c b D cT aK aV A) {H : Heap} {locs : List Loc} {ls : Array Slot} (a0 : Nat) (a1 : Nat) (a2 : Nat) (a3 : Nat) (a4 : Nat) (a5 : Nat) (a6 : Nat) (a7 : Nat) (a8 : Nat) (a9 : Nat) (a10 : Nat) (a11 : Nat) (a12 : Nat) (a13 : Nat) (a14 : Nat) (v15 : Value) (v16 : Value) (b17 : Nat) (v18 : Value) (v19 : Value) (v20 : Value) (v21 : Value) (v22 : Value) (v23 : Value) (v24 : Value) (v25 : Value) (v26 : Value) (v27 : Value) (v28 : Value) (v29 : Value) (v30 : Value) (v31 : Value) (v32 : Value) (v33 : Value) (v34 : Value) (v35 : Value) (v36 : Value) (v37 : Value) (v38 : Value) (v39 : Value) (v40 : Value) (v41 : Value) (v42 : Value) (v43 : Value) (v44 : Value) (v45 : Value) (v46 : Value) (v47 : Value) (f48 : Nat → Int64) (v49 : Value) (v50 : Value) (f51 : Nat → Option Nat) (b53 : Nat) (v55 : Value) (f56 : Nat → Int64) (f58 : Nat → Int64) (v59 : Value) (v60 : Value) (f61 : Nat → Int32) (f62 : Nat → Option Nat) (f65 : Nat → Int32) (f67 : Nat → Int32) (f72 : Nat → Option Nat) (f75 : Nat → Int32) (h52 : f51 (xs 3).toNatClampNeg = some a5) (h54 : f51 (xs 1).toNatClampNeg = some b53) (h57 : f56 0 = 0) (h63 : f62 (xs 3).toNatClampNeg = some a12) (h64 : f62 (xs 1).toNatClampNeg = some a12) (h66 : f65 (xs 3).toNatClampNeg = 4) (h68 : f67 0 = 110) (h69 : f67 1 = 117) (h70 : f67 2 = 108) (h71 : f67 3 = 108) (h73 : f72 0 = none) (h74 : f72 1 = none) (hto1 : ¬ (xs 1) < 0) (hto2 : ¬ 7 < (xs 1)) (hto3 : (xs 1) ≤ 7) (hto4 : vp_in (xs 1) 8) (hf : xs 2 = 1) (ha1 : ¬ (xs 3) < 0) (ha2 : ¬ 7 < (xs 3)) (ha3 : (xs 3) ≤ 7) (ha4 : vp_in (xs 3) 8) (hXs : va_X b 6 xs s s.heap) (hP : va_P D xcl [(a0, .inr (0, [v15, v16, .ref a8, .ref a4, .ref b17, .ref a3, v18, v19])), (a1, .inr (5, [v20, .ref a13, v21, v22, v23, v24, v25, v26, v27, v28, v29, v30, v31, v32, v33, v34, v35, v36, v37, v38, v39, .ref a14, v40, v41, .ref a10, .ref a11, v42, v43, v44, v45, v46, v47])), (a2, .inl (cT 2, 1, .inr (.inl f48))), (a3, .inr (2, [.ref a7, v49, v50])), (a4, .inl (cT 3, 8, .inr (.inr (.inr (.inr f51))))), (a5, .inr (2, [.ref a6, .int 1, v55])), (a6, .inl (cT 2, 4096, .inr (.inl f56))), (a7, .inl (cT 2, 4096, .inr (.inl f58))), (a8, .inr (1, [.ref a9, v59, v60])), (a9, .inl (cT 0, 4096, .inl f61)), (a10, .inl (cT 5, 8, .inr (.inr (.inr (.inr f62))))), (a11, .inl (cT 1, 8, .inl f65)), (a12, .inl (cT 0, 4096, .inl f67)), (a13, .inl (cT 4, 1024, .inr (.inr (.inr (.inr f72))))), (a14, .inl (cT 0, 1024, .inl f75))] H) (hD : va_D A [(a0, .inr (0, [v15, v16, .ref a8, .ref a4, .ref b17, .ref a3, v18, v19])), (a1, .inr (5, [v20, .ref a13, v21, v22, v23, v24, v25, v26, v27, v28, v29, v30, v31, v32, v33, v34, v35, v36, v37, v38, v39, .ref a14, v40, v41, .ref a10, .ref a11, v42, v43, v44, v45, v46, v47])), (a2, .inl (cT 2, 1, .inr (.inl f48))), (a3, .inr (2, [.ref a7, v49, v50])), (a4, .inl (cT 3, 8, .inr (.inr (.inr (.inr f51))))), (a5, .inr (2, [.ref a6, .int 1, v55])), (a6, .inl (cT 2, 4096, .inr (.inl f56))), (a7, .inl (cT 2, 4096, .inr (.inl f58))), (a8, .inr (1, [.ref a9, v59, v60])), (a9, .inl (cT 0, 4096, .inl f61)), (a10, .inl (cT 5, 8, .inr (.inr (.inr (.inr f62))))), (a11, .inl (cT 1, 8, .inl f65)), (a12, .inl (cT 0, 4096, .inl f67)), (a13, .inl (cT 4, 1024, .inr (.inr (.inr (.inr f72))))), (a14, .inl (cT 0, 1024, .inl f75))]) (hS : va_S A s.heap H locs) (hl : lv_has ls 8 [(4, .int 0), (3, .ref a2), (2, .ref a1), (1, .ref a0), (0, .ref b)]) : W p l e room_1 s m #[Value.ref b] below meth c H locs 54 107242 (lw_Z below #[Value.ref b] s) (F0 m 591 ls []) := by
  obtain ⟨hx, hb, hr, hml, hown, htx, hbl, hbA, hlocks, hK, hZ, hA, hA2⟩ := C
  refine lv_aload_n hx hb dL_law_591 rfl (lv_at hl 3 rfl) ?_
  refine lv_aload_n hx hb dL_law_592 rfl (lv_at hl 4 rfl) ?_
  refine lv_iload hx hb dL_law_593 (lv_at hl 0 rfl) ?_
  refine lv_iconst (v := 1) hx hb dL_law_595 (by decide) ?_
  refine lv_iadd hx hb dL_law_596 ?_
  refine W.eq (g2 := F0 m 597 ls [.int 1, .ref b, .ref a0]) rfl ?_
  refine va_sld hx hb hXs hbl hbA hS (i := 1) (show ¬ ((1 : Int32) < 0 ∨ 6 ≤ (1 : Int32).toNatClampNeg) by decide) dL_law_597 ?_
  refine W.eq (g2 := F0 m 598 ls [.int (xs 1), .ref a0]) rfl ?_
  refine lv_aload_n hx hb dL_law_598 rfl (lv_at hl 4 rfl) ?_
  refine lv_iload hx hb dL_law_599 (lv_at hl 0 rfl) ?_
  refine lv_iconst (v := 2) hx hb dL_law_601 (by decide) ?_
  refine lv_iadd hx hb dL_law_602 ?_
  refine W.eq (g2 := F0 m 603 ls [.int 2, .ref b, .int (xs 1), .ref a0]) rfl ?_
  refine va_sld hx hb hXs hbl hbA hS (i := 2) (show ¬ ((2 : Int32) < 0 ∨ 6 ≤ (2 : Int32).toNatClampNeg) by decide) dL_law_603 ?_
  refine W.eq (g2 := F0 m 604 ls [.int (xs 2), .int (xs 1), .ref a0]) rfl ?_
  rw [hf]
  refine W.eq (g2 := F0 m 604 ls [.int 1, .int (xs 1), .ref a0]) rfl ?_
  refine lv_aload_n hx hb dL_law_604 rfl (lv_at hl 4 rfl) ?_
  refine lv_iload hx hb dL_law_605 (lv_at hl 0 rfl) ?_
  refine lv_iconst (v := 3) hx hb dL_law_607 (by decide) ?_
  refine lv_iadd hx hb dL_law_608 ?_
  refine W.eq (g2 := F0 m 609 ls [.int 3, .ref b, .int 1, .int (xs 1), .ref a0]) rfl ?_
  refine va_sld hx hb hXs hbl hbA hS (i := 3) (show ¬ ((3 : Int32) < 0 ∨ 6 ≤ (3 : Int32).toNatClampNeg) by decide) dL_law_609 ?_
  refine W.eq (g2 := F0 m 610 ls [.int (xs 3), .int 1, .int (xs 1), .ref a0]) rfl ?_
  obtain ⟨hPc, hDc, hFc⟩ := xcut (wc := [(a0, .inr (0, [v15, v16, .ref a8, .ref a4, .ref b17, .ref a3, v18, v19])), (a3, .inr (2, [.ref a7, v49, v50])), (a4, .inl (cT 3, 8, .inr (.inr (.inr (.inr f51))))), (a5, .inr (2, [.ref a6, .int 1, v55])), (a6, .inl (cT 2, 4096, .inr (.inl f56))), (a7, .inl (cT 2, 4096, .inr (.inl f58))), (a8, .inr (1, [.ref a9, v59, v60])), (a9, .inl (cT 0, 4096, .inl f61))]) hP hD hS hA [0, 3, 4, 5, 6, 7, 8, 9] rfl rfl (by decide)
  refine va_calli (vx_runSW (As := [.ref a0, .int (xs 1), .int 1, .int (xs 3)]) (rest := []) ⟨hx, hb, hml, hown, htx⟩ (cL_one_7 l hl9 D cT aK aV H.size a0 a3 a4 a5 a6 a7 a8 a9 (xs 1) (xs 3) v15 v16 b17 v18 v19 v49 v50 f51 b53 v55 f56 f58 v59 v60 f61 hto1 hto2 hto3 hto4 ha1 ha2 ha3 ha4 (by first | rfl | exact h52 | exact h54 | exact h57 | exact h63 | exact h64 | exact h66 | exact h68 | exact h69 | exact h70 | exact h71 | exact h73 | exact h74) (by first | rfl | exact h52 | exact h54 | exact h57 | exact h63 | exact h64 | exact h66 | exact h68 | exact h69 | exact h70 | exact h71 | exact h73 | exact h74) (by first | rfl | exact h52 | exact h54 | exact h57 | exact h63 | exact h64 | exact h66 | exact h68 | exact h69 | exact h70 | exact h71 | exact h73 | exact h74)) (xcSW 4 htx (xw_goodC kw_4_21) rfl rfl rfl (htx _ kw_1_0) (htx _ kw_4_19) ⟨by decide, by decide, by decide +kernel⟩ ⟨Nat.le_of_ble_eq_true rfl, Nat.le_of_ble_eq_true rfl⟩ (htx _ kw_4_20)) ⟨xPre_blind, (fun U hU hW => ⟨rfl, xPre_of hZ hS hFc hPc hDc hK U hU hW⟩)⟩ rfl rfl hl.1 rfl (lv_room (Nat.le_of_ble_eq_true rfl)) dL_law_610 ⟨Nat.le_of_ble_eq_true rfl, Nat.le_of_ble_eq_true rfl⟩) hS (fun q _ h => hFc q h) hFc (fun r1 u9 t H1 locs ht hvm hr9 hB hz1 hk1 hS => ?_)
  obtain ⟨y2, hP1, hK1, hD1⟩ := hB
  rw [ht] at hP1
  obtain ⟨hP, hD⟩ := xjoin (W := [(a1, .inr (5, [v20, .ref a13, v21, v22, v23, v24, v25, v26, v27, v28, v29, v30, v31, v32, v33, v34, v35, v36, v37, v38, v39, .ref a14, v40, v41, .ref a10, .ref a11, v42, v43, v44, v45, v46, v47])), (a2, .inl (cT 2, 1, .inr (.inl f48))), (a10, .inl (cT 5, 8, .inr (.inr (.inr (.inr f62))))), (a11, .inl (cT 1, 8, .inl f65)), (a12, .inl (cT 0, 4096, .inl f67)), (a13, .inl (cT 4, 1024, .inr (.inr (.inr (.inr f72))))), (a14, .inl (cT 0, 1024, .inl f75)), (a0, .inr (0, [v15, v16, .ref a8, .ref a4, .ref b17, .ref b53, v18, v19])), (a3, .inr (2, [.ref a7, .int 1, .int 0])), (a4, .inl (cT 3, 8, .inr (.inr (.inr (.inr (va_up f51 (xs 1).toNatClampNeg (some a3))))))), (a5, .inr (2, [.ref a6, .int 1, v55])), (a6, .inl (cT 2, 4096, .inr (.inl f56))), (a7, .inl (cT 2, 4096, .inr (.inl (vp_updL f58 0 3)))), (a8, .inr (1, [.ref a9, .int 1, .int 0])), (a9, .inl (cT 0, 4096, .inl (upd f61 0 (vp_nar .byte y2))))]) hP hD [0, 3, 4, 5, 6, 7, 8, 9] [1, 2, 10, 11, 12, 13, 14] 7 rfl rfl (by decide) (by decide) hk1 hFc hP1 hD1
  generalize H1 = H at hP hS ⊢
  rw [hr9]
  refine W.eq (g2 := F0 m 613 ls [.int 0]) rfl ?_
  refine lv_istore (lv' := [(5, .int 0), (4, .int 0), (3, .ref a2), (2, .ref a1), (1, .ref a0), (0, .ref b)]) hx hb dL_law_613 hl (by decide) rfl (fun ls hl => ?_)
  refine lv_aload_n hx hb dL_law_615 rfl (lv_at hl 3 rfl) ?_
  refine lv_aload_n hx hb dL_law_616 rfl (lv_at hl 5 rfl) ?_
  refine lv_iload hx hb dL_law_617 (lv_at hl 1 rfl) ?_
  refine lv_iconst (v := 1) hx hb dL_law_619 (by decide) ?_
  refine lv_iadd hx hb dL_law_620 ?_
  refine W.eq (g2 := F0 m 621 ls [.int 1, .ref b, .ref a1]) rfl ?_
  refine va_sld hx hb hXs hbl hbA hS (i := 1) (show ¬ ((1 : Int32) < 0 ∨ 6 ≤ (1 : Int32).toNatClampNeg) by decide) dL_law_621 ?_
  refine W.eq (g2 := F0 m 622 ls [.int (xs 1), .ref a1]) rfl ?_
  refine lv_aload_n hx hb dL_law_622 rfl (lv_at hl 5 rfl) ?_
  refine lv_iload hx hb dL_law_623 (lv_at hl 1 rfl) ?_
  refine lv_iconst (v := 2) hx hb dL_law_625 (by decide) ?_
  refine lv_iadd hx hb dL_law_626 ?_
  refine W.eq (g2 := F0 m 627 ls [.int 2, .ref b, .int (xs 1), .ref a1]) rfl ?_
  refine va_sld hx hb hXs hbl hbA hS (i := 2) (show ¬ ((2 : Int32) < 0 ∨ 6 ≤ (2 : Int32).toNatClampNeg) by decide) dL_law_627 ?_
  refine W.eq (g2 := F0 m 628 ls [.int (xs 2), .int (xs 1), .ref a1]) rfl ?_
  rw [hf]
  refine W.eq (g2 := F0 m 628 ls [.int 1, .int (xs 1), .ref a1]) rfl ?_
  refine lv_aload_n hx hb dL_law_628 rfl (lv_at hl 5 rfl) ?_
  refine lv_iload hx hb dL_law_629 (lv_at hl 1 rfl) ?_
  refine lv_iconst (v := 3) hx hb dL_law_631 (by decide) ?_
  refine lv_iadd hx hb dL_law_632 ?_
  refine W.eq (g2 := F0 m 633 ls [.int 3, .ref b, .int 1, .int (xs 1), .ref a1]) rfl ?_
  refine va_sld hx hb hXs hbl hbA hS (i := 3) (show ¬ ((3 : Int32) < 0 ∨ 6 ≤ (3 : Int32).toNatClampNeg) by decide) dL_law_633 ?_
  refine W.eq (g2 := F0 m 634 ls [.int (xs 3), .int 1, .int (xs 1), .ref a1]) rfl ?_
  obtain ⟨hPc, hDc, hFc⟩ := xcut (wc := [(a1, .inr (5, [v20, .ref a13, v21, v22, v23, v24, v25, v26, v27, v28, v29, v30, v31, v32, v33, v34, v35, v36, v37, v38, v39, .ref a14, v40, v41, .ref a10, .ref a11, v42, v43, v44, v45, v46, v47])), (a10, .inl (cT 5, 8, .inr (.inr (.inr (.inr f62))))), (a11, .inl (cT 1, 8, .inl f65)), (a12, .inl (cT 0, 4096, .inl f67)), (a13, .inl (cT 4, 1024, .inr (.inr (.inr (.inr f72))))), (a14, .inl (cT 0, 1024, .inl f75))]) hP hD hS hA [0, 2, 3, 4, 5, 6] rfl rfl (by decide)
  refine va_callv (va_runV (C := "ValueBenchModel") (As := [.int (xs 1), .int 1, .int (xs 3)]) (rest := []) ⟨hx, hb, hml, hown, htx⟩ (cM_one0_8 l hl9 D cT aK aV H.size a1 a10 a11 a12 a13 a14 (xs 1) (xs 3) v20 v21 v22 v23 v24 v25 v26 v27 v28 v29 v30 v31 v32 v33 v34 v35 v36 v37 v38 v39 v40 v41 v42 v43 v44 v45 v46 v47 f62 f65 f67 f72 f75 hto1 hto2 hto3 hto4 ha1 ha2 ha3 ha4 (by first | rfl | exact h52 | exact h57 | exact h63 | exact h64 | exact h66 | exact h68 | exact h69 | exact h70 | exact h71 | exact h73 | exact h74) (by first | rfl | exact h52 | exact h57 | exact h63 | exact h64 | exact h66 | exact h68 | exact h69 | exact h70 | exact h71 | exact h73 | exact h74) (by first | rfl | exact h52 | exact h57 | exact h63 | exact h64 | exact h66 | exact h68 | exact h69 | exact h70 | exact h71 | exact h73 | exact h74) (by first | rfl | exact h52 | exact h57 | exact h63 | exact h64 | exact h66 | exact h68 | exact h69 | exact h70 | exact h71 | exact h73 | exact h74) (by first | rfl | exact h52 | exact h57 | exact h63 | exact h64 | exact h66 | exact h68 | exact h69 | exact h70 | exact h71 | exact h73 | exact h74) (by first | rfl | exact h52 | exact h57 | exact h63 | exact h64 | exact h66 | exact h68 | exact h69 | exact h70 | exact h71 | exact h73 | exact h74) (by first | rfl | exact h52 | exact h57 | exact h63 | exact h64 | exact h66 | exact h68 | exact h69 | exact h70 | exact h71 | exact h73 | exact h74) (by first | rfl | exact h52 | exact h57 | exact h63 | exact h64 | exact h66 | exact h68 | exact h69 | exact h70 | exact h71 | exact h73 | exact h74) (by first | rfl | exact h52 | exact h57 | exact h63 | exact h64 | exact h66 | exact h68 | exact h69 | exact h70 | exact h71 | exact h73 | exact h74)) ⟨callB_of 3 htx (xw_goodC kw_7_123) rfl rfl rfl (htx _ kw_1_5) (htx _ kw_7_120) ⟨by decide, by decide, by decide +kernel⟩ ⟨Nat.le_of_ble_eq_true rfl, Nat.le_of_ble_eq_true rfl⟩, (htx _ kw_7_121), (htx _ kw_7_122)⟩ ⟨xPre_blind, va_recv hK hP (ci := 5) rfl (q0 := 0) rfl, (fun U hU hW => ⟨rfl, xPre_of hZ hS hFc hPc hDc hK U hU hW⟩)⟩ rfl rfl hl.1 rfl (lv_room (Nat.le_of_ble_eq_true rfl)) dL_law_634 ⟨Nat.le_of_ble_eq_true rfl, Nat.le_of_ble_eq_true rfl⟩) hS (fun q _ h => hFc q h) hFc (fun u9 t H1 locs ht hvm hr9 hB hz1 hk1 hS => ?_)
  obtain ⟨q3, q4, y5, hP1, hK1, hD1⟩ := hB
  rw [ht] at hP1
  obtain ⟨hP, hD⟩ := xjoin (W := [(a2, .inl (cT 2, 1, .inr (.inl f48))), (a0, .inr (0, [v15, v16, .ref a8, .ref a4, .ref b17, .ref b53, v18, v19])), (a3, .inr (2, [.ref a7, .int 1, .int 0])), (a4, .inl (cT 3, 8, .inr (.inr (.inr (.inr (va_up f51 (xs 1).toNatClampNeg (some a3))))))), (a5, .inr (2, [.ref a6, .int 1, v55])), (a6, .inl (cT 2, 4096, .inr (.inl f56))), (a7, .inl (cT 2, 4096, .inr (.inl (vp_updL f58 0 3)))), (a8, .inr (1, [.ref a9, .int 1, .int 0])), (a9, .inl (cT 0, 4096, .inl (upd f61 0 (vp_nar .byte y2)))), (a1, .inr (5, [.int 0, .ref a13, .int 2, v22, .int 0, v24, v25, .int 0, v27, .int 0, v29, v30, .int 0, v32, v33, .ref a12, .int 4, .int 4, .int 0, .int 100, v39, .ref a14, .int 1, .int 4096, .ref a10, .ref a11, v42, v43, v44, v45, v46, v47])), (a10, .inl (cT 5, 8, .inr (.inr (.inr (.inr f62))))), (a11, .inl (cT 1, 8, .inl (upd f65 (xs 1).toNatClampNeg 1))), (a12, .inl (cT 0, 4096, .inl (upd f67 0 (vp_nar .byte (vp_nar .byte y5))))), (a13, .inl (cT 4, 1024, .inr (.inr (.inr (.inr (va_up (va_up f72 0 (some q3)) 1 (some q4))))))), (a14, .inl (cT 0, 1024, .inl (upd f75 0 (vp_nar .byte y5)))), (q3, .inr (6, [.int 0, .long 0, .int 0, .int 0, .int 0, .int 1])), (q4, .inr (6, [.int 3, .long 0, .int 0, .int 0, .int 0, .int 1]))]) hP hD [0, 2, 3, 4, 5, 6] [1, 7, 8, 9, 10, 11, 12, 13, 14] 9 rfl rfl (by decide) (by decide) hk1 hFc hP1 hD1
  generalize H1 = H at hP hS ⊢
  refine lv_aload_n hx hb dL_law_637 rfl (lv_at hl 3 rfl) ?_
  obtain ⟨hPc, hDc, hFc⟩ := xcut (wc := [(a1, .inr (5, [.int 0, .ref a13, .int 2, v22, .int 0, v24, v25, .int 0, v27, .int 0, v29, v30, .int 0, v32, v33, .ref a12, .int 4, .int 4, .int 0, .int 100, v39, .ref a14, .int 1, .int 4096, .ref a10, .ref a11, v42, v43, v44, v45, v46, v47]))]) hP hD hS hA [9] rfl rfl (by decide)
  refine va_calli (va_runV (C := "ValueBenchModel") (As := []) (rest := []) ⟨hx, hb, hml, hown, htx⟩ (cM_thrown_0 l hl9 D cT aK aV H.size a1 (.ref a13) (.int 2) v22 (.int 0) v24 v25 (.int 0) v27 (.int 0) v29 v30 (.int 0) v32 v33 (.ref a12) (.int 4) (.int 4) (.int 0) (.int 100) v39 (.ref a14) (.int 1) (.int 4096) (.ref a10) (.ref a11) v42 v43 v44 v45 v46 v47) ⟨callB_of 0 htx (xw_goodC kw_5_187) rfl rfl rfl (htx _ kw_1_5) (htx _ kw_5_184) ⟨by decide, by decide, by decide +kernel⟩ ⟨Nat.le_of_ble_eq_true rfl, Nat.le_of_ble_eq_true rfl⟩, (htx _ kw_5_185), (htx _ kw_5_186)⟩ ⟨xPre_blind, va_recv hK hP (ci := 5) rfl (q0 := 9) rfl, (fun U hU hW => ⟨rfl, xPre_of hZ hS hFc hPc hDc hK U hU hW⟩)⟩ rfl rfl hl.1 rfl (lv_room (Nat.le_of_ble_eq_true rfl)) dL_law_638 ⟨Nat.le_of_ble_eq_true rfl, Nat.le_of_ble_eq_true rfl⟩) hS (fun q _ h => hFc q h) hFc (fun r6 u9 t H1 locs ht hvm hr9 hB hz1 hk1 hS => ?_)
  obtain ⟨hP1, hK1, hD1⟩ := hB
  rw [ht] at hP1
  obtain ⟨hP, hD⟩ := xjoin (W := [(a2, .inl (cT 2, 1, .inr (.inl f48))), (a0, .inr (0, [v15, v16, .ref a8, .ref a4, .ref b17, .ref b53, v18, v19])), (a3, .inr (2, [.ref a7, .int 1, .int 0])), (a4, .inl (cT 3, 8, .inr (.inr (.inr (.inr (va_up f51 (xs 1).toNatClampNeg (some a3))))))), (a5, .inr (2, [.ref a6, .int 1, v55])), (a6, .inl (cT 2, 4096, .inr (.inl f56))), (a7, .inl (cT 2, 4096, .inr (.inl (vp_updL f58 0 3)))), (a8, .inr (1, [.ref a9, .int 1, .int 0])), (a9, .inl (cT 0, 4096, .inl (upd f61 0 (vp_nar .byte y2)))), (a10, .inl (cT 5, 8, .inr (.inr (.inr (.inr f62))))), (a11, .inl (cT 1, 8, .inl (upd f65 (xs 1).toNatClampNeg 1))), (a12, .inl (cT 0, 4096, .inl (upd f67 0 (vp_nar .byte (vp_nar .byte y5))))), (a13, .inl (cT 4, 1024, .inr (.inr (.inr (.inr (va_up (va_up f72 0 (some q3)) 1 (some q4))))))), (a14, .inl (cT 0, 1024, .inl (upd f75 0 (vp_nar .byte y5)))), (q3, .inr (6, [.int 0, .long 0, .int 0, .int 0, .int 0, .int 1])), (q4, .inr (6, [.int 3, .long 0, .int 0, .int 0, .int 0, .int 1])), (a1, .inr (5, [.int 0, .ref a13, .int 2, v22, .int 0, v24, v25, .int 0, v27, .int 0, v29, v30, .int 0, v32, v33, .ref a12, .int 4, .int 4, .int 0, .int 100, v39, .ref a14, .int 1, .int 4096, .ref a10, .ref a11, v42, v43, v44, v45, v46, v47]))]) hP hD [9] [0, 1, 2, 3, 4, 5, 6, 7, 8, 10, 11, 12, 13, 14, 15, 16] 16 rfl rfl (by decide) (by decide) hk1 hFc hP1 hD1
  generalize H1 = H at hP hS ⊢
  rw [hr9]
  refine W.eq (g2 := F0 m 641 ls [.int 0]) rfl ?_
  refine lv_iload hx hb dL_law_641 (lv_at hl 0 rfl) ?_
  refine lv_icmp_eq (tgt := 648) hx hb dL_law_643 (by decide) (fun _ => ?_) (fun h => ((by revert h; decide : False)).elim)
  refine lv_goto (tgt := 906) hx hb dL_law_648 (by decide) ?_
  refine lv_iinc (v := 6) (lv' := [(4, .int 6), (5, .int 0), (3, .ref a2), (2, .ref a1), (1, .ref a0), (0, .ref b)]) hx hb dL_law_906 hl (k := 1) rfl (by decide) (by decide) rfl (fun ls hl => ?_)
  refine lv_goto (tgt := 23) hx hb dL_law_909 (by decide) ?_
  refine lv_iload hx hb dL_law_23 (lv_at hl 0 rfl) ?_
  refine lv_aload_n hx hb dL_law_25 rfl (lv_at hl 5 rfl) ?_
  refine va_slen hx hb hXs hbl hbA hS dL_law_26 ?_
  refine W.eq (g2 := F0 m 27 ls [.int 6, .int 6]) rfl ?_
  refine lv_bipush (v := 6) hx hb dL_law_27 (by decide) ?_
  refine lv_isub hx hb dL_law_29 ?_
  refine W.eq (g2 := F0 m 30 ls [.int 0, .int 6]) rfl ?_
  refine lv_icmp_gt (tgt := 912) hx hb dL_law_30 (by decide) (fun _ => ?_) (fun h => ((by revert h; decide : False)).elim)
  refine lv_iconst (v := 1) hx hb dL_law_912 (by decide) ?_
  exact va_forget (fun q h => hA2 _ (hS.2.2 q h)) (W.widen (k := 600002) (n := 7302232) (Nat.le_of_ble_eq_true rfl) (Nat.le_of_ble_eq_true rfl) (lw_ret hx hb hr hlocks dL_law_913))
set_option maxHeartbeats 400000000 in
set_option maxRecDepth 100000 in
theorem lf_one1_p0 {p : Program} {e : Env} {s : State} {m : MethodId} {below : List Frame} {meth : Method} {c : Code} (l : Launch) (hl9 : l.stackTraces = false) (D : va_G) (cT : Nat → ClassId) (aK aV : Nat → Nat) {A : Nat → Prop} {b : Nat} {xs : Nat → Int32} (C : xLw p s m meth c b D cT aK aV A) {H : Heap} {locs : List Loc} {ls : Array Slot} (a0 : Nat) (a1 : Nat) (a2 : Nat) (a3 : Nat) (a4 : Nat) (a5 : Nat) (a6 : Nat) (a7 : Nat) (a8 : Nat) (a9 : Nat) (a10 : Nat) (a11 : Nat) (a12 : Nat) (a13 : Nat) (a14 : Nat) (a15 : Nat) (v16 : Value) (v17 : Value) (b18 : Nat) (v19 : Value) (v20 : Value) (v21 : Value) (v22 : Value) (v23 : Value) (v24 : Value) (v25 : Value) (v26 : Value) (v27 : Value) (v28 : Value) (v29 : Value) (v30 : Value) (v31 : Value) (v32 : Value) (v33 : Value) (v34 : Value) (v35 : Value) (v36 : Value) (v37 : Value) (v38 : Value) (v39 : Value) (v40 : Value) (v41 : Value) (v42 : Value) (v43 : Value) (v44 : Value) (v45 : Value) (v46 : Value) (v47 : Value) (v48 : Value) (f49 : Nat → Int64) (v50 : Value) (v51 : Value) (f52 : Nat → Option Nat) (b54 : Nat) (v56 : Value) (f57 : Nat → Int64) (f59 : Nat → Int64) (v60 : Value) (v61 : Value) (f62 : Nat → Int32) (f63 : Nat → Option Nat) (f66 : Nat → Int32) (f68 : Nat → Int32) (f73 : Nat → Option Nat) (f76 : Nat → Int32) (f77 : Nat → Int32) (h53 : f52 (xs 3).toNatClampNeg = some a5) (h55 : f52 (xs 1).toNatClampNeg = some b54) (h58 : f57 0 = 0) (h64 : f63 (xs 3).toNatClampNeg = some a12) (h65 : f63 (xs 1).toNatClampNeg = some a15) (h67 : f66 (xs 3).toNatClampNeg = 4) (h69 : f68 0 = 110) (h70 : f68 1 = 117) (h71 : f68 2 = 108) (h72 : f68 3 = 108) (h74 : f73 0 = none) (h75 : f73 1 = none) (hto1 : ¬ (xs 1) < 0) (hto2 : ¬ 7 < (xs 1)) (hto3 : (xs 1) ≤ 7) (hto4 : vp_in (xs 1) 8) (hf : xs 2 = 1) (ha1 : ¬ (xs 3) < 0) (ha2 : ¬ 7 < (xs 3)) (ha3 : (xs 3) ≤ 7) (ha4 : vp_in (xs 3) 8) (hXs : va_X b 6 xs s s.heap) (hP : va_P D xcl [(a0, .inr (0, [v16, v17, .ref a8, .ref a4, .ref b18, .ref a3, v19, v20])), (a1, .inr (5, [v21, .ref a13, v22, v23, v24, v25, v26, v27, v28, v29, v30, v31, v32, v33, v34, v35, v36, v37, v38, v39, v40, .ref a14, v41, v42, .ref a10, .ref a11, v43, v44, v45, v46, v47, v48])), (a2, .inl (cT 2, 1, .inr (.inl f49))), (a3, .inr (2, [.ref a7, v50, v51])), (a4, .inl (cT 3, 8, .inr (.inr (.inr (.inr f52))))), (a5, .inr (2, [.ref a6, .int 1, v56])), (a6, .inl (cT 2, 4096, .inr (.inl f57))), (a7, .inl (cT 2, 4096, .inr (.inl f59))), (a8, .inr (1, [.ref a9, v60, v61])), (a9, .inl (cT 0, 4096, .inl f62)), (a10, .inl (cT 5, 8, .inr (.inr (.inr (.inr f63))))), (a11, .inl (cT 1, 8, .inl f66)), (a12, .inl (cT 0, 4096, .inl f68)), (a13, .inl (cT 4, 1024, .inr (.inr (.inr (.inr f73))))), (a14, .inl (cT 0, 1024, .inl f76)), (a15, .inl (cT 0, 4096, .inl f77))] H) (hD : va_D A [(a0, .inr (0, [v16, v17, .ref a8, .ref a4, .ref b18, .ref a3, v19, v20])), (a1, .inr (5, [v21, .ref a13, v22, v23, v24, v25, v26, v27, v28, v29, v30, v31, v32, v33, v34, v35, v36, v37, v38, v39, v40, .ref a14, v41, v42, .ref a10, .ref a11, v43, v44, v45, v46, v47, v48])), (a2, .inl (cT 2, 1, .inr (.inl f49))), (a3, .inr (2, [.ref a7, v50, v51])), (a4, .inl (cT 3, 8, .inr (.inr (.inr (.inr f52))))), (a5, .inr (2, [.ref a6, .int 1, v56])), (a6, .inl (cT 2, 4096, .inr (.inl f57))), (a7, .inl (cT 2, 4096, .inr (.inl f59))), (a8, .inr (1, [.ref a9, v60, v61])), (a9, .inl (cT 0, 4096, .inl f62)), (a10, .inl (cT 5, 8, .inr (.inr (.inr (.inr f63))))), (a11, .inl (cT 1, 8, .inl f66)), (a12, .inl (cT 0, 4096, .inl f68)), (a13, .inl (cT 4, 1024, .inr (.inr (.inr (.inr f73))))), (a14, .inl (cT 0, 1024, .inl f76)), (a15, .inl (cT 0, 4096, .inl f77))]) (hS : va_S A s.heap H locs) (hl : lv_has ls 8 [(4, .int 0), (3, .ref a2), (2, .ref a1), (1, .ref a0), (0, .ref b)]) : W p l e room_1 s m #[Value.ref b] below meth c H locs 54 107242 (lw_Z below #[Value.ref b] s) (F0 m 591 ls []) := by
  obtain ⟨hx, hb, hr, hml, hown, htx, hbl, hbA, hlocks, hK, hZ, hA, hA2⟩ := C
  refine lv_aload_n hx hb dL_law_591 rfl (lv_at hl 3 rfl) ?_
  refine lv_aload_n hx hb dL_law_592 rfl (lv_at hl 4 rfl) ?_
  refine lv_iload hx hb dL_law_593 (lv_at hl 0 rfl) ?_
  refine lv_iconst (v := 1) hx hb dL_law_595 (by decide) ?_
  refine lv_iadd hx hb dL_law_596 ?_
  refine W.eq (g2 := F0 m 597 ls [.int 1, .ref b, .ref a0]) rfl ?_
  refine va_sld hx hb hXs hbl hbA hS (i := 1) (show ¬ ((1 : Int32) < 0 ∨ 6 ≤ (1 : Int32).toNatClampNeg) by decide) dL_law_597 ?_
  refine W.eq (g2 := F0 m 598 ls [.int (xs 1), .ref a0]) rfl ?_
  refine lv_aload_n hx hb dL_law_598 rfl (lv_at hl 4 rfl) ?_
  refine lv_iload hx hb dL_law_599 (lv_at hl 0 rfl) ?_
  refine lv_iconst (v := 2) hx hb dL_law_601 (by decide) ?_
  refine lv_iadd hx hb dL_law_602 ?_
  refine W.eq (g2 := F0 m 603 ls [.int 2, .ref b, .int (xs 1), .ref a0]) rfl ?_
  refine va_sld hx hb hXs hbl hbA hS (i := 2) (show ¬ ((2 : Int32) < 0 ∨ 6 ≤ (2 : Int32).toNatClampNeg) by decide) dL_law_603 ?_
  refine W.eq (g2 := F0 m 604 ls [.int (xs 2), .int (xs 1), .ref a0]) rfl ?_
  rw [hf]
  refine W.eq (g2 := F0 m 604 ls [.int 1, .int (xs 1), .ref a0]) rfl ?_
  refine lv_aload_n hx hb dL_law_604 rfl (lv_at hl 4 rfl) ?_
  refine lv_iload hx hb dL_law_605 (lv_at hl 0 rfl) ?_
  refine lv_iconst (v := 3) hx hb dL_law_607 (by decide) ?_
  refine lv_iadd hx hb dL_law_608 ?_
  refine W.eq (g2 := F0 m 609 ls [.int 3, .ref b, .int 1, .int (xs 1), .ref a0]) rfl ?_
  refine va_sld hx hb hXs hbl hbA hS (i := 3) (show ¬ ((3 : Int32) < 0 ∨ 6 ≤ (3 : Int32).toNatClampNeg) by decide) dL_law_609 ?_
  refine W.eq (g2 := F0 m 610 ls [.int (xs 3), .int 1, .int (xs 1), .ref a0]) rfl ?_
  obtain ⟨hPc, hDc, hFc⟩ := xcut (wc := [(a0, .inr (0, [v16, v17, .ref a8, .ref a4, .ref b18, .ref a3, v19, v20])), (a3, .inr (2, [.ref a7, v50, v51])), (a4, .inl (cT 3, 8, .inr (.inr (.inr (.inr f52))))), (a5, .inr (2, [.ref a6, .int 1, v56])), (a6, .inl (cT 2, 4096, .inr (.inl f57))), (a7, .inl (cT 2, 4096, .inr (.inl f59))), (a8, .inr (1, [.ref a9, v60, v61])), (a9, .inl (cT 0, 4096, .inl f62))]) hP hD hS hA [0, 3, 4, 5, 6, 7, 8, 9] rfl rfl (by decide)
  refine va_calli (vx_runSW (As := [.ref a0, .int (xs 1), .int 1, .int (xs 3)]) (rest := []) ⟨hx, hb, hml, hown, htx⟩ (cL_one_7 l hl9 D cT aK aV H.size a0 a3 a4 a5 a6 a7 a8 a9 (xs 1) (xs 3) v16 v17 b18 v19 v20 v50 v51 f52 b54 v56 f57 f59 v60 v61 f62 hto1 hto2 hto3 hto4 ha1 ha2 ha3 ha4 (by first | rfl | exact h53 | exact h55 | exact h58 | exact h64 | exact h65 | exact h67 | exact h69 | exact h70 | exact h71 | exact h72 | exact h74 | exact h75) (by first | rfl | exact h53 | exact h55 | exact h58 | exact h64 | exact h65 | exact h67 | exact h69 | exact h70 | exact h71 | exact h72 | exact h74 | exact h75) (by first | rfl | exact h53 | exact h55 | exact h58 | exact h64 | exact h65 | exact h67 | exact h69 | exact h70 | exact h71 | exact h72 | exact h74 | exact h75)) (xcSW 4 htx (xw_goodC kw_4_21) rfl rfl rfl (htx _ kw_1_0) (htx _ kw_4_19) ⟨by decide, by decide, by decide +kernel⟩ ⟨Nat.le_of_ble_eq_true rfl, Nat.le_of_ble_eq_true rfl⟩ (htx _ kw_4_20)) ⟨xPre_blind, (fun U hU hW => ⟨rfl, xPre_of hZ hS hFc hPc hDc hK U hU hW⟩)⟩ rfl rfl hl.1 rfl (lv_room (Nat.le_of_ble_eq_true rfl)) dL_law_610 ⟨Nat.le_of_ble_eq_true rfl, Nat.le_of_ble_eq_true rfl⟩) hS (fun q _ h => hFc q h) hFc (fun r1 u9 t H1 locs ht hvm hr9 hB hz1 hk1 hS => ?_)
  obtain ⟨y2, hP1, hK1, hD1⟩ := hB
  rw [ht] at hP1
  obtain ⟨hP, hD⟩ := xjoin (W := [(a1, .inr (5, [v21, .ref a13, v22, v23, v24, v25, v26, v27, v28, v29, v30, v31, v32, v33, v34, v35, v36, v37, v38, v39, v40, .ref a14, v41, v42, .ref a10, .ref a11, v43, v44, v45, v46, v47, v48])), (a2, .inl (cT 2, 1, .inr (.inl f49))), (a10, .inl (cT 5, 8, .inr (.inr (.inr (.inr f63))))), (a11, .inl (cT 1, 8, .inl f66)), (a12, .inl (cT 0, 4096, .inl f68)), (a13, .inl (cT 4, 1024, .inr (.inr (.inr (.inr f73))))), (a14, .inl (cT 0, 1024, .inl f76)), (a15, .inl (cT 0, 4096, .inl f77)), (a0, .inr (0, [v16, v17, .ref a8, .ref a4, .ref b18, .ref b54, v19, v20])), (a3, .inr (2, [.ref a7, .int 1, .int 0])), (a4, .inl (cT 3, 8, .inr (.inr (.inr (.inr (va_up f52 (xs 1).toNatClampNeg (some a3))))))), (a5, .inr (2, [.ref a6, .int 1, v56])), (a6, .inl (cT 2, 4096, .inr (.inl f57))), (a7, .inl (cT 2, 4096, .inr (.inl (vp_updL f59 0 3)))), (a8, .inr (1, [.ref a9, .int 1, .int 0])), (a9, .inl (cT 0, 4096, .inl (upd f62 0 (vp_nar .byte y2))))]) hP hD [0, 3, 4, 5, 6, 7, 8, 9] [1, 2, 10, 11, 12, 13, 14, 15] 8 rfl rfl (by decide) (by decide) hk1 hFc hP1 hD1
  generalize H1 = H at hP hS ⊢
  rw [hr9]
  refine W.eq (g2 := F0 m 613 ls [.int 0]) rfl ?_
  refine lv_istore (lv' := [(5, .int 0), (4, .int 0), (3, .ref a2), (2, .ref a1), (1, .ref a0), (0, .ref b)]) hx hb dL_law_613 hl (by decide) rfl (fun ls hl => ?_)
  refine lv_aload_n hx hb dL_law_615 rfl (lv_at hl 3 rfl) ?_
  refine lv_aload_n hx hb dL_law_616 rfl (lv_at hl 5 rfl) ?_
  refine lv_iload hx hb dL_law_617 (lv_at hl 1 rfl) ?_
  refine lv_iconst (v := 1) hx hb dL_law_619 (by decide) ?_
  refine lv_iadd hx hb dL_law_620 ?_
  refine W.eq (g2 := F0 m 621 ls [.int 1, .ref b, .ref a1]) rfl ?_
  refine va_sld hx hb hXs hbl hbA hS (i := 1) (show ¬ ((1 : Int32) < 0 ∨ 6 ≤ (1 : Int32).toNatClampNeg) by decide) dL_law_621 ?_
  refine W.eq (g2 := F0 m 622 ls [.int (xs 1), .ref a1]) rfl ?_
  refine lv_aload_n hx hb dL_law_622 rfl (lv_at hl 5 rfl) ?_
  refine lv_iload hx hb dL_law_623 (lv_at hl 1 rfl) ?_
  refine lv_iconst (v := 2) hx hb dL_law_625 (by decide) ?_
  refine lv_iadd hx hb dL_law_626 ?_
  refine W.eq (g2 := F0 m 627 ls [.int 2, .ref b, .int (xs 1), .ref a1]) rfl ?_
  refine va_sld hx hb hXs hbl hbA hS (i := 2) (show ¬ ((2 : Int32) < 0 ∨ 6 ≤ (2 : Int32).toNatClampNeg) by decide) dL_law_627 ?_
  refine W.eq (g2 := F0 m 628 ls [.int (xs 2), .int (xs 1), .ref a1]) rfl ?_
  rw [hf]
  refine W.eq (g2 := F0 m 628 ls [.int 1, .int (xs 1), .ref a1]) rfl ?_
  refine lv_aload_n hx hb dL_law_628 rfl (lv_at hl 5 rfl) ?_
  refine lv_iload hx hb dL_law_629 (lv_at hl 1 rfl) ?_
  refine lv_iconst (v := 3) hx hb dL_law_631 (by decide) ?_
  refine lv_iadd hx hb dL_law_632 ?_
  refine W.eq (g2 := F0 m 633 ls [.int 3, .ref b, .int 1, .int (xs 1), .ref a1]) rfl ?_
  refine va_sld hx hb hXs hbl hbA hS (i := 3) (show ¬ ((3 : Int32) < 0 ∨ 6 ≤ (3 : Int32).toNatClampNeg) by decide) dL_law_633 ?_
  refine W.eq (g2 := F0 m 634 ls [.int (xs 3), .int 1, .int (xs 1), .ref a1]) rfl ?_
  obtain ⟨hPc, hDc, hFc⟩ := xcut (wc := [(a1, .inr (5, [v21, .ref a13, v22, v23, v24, v25, v26, v27, v28, v29, v30, v31, v32, v33, v34, v35, v36, v37, v38, v39, v40, .ref a14, v41, v42, .ref a10, .ref a11, v43, v44, v45, v46, v47, v48])), (a10, .inl (cT 5, 8, .inr (.inr (.inr (.inr f63))))), (a11, .inl (cT 1, 8, .inl f66)), (a12, .inl (cT 0, 4096, .inl f68)), (a13, .inl (cT 4, 1024, .inr (.inr (.inr (.inr f73))))), (a14, .inl (cT 0, 1024, .inl f76)), (a15, .inl (cT 0, 4096, .inl f77))]) hP hD hS hA [0, 2, 3, 4, 5, 6, 7] rfl rfl (by decide)
  refine va_callv (va_runV (C := "ValueBenchModel") (As := [.int (xs 1), .int 1, .int (xs 3)]) (rest := []) ⟨hx, hb, hml, hown, htx⟩ (cM_one0_9 l hl9 D cT aK aV H.size a1 a10 a11 a12 a13 a14 a15 (xs 1) (xs 3) v21 v22 v23 v24 v25 v26 v27 v28 v29 v30 v31 v32 v33 v34 v35 v36 v37 v38 v39 v40 v41 v42 v43 v44 v45 v46 v47 v48 f63 f66 f68 f73 f76 f77 hto1 hto2 hto3 hto4 ha1 ha2 ha3 ha4 (by first | rfl | exact h53 | exact h58 | exact h64 | exact h65 | exact h67 | exact h69 | exact h70 | exact h71 | exact h72 | exact h74 | exact h75) (by first | rfl | exact h53 | exact h58 | exact h64 | exact h65 | exact h67 | exact h69 | exact h70 | exact h71 | exact h72 | exact h74 | exact h75) (by first | rfl | exact h53 | exact h58 | exact h64 | exact h65 | exact h67 | exact h69 | exact h70 | exact h71 | exact h72 | exact h74 | exact h75) (by first | rfl | exact h53 | exact h58 | exact h64 | exact h65 | exact h67 | exact h69 | exact h70 | exact h71 | exact h72 | exact h74 | exact h75) (by first | rfl | exact h53 | exact h58 | exact h64 | exact h65 | exact h67 | exact h69 | exact h70 | exact h71 | exact h72 | exact h74 | exact h75) (by first | rfl | exact h53 | exact h58 | exact h64 | exact h65 | exact h67 | exact h69 | exact h70 | exact h71 | exact h72 | exact h74 | exact h75) (by first | rfl | exact h53 | exact h58 | exact h64 | exact h65 | exact h67 | exact h69 | exact h70 | exact h71 | exact h72 | exact h74 | exact h75) (by first | rfl | exact h53 | exact h58 | exact h64 | exact h65 | exact h67 | exact h69 | exact h70 | exact h71 | exact h72 | exact h74 | exact h75) (by first | rfl | exact h53 | exact h58 | exact h64 | exact h65 | exact h67 | exact h69 | exact h70 | exact h71 | exact h72 | exact h74 | exact h75)) ⟨callB_of 3 htx (xw_goodC kw_7_123) rfl rfl rfl (htx _ kw_1_5) (htx _ kw_7_120) ⟨by decide, by decide, by decide +kernel⟩ ⟨Nat.le_of_ble_eq_true rfl, Nat.le_of_ble_eq_true rfl⟩, (htx _ kw_7_121), (htx _ kw_7_122)⟩ ⟨xPre_blind, va_recv hK hP (ci := 5) rfl (q0 := 0) rfl, (fun U hU hW => ⟨rfl, xPre_of hZ hS hFc hPc hDc hK U hU hW⟩)⟩ rfl rfl hl.1 rfl (lv_room (Nat.le_of_ble_eq_true rfl)) dL_law_634 ⟨Nat.le_of_ble_eq_true rfl, Nat.le_of_ble_eq_true rfl⟩) hS (fun q _ h => hFc q h) hFc (fun u9 t H1 locs ht hvm hr9 hB hz1 hk1 hS => ?_)
  obtain ⟨q3, q4, y5, hP1, hK1, hD1⟩ := hB
  rw [ht] at hP1
  obtain ⟨hP, hD⟩ := xjoin (W := [(a2, .inl (cT 2, 1, .inr (.inl f49))), (a0, .inr (0, [v16, v17, .ref a8, .ref a4, .ref b18, .ref b54, v19, v20])), (a3, .inr (2, [.ref a7, .int 1, .int 0])), (a4, .inl (cT 3, 8, .inr (.inr (.inr (.inr (va_up f52 (xs 1).toNatClampNeg (some a3))))))), (a5, .inr (2, [.ref a6, .int 1, v56])), (a6, .inl (cT 2, 4096, .inr (.inl f57))), (a7, .inl (cT 2, 4096, .inr (.inl (vp_updL f59 0 3)))), (a8, .inr (1, [.ref a9, .int 1, .int 0])), (a9, .inl (cT 0, 4096, .inl (upd f62 0 (vp_nar .byte y2)))), (a1, .inr (5, [.int 0, .ref a13, .int 2, v23, .int 0, v25, v26, .int 0, v28, .int 0, v30, v31, .int 0, v33, v34, .ref a12, .int 4, .int 4, .int 0, .int 100, v40, .ref a14, .int 1, .int 4096, .ref a10, .ref a11, v43, v44, v45, v46, v47, v48])), (a10, .inl (cT 5, 8, .inr (.inr (.inr (.inr f63))))), (a11, .inl (cT 1, 8, .inl (upd f66 (xs 1).toNatClampNeg 1))), (a12, .inl (cT 0, 4096, .inl f68)), (a13, .inl (cT 4, 1024, .inr (.inr (.inr (.inr (va_up (va_up f73 0 (some q3)) 1 (some q4))))))), (a14, .inl (cT 0, 1024, .inl (upd f76 0 (vp_nar .byte y5)))), (a15, .inl (cT 0, 4096, .inl (upd f77 0 (vp_nar .byte (vp_nar .byte y5))))), (q3, .inr (6, [.int 0, .long 0, .int 0, .int 0, .int 0, .int 1])), (q4, .inr (6, [.int 3, .long 0, .int 0, .int 0, .int 0, .int 1]))]) hP hD [0, 2, 3, 4, 5, 6, 7] [1, 8, 9, 10, 11, 12, 13, 14, 15] 9 rfl rfl (by decide) (by decide) hk1 hFc hP1 hD1
  generalize H1 = H at hP hS ⊢
  refine lv_aload_n hx hb dL_law_637 rfl (lv_at hl 3 rfl) ?_
  obtain ⟨hPc, hDc, hFc⟩ := xcut (wc := [(a1, .inr (5, [.int 0, .ref a13, .int 2, v23, .int 0, v25, v26, .int 0, v28, .int 0, v30, v31, .int 0, v33, v34, .ref a12, .int 4, .int 4, .int 0, .int 100, v40, .ref a14, .int 1, .int 4096, .ref a10, .ref a11, v43, v44, v45, v46, v47, v48]))]) hP hD hS hA [9] rfl rfl (by decide)
  refine va_calli (va_runV (C := "ValueBenchModel") (As := []) (rest := []) ⟨hx, hb, hml, hown, htx⟩ (cM_thrown_0 l hl9 D cT aK aV H.size a1 (.ref a13) (.int 2) v23 (.int 0) v25 v26 (.int 0) v28 (.int 0) v30 v31 (.int 0) v33 v34 (.ref a12) (.int 4) (.int 4) (.int 0) (.int 100) v40 (.ref a14) (.int 1) (.int 4096) (.ref a10) (.ref a11) v43 v44 v45 v46 v47 v48) ⟨callB_of 0 htx (xw_goodC kw_5_187) rfl rfl rfl (htx _ kw_1_5) (htx _ kw_5_184) ⟨by decide, by decide, by decide +kernel⟩ ⟨Nat.le_of_ble_eq_true rfl, Nat.le_of_ble_eq_true rfl⟩, (htx _ kw_5_185), (htx _ kw_5_186)⟩ ⟨xPre_blind, va_recv hK hP (ci := 5) rfl (q0 := 9) rfl, (fun U hU hW => ⟨rfl, xPre_of hZ hS hFc hPc hDc hK U hU hW⟩)⟩ rfl rfl hl.1 rfl (lv_room (Nat.le_of_ble_eq_true rfl)) dL_law_638 ⟨Nat.le_of_ble_eq_true rfl, Nat.le_of_ble_eq_true rfl⟩) hS (fun q _ h => hFc q h) hFc (fun r6 u9 t H1 locs ht hvm hr9 hB hz1 hk1 hS => ?_)
  obtain ⟨hP1, hK1, hD1⟩ := hB
  rw [ht] at hP1
  obtain ⟨hP, hD⟩ := xjoin (W := [(a2, .inl (cT 2, 1, .inr (.inl f49))), (a0, .inr (0, [v16, v17, .ref a8, .ref a4, .ref b18, .ref b54, v19, v20])), (a3, .inr (2, [.ref a7, .int 1, .int 0])), (a4, .inl (cT 3, 8, .inr (.inr (.inr (.inr (va_up f52 (xs 1).toNatClampNeg (some a3))))))), (a5, .inr (2, [.ref a6, .int 1, v56])), (a6, .inl (cT 2, 4096, .inr (.inl f57))), (a7, .inl (cT 2, 4096, .inr (.inl (vp_updL f59 0 3)))), (a8, .inr (1, [.ref a9, .int 1, .int 0])), (a9, .inl (cT 0, 4096, .inl (upd f62 0 (vp_nar .byte y2)))), (a10, .inl (cT 5, 8, .inr (.inr (.inr (.inr f63))))), (a11, .inl (cT 1, 8, .inl (upd f66 (xs 1).toNatClampNeg 1))), (a12, .inl (cT 0, 4096, .inl f68)), (a13, .inl (cT 4, 1024, .inr (.inr (.inr (.inr (va_up (va_up f73 0 (some q3)) 1 (some q4))))))), (a14, .inl (cT 0, 1024, .inl (upd f76 0 (vp_nar .byte y5)))), (a15, .inl (cT 0, 4096, .inl (upd f77 0 (vp_nar .byte (vp_nar .byte y5))))), (q3, .inr (6, [.int 0, .long 0, .int 0, .int 0, .int 0, .int 1])), (q4, .inr (6, [.int 3, .long 0, .int 0, .int 0, .int 0, .int 1])), (a1, .inr (5, [.int 0, .ref a13, .int 2, v23, .int 0, v25, v26, .int 0, v28, .int 0, v30, v31, .int 0, v33, v34, .ref a12, .int 4, .int 4, .int 0, .int 100, v40, .ref a14, .int 1, .int 4096, .ref a10, .ref a11, v43, v44, v45, v46, v47, v48]))]) hP hD [9] [0, 1, 2, 3, 4, 5, 6, 7, 8, 10, 11, 12, 13, 14, 15, 16, 17] 17 rfl rfl (by decide) (by decide) hk1 hFc hP1 hD1
  generalize H1 = H at hP hS ⊢
  rw [hr9]
  refine W.eq (g2 := F0 m 641 ls [.int 0]) rfl ?_
  refine lv_iload hx hb dL_law_641 (lv_at hl 0 rfl) ?_
  refine lv_icmp_eq (tgt := 648) hx hb dL_law_643 (by decide) (fun _ => ?_) (fun h => ((by revert h; decide : False)).elim)
  refine lv_goto (tgt := 906) hx hb dL_law_648 (by decide) ?_
  refine lv_iinc (v := 6) (lv' := [(4, .int 6), (5, .int 0), (3, .ref a2), (2, .ref a1), (1, .ref a0), (0, .ref b)]) hx hb dL_law_906 hl (k := 1) rfl (by decide) (by decide) rfl (fun ls hl => ?_)
  refine lv_goto (tgt := 23) hx hb dL_law_909 (by decide) ?_
  refine lv_iload hx hb dL_law_23 (lv_at hl 0 rfl) ?_
  refine lv_aload_n hx hb dL_law_25 rfl (lv_at hl 5 rfl) ?_
  refine va_slen hx hb hXs hbl hbA hS dL_law_26 ?_
  refine W.eq (g2 := F0 m 27 ls [.int 6, .int 6]) rfl ?_
  refine lv_bipush (v := 6) hx hb dL_law_27 (by decide) ?_
  refine lv_isub hx hb dL_law_29 ?_
  refine W.eq (g2 := F0 m 30 ls [.int 0, .int 6]) rfl ?_
  refine lv_icmp_gt (tgt := 912) hx hb dL_law_30 (by decide) (fun _ => ?_) (fun h => ((by revert h; decide : False)).elim)
  refine lv_iconst (v := 1) hx hb dL_law_912 (by decide) ?_
  exact va_forget (fun q h => hA2 _ (hS.2.2 q h)) (W.widen (k := 600002) (n := 7302232) (Nat.le_of_ble_eq_true rfl) (Nat.le_of_ble_eq_true rfl) (lw_ret hx hb hr hlocks dL_law_913))
set_option maxHeartbeats 400000000 in
set_option maxRecDepth 100000 in
theorem lf_one2_p2 {p : Program} {e : Env} {s : State} {m : MethodId} {below : List Frame} {meth : Method} {c : Code} (l : Launch) (hl9 : l.stackTraces = false) (D : va_G) (cT : Nat → ClassId) (aK aV : Nat → Nat) {A : Nat → Prop} {b : Nat} {xs : Nat → Int32} (C : xLw p s m meth c b D cT aK aV A) {H : Heap} {locs : List Loc} {ls : Array Slot} (a0 : Nat) (a1 : Nat) (a2 : Nat) (a3 : Nat) (a4 : Nat) (a5 : Nat) (a6 : Nat) (a7 : Nat) (a8 : Nat) (a9 : Nat) (a10 : Nat) (v11 : Value) (v12 : Value) (b13 : Nat) (b14 : Nat) (v15 : Value) (v16 : Value) (v17 : Value) (v18 : Value) (v19 : Value) (v20 : Value) (v21 : Value) (v22 : Value) (v23 : Value) (v24 : Value) (v25 : Value) (v26 : Value) (v27 : Value) (v28 : Value) (v29 : Value) (v30 : Value) (v31 : Value) (v32 : Value) (v33 : Value) (v34 : Value) (v35 : Value) (v36 : Value) (v37 : Value) (v38 : Value) (v39 : Value) (v40 : Value) (v41 : Value) (v42 : Value) (v43 : Value) (v44 : Value) (v45 : Value) (f46 : Nat → Int64) (v47 : Value) (v48 : Value) (v49 : Value) (f50 : Nat → Option Nat) (v52 : Value) (f53 : Nat → Int64) (f55 : Nat → Option Nat) (f57 : Nat → Int32) (f59 : Nat → Int32) (f64 : Nat → Option Nat) (h51 : f50 (xs 3).toNatClampNeg = some a5) (h54 : f53 0 = 0) (h56 : f55 (xs 3).toNatClampNeg = some a9) (h58 : f57 (xs 3).toNatClampNeg = 4) (h60 : f59 0 = 110) (h61 : f59 1 = 117) (h62 : f59 2 = 108) (h63 : f59 3 = 108) (h65 : f64 0 = none) (hto1 : ¬ (xs 1) < 0) (hto2 : ¬ 7 < (xs 1)) (hto3 : (xs 1) ≤ 7) (hto4 : vp_in (xs 1) 8) (hf : xs 2 = 2) (ha1 : ¬ (xs 3) < 0) (ha2 : ¬ 7 < (xs 3)) (ha3 : (xs 3) ≤ 7) (ha4 : vp_in (xs 3) 8) (hXs : va_X b 6 xs s s.heap) (hP : va_P D xcl [(a0, .inr (0, [v11, v12, .ref b13, .ref a4, .ref b14, .ref a3, v15, v16])), (a1, .inr (5, [v17, .ref a10, v18, v19, v20, v21, v22, v23, v24, v25, v26, v27, v28, v29, v30, v31, v32, v33, v34, v35, v36, v37, v38, v39, .ref a7, .ref a8, v40, v41, v42, v43, v44, v45])), (a2, .inl (cT 2, 1, .inr (.inl f46))), (a3, .inr (2, [v47, v48, v49])), (a4, .inl (cT 3, 8, .inr (.inr (.inr (.inr f50))))), (a5, .inr (2, [.ref a6, .int 1, v52])), (a6, .inl (cT 2, 4096, .inr (.inl f53))), (a7, .inl (cT 5, 8, .inr (.inr (.inr (.inr f55))))), (a8, .inl (cT 1, 8, .inl f57)), (a9, .inl (cT 0, 4096, .inl f59)), (a10, .inl (cT 4, 1024, .inr (.inr (.inr (.inr f64)))))] H) (hD : va_D A [(a0, .inr (0, [v11, v12, .ref b13, .ref a4, .ref b14, .ref a3, v15, v16])), (a1, .inr (5, [v17, .ref a10, v18, v19, v20, v21, v22, v23, v24, v25, v26, v27, v28, v29, v30, v31, v32, v33, v34, v35, v36, v37, v38, v39, .ref a7, .ref a8, v40, v41, v42, v43, v44, v45])), (a2, .inl (cT 2, 1, .inr (.inl f46))), (a3, .inr (2, [v47, v48, v49])), (a4, .inl (cT 3, 8, .inr (.inr (.inr (.inr f50))))), (a5, .inr (2, [.ref a6, .int 1, v52])), (a6, .inl (cT 2, 4096, .inr (.inl f53))), (a7, .inl (cT 5, 8, .inr (.inr (.inr (.inr f55))))), (a8, .inl (cT 1, 8, .inl f57)), (a9, .inl (cT 0, 4096, .inl f59)), (a10, .inl (cT 4, 1024, .inr (.inr (.inr (.inr f64)))))]) (hS : va_S A s.heap H locs) (hl : lv_has ls 8 [(4, .int 0), (3, .ref a2), (2, .ref a1), (1, .ref a0), (0, .ref b)]) : W p l e room_1 s m #[Value.ref b] below meth c H locs 54 107242 (lw_Z below #[Value.ref b] s) (F0 m 591 ls []) := by
  obtain ⟨hx, hb, hr, hml, hown, htx, hbl, hbA, hlocks, hK, hZ, hA, hA2⟩ := C
  refine lv_aload_n hx hb dL_law_591 rfl (lv_at hl 3 rfl) ?_
  refine lv_aload_n hx hb dL_law_592 rfl (lv_at hl 4 rfl) ?_
  refine lv_iload hx hb dL_law_593 (lv_at hl 0 rfl) ?_
  refine lv_iconst (v := 1) hx hb dL_law_595 (by decide) ?_
  refine lv_iadd hx hb dL_law_596 ?_
  refine W.eq (g2 := F0 m 597 ls [.int 1, .ref b, .ref a0]) rfl ?_
  refine va_sld hx hb hXs hbl hbA hS (i := 1) (show ¬ ((1 : Int32) < 0 ∨ 6 ≤ (1 : Int32).toNatClampNeg) by decide) dL_law_597 ?_
  refine W.eq (g2 := F0 m 598 ls [.int (xs 1), .ref a0]) rfl ?_
  refine lv_aload_n hx hb dL_law_598 rfl (lv_at hl 4 rfl) ?_
  refine lv_iload hx hb dL_law_599 (lv_at hl 0 rfl) ?_
  refine lv_iconst (v := 2) hx hb dL_law_601 (by decide) ?_
  refine lv_iadd hx hb dL_law_602 ?_
  refine W.eq (g2 := F0 m 603 ls [.int 2, .ref b, .int (xs 1), .ref a0]) rfl ?_
  refine va_sld hx hb hXs hbl hbA hS (i := 2) (show ¬ ((2 : Int32) < 0 ∨ 6 ≤ (2 : Int32).toNatClampNeg) by decide) dL_law_603 ?_
  refine W.eq (g2 := F0 m 604 ls [.int (xs 2), .int (xs 1), .ref a0]) rfl ?_
  rw [hf]
  refine W.eq (g2 := F0 m 604 ls [.int 2, .int (xs 1), .ref a0]) rfl ?_
  refine lv_aload_n hx hb dL_law_604 rfl (lv_at hl 4 rfl) ?_
  refine lv_iload hx hb dL_law_605 (lv_at hl 0 rfl) ?_
  refine lv_iconst (v := 3) hx hb dL_law_607 (by decide) ?_
  refine lv_iadd hx hb dL_law_608 ?_
  refine W.eq (g2 := F0 m 609 ls [.int 3, .ref b, .int 2, .int (xs 1), .ref a0]) rfl ?_
  refine va_sld hx hb hXs hbl hbA hS (i := 3) (show ¬ ((3 : Int32) < 0 ∨ 6 ≤ (3 : Int32).toNatClampNeg) by decide) dL_law_609 ?_
  refine W.eq (g2 := F0 m 610 ls [.int (xs 3), .int 2, .int (xs 1), .ref a0]) rfl ?_
  obtain ⟨hPc, hDc, hFc⟩ := xcut (wc := [(a0, .inr (0, [v11, v12, .ref b13, .ref a4, .ref b14, .ref a3, v15, v16])), (a3, .inr (2, [v47, v48, v49])), (a4, .inl (cT 3, 8, .inr (.inr (.inr (.inr f50))))), (a5, .inr (2, [.ref a6, .int 1, v52])), (a6, .inl (cT 2, 4096, .inr (.inl f53)))]) hP hD hS hA [0, 3, 4, 5, 6] rfl rfl (by decide)
  refine va_calli (vx_runSW (As := [.ref a0, .int (xs 1), .int 2, .int (xs 3)]) (rest := []) ⟨hx, hb, hml, hown, htx⟩ (cL_one_8 l hl9 D cT aK aV H.size a0 a3 a4 a5 a6 (xs 1) (xs 3) v11 v12 b13 b14 v15 v16 v47 v48 v49 f50 v52 f53 hto1 hto2 hto3 hto4 ha1 ha2 ha3 ha4 (by first | rfl | exact h51 | exact h54 | exact h56 | exact h58 | exact h60 | exact h61 | exact h62 | exact h63 | exact h65) (by first | rfl | exact h51 | exact h54 | exact h56 | exact h58 | exact h60 | exact h61 | exact h62 | exact h63 | exact h65)) (xcSW 4 htx (xw_goodC kw_4_21) rfl rfl rfl (htx _ kw_1_0) (htx _ kw_4_19) ⟨by decide, by decide, by decide +kernel⟩ ⟨Nat.le_of_ble_eq_true rfl, Nat.le_of_ble_eq_true rfl⟩ (htx _ kw_4_20)) ⟨xPre_blind, (fun U hU hW => ⟨rfl, xPre_of hZ hS hFc hPc hDc hK U hU hW⟩)⟩ rfl rfl hl.1 rfl (lv_room (Nat.le_of_ble_eq_true rfl)) dL_law_610 ⟨Nat.le_of_ble_eq_true rfl, Nat.le_of_ble_eq_true rfl⟩) hS (fun q _ h => hFc q h) hFc (fun r1 u9 t H1 locs ht hvm hr9 hB hz1 hk1 hS => ?_)
  obtain ⟨hP1, hK1, hD1⟩ := hB
  rw [ht] at hP1
  obtain ⟨hP, hD⟩ := xjoin (W := [(a1, .inr (5, [v17, .ref a10, v18, v19, v20, v21, v22, v23, v24, v25, v26, v27, v28, v29, v30, v31, v32, v33, v34, v35, v36, v37, v38, v39, .ref a7, .ref a8, v40, v41, v42, v43, v44, v45])), (a2, .inl (cT 2, 1, .inr (.inl f46))), (a7, .inl (cT 5, 8, .inr (.inr (.inr (.inr f55))))), (a8, .inl (cT 1, 8, .inl f57)), (a9, .inl (cT 0, 4096, .inl f59)), (a10, .inl (cT 4, 1024, .inr (.inr (.inr (.inr f64))))), (a0, .inr (0, [v11, v12, .ref b13, .ref a4, .ref b14, .ref a3, v15, .int 1])), (a3, .inr (2, [v47, .int 0, .int 0])), (a4, .inl (cT 3, 8, .inr (.inr (.inr (.inr f50))))), (a5, .inr (2, [.ref a6, .int 1, v52])), (a6, .inl (cT 2, 4096, .inr (.inl f53)))]) hP hD [0, 3, 4, 5, 6] [1, 2, 7, 8, 9, 10] 6 rfl rfl (by decide) (by decide) hk1 hFc hP1 hD1
  generalize H1 = H at hP hS ⊢
  rw [hr9]
  refine W.eq (g2 := F0 m 613 ls [.int 2]) rfl ?_
  refine lv_istore (lv' := [(5, .int 2), (4, .int 0), (3, .ref a2), (2, .ref a1), (1, .ref a0), (0, .ref b)]) hx hb dL_law_613 hl (by decide) rfl (fun ls hl => ?_)
  refine lv_aload_n hx hb dL_law_615 rfl (lv_at hl 3 rfl) ?_
  refine lv_aload_n hx hb dL_law_616 rfl (lv_at hl 5 rfl) ?_
  refine lv_iload hx hb dL_law_617 (lv_at hl 1 rfl) ?_
  refine lv_iconst (v := 1) hx hb dL_law_619 (by decide) ?_
  refine lv_iadd hx hb dL_law_620 ?_
  refine W.eq (g2 := F0 m 621 ls [.int 1, .ref b, .ref a1]) rfl ?_
  refine va_sld hx hb hXs hbl hbA hS (i := 1) (show ¬ ((1 : Int32) < 0 ∨ 6 ≤ (1 : Int32).toNatClampNeg) by decide) dL_law_621 ?_
  refine W.eq (g2 := F0 m 622 ls [.int (xs 1), .ref a1]) rfl ?_
  refine lv_aload_n hx hb dL_law_622 rfl (lv_at hl 5 rfl) ?_
  refine lv_iload hx hb dL_law_623 (lv_at hl 1 rfl) ?_
  refine lv_iconst (v := 2) hx hb dL_law_625 (by decide) ?_
  refine lv_iadd hx hb dL_law_626 ?_
  refine W.eq (g2 := F0 m 627 ls [.int 2, .ref b, .int (xs 1), .ref a1]) rfl ?_
  refine va_sld hx hb hXs hbl hbA hS (i := 2) (show ¬ ((2 : Int32) < 0 ∨ 6 ≤ (2 : Int32).toNatClampNeg) by decide) dL_law_627 ?_
  refine W.eq (g2 := F0 m 628 ls [.int (xs 2), .int (xs 1), .ref a1]) rfl ?_
  rw [hf]
  refine W.eq (g2 := F0 m 628 ls [.int 2, .int (xs 1), .ref a1]) rfl ?_
  refine lv_aload_n hx hb dL_law_628 rfl (lv_at hl 5 rfl) ?_
  refine lv_iload hx hb dL_law_629 (lv_at hl 1 rfl) ?_
  refine lv_iconst (v := 3) hx hb dL_law_631 (by decide) ?_
  refine lv_iadd hx hb dL_law_632 ?_
  refine W.eq (g2 := F0 m 633 ls [.int 3, .ref b, .int 2, .int (xs 1), .ref a1]) rfl ?_
  refine va_sld hx hb hXs hbl hbA hS (i := 3) (show ¬ ((3 : Int32) < 0 ∨ 6 ≤ (3 : Int32).toNatClampNeg) by decide) dL_law_633 ?_
  refine W.eq (g2 := F0 m 634 ls [.int (xs 3), .int 2, .int (xs 1), .ref a1]) rfl ?_
  obtain ⟨hPc, hDc, hFc⟩ := xcut (wc := [(a1, .inr (5, [v17, .ref a10, v18, v19, v20, v21, v22, v23, v24, v25, v26, v27, v28, v29, v30, v31, v32, v33, v34, v35, v36, v37, v38, v39, .ref a7, .ref a8, v40, v41, v42, v43, v44, v45])), (a7, .inl (cT 5, 8, .inr (.inr (.inr (.inr f55))))), (a8, .inl (cT 1, 8, .inl f57)), (a9, .inl (cT 0, 4096, .inl f59)), (a10, .inl (cT 4, 1024, .inr (.inr (.inr (.inr f64)))))]) hP hD hS hA [0, 2, 3, 4, 5] rfl rfl (by decide)
  refine va_callv (va_runV (C := "ValueBenchModel") (As := [.int (xs 1), .int 2, .int (xs 3)]) (rest := []) ⟨hx, hb, hml, hown, htx⟩ (cM_one0_10 l hl9 D cT aK aV H.size a1 a7 a8 a9 a10 (xs 1) (xs 3) v17 v18 v19 v20 v21 v22 v23 v24 v25 v26 v27 v28 v29 v30 v31 v32 v33 v34 v35 v36 v37 v38 v39 v40 v41 v42 v43 v44 v45 f55 f57 f59 f64 hto1 hto2 hto3 hto4 ha1 ha2 ha3 ha4 (by first | rfl | exact h51 | exact h54 | exact h56 | exact h58 | exact h60 | exact h61 | exact h62 | exact h63 | exact h65) (by first | rfl | exact h51 | exact h54 | exact h56 | exact h58 | exact h60 | exact h61 | exact h62 | exact h63 | exact h65) (by first | rfl | exact h51 | exact h54 | exact h56 | exact h58 | exact h60 | exact h61 | exact h62 | exact h63 | exact h65) (by first | rfl | exact h51 | exact h54 | exact h56 | exact h58 | exact h60 | exact h61 | exact h62 | exact h63 | exact h65) (by first | rfl | exact h51 | exact h54 | exact h56 | exact h58 | exact h60 | exact h61 | exact h62 | exact h63 | exact h65) (by first | rfl | exact h51 | exact h54 | exact h56 | exact h58 | exact h60 | exact h61 | exact h62 | exact h63 | exact h65) (by first | rfl | exact h51 | exact h54 | exact h56 | exact h58 | exact h60 | exact h61 | exact h62 | exact h63 | exact h65)) ⟨callB_of 3 htx (xw_goodC kw_7_123) rfl rfl rfl (htx _ kw_1_5) (htx _ kw_7_120) ⟨by decide, by decide, by decide +kernel⟩ ⟨Nat.le_of_ble_eq_true rfl, Nat.le_of_ble_eq_true rfl⟩, (htx _ kw_7_121), (htx _ kw_7_122)⟩ ⟨xPre_blind, va_recv hK hP (ci := 5) rfl (q0 := 0) rfl, (fun U hU hW => ⟨rfl, xPre_of hZ hS hFc hPc hDc hK U hU hW⟩)⟩ rfl rfl hl.1 rfl (lv_room (Nat.le_of_ble_eq_true rfl)) dL_law_634 ⟨Nat.le_of_ble_eq_true rfl, Nat.le_of_ble_eq_true rfl⟩) hS (fun q _ h => hFc q h) hFc (fun u9 t H1 locs ht hvm hr9 hB hz1 hk1 hS => ?_)
  obtain ⟨q2, hP1, hK1, hD1⟩ := hB
  rw [ht] at hP1
  obtain ⟨hP, hD⟩ := xjoin (W := [(a2, .inl (cT 2, 1, .inr (.inl f46))), (a0, .inr (0, [v11, v12, .ref b13, .ref a4, .ref b14, .ref a3, v15, .int 1])), (a3, .inr (2, [v47, .int 0, .int 0])), (a4, .inl (cT 3, 8, .inr (.inr (.inr (.inr f50))))), (a5, .inr (2, [.ref a6, .int 1, v52])), (a6, .inl (cT 2, 4096, .inr (.inl f53))), (a1, .inr (5, [.int 2, .ref a10, .int 1, v19, .int 0, v21, v22, .int 0, .int 1, .int 0, v26, v27, .int 0, v29, v30, .ref a9, .int 4, .int 4, .int 0, .int 100, v36, v37, .int 0, .int 1000000000, .ref a7, .ref a8, v40, v41, v42, v43, .int 1, v45])), (a7, .inl (cT 5, 8, .inr (.inr (.inr (.inr f55))))), (a8, .inl (cT 1, 8, .inl f57)), (a9, .inl (cT 0, 4096, .inl f59)), (a10, .inl (cT 4, 1024, .inr (.inr (.inr (.inr (va_up f64 0 (some q2))))))), (q2, .inr (6, [.int 0, .long 0, .int 0, .int 0, .int 0, .int 1]))]) hP hD [0, 2, 3, 4, 5] [1, 6, 7, 8, 9, 10] 6 rfl rfl (by decide) (by decide) hk1 hFc hP1 hD1
  generalize H1 = H at hP hS ⊢
  refine lv_aload_n hx hb dL_law_637 rfl (lv_at hl 3 rfl) ?_
  obtain ⟨hPc, hDc, hFc⟩ := xcut (wc := [(a1, .inr (5, [.int 2, .ref a10, .int 1, v19, .int 0, v21, v22, .int 0, .int 1, .int 0, v26, v27, .int 0, v29, v30, .ref a9, .int 4, .int 4, .int 0, .int 100, v36, v37, .int 0, .int 1000000000, .ref a7, .ref a8, v40, v41, v42, v43, .int 1, v45]))]) hP hD hS hA [6] rfl rfl (by decide)
  refine va_calli (va_runV (C := "ValueBenchModel") (As := []) (rest := []) ⟨hx, hb, hml, hown, htx⟩ (cM_thrown_2 l hl9 D cT aK aV H.size a1 (.ref a10) (.int 1) v19 (.int 0) v21 v22 (.int 0) (.int 1) (.int 0) v26 v27 (.int 0) v29 v30 (.ref a9) (.int 4) (.int 4) (.int 0) (.int 100) v36 v37 (.int 0) (.int 1000000000) (.ref a7) (.ref a8) v40 v41 v42 v43 (.int 1) v45) ⟨callB_of 0 htx (xw_goodC kw_5_187) rfl rfl rfl (htx _ kw_1_5) (htx _ kw_5_184) ⟨by decide, by decide, by decide +kernel⟩ ⟨Nat.le_of_ble_eq_true rfl, Nat.le_of_ble_eq_true rfl⟩, (htx _ kw_5_185), (htx _ kw_5_186)⟩ ⟨xPre_blind, va_recv hK hP (ci := 5) rfl (q0 := 6) rfl, (fun U hU hW => ⟨rfl, xPre_of hZ hS hFc hPc hDc hK U hU hW⟩)⟩ rfl rfl hl.1 rfl (lv_room (Nat.le_of_ble_eq_true rfl)) dL_law_638 ⟨Nat.le_of_ble_eq_true rfl, Nat.le_of_ble_eq_true rfl⟩) hS (fun q _ h => hFc q h) hFc (fun r3 u9 t H1 locs ht hvm hr9 hB hz1 hk1 hS => ?_)
  obtain ⟨hP1, hK1, hD1⟩ := hB
  rw [ht] at hP1
  obtain ⟨hP, hD⟩ := xjoin (W := [(a2, .inl (cT 2, 1, .inr (.inl f46))), (a0, .inr (0, [v11, v12, .ref b13, .ref a4, .ref b14, .ref a3, v15, .int 1])), (a3, .inr (2, [v47, .int 0, .int 0])), (a4, .inl (cT 3, 8, .inr (.inr (.inr (.inr f50))))), (a5, .inr (2, [.ref a6, .int 1, v52])), (a6, .inl (cT 2, 4096, .inr (.inl f53))), (a7, .inl (cT 5, 8, .inr (.inr (.inr (.inr f55))))), (a8, .inl (cT 1, 8, .inl f57)), (a9, .inl (cT 0, 4096, .inl f59)), (a10, .inl (cT 4, 1024, .inr (.inr (.inr (.inr (va_up f64 0 (some q2))))))), (q2, .inr (6, [.int 0, .long 0, .int 0, .int 0, .int 0, .int 1])), (a1, .inr (5, [.int 2, .ref a10, .int 1, v19, .int 0, v21, v22, .int 0, .int 1, .int 0, v26, v27, .int 0, v29, v30, .ref a9, .int 4, .int 4, .int 0, .int 100, v36, v37, .int 0, .int 1000000000, .ref a7, .ref a8, v40, v41, v42, v43, .int 1, v45]))]) hP hD [6] [0, 1, 2, 3, 4, 5, 7, 8, 9, 10, 11] 11 rfl rfl (by decide) (by decide) hk1 hFc hP1 hD1
  generalize H1 = H at hP hS ⊢
  rw [hr9]
  refine W.eq (g2 := F0 m 641 ls [.int 2]) rfl ?_
  refine lv_iload hx hb dL_law_641 (lv_at hl 0 rfl) ?_
  refine lv_icmp_eq (tgt := 648) hx hb dL_law_643 (by decide) (fun _ => ?_) (fun h => ((by revert h; decide : False)).elim)
  refine lv_goto (tgt := 906) hx hb dL_law_648 (by decide) ?_
  refine lv_iinc (v := 6) (lv' := [(4, .int 6), (5, .int 2), (3, .ref a2), (2, .ref a1), (1, .ref a0), (0, .ref b)]) hx hb dL_law_906 hl (k := 1) rfl (by decide) (by decide) rfl (fun ls hl => ?_)
  refine lv_goto (tgt := 23) hx hb dL_law_909 (by decide) ?_
  refine lv_iload hx hb dL_law_23 (lv_at hl 0 rfl) ?_
  refine lv_aload_n hx hb dL_law_25 rfl (lv_at hl 5 rfl) ?_
  refine va_slen hx hb hXs hbl hbA hS dL_law_26 ?_
  refine W.eq (g2 := F0 m 27 ls [.int 6, .int 6]) rfl ?_
  refine lv_bipush (v := 6) hx hb dL_law_27 (by decide) ?_
  refine lv_isub hx hb dL_law_29 ?_
  refine W.eq (g2 := F0 m 30 ls [.int 0, .int 6]) rfl ?_
  refine lv_icmp_gt (tgt := 912) hx hb dL_law_30 (by decide) (fun _ => ?_) (fun h => ((by revert h; decide : False)).elim)
  refine lv_iconst (v := 1) hx hb dL_law_912 (by decide) ?_
  exact va_forget (fun q h => hA2 _ (hS.2.2 q h)) (W.widen (k := 600002) (n := 7302232) (Nat.le_of_ble_eq_true rfl) (Nat.le_of_ble_eq_true rfl) (lw_ret hx hb hr hlocks dL_law_913))
set_option maxHeartbeats 400000000 in
set_option maxRecDepth 100000 in
theorem lf_one2_p0 {p : Program} {e : Env} {s : State} {m : MethodId} {below : List Frame} {meth : Method} {c : Code} (l : Launch) (hl9 : l.stackTraces = false) (D : va_G) (cT : Nat → ClassId) (aK aV : Nat → Nat) {A : Nat → Prop} {b : Nat} {xs : Nat → Int32} (C : xLw p s m meth c b D cT aK aV A) {H : Heap} {locs : List Loc} {ls : Array Slot} (a0 : Nat) (a1 : Nat) (a2 : Nat) (a3 : Nat) (a4 : Nat) (a5 : Nat) (a6 : Nat) (a7 : Nat) (a8 : Nat) (a9 : Nat) (a10 : Nat) (v11 : Value) (v12 : Value) (b13 : Nat) (b14 : Nat) (v15 : Value) (v16 : Value) (v17 : Value) (v18 : Value) (v19 : Value) (v20 : Value) (v21 : Value) (v22 : Value) (v23 : Value) (v24 : Value) (v25 : Value) (v26 : Value) (v27 : Value) (v28 : Value) (v29 : Value) (v30 : Value) (v31 : Value) (v32 : Value) (v33 : Value) (v34 : Value) (v35 : Value) (v36 : Value) (v37 : Value) (v38 : Value) (v39 : Value) (v40 : Value) (v41 : Value) (v42 : Value) (v43 : Value) (v44 : Value) (v45 : Value) (f46 : Nat → Int64) (v47 : Value) (v48 : Value) (v49 : Value) (f50 : Nat → Option Nat) (v52 : Value) (f53 : Nat → Int64) (f55 : Nat → Option Nat) (f57 : Nat → Int32) (f59 : Nat → Int32) (f64 : Nat → Option Nat) (h51 : f50 (xs 3).toNatClampNeg = some a5) (h54 : f53 0 = 0) (h56 : f55 (xs 3).toNatClampNeg = some a9) (h58 : f57 (xs 3).toNatClampNeg = 4) (h60 : f59 0 = 110) (h61 : f59 1 = 117) (h62 : f59 2 = 108) (h63 : f59 3 = 108) (h65 : f64 0 = none) (hto1 : ¬ (xs 1) < 0) (hto2 : ¬ 7 < (xs 1)) (hto3 : (xs 1) ≤ 7) (hto4 : vp_in (xs 1) 8) (hf : xs 2 = 2) (ha1 : ¬ (xs 3) < 0) (ha2 : ¬ 7 < (xs 3)) (ha3 : (xs 3) ≤ 7) (ha4 : vp_in (xs 3) 8) (hXs : va_X b 6 xs s s.heap) (hP : va_P D xcl [(a0, .inr (0, [v11, v12, .ref b13, .ref a4, .ref b14, .ref a3, v15, v16])), (a1, .inr (5, [v17, .ref a10, v18, v19, v20, v21, v22, v23, v24, v25, v26, v27, v28, v29, v30, v31, v32, v33, v34, v35, v36, v37, v38, v39, .ref a7, .ref a8, v40, v41, v42, v43, v44, v45])), (a2, .inl (cT 2, 1, .inr (.inl f46))), (a3, .inr (2, [v47, v48, v49])), (a4, .inl (cT 3, 8, .inr (.inr (.inr (.inr f50))))), (a5, .inr (2, [.ref a6, .int 1, v52])), (a6, .inl (cT 2, 4096, .inr (.inl f53))), (a7, .inl (cT 5, 8, .inr (.inr (.inr (.inr f55))))), (a8, .inl (cT 1, 8, .inl f57)), (a9, .inl (cT 0, 4096, .inl f59)), (a10, .inl (cT 4, 1024, .inr (.inr (.inr (.inr f64)))))] H) (hD : va_D A [(a0, .inr (0, [v11, v12, .ref b13, .ref a4, .ref b14, .ref a3, v15, v16])), (a1, .inr (5, [v17, .ref a10, v18, v19, v20, v21, v22, v23, v24, v25, v26, v27, v28, v29, v30, v31, v32, v33, v34, v35, v36, v37, v38, v39, .ref a7, .ref a8, v40, v41, v42, v43, v44, v45])), (a2, .inl (cT 2, 1, .inr (.inl f46))), (a3, .inr (2, [v47, v48, v49])), (a4, .inl (cT 3, 8, .inr (.inr (.inr (.inr f50))))), (a5, .inr (2, [.ref a6, .int 1, v52])), (a6, .inl (cT 2, 4096, .inr (.inl f53))), (a7, .inl (cT 5, 8, .inr (.inr (.inr (.inr f55))))), (a8, .inl (cT 1, 8, .inl f57)), (a9, .inl (cT 0, 4096, .inl f59)), (a10, .inl (cT 4, 1024, .inr (.inr (.inr (.inr f64)))))]) (hS : va_S A s.heap H locs) (hl : lv_has ls 8 [(4, .int 0), (3, .ref a2), (2, .ref a1), (1, .ref a0), (0, .ref b)]) : W p l e room_1 s m #[Value.ref b] below meth c H locs 54 107242 (lw_Z below #[Value.ref b] s) (F0 m 591 ls []) := by
  obtain ⟨hx, hb, hr, hml, hown, htx, hbl, hbA, hlocks, hK, hZ, hA, hA2⟩ := C
  refine lv_aload_n hx hb dL_law_591 rfl (lv_at hl 3 rfl) ?_
  refine lv_aload_n hx hb dL_law_592 rfl (lv_at hl 4 rfl) ?_
  refine lv_iload hx hb dL_law_593 (lv_at hl 0 rfl) ?_
  refine lv_iconst (v := 1) hx hb dL_law_595 (by decide) ?_
  refine lv_iadd hx hb dL_law_596 ?_
  refine W.eq (g2 := F0 m 597 ls [.int 1, .ref b, .ref a0]) rfl ?_
  refine va_sld hx hb hXs hbl hbA hS (i := 1) (show ¬ ((1 : Int32) < 0 ∨ 6 ≤ (1 : Int32).toNatClampNeg) by decide) dL_law_597 ?_
  refine W.eq (g2 := F0 m 598 ls [.int (xs 1), .ref a0]) rfl ?_
  refine lv_aload_n hx hb dL_law_598 rfl (lv_at hl 4 rfl) ?_
  refine lv_iload hx hb dL_law_599 (lv_at hl 0 rfl) ?_
  refine lv_iconst (v := 2) hx hb dL_law_601 (by decide) ?_
  refine lv_iadd hx hb dL_law_602 ?_
  refine W.eq (g2 := F0 m 603 ls [.int 2, .ref b, .int (xs 1), .ref a0]) rfl ?_
  refine va_sld hx hb hXs hbl hbA hS (i := 2) (show ¬ ((2 : Int32) < 0 ∨ 6 ≤ (2 : Int32).toNatClampNeg) by decide) dL_law_603 ?_
  refine W.eq (g2 := F0 m 604 ls [.int (xs 2), .int (xs 1), .ref a0]) rfl ?_
  rw [hf]
  refine W.eq (g2 := F0 m 604 ls [.int 2, .int (xs 1), .ref a0]) rfl ?_
  refine lv_aload_n hx hb dL_law_604 rfl (lv_at hl 4 rfl) ?_
  refine lv_iload hx hb dL_law_605 (lv_at hl 0 rfl) ?_
  refine lv_iconst (v := 3) hx hb dL_law_607 (by decide) ?_
  refine lv_iadd hx hb dL_law_608 ?_
  refine W.eq (g2 := F0 m 609 ls [.int 3, .ref b, .int 2, .int (xs 1), .ref a0]) rfl ?_
  refine va_sld hx hb hXs hbl hbA hS (i := 3) (show ¬ ((3 : Int32) < 0 ∨ 6 ≤ (3 : Int32).toNatClampNeg) by decide) dL_law_609 ?_
  refine W.eq (g2 := F0 m 610 ls [.int (xs 3), .int 2, .int (xs 1), .ref a0]) rfl ?_
  obtain ⟨hPc, hDc, hFc⟩ := xcut (wc := [(a0, .inr (0, [v11, v12, .ref b13, .ref a4, .ref b14, .ref a3, v15, v16])), (a3, .inr (2, [v47, v48, v49])), (a4, .inl (cT 3, 8, .inr (.inr (.inr (.inr f50))))), (a5, .inr (2, [.ref a6, .int 1, v52])), (a6, .inl (cT 2, 4096, .inr (.inl f53)))]) hP hD hS hA [0, 3, 4, 5, 6] rfl rfl (by decide)
  refine va_calli (vx_runSW (As := [.ref a0, .int (xs 1), .int 2, .int (xs 3)]) (rest := []) ⟨hx, hb, hml, hown, htx⟩ (cL_one_8 l hl9 D cT aK aV H.size a0 a3 a4 a5 a6 (xs 1) (xs 3) v11 v12 b13 b14 v15 v16 v47 v48 v49 f50 v52 f53 hto1 hto2 hto3 hto4 ha1 ha2 ha3 ha4 (by first | rfl | exact h51 | exact h54 | exact h56 | exact h58 | exact h60 | exact h61 | exact h62 | exact h63 | exact h65) (by first | rfl | exact h51 | exact h54 | exact h56 | exact h58 | exact h60 | exact h61 | exact h62 | exact h63 | exact h65)) (xcSW 4 htx (xw_goodC kw_4_21) rfl rfl rfl (htx _ kw_1_0) (htx _ kw_4_19) ⟨by decide, by decide, by decide +kernel⟩ ⟨Nat.le_of_ble_eq_true rfl, Nat.le_of_ble_eq_true rfl⟩ (htx _ kw_4_20)) ⟨xPre_blind, (fun U hU hW => ⟨rfl, xPre_of hZ hS hFc hPc hDc hK U hU hW⟩)⟩ rfl rfl hl.1 rfl (lv_room (Nat.le_of_ble_eq_true rfl)) dL_law_610 ⟨Nat.le_of_ble_eq_true rfl, Nat.le_of_ble_eq_true rfl⟩) hS (fun q _ h => hFc q h) hFc (fun r1 u9 t H1 locs ht hvm hr9 hB hz1 hk1 hS => ?_)
  obtain ⟨hP1, hK1, hD1⟩ := hB
  rw [ht] at hP1
  obtain ⟨hP, hD⟩ := xjoin (W := [(a1, .inr (5, [v17, .ref a10, v18, v19, v20, v21, v22, v23, v24, v25, v26, v27, v28, v29, v30, v31, v32, v33, v34, v35, v36, v37, v38, v39, .ref a7, .ref a8, v40, v41, v42, v43, v44, v45])), (a2, .inl (cT 2, 1, .inr (.inl f46))), (a7, .inl (cT 5, 8, .inr (.inr (.inr (.inr f55))))), (a8, .inl (cT 1, 8, .inl f57)), (a9, .inl (cT 0, 4096, .inl f59)), (a10, .inl (cT 4, 1024, .inr (.inr (.inr (.inr f64))))), (a0, .inr (0, [v11, v12, .ref b13, .ref a4, .ref b14, .ref a3, v15, .int 1])), (a3, .inr (2, [v47, .int 0, .int 0])), (a4, .inl (cT 3, 8, .inr (.inr (.inr (.inr f50))))), (a5, .inr (2, [.ref a6, .int 1, v52])), (a6, .inl (cT 2, 4096, .inr (.inl f53)))]) hP hD [0, 3, 4, 5, 6] [1, 2, 7, 8, 9, 10] 6 rfl rfl (by decide) (by decide) hk1 hFc hP1 hD1
  generalize H1 = H at hP hS ⊢
  rw [hr9]
  refine W.eq (g2 := F0 m 613 ls [.int 2]) rfl ?_
  refine lv_istore (lv' := [(5, .int 2), (4, .int 0), (3, .ref a2), (2, .ref a1), (1, .ref a0), (0, .ref b)]) hx hb dL_law_613 hl (by decide) rfl (fun ls hl => ?_)
  refine lv_aload_n hx hb dL_law_615 rfl (lv_at hl 3 rfl) ?_
  refine lv_aload_n hx hb dL_law_616 rfl (lv_at hl 5 rfl) ?_
  refine lv_iload hx hb dL_law_617 (lv_at hl 1 rfl) ?_
  refine lv_iconst (v := 1) hx hb dL_law_619 (by decide) ?_
  refine lv_iadd hx hb dL_law_620 ?_
  refine W.eq (g2 := F0 m 621 ls [.int 1, .ref b, .ref a1]) rfl ?_
  refine va_sld hx hb hXs hbl hbA hS (i := 1) (show ¬ ((1 : Int32) < 0 ∨ 6 ≤ (1 : Int32).toNatClampNeg) by decide) dL_law_621 ?_
  refine W.eq (g2 := F0 m 622 ls [.int (xs 1), .ref a1]) rfl ?_
  refine lv_aload_n hx hb dL_law_622 rfl (lv_at hl 5 rfl) ?_
  refine lv_iload hx hb dL_law_623 (lv_at hl 1 rfl) ?_
  refine lv_iconst (v := 2) hx hb dL_law_625 (by decide) ?_
  refine lv_iadd hx hb dL_law_626 ?_
  refine W.eq (g2 := F0 m 627 ls [.int 2, .ref b, .int (xs 1), .ref a1]) rfl ?_
  refine va_sld hx hb hXs hbl hbA hS (i := 2) (show ¬ ((2 : Int32) < 0 ∨ 6 ≤ (2 : Int32).toNatClampNeg) by decide) dL_law_627 ?_
  refine W.eq (g2 := F0 m 628 ls [.int (xs 2), .int (xs 1), .ref a1]) rfl ?_
  rw [hf]
  refine W.eq (g2 := F0 m 628 ls [.int 2, .int (xs 1), .ref a1]) rfl ?_
  refine lv_aload_n hx hb dL_law_628 rfl (lv_at hl 5 rfl) ?_
  refine lv_iload hx hb dL_law_629 (lv_at hl 1 rfl) ?_
  refine lv_iconst (v := 3) hx hb dL_law_631 (by decide) ?_
  refine lv_iadd hx hb dL_law_632 ?_
  refine W.eq (g2 := F0 m 633 ls [.int 3, .ref b, .int 2, .int (xs 1), .ref a1]) rfl ?_
  refine va_sld hx hb hXs hbl hbA hS (i := 3) (show ¬ ((3 : Int32) < 0 ∨ 6 ≤ (3 : Int32).toNatClampNeg) by decide) dL_law_633 ?_
  refine W.eq (g2 := F0 m 634 ls [.int (xs 3), .int 2, .int (xs 1), .ref a1]) rfl ?_
  obtain ⟨hPc, hDc, hFc⟩ := xcut (wc := [(a1, .inr (5, [v17, .ref a10, v18, v19, v20, v21, v22, v23, v24, v25, v26, v27, v28, v29, v30, v31, v32, v33, v34, v35, v36, v37, v38, v39, .ref a7, .ref a8, v40, v41, v42, v43, v44, v45])), (a7, .inl (cT 5, 8, .inr (.inr (.inr (.inr f55))))), (a8, .inl (cT 1, 8, .inl f57)), (a9, .inl (cT 0, 4096, .inl f59)), (a10, .inl (cT 4, 1024, .inr (.inr (.inr (.inr f64)))))]) hP hD hS hA [0, 2, 3, 4, 5] rfl rfl (by decide)
  refine va_callv (va_runV (C := "ValueBenchModel") (As := [.int (xs 1), .int 2, .int (xs 3)]) (rest := []) ⟨hx, hb, hml, hown, htx⟩ (cM_one0_10 l hl9 D cT aK aV H.size a1 a7 a8 a9 a10 (xs 1) (xs 3) v17 v18 v19 v20 v21 v22 v23 v24 v25 v26 v27 v28 v29 v30 v31 v32 v33 v34 v35 v36 v37 v38 v39 v40 v41 v42 v43 v44 v45 f55 f57 f59 f64 hto1 hto2 hto3 hto4 ha1 ha2 ha3 ha4 (by first | rfl | exact h51 | exact h54 | exact h56 | exact h58 | exact h60 | exact h61 | exact h62 | exact h63 | exact h65) (by first | rfl | exact h51 | exact h54 | exact h56 | exact h58 | exact h60 | exact h61 | exact h62 | exact h63 | exact h65) (by first | rfl | exact h51 | exact h54 | exact h56 | exact h58 | exact h60 | exact h61 | exact h62 | exact h63 | exact h65) (by first | rfl | exact h51 | exact h54 | exact h56 | exact h58 | exact h60 | exact h61 | exact h62 | exact h63 | exact h65) (by first | rfl | exact h51 | exact h54 | exact h56 | exact h58 | exact h60 | exact h61 | exact h62 | exact h63 | exact h65) (by first | rfl | exact h51 | exact h54 | exact h56 | exact h58 | exact h60 | exact h61 | exact h62 | exact h63 | exact h65) (by first | rfl | exact h51 | exact h54 | exact h56 | exact h58 | exact h60 | exact h61 | exact h62 | exact h63 | exact h65)) ⟨callB_of 3 htx (xw_goodC kw_7_123) rfl rfl rfl (htx _ kw_1_5) (htx _ kw_7_120) ⟨by decide, by decide, by decide +kernel⟩ ⟨Nat.le_of_ble_eq_true rfl, Nat.le_of_ble_eq_true rfl⟩, (htx _ kw_7_121), (htx _ kw_7_122)⟩ ⟨xPre_blind, va_recv hK hP (ci := 5) rfl (q0 := 0) rfl, (fun U hU hW => ⟨rfl, xPre_of hZ hS hFc hPc hDc hK U hU hW⟩)⟩ rfl rfl hl.1 rfl (lv_room (Nat.le_of_ble_eq_true rfl)) dL_law_634 ⟨Nat.le_of_ble_eq_true rfl, Nat.le_of_ble_eq_true rfl⟩) hS (fun q _ h => hFc q h) hFc (fun u9 t H1 locs ht hvm hr9 hB hz1 hk1 hS => ?_)
  obtain ⟨q2, hP1, hK1, hD1⟩ := hB
  rw [ht] at hP1
  obtain ⟨hP, hD⟩ := xjoin (W := [(a2, .inl (cT 2, 1, .inr (.inl f46))), (a0, .inr (0, [v11, v12, .ref b13, .ref a4, .ref b14, .ref a3, v15, .int 1])), (a3, .inr (2, [v47, .int 0, .int 0])), (a4, .inl (cT 3, 8, .inr (.inr (.inr (.inr f50))))), (a5, .inr (2, [.ref a6, .int 1, v52])), (a6, .inl (cT 2, 4096, .inr (.inl f53))), (a1, .inr (5, [.int 2, .ref a10, .int 1, v19, .int 0, v21, v22, .int 0, .int 1, .int 0, v26, v27, .int 0, v29, v30, .ref a9, .int 4, .int 4, .int 0, .int 100, v36, v37, .int 0, .int 1000000000, .ref a7, .ref a8, v40, v41, v42, v43, .int 1, v45])), (a7, .inl (cT 5, 8, .inr (.inr (.inr (.inr f55))))), (a8, .inl (cT 1, 8, .inl f57)), (a9, .inl (cT 0, 4096, .inl f59)), (a10, .inl (cT 4, 1024, .inr (.inr (.inr (.inr (va_up f64 0 (some q2))))))), (q2, .inr (6, [.int 0, .long 0, .int 0, .int 0, .int 0, .int 1]))]) hP hD [0, 2, 3, 4, 5] [1, 6, 7, 8, 9, 10] 6 rfl rfl (by decide) (by decide) hk1 hFc hP1 hD1
  generalize H1 = H at hP hS ⊢
  refine lv_aload_n hx hb dL_law_637 rfl (lv_at hl 3 rfl) ?_
  obtain ⟨hPc, hDc, hFc⟩ := xcut (wc := [(a1, .inr (5, [.int 2, .ref a10, .int 1, v19, .int 0, v21, v22, .int 0, .int 1, .int 0, v26, v27, .int 0, v29, v30, .ref a9, .int 4, .int 4, .int 0, .int 100, v36, v37, .int 0, .int 1000000000, .ref a7, .ref a8, v40, v41, v42, v43, .int 1, v45]))]) hP hD hS hA [6] rfl rfl (by decide)
  refine va_calli (va_runV (C := "ValueBenchModel") (As := []) (rest := []) ⟨hx, hb, hml, hown, htx⟩ (cM_thrown_2 l hl9 D cT aK aV H.size a1 (.ref a10) (.int 1) v19 (.int 0) v21 v22 (.int 0) (.int 1) (.int 0) v26 v27 (.int 0) v29 v30 (.ref a9) (.int 4) (.int 4) (.int 0) (.int 100) v36 v37 (.int 0) (.int 1000000000) (.ref a7) (.ref a8) v40 v41 v42 v43 (.int 1) v45) ⟨callB_of 0 htx (xw_goodC kw_5_187) rfl rfl rfl (htx _ kw_1_5) (htx _ kw_5_184) ⟨by decide, by decide, by decide +kernel⟩ ⟨Nat.le_of_ble_eq_true rfl, Nat.le_of_ble_eq_true rfl⟩, (htx _ kw_5_185), (htx _ kw_5_186)⟩ ⟨xPre_blind, va_recv hK hP (ci := 5) rfl (q0 := 6) rfl, (fun U hU hW => ⟨rfl, xPre_of hZ hS hFc hPc hDc hK U hU hW⟩)⟩ rfl rfl hl.1 rfl (lv_room (Nat.le_of_ble_eq_true rfl)) dL_law_638 ⟨Nat.le_of_ble_eq_true rfl, Nat.le_of_ble_eq_true rfl⟩) hS (fun q _ h => hFc q h) hFc (fun r3 u9 t H1 locs ht hvm hr9 hB hz1 hk1 hS => ?_)
  obtain ⟨hP1, hK1, hD1⟩ := hB
  rw [ht] at hP1
  obtain ⟨hP, hD⟩ := xjoin (W := [(a2, .inl (cT 2, 1, .inr (.inl f46))), (a0, .inr (0, [v11, v12, .ref b13, .ref a4, .ref b14, .ref a3, v15, .int 1])), (a3, .inr (2, [v47, .int 0, .int 0])), (a4, .inl (cT 3, 8, .inr (.inr (.inr (.inr f50))))), (a5, .inr (2, [.ref a6, .int 1, v52])), (a6, .inl (cT 2, 4096, .inr (.inl f53))), (a7, .inl (cT 5, 8, .inr (.inr (.inr (.inr f55))))), (a8, .inl (cT 1, 8, .inl f57)), (a9, .inl (cT 0, 4096, .inl f59)), (a10, .inl (cT 4, 1024, .inr (.inr (.inr (.inr (va_up f64 0 (some q2))))))), (q2, .inr (6, [.int 0, .long 0, .int 0, .int 0, .int 0, .int 1])), (a1, .inr (5, [.int 2, .ref a10, .int 1, v19, .int 0, v21, v22, .int 0, .int 1, .int 0, v26, v27, .int 0, v29, v30, .ref a9, .int 4, .int 4, .int 0, .int 100, v36, v37, .int 0, .int 1000000000, .ref a7, .ref a8, v40, v41, v42, v43, .int 1, v45]))]) hP hD [6] [0, 1, 2, 3, 4, 5, 7, 8, 9, 10, 11] 11 rfl rfl (by decide) (by decide) hk1 hFc hP1 hD1
  generalize H1 = H at hP hS ⊢
  rw [hr9]
  refine W.eq (g2 := F0 m 641 ls [.int 2]) rfl ?_
  refine lv_iload hx hb dL_law_641 (lv_at hl 0 rfl) ?_
  refine lv_icmp_eq (tgt := 648) hx hb dL_law_643 (by decide) (fun _ => ?_) (fun h => ((by revert h; decide : False)).elim)
  refine lv_goto (tgt := 906) hx hb dL_law_648 (by decide) ?_
  refine lv_iinc (v := 6) (lv' := [(4, .int 6), (5, .int 2), (3, .ref a2), (2, .ref a1), (1, .ref a0), (0, .ref b)]) hx hb dL_law_906 hl (k := 1) rfl (by decide) (by decide) rfl (fun ls hl => ?_)
  refine lv_goto (tgt := 23) hx hb dL_law_909 (by decide) ?_
  refine lv_iload hx hb dL_law_23 (lv_at hl 0 rfl) ?_
  refine lv_aload_n hx hb dL_law_25 rfl (lv_at hl 5 rfl) ?_
  refine va_slen hx hb hXs hbl hbA hS dL_law_26 ?_
  refine W.eq (g2 := F0 m 27 ls [.int 6, .int 6]) rfl ?_
  refine lv_bipush (v := 6) hx hb dL_law_27 (by decide) ?_
  refine lv_isub hx hb dL_law_29 ?_
  refine W.eq (g2 := F0 m 30 ls [.int 0, .int 6]) rfl ?_
  refine lv_icmp_gt (tgt := 912) hx hb dL_law_30 (by decide) (fun _ => ?_) (fun h => ((by revert h; decide : False)).elim)
  refine lv_iconst (v := 1) hx hb dL_law_912 (by decide) ?_
  exact va_forget (fun q h => hA2 _ (hS.2.2 q h)) (W.widen (k := 600002) (n := 7302232) (Nat.le_of_ble_eq_true rfl) (Nat.le_of_ble_eq_true rfl) (lw_ret hx hb hr hlocks dL_law_913))
set_option maxHeartbeats 400000000 in
set_option maxRecDepth 100000 in
theorem lf_one3_p2 {p : Program} {e : Env} {s : State} {m : MethodId} {below : List Frame} {meth : Method} {c : Code} (l : Launch) (hl9 : l.stackTraces = false) (D : va_G) (cT : Nat → ClassId) (aK aV : Nat → Nat) {A : Nat → Prop} {b : Nat} {xs : Nat → Int32} (C : xLw p s m meth c b D cT aK aV A) {H : Heap} {locs : List Loc} {ls : Array Slot} (a0 : Nat) (a1 : Nat) (a2 : Nat) (a3 : Nat) (a4 : Nat) (a5 : Nat) (a6 : Nat) (a7 : Nat) (a8 : Nat) (a9 : Nat) (a10 : Nat) (v11 : Value) (v12 : Value) (b13 : Nat) (b14 : Nat) (v15 : Value) (v16 : Value) (v17 : Value) (v18 : Value) (v19 : Value) (v20 : Value) (v21 : Value) (v22 : Value) (v23 : Value) (v24 : Value) (v25 : Value) (v26 : Value) (v27 : Value) (v28 : Value) (v29 : Value) (v30 : Value) (v31 : Value) (v32 : Value) (v33 : Value) (v34 : Value) (v35 : Value) (v36 : Value) (v37 : Value) (v38 : Value) (v39 : Value) (v40 : Value) (v41 : Value) (v42 : Value) (v43 : Value) (v44 : Value) (v45 : Value) (f46 : Nat → Int64) (v47 : Value) (v48 : Value) (v49 : Value) (f50 : Nat → Option Nat) (v52 : Value) (f53 : Nat → Int64) (f55 : Nat → Option Nat) (f57 : Nat → Int32) (f59 : Nat → Int32) (f64 : Nat → Option Nat) (h51 : f50 (xs 3).toNatClampNeg = some a5) (h54 : f53 0 = 0) (h56 : f55 (xs 3).toNatClampNeg = some a9) (h58 : f57 (xs 3).toNatClampNeg = 4) (h60 : f59 0 = 110) (h61 : f59 1 = 117) (h62 : f59 2 = 108) (h63 : f59 3 = 108) (h65 : f64 0 = none) (hto1 : ¬ (xs 1) < 0) (hto2 : ¬ 7 < (xs 1)) (hto3 : (xs 1) ≤ 7) (hto4 : vp_in (xs 1) 8) (hf : xs 2 = 3) (ha1 : ¬ (xs 3) < 0) (ha2 : ¬ 7 < (xs 3)) (ha3 : (xs 3) ≤ 7) (ha4 : vp_in (xs 3) 8) (hXs : va_X b 6 xs s s.heap) (hP : va_P D xcl [(a0, .inr (0, [v11, v12, .ref b13, .ref a4, .ref b14, .ref a3, v15, v16])), (a1, .inr (5, [v17, .ref a10, v18, v19, v20, v21, v22, v23, v24, v25, v26, v27, v28, v29, v30, v31, v32, v33, v34, v35, v36, v37, v38, v39, .ref a7, .ref a8, v40, v41, v42, v43, v44, v45])), (a2, .inl (cT 2, 1, .inr (.inl f46))), (a3, .inr (2, [v47, v48, v49])), (a4, .inl (cT 3, 8, .inr (.inr (.inr (.inr f50))))), (a5, .inr (2, [.ref a6, .int 1, v52])), (a6, .inl (cT 2, 4096, .inr (.inl f53))), (a7, .inl (cT 5, 8, .inr (.inr (.inr (.inr f55))))), (a8, .inl (cT 1, 8, .inl f57)), (a9, .inl (cT 0, 4096, .inl f59)), (a10, .inl (cT 4, 1024, .inr (.inr (.inr (.inr f64)))))] H) (hD : va_D A [(a0, .inr (0, [v11, v12, .ref b13, .ref a4, .ref b14, .ref a3, v15, v16])), (a1, .inr (5, [v17, .ref a10, v18, v19, v20, v21, v22, v23, v24, v25, v26, v27, v28, v29, v30, v31, v32, v33, v34, v35, v36, v37, v38, v39, .ref a7, .ref a8, v40, v41, v42, v43, v44, v45])), (a2, .inl (cT 2, 1, .inr (.inl f46))), (a3, .inr (2, [v47, v48, v49])), (a4, .inl (cT 3, 8, .inr (.inr (.inr (.inr f50))))), (a5, .inr (2, [.ref a6, .int 1, v52])), (a6, .inl (cT 2, 4096, .inr (.inl f53))), (a7, .inl (cT 5, 8, .inr (.inr (.inr (.inr f55))))), (a8, .inl (cT 1, 8, .inl f57)), (a9, .inl (cT 0, 4096, .inl f59)), (a10, .inl (cT 4, 1024, .inr (.inr (.inr (.inr f64)))))]) (hS : va_S A s.heap H locs) (hl : lv_has ls 8 [(4, .int 0), (3, .ref a2), (2, .ref a1), (1, .ref a0), (0, .ref b)]) : W p l e room_1 s m #[Value.ref b] below meth c H locs 54 107242 (lw_Z below #[Value.ref b] s) (F0 m 591 ls []) := by
  obtain ⟨hx, hb, hr, hml, hown, htx, hbl, hbA, hlocks, hK, hZ, hA, hA2⟩ := C
  refine lv_aload_n hx hb dL_law_591 rfl (lv_at hl 3 rfl) ?_
  refine lv_aload_n hx hb dL_law_592 rfl (lv_at hl 4 rfl) ?_
  refine lv_iload hx hb dL_law_593 (lv_at hl 0 rfl) ?_
  refine lv_iconst (v := 1) hx hb dL_law_595 (by decide) ?_
  refine lv_iadd hx hb dL_law_596 ?_
  refine W.eq (g2 := F0 m 597 ls [.int 1, .ref b, .ref a0]) rfl ?_
  refine va_sld hx hb hXs hbl hbA hS (i := 1) (show ¬ ((1 : Int32) < 0 ∨ 6 ≤ (1 : Int32).toNatClampNeg) by decide) dL_law_597 ?_
  refine W.eq (g2 := F0 m 598 ls [.int (xs 1), .ref a0]) rfl ?_
  refine lv_aload_n hx hb dL_law_598 rfl (lv_at hl 4 rfl) ?_
  refine lv_iload hx hb dL_law_599 (lv_at hl 0 rfl) ?_
  refine lv_iconst (v := 2) hx hb dL_law_601 (by decide) ?_
  refine lv_iadd hx hb dL_law_602 ?_
  refine W.eq (g2 := F0 m 603 ls [.int 2, .ref b, .int (xs 1), .ref a0]) rfl ?_
  refine va_sld hx hb hXs hbl hbA hS (i := 2) (show ¬ ((2 : Int32) < 0 ∨ 6 ≤ (2 : Int32).toNatClampNeg) by decide) dL_law_603 ?_
  refine W.eq (g2 := F0 m 604 ls [.int (xs 2), .int (xs 1), .ref a0]) rfl ?_
  rw [hf]
  refine W.eq (g2 := F0 m 604 ls [.int 3, .int (xs 1), .ref a0]) rfl ?_
  refine lv_aload_n hx hb dL_law_604 rfl (lv_at hl 4 rfl) ?_
  refine lv_iload hx hb dL_law_605 (lv_at hl 0 rfl) ?_
  refine lv_iconst (v := 3) hx hb dL_law_607 (by decide) ?_
  refine lv_iadd hx hb dL_law_608 ?_
  refine W.eq (g2 := F0 m 609 ls [.int 3, .ref b, .int 3, .int (xs 1), .ref a0]) rfl ?_
  refine va_sld hx hb hXs hbl hbA hS (i := 3) (show ¬ ((3 : Int32) < 0 ∨ 6 ≤ (3 : Int32).toNatClampNeg) by decide) dL_law_609 ?_
  refine W.eq (g2 := F0 m 610 ls [.int (xs 3), .int 3, .int (xs 1), .ref a0]) rfl ?_
  obtain ⟨hPc, hDc, hFc⟩ := xcut (wc := [(a0, .inr (0, [v11, v12, .ref b13, .ref a4, .ref b14, .ref a3, v15, v16])), (a3, .inr (2, [v47, v48, v49])), (a4, .inl (cT 3, 8, .inr (.inr (.inr (.inr f50))))), (a5, .inr (2, [.ref a6, .int 1, v52])), (a6, .inl (cT 2, 4096, .inr (.inl f53)))]) hP hD hS hA [0, 3, 4, 5, 6] rfl rfl (by decide)
  refine va_calli (vx_runSW (As := [.ref a0, .int (xs 1), .int 3, .int (xs 3)]) (rest := []) ⟨hx, hb, hml, hown, htx⟩ (cL_one_9 l hl9 D cT aK aV H.size a0 a3 a4 a5 a6 (xs 1) (xs 3) v11 v12 b13 b14 v15 v16 v47 v48 v49 f50 v52 f53 hto1 hto2 hto3 hto4 ha1 ha2 ha3 ha4 (by first | rfl | exact h51 | exact h54 | exact h56 | exact h58 | exact h60 | exact h61 | exact h62 | exact h63 | exact h65) (by first | rfl | exact h51 | exact h54 | exact h56 | exact h58 | exact h60 | exact h61 | exact h62 | exact h63 | exact h65)) (xcSW 4 htx (xw_goodC kw_4_21) rfl rfl rfl (htx _ kw_1_0) (htx _ kw_4_19) ⟨by decide, by decide, by decide +kernel⟩ ⟨Nat.le_of_ble_eq_true rfl, Nat.le_of_ble_eq_true rfl⟩ (htx _ kw_4_20)) ⟨xPre_blind, (fun U hU hW => ⟨rfl, xPre_of hZ hS hFc hPc hDc hK U hU hW⟩)⟩ rfl rfl hl.1 rfl (lv_room (Nat.le_of_ble_eq_true rfl)) dL_law_610 ⟨Nat.le_of_ble_eq_true rfl, Nat.le_of_ble_eq_true rfl⟩) hS (fun q _ h => hFc q h) hFc (fun r1 u9 t H1 locs ht hvm hr9 hB hz1 hk1 hS => ?_)
  obtain ⟨hP1, hK1, hD1⟩ := hB
  rw [ht] at hP1
  obtain ⟨hP, hD⟩ := xjoin (W := [(a1, .inr (5, [v17, .ref a10, v18, v19, v20, v21, v22, v23, v24, v25, v26, v27, v28, v29, v30, v31, v32, v33, v34, v35, v36, v37, v38, v39, .ref a7, .ref a8, v40, v41, v42, v43, v44, v45])), (a2, .inl (cT 2, 1, .inr (.inl f46))), (a7, .inl (cT 5, 8, .inr (.inr (.inr (.inr f55))))), (a8, .inl (cT 1, 8, .inl f57)), (a9, .inl (cT 0, 4096, .inl f59)), (a10, .inl (cT 4, 1024, .inr (.inr (.inr (.inr f64))))), (a0, .inr (0, [v11, v12, .ref b13, .ref a4, .ref b14, .ref a3, v15, .int 1])), (a3, .inr (2, [v47, .int 0, .int 0])), (a4, .inl (cT 3, 8, .inr (.inr (.inr (.inr f50))))), (a5, .inr (2, [.ref a6, .int 1, v52])), (a6, .inl (cT 2, 4096, .inr (.inl f53)))]) hP hD [0, 3, 4, 5, 6] [1, 2, 7, 8, 9, 10] 6 rfl rfl (by decide) (by decide) hk1 hFc hP1 hD1
  generalize H1 = H at hP hS ⊢
  rw [hr9]
  refine W.eq (g2 := F0 m 613 ls [.int 2]) rfl ?_
  refine lv_istore (lv' := [(5, .int 2), (4, .int 0), (3, .ref a2), (2, .ref a1), (1, .ref a0), (0, .ref b)]) hx hb dL_law_613 hl (by decide) rfl (fun ls hl => ?_)
  refine lv_aload_n hx hb dL_law_615 rfl (lv_at hl 3 rfl) ?_
  refine lv_aload_n hx hb dL_law_616 rfl (lv_at hl 5 rfl) ?_
  refine lv_iload hx hb dL_law_617 (lv_at hl 1 rfl) ?_
  refine lv_iconst (v := 1) hx hb dL_law_619 (by decide) ?_
  refine lv_iadd hx hb dL_law_620 ?_
  refine W.eq (g2 := F0 m 621 ls [.int 1, .ref b, .ref a1]) rfl ?_
  refine va_sld hx hb hXs hbl hbA hS (i := 1) (show ¬ ((1 : Int32) < 0 ∨ 6 ≤ (1 : Int32).toNatClampNeg) by decide) dL_law_621 ?_
  refine W.eq (g2 := F0 m 622 ls [.int (xs 1), .ref a1]) rfl ?_
  refine lv_aload_n hx hb dL_law_622 rfl (lv_at hl 5 rfl) ?_
  refine lv_iload hx hb dL_law_623 (lv_at hl 1 rfl) ?_
  refine lv_iconst (v := 2) hx hb dL_law_625 (by decide) ?_
  refine lv_iadd hx hb dL_law_626 ?_
  refine W.eq (g2 := F0 m 627 ls [.int 2, .ref b, .int (xs 1), .ref a1]) rfl ?_
  refine va_sld hx hb hXs hbl hbA hS (i := 2) (show ¬ ((2 : Int32) < 0 ∨ 6 ≤ (2 : Int32).toNatClampNeg) by decide) dL_law_627 ?_
  refine W.eq (g2 := F0 m 628 ls [.int (xs 2), .int (xs 1), .ref a1]) rfl ?_
  rw [hf]
  refine W.eq (g2 := F0 m 628 ls [.int 3, .int (xs 1), .ref a1]) rfl ?_
  refine lv_aload_n hx hb dL_law_628 rfl (lv_at hl 5 rfl) ?_
  refine lv_iload hx hb dL_law_629 (lv_at hl 1 rfl) ?_
  refine lv_iconst (v := 3) hx hb dL_law_631 (by decide) ?_
  refine lv_iadd hx hb dL_law_632 ?_
  refine W.eq (g2 := F0 m 633 ls [.int 3, .ref b, .int 3, .int (xs 1), .ref a1]) rfl ?_
  refine va_sld hx hb hXs hbl hbA hS (i := 3) (show ¬ ((3 : Int32) < 0 ∨ 6 ≤ (3 : Int32).toNatClampNeg) by decide) dL_law_633 ?_
  refine W.eq (g2 := F0 m 634 ls [.int (xs 3), .int 3, .int (xs 1), .ref a1]) rfl ?_
  obtain ⟨hPc, hDc, hFc⟩ := xcut (wc := [(a1, .inr (5, [v17, .ref a10, v18, v19, v20, v21, v22, v23, v24, v25, v26, v27, v28, v29, v30, v31, v32, v33, v34, v35, v36, v37, v38, v39, .ref a7, .ref a8, v40, v41, v42, v43, v44, v45])), (a7, .inl (cT 5, 8, .inr (.inr (.inr (.inr f55))))), (a8, .inl (cT 1, 8, .inl f57)), (a9, .inl (cT 0, 4096, .inl f59)), (a10, .inl (cT 4, 1024, .inr (.inr (.inr (.inr f64)))))]) hP hD hS hA [0, 2, 3, 4, 5] rfl rfl (by decide)
  refine va_callv (va_runV (C := "ValueBenchModel") (As := [.int (xs 1), .int 3, .int (xs 3)]) (rest := []) ⟨hx, hb, hml, hown, htx⟩ (cM_one0_11 l hl9 D cT aK aV H.size a1 a7 a8 a9 a10 (xs 1) (xs 3) v17 v18 v19 v20 v21 v22 v23 v24 v25 v26 v27 v28 v29 v30 v31 v32 v33 v34 v35 v36 v37 v38 v39 v40 v41 v42 v43 v44 v45 f55 f57 f59 f64 hto1 hto2 hto3 hto4 ha1 ha2 ha3 ha4 (by first | rfl | exact h51 | exact h54 | exact h56 | exact h58 | exact h60 | exact h61 | exact h62 | exact h63 | exact h65) (by first | rfl | exact h51 | exact h54 | exact h56 | exact h58 | exact h60 | exact h61 | exact h62 | exact h63 | exact h65) (by first | rfl | exact h51 | exact h54 | exact h56 | exact h58 | exact h60 | exact h61 | exact h62 | exact h63 | exact h65) (by first | rfl | exact h51 | exact h54 | exact h56 | exact h58 | exact h60 | exact h61 | exact h62 | exact h63 | exact h65) (by first | rfl | exact h51 | exact h54 | exact h56 | exact h58 | exact h60 | exact h61 | exact h62 | exact h63 | exact h65) (by first | rfl | exact h51 | exact h54 | exact h56 | exact h58 | exact h60 | exact h61 | exact h62 | exact h63 | exact h65) (by first | rfl | exact h51 | exact h54 | exact h56 | exact h58 | exact h60 | exact h61 | exact h62 | exact h63 | exact h65)) ⟨callB_of 3 htx (xw_goodC kw_7_123) rfl rfl rfl (htx _ kw_1_5) (htx _ kw_7_120) ⟨by decide, by decide, by decide +kernel⟩ ⟨Nat.le_of_ble_eq_true rfl, Nat.le_of_ble_eq_true rfl⟩, (htx _ kw_7_121), (htx _ kw_7_122)⟩ ⟨xPre_blind, va_recv hK hP (ci := 5) rfl (q0 := 0) rfl, (fun U hU hW => ⟨rfl, xPre_of hZ hS hFc hPc hDc hK U hU hW⟩)⟩ rfl rfl hl.1 rfl (lv_room (Nat.le_of_ble_eq_true rfl)) dL_law_634 ⟨Nat.le_of_ble_eq_true rfl, Nat.le_of_ble_eq_true rfl⟩) hS (fun q _ h => hFc q h) hFc (fun u9 t H1 locs ht hvm hr9 hB hz1 hk1 hS => ?_)
  obtain ⟨q2, hP1, hK1, hD1⟩ := hB
  rw [ht] at hP1
  obtain ⟨hP, hD⟩ := xjoin (W := [(a2, .inl (cT 2, 1, .inr (.inl f46))), (a0, .inr (0, [v11, v12, .ref b13, .ref a4, .ref b14, .ref a3, v15, .int 1])), (a3, .inr (2, [v47, .int 0, .int 0])), (a4, .inl (cT 3, 8, .inr (.inr (.inr (.inr f50))))), (a5, .inr (2, [.ref a6, .int 1, v52])), (a6, .inl (cT 2, 4096, .inr (.inl f53))), (a1, .inr (5, [.int 2, .ref a10, .int 1, v19, .int 0, v21, v22, .int 0, .int 1, .int 0, v26, v27, .int 0, v29, v30, .ref a9, .int 4, .int 4, .int 0, .int 100, v36, v37, .int 0, .int 1000000000, .ref a7, .ref a8, v40, v41, v42, v43, .int 1, v45])), (a7, .inl (cT 5, 8, .inr (.inr (.inr (.inr f55))))), (a8, .inl (cT 1, 8, .inl f57)), (a9, .inl (cT 0, 4096, .inl f59)), (a10, .inl (cT 4, 1024, .inr (.inr (.inr (.inr (va_up f64 0 (some q2))))))), (q2, .inr (6, [.int 0, .long 0, .int 0, .int 0, .int 0, .int 1]))]) hP hD [0, 2, 3, 4, 5] [1, 6, 7, 8, 9, 10] 6 rfl rfl (by decide) (by decide) hk1 hFc hP1 hD1
  generalize H1 = H at hP hS ⊢
  refine lv_aload_n hx hb dL_law_637 rfl (lv_at hl 3 rfl) ?_
  obtain ⟨hPc, hDc, hFc⟩ := xcut (wc := [(a1, .inr (5, [.int 2, .ref a10, .int 1, v19, .int 0, v21, v22, .int 0, .int 1, .int 0, v26, v27, .int 0, v29, v30, .ref a9, .int 4, .int 4, .int 0, .int 100, v36, v37, .int 0, .int 1000000000, .ref a7, .ref a8, v40, v41, v42, v43, .int 1, v45]))]) hP hD hS hA [6] rfl rfl (by decide)
  refine va_calli (va_runV (C := "ValueBenchModel") (As := []) (rest := []) ⟨hx, hb, hml, hown, htx⟩ (cM_thrown_2 l hl9 D cT aK aV H.size a1 (.ref a10) (.int 1) v19 (.int 0) v21 v22 (.int 0) (.int 1) (.int 0) v26 v27 (.int 0) v29 v30 (.ref a9) (.int 4) (.int 4) (.int 0) (.int 100) v36 v37 (.int 0) (.int 1000000000) (.ref a7) (.ref a8) v40 v41 v42 v43 (.int 1) v45) ⟨callB_of 0 htx (xw_goodC kw_5_187) rfl rfl rfl (htx _ kw_1_5) (htx _ kw_5_184) ⟨by decide, by decide, by decide +kernel⟩ ⟨Nat.le_of_ble_eq_true rfl, Nat.le_of_ble_eq_true rfl⟩, (htx _ kw_5_185), (htx _ kw_5_186)⟩ ⟨xPre_blind, va_recv hK hP (ci := 5) rfl (q0 := 6) rfl, (fun U hU hW => ⟨rfl, xPre_of hZ hS hFc hPc hDc hK U hU hW⟩)⟩ rfl rfl hl.1 rfl (lv_room (Nat.le_of_ble_eq_true rfl)) dL_law_638 ⟨Nat.le_of_ble_eq_true rfl, Nat.le_of_ble_eq_true rfl⟩) hS (fun q _ h => hFc q h) hFc (fun r3 u9 t H1 locs ht hvm hr9 hB hz1 hk1 hS => ?_)
  obtain ⟨hP1, hK1, hD1⟩ := hB
  rw [ht] at hP1
  obtain ⟨hP, hD⟩ := xjoin (W := [(a2, .inl (cT 2, 1, .inr (.inl f46))), (a0, .inr (0, [v11, v12, .ref b13, .ref a4, .ref b14, .ref a3, v15, .int 1])), (a3, .inr (2, [v47, .int 0, .int 0])), (a4, .inl (cT 3, 8, .inr (.inr (.inr (.inr f50))))), (a5, .inr (2, [.ref a6, .int 1, v52])), (a6, .inl (cT 2, 4096, .inr (.inl f53))), (a7, .inl (cT 5, 8, .inr (.inr (.inr (.inr f55))))), (a8, .inl (cT 1, 8, .inl f57)), (a9, .inl (cT 0, 4096, .inl f59)), (a10, .inl (cT 4, 1024, .inr (.inr (.inr (.inr (va_up f64 0 (some q2))))))), (q2, .inr (6, [.int 0, .long 0, .int 0, .int 0, .int 0, .int 1])), (a1, .inr (5, [.int 2, .ref a10, .int 1, v19, .int 0, v21, v22, .int 0, .int 1, .int 0, v26, v27, .int 0, v29, v30, .ref a9, .int 4, .int 4, .int 0, .int 100, v36, v37, .int 0, .int 1000000000, .ref a7, .ref a8, v40, v41, v42, v43, .int 1, v45]))]) hP hD [6] [0, 1, 2, 3, 4, 5, 7, 8, 9, 10, 11] 11 rfl rfl (by decide) (by decide) hk1 hFc hP1 hD1
  generalize H1 = H at hP hS ⊢
  rw [hr9]
  refine W.eq (g2 := F0 m 641 ls [.int 2]) rfl ?_
  refine lv_iload hx hb dL_law_641 (lv_at hl 0 rfl) ?_
  refine lv_icmp_eq (tgt := 648) hx hb dL_law_643 (by decide) (fun _ => ?_) (fun h => ((by revert h; decide : False)).elim)
  refine lv_goto (tgt := 906) hx hb dL_law_648 (by decide) ?_
  refine lv_iinc (v := 6) (lv' := [(4, .int 6), (5, .int 2), (3, .ref a2), (2, .ref a1), (1, .ref a0), (0, .ref b)]) hx hb dL_law_906 hl (k := 1) rfl (by decide) (by decide) rfl (fun ls hl => ?_)
  refine lv_goto (tgt := 23) hx hb dL_law_909 (by decide) ?_
  refine lv_iload hx hb dL_law_23 (lv_at hl 0 rfl) ?_
  refine lv_aload_n hx hb dL_law_25 rfl (lv_at hl 5 rfl) ?_
  refine va_slen hx hb hXs hbl hbA hS dL_law_26 ?_
  refine W.eq (g2 := F0 m 27 ls [.int 6, .int 6]) rfl ?_
  refine lv_bipush (v := 6) hx hb dL_law_27 (by decide) ?_
  refine lv_isub hx hb dL_law_29 ?_
  refine W.eq (g2 := F0 m 30 ls [.int 0, .int 6]) rfl ?_
  refine lv_icmp_gt (tgt := 912) hx hb dL_law_30 (by decide) (fun _ => ?_) (fun h => ((by revert h; decide : False)).elim)
  refine lv_iconst (v := 1) hx hb dL_law_912 (by decide) ?_
  exact va_forget (fun q h => hA2 _ (hS.2.2 q h)) (W.widen (k := 600002) (n := 7302232) (Nat.le_of_ble_eq_true rfl) (Nat.le_of_ble_eq_true rfl) (lw_ret hx hb hr hlocks dL_law_913))
set_option maxHeartbeats 400000000 in
set_option maxRecDepth 100000 in
theorem lf_one3_p0 {p : Program} {e : Env} {s : State} {m : MethodId} {below : List Frame} {meth : Method} {c : Code} (l : Launch) (hl9 : l.stackTraces = false) (D : va_G) (cT : Nat → ClassId) (aK aV : Nat → Nat) {A : Nat → Prop} {b : Nat} {xs : Nat → Int32} (C : xLw p s m meth c b D cT aK aV A) {H : Heap} {locs : List Loc} {ls : Array Slot} (a0 : Nat) (a1 : Nat) (a2 : Nat) (a3 : Nat) (a4 : Nat) (a5 : Nat) (a6 : Nat) (a7 : Nat) (a8 : Nat) (a9 : Nat) (a10 : Nat) (v11 : Value) (v12 : Value) (b13 : Nat) (b14 : Nat) (v15 : Value) (v16 : Value) (v17 : Value) (v18 : Value) (v19 : Value) (v20 : Value) (v21 : Value) (v22 : Value) (v23 : Value) (v24 : Value) (v25 : Value) (v26 : Value) (v27 : Value) (v28 : Value) (v29 : Value) (v30 : Value) (v31 : Value) (v32 : Value) (v33 : Value) (v34 : Value) (v35 : Value) (v36 : Value) (v37 : Value) (v38 : Value) (v39 : Value) (v40 : Value) (v41 : Value) (v42 : Value) (v43 : Value) (v44 : Value) (v45 : Value) (f46 : Nat → Int64) (v47 : Value) (v48 : Value) (v49 : Value) (f50 : Nat → Option Nat) (v52 : Value) (f53 : Nat → Int64) (f55 : Nat → Option Nat) (f57 : Nat → Int32) (f59 : Nat → Int32) (f64 : Nat → Option Nat) (h51 : f50 (xs 3).toNatClampNeg = some a5) (h54 : f53 0 = 0) (h56 : f55 (xs 3).toNatClampNeg = some a9) (h58 : f57 (xs 3).toNatClampNeg = 4) (h60 : f59 0 = 110) (h61 : f59 1 = 117) (h62 : f59 2 = 108) (h63 : f59 3 = 108) (h65 : f64 0 = none) (hto1 : ¬ (xs 1) < 0) (hto2 : ¬ 7 < (xs 1)) (hto3 : (xs 1) ≤ 7) (hto4 : vp_in (xs 1) 8) (hf : xs 2 = 3) (ha1 : ¬ (xs 3) < 0) (ha2 : ¬ 7 < (xs 3)) (ha3 : (xs 3) ≤ 7) (ha4 : vp_in (xs 3) 8) (hXs : va_X b 6 xs s s.heap) (hP : va_P D xcl [(a0, .inr (0, [v11, v12, .ref b13, .ref a4, .ref b14, .ref a3, v15, v16])), (a1, .inr (5, [v17, .ref a10, v18, v19, v20, v21, v22, v23, v24, v25, v26, v27, v28, v29, v30, v31, v32, v33, v34, v35, v36, v37, v38, v39, .ref a7, .ref a8, v40, v41, v42, v43, v44, v45])), (a2, .inl (cT 2, 1, .inr (.inl f46))), (a3, .inr (2, [v47, v48, v49])), (a4, .inl (cT 3, 8, .inr (.inr (.inr (.inr f50))))), (a5, .inr (2, [.ref a6, .int 1, v52])), (a6, .inl (cT 2, 4096, .inr (.inl f53))), (a7, .inl (cT 5, 8, .inr (.inr (.inr (.inr f55))))), (a8, .inl (cT 1, 8, .inl f57)), (a9, .inl (cT 0, 4096, .inl f59)), (a10, .inl (cT 4, 1024, .inr (.inr (.inr (.inr f64)))))] H) (hD : va_D A [(a0, .inr (0, [v11, v12, .ref b13, .ref a4, .ref b14, .ref a3, v15, v16])), (a1, .inr (5, [v17, .ref a10, v18, v19, v20, v21, v22, v23, v24, v25, v26, v27, v28, v29, v30, v31, v32, v33, v34, v35, v36, v37, v38, v39, .ref a7, .ref a8, v40, v41, v42, v43, v44, v45])), (a2, .inl (cT 2, 1, .inr (.inl f46))), (a3, .inr (2, [v47, v48, v49])), (a4, .inl (cT 3, 8, .inr (.inr (.inr (.inr f50))))), (a5, .inr (2, [.ref a6, .int 1, v52])), (a6, .inl (cT 2, 4096, .inr (.inl f53))), (a7, .inl (cT 5, 8, .inr (.inr (.inr (.inr f55))))), (a8, .inl (cT 1, 8, .inl f57)), (a9, .inl (cT 0, 4096, .inl f59)), (a10, .inl (cT 4, 1024, .inr (.inr (.inr (.inr f64)))))]) (hS : va_S A s.heap H locs) (hl : lv_has ls 8 [(4, .int 0), (3, .ref a2), (2, .ref a1), (1, .ref a0), (0, .ref b)]) : W p l e room_1 s m #[Value.ref b] below meth c H locs 54 107242 (lw_Z below #[Value.ref b] s) (F0 m 591 ls []) := by
  obtain ⟨hx, hb, hr, hml, hown, htx, hbl, hbA, hlocks, hK, hZ, hA, hA2⟩ := C
  refine lv_aload_n hx hb dL_law_591 rfl (lv_at hl 3 rfl) ?_
  refine lv_aload_n hx hb dL_law_592 rfl (lv_at hl 4 rfl) ?_
  refine lv_iload hx hb dL_law_593 (lv_at hl 0 rfl) ?_
  refine lv_iconst (v := 1) hx hb dL_law_595 (by decide) ?_
  refine lv_iadd hx hb dL_law_596 ?_
  refine W.eq (g2 := F0 m 597 ls [.int 1, .ref b, .ref a0]) rfl ?_
  refine va_sld hx hb hXs hbl hbA hS (i := 1) (show ¬ ((1 : Int32) < 0 ∨ 6 ≤ (1 : Int32).toNatClampNeg) by decide) dL_law_597 ?_
  refine W.eq (g2 := F0 m 598 ls [.int (xs 1), .ref a0]) rfl ?_
  refine lv_aload_n hx hb dL_law_598 rfl (lv_at hl 4 rfl) ?_
  refine lv_iload hx hb dL_law_599 (lv_at hl 0 rfl) ?_
  refine lv_iconst (v := 2) hx hb dL_law_601 (by decide) ?_
  refine lv_iadd hx hb dL_law_602 ?_
  refine W.eq (g2 := F0 m 603 ls [.int 2, .ref b, .int (xs 1), .ref a0]) rfl ?_
  refine va_sld hx hb hXs hbl hbA hS (i := 2) (show ¬ ((2 : Int32) < 0 ∨ 6 ≤ (2 : Int32).toNatClampNeg) by decide) dL_law_603 ?_
  refine W.eq (g2 := F0 m 604 ls [.int (xs 2), .int (xs 1), .ref a0]) rfl ?_
  rw [hf]
  refine W.eq (g2 := F0 m 604 ls [.int 3, .int (xs 1), .ref a0]) rfl ?_
  refine lv_aload_n hx hb dL_law_604 rfl (lv_at hl 4 rfl) ?_
  refine lv_iload hx hb dL_law_605 (lv_at hl 0 rfl) ?_
  refine lv_iconst (v := 3) hx hb dL_law_607 (by decide) ?_
  refine lv_iadd hx hb dL_law_608 ?_
  refine W.eq (g2 := F0 m 609 ls [.int 3, .ref b, .int 3, .int (xs 1), .ref a0]) rfl ?_
  refine va_sld hx hb hXs hbl hbA hS (i := 3) (show ¬ ((3 : Int32) < 0 ∨ 6 ≤ (3 : Int32).toNatClampNeg) by decide) dL_law_609 ?_
  refine W.eq (g2 := F0 m 610 ls [.int (xs 3), .int 3, .int (xs 1), .ref a0]) rfl ?_
  obtain ⟨hPc, hDc, hFc⟩ := xcut (wc := [(a0, .inr (0, [v11, v12, .ref b13, .ref a4, .ref b14, .ref a3, v15, v16])), (a3, .inr (2, [v47, v48, v49])), (a4, .inl (cT 3, 8, .inr (.inr (.inr (.inr f50))))), (a5, .inr (2, [.ref a6, .int 1, v52])), (a6, .inl (cT 2, 4096, .inr (.inl f53)))]) hP hD hS hA [0, 3, 4, 5, 6] rfl rfl (by decide)
  refine va_calli (vx_runSW (As := [.ref a0, .int (xs 1), .int 3, .int (xs 3)]) (rest := []) ⟨hx, hb, hml, hown, htx⟩ (cL_one_9 l hl9 D cT aK aV H.size a0 a3 a4 a5 a6 (xs 1) (xs 3) v11 v12 b13 b14 v15 v16 v47 v48 v49 f50 v52 f53 hto1 hto2 hto3 hto4 ha1 ha2 ha3 ha4 (by first | rfl | exact h51 | exact h54 | exact h56 | exact h58 | exact h60 | exact h61 | exact h62 | exact h63 | exact h65) (by first | rfl | exact h51 | exact h54 | exact h56 | exact h58 | exact h60 | exact h61 | exact h62 | exact h63 | exact h65)) (xcSW 4 htx (xw_goodC kw_4_21) rfl rfl rfl (htx _ kw_1_0) (htx _ kw_4_19) ⟨by decide, by decide, by decide +kernel⟩ ⟨Nat.le_of_ble_eq_true rfl, Nat.le_of_ble_eq_true rfl⟩ (htx _ kw_4_20)) ⟨xPre_blind, (fun U hU hW => ⟨rfl, xPre_of hZ hS hFc hPc hDc hK U hU hW⟩)⟩ rfl rfl hl.1 rfl (lv_room (Nat.le_of_ble_eq_true rfl)) dL_law_610 ⟨Nat.le_of_ble_eq_true rfl, Nat.le_of_ble_eq_true rfl⟩) hS (fun q _ h => hFc q h) hFc (fun r1 u9 t H1 locs ht hvm hr9 hB hz1 hk1 hS => ?_)
  obtain ⟨hP1, hK1, hD1⟩ := hB
  rw [ht] at hP1
  obtain ⟨hP, hD⟩ := xjoin (W := [(a1, .inr (5, [v17, .ref a10, v18, v19, v20, v21, v22, v23, v24, v25, v26, v27, v28, v29, v30, v31, v32, v33, v34, v35, v36, v37, v38, v39, .ref a7, .ref a8, v40, v41, v42, v43, v44, v45])), (a2, .inl (cT 2, 1, .inr (.inl f46))), (a7, .inl (cT 5, 8, .inr (.inr (.inr (.inr f55))))), (a8, .inl (cT 1, 8, .inl f57)), (a9, .inl (cT 0, 4096, .inl f59)), (a10, .inl (cT 4, 1024, .inr (.inr (.inr (.inr f64))))), (a0, .inr (0, [v11, v12, .ref b13, .ref a4, .ref b14, .ref a3, v15, .int 1])), (a3, .inr (2, [v47, .int 0, .int 0])), (a4, .inl (cT 3, 8, .inr (.inr (.inr (.inr f50))))), (a5, .inr (2, [.ref a6, .int 1, v52])), (a6, .inl (cT 2, 4096, .inr (.inl f53)))]) hP hD [0, 3, 4, 5, 6] [1, 2, 7, 8, 9, 10] 6 rfl rfl (by decide) (by decide) hk1 hFc hP1 hD1
  generalize H1 = H at hP hS ⊢
  rw [hr9]
  refine W.eq (g2 := F0 m 613 ls [.int 2]) rfl ?_
  refine lv_istore (lv' := [(5, .int 2), (4, .int 0), (3, .ref a2), (2, .ref a1), (1, .ref a0), (0, .ref b)]) hx hb dL_law_613 hl (by decide) rfl (fun ls hl => ?_)
  refine lv_aload_n hx hb dL_law_615 rfl (lv_at hl 3 rfl) ?_
  refine lv_aload_n hx hb dL_law_616 rfl (lv_at hl 5 rfl) ?_
  refine lv_iload hx hb dL_law_617 (lv_at hl 1 rfl) ?_
  refine lv_iconst (v := 1) hx hb dL_law_619 (by decide) ?_
  refine lv_iadd hx hb dL_law_620 ?_
  refine W.eq (g2 := F0 m 621 ls [.int 1, .ref b, .ref a1]) rfl ?_
  refine va_sld hx hb hXs hbl hbA hS (i := 1) (show ¬ ((1 : Int32) < 0 ∨ 6 ≤ (1 : Int32).toNatClampNeg) by decide) dL_law_621 ?_
  refine W.eq (g2 := F0 m 622 ls [.int (xs 1), .ref a1]) rfl ?_
  refine lv_aload_n hx hb dL_law_622 rfl (lv_at hl 5 rfl) ?_
  refine lv_iload hx hb dL_law_623 (lv_at hl 1 rfl) ?_
  refine lv_iconst (v := 2) hx hb dL_law_625 (by decide) ?_
  refine lv_iadd hx hb dL_law_626 ?_
  refine W.eq (g2 := F0 m 627 ls [.int 2, .ref b, .int (xs 1), .ref a1]) rfl ?_
  refine va_sld hx hb hXs hbl hbA hS (i := 2) (show ¬ ((2 : Int32) < 0 ∨ 6 ≤ (2 : Int32).toNatClampNeg) by decide) dL_law_627 ?_
  refine W.eq (g2 := F0 m 628 ls [.int (xs 2), .int (xs 1), .ref a1]) rfl ?_
  rw [hf]
  refine W.eq (g2 := F0 m 628 ls [.int 3, .int (xs 1), .ref a1]) rfl ?_
  refine lv_aload_n hx hb dL_law_628 rfl (lv_at hl 5 rfl) ?_
  refine lv_iload hx hb dL_law_629 (lv_at hl 1 rfl) ?_
  refine lv_iconst (v := 3) hx hb dL_law_631 (by decide) ?_
  refine lv_iadd hx hb dL_law_632 ?_
  refine W.eq (g2 := F0 m 633 ls [.int 3, .ref b, .int 3, .int (xs 1), .ref a1]) rfl ?_
  refine va_sld hx hb hXs hbl hbA hS (i := 3) (show ¬ ((3 : Int32) < 0 ∨ 6 ≤ (3 : Int32).toNatClampNeg) by decide) dL_law_633 ?_
  refine W.eq (g2 := F0 m 634 ls [.int (xs 3), .int 3, .int (xs 1), .ref a1]) rfl ?_
  obtain ⟨hPc, hDc, hFc⟩ := xcut (wc := [(a1, .inr (5, [v17, .ref a10, v18, v19, v20, v21, v22, v23, v24, v25, v26, v27, v28, v29, v30, v31, v32, v33, v34, v35, v36, v37, v38, v39, .ref a7, .ref a8, v40, v41, v42, v43, v44, v45])), (a7, .inl (cT 5, 8, .inr (.inr (.inr (.inr f55))))), (a8, .inl (cT 1, 8, .inl f57)), (a9, .inl (cT 0, 4096, .inl f59)), (a10, .inl (cT 4, 1024, .inr (.inr (.inr (.inr f64)))))]) hP hD hS hA [0, 2, 3, 4, 5] rfl rfl (by decide)
  refine va_callv (va_runV (C := "ValueBenchModel") (As := [.int (xs 1), .int 3, .int (xs 3)]) (rest := []) ⟨hx, hb, hml, hown, htx⟩ (cM_one0_11 l hl9 D cT aK aV H.size a1 a7 a8 a9 a10 (xs 1) (xs 3) v17 v18 v19 v20 v21 v22 v23 v24 v25 v26 v27 v28 v29 v30 v31 v32 v33 v34 v35 v36 v37 v38 v39 v40 v41 v42 v43 v44 v45 f55 f57 f59 f64 hto1 hto2 hto3 hto4 ha1 ha2 ha3 ha4 (by first | rfl | exact h51 | exact h54 | exact h56 | exact h58 | exact h60 | exact h61 | exact h62 | exact h63 | exact h65) (by first | rfl | exact h51 | exact h54 | exact h56 | exact h58 | exact h60 | exact h61 | exact h62 | exact h63 | exact h65) (by first | rfl | exact h51 | exact h54 | exact h56 | exact h58 | exact h60 | exact h61 | exact h62 | exact h63 | exact h65) (by first | rfl | exact h51 | exact h54 | exact h56 | exact h58 | exact h60 | exact h61 | exact h62 | exact h63 | exact h65) (by first | rfl | exact h51 | exact h54 | exact h56 | exact h58 | exact h60 | exact h61 | exact h62 | exact h63 | exact h65) (by first | rfl | exact h51 | exact h54 | exact h56 | exact h58 | exact h60 | exact h61 | exact h62 | exact h63 | exact h65) (by first | rfl | exact h51 | exact h54 | exact h56 | exact h58 | exact h60 | exact h61 | exact h62 | exact h63 | exact h65)) ⟨callB_of 3 htx (xw_goodC kw_7_123) rfl rfl rfl (htx _ kw_1_5) (htx _ kw_7_120) ⟨by decide, by decide, by decide +kernel⟩ ⟨Nat.le_of_ble_eq_true rfl, Nat.le_of_ble_eq_true rfl⟩, (htx _ kw_7_121), (htx _ kw_7_122)⟩ ⟨xPre_blind, va_recv hK hP (ci := 5) rfl (q0 := 0) rfl, (fun U hU hW => ⟨rfl, xPre_of hZ hS hFc hPc hDc hK U hU hW⟩)⟩ rfl rfl hl.1 rfl (lv_room (Nat.le_of_ble_eq_true rfl)) dL_law_634 ⟨Nat.le_of_ble_eq_true rfl, Nat.le_of_ble_eq_true rfl⟩) hS (fun q _ h => hFc q h) hFc (fun u9 t H1 locs ht hvm hr9 hB hz1 hk1 hS => ?_)
  obtain ⟨q2, hP1, hK1, hD1⟩ := hB
  rw [ht] at hP1
  obtain ⟨hP, hD⟩ := xjoin (W := [(a2, .inl (cT 2, 1, .inr (.inl f46))), (a0, .inr (0, [v11, v12, .ref b13, .ref a4, .ref b14, .ref a3, v15, .int 1])), (a3, .inr (2, [v47, .int 0, .int 0])), (a4, .inl (cT 3, 8, .inr (.inr (.inr (.inr f50))))), (a5, .inr (2, [.ref a6, .int 1, v52])), (a6, .inl (cT 2, 4096, .inr (.inl f53))), (a1, .inr (5, [.int 2, .ref a10, .int 1, v19, .int 0, v21, v22, .int 0, .int 1, .int 0, v26, v27, .int 0, v29, v30, .ref a9, .int 4, .int 4, .int 0, .int 100, v36, v37, .int 0, .int 1000000000, .ref a7, .ref a8, v40, v41, v42, v43, .int 1, v45])), (a7, .inl (cT 5, 8, .inr (.inr (.inr (.inr f55))))), (a8, .inl (cT 1, 8, .inl f57)), (a9, .inl (cT 0, 4096, .inl f59)), (a10, .inl (cT 4, 1024, .inr (.inr (.inr (.inr (va_up f64 0 (some q2))))))), (q2, .inr (6, [.int 0, .long 0, .int 0, .int 0, .int 0, .int 1]))]) hP hD [0, 2, 3, 4, 5] [1, 6, 7, 8, 9, 10] 6 rfl rfl (by decide) (by decide) hk1 hFc hP1 hD1
  generalize H1 = H at hP hS ⊢
  refine lv_aload_n hx hb dL_law_637 rfl (lv_at hl 3 rfl) ?_
  obtain ⟨hPc, hDc, hFc⟩ := xcut (wc := [(a1, .inr (5, [.int 2, .ref a10, .int 1, v19, .int 0, v21, v22, .int 0, .int 1, .int 0, v26, v27, .int 0, v29, v30, .ref a9, .int 4, .int 4, .int 0, .int 100, v36, v37, .int 0, .int 1000000000, .ref a7, .ref a8, v40, v41, v42, v43, .int 1, v45]))]) hP hD hS hA [6] rfl rfl (by decide)
  refine va_calli (va_runV (C := "ValueBenchModel") (As := []) (rest := []) ⟨hx, hb, hml, hown, htx⟩ (cM_thrown_2 l hl9 D cT aK aV H.size a1 (.ref a10) (.int 1) v19 (.int 0) v21 v22 (.int 0) (.int 1) (.int 0) v26 v27 (.int 0) v29 v30 (.ref a9) (.int 4) (.int 4) (.int 0) (.int 100) v36 v37 (.int 0) (.int 1000000000) (.ref a7) (.ref a8) v40 v41 v42 v43 (.int 1) v45) ⟨callB_of 0 htx (xw_goodC kw_5_187) rfl rfl rfl (htx _ kw_1_5) (htx _ kw_5_184) ⟨by decide, by decide, by decide +kernel⟩ ⟨Nat.le_of_ble_eq_true rfl, Nat.le_of_ble_eq_true rfl⟩, (htx _ kw_5_185), (htx _ kw_5_186)⟩ ⟨xPre_blind, va_recv hK hP (ci := 5) rfl (q0 := 6) rfl, (fun U hU hW => ⟨rfl, xPre_of hZ hS hFc hPc hDc hK U hU hW⟩)⟩ rfl rfl hl.1 rfl (lv_room (Nat.le_of_ble_eq_true rfl)) dL_law_638 ⟨Nat.le_of_ble_eq_true rfl, Nat.le_of_ble_eq_true rfl⟩) hS (fun q _ h => hFc q h) hFc (fun r3 u9 t H1 locs ht hvm hr9 hB hz1 hk1 hS => ?_)
  obtain ⟨hP1, hK1, hD1⟩ := hB
  rw [ht] at hP1
  obtain ⟨hP, hD⟩ := xjoin (W := [(a2, .inl (cT 2, 1, .inr (.inl f46))), (a0, .inr (0, [v11, v12, .ref b13, .ref a4, .ref b14, .ref a3, v15, .int 1])), (a3, .inr (2, [v47, .int 0, .int 0])), (a4, .inl (cT 3, 8, .inr (.inr (.inr (.inr f50))))), (a5, .inr (2, [.ref a6, .int 1, v52])), (a6, .inl (cT 2, 4096, .inr (.inl f53))), (a7, .inl (cT 5, 8, .inr (.inr (.inr (.inr f55))))), (a8, .inl (cT 1, 8, .inl f57)), (a9, .inl (cT 0, 4096, .inl f59)), (a10, .inl (cT 4, 1024, .inr (.inr (.inr (.inr (va_up f64 0 (some q2))))))), (q2, .inr (6, [.int 0, .long 0, .int 0, .int 0, .int 0, .int 1])), (a1, .inr (5, [.int 2, .ref a10, .int 1, v19, .int 0, v21, v22, .int 0, .int 1, .int 0, v26, v27, .int 0, v29, v30, .ref a9, .int 4, .int 4, .int 0, .int 100, v36, v37, .int 0, .int 1000000000, .ref a7, .ref a8, v40, v41, v42, v43, .int 1, v45]))]) hP hD [6] [0, 1, 2, 3, 4, 5, 7, 8, 9, 10, 11] 11 rfl rfl (by decide) (by decide) hk1 hFc hP1 hD1
  generalize H1 = H at hP hS ⊢
  rw [hr9]
  refine W.eq (g2 := F0 m 641 ls [.int 2]) rfl ?_
  refine lv_iload hx hb dL_law_641 (lv_at hl 0 rfl) ?_
  refine lv_icmp_eq (tgt := 648) hx hb dL_law_643 (by decide) (fun _ => ?_) (fun h => ((by revert h; decide : False)).elim)
  refine lv_goto (tgt := 906) hx hb dL_law_648 (by decide) ?_
  refine lv_iinc (v := 6) (lv' := [(4, .int 6), (5, .int 2), (3, .ref a2), (2, .ref a1), (1, .ref a0), (0, .ref b)]) hx hb dL_law_906 hl (k := 1) rfl (by decide) (by decide) rfl (fun ls hl => ?_)
  refine lv_goto (tgt := 23) hx hb dL_law_909 (by decide) ?_
  refine lv_iload hx hb dL_law_23 (lv_at hl 0 rfl) ?_
  refine lv_aload_n hx hb dL_law_25 rfl (lv_at hl 5 rfl) ?_
  refine va_slen hx hb hXs hbl hbA hS dL_law_26 ?_
  refine W.eq (g2 := F0 m 27 ls [.int 6, .int 6]) rfl ?_
  refine lv_bipush (v := 6) hx hb dL_law_27 (by decide) ?_
  refine lv_isub hx hb dL_law_29 ?_
  refine W.eq (g2 := F0 m 30 ls [.int 0, .int 6]) rfl ?_
  refine lv_icmp_gt (tgt := 912) hx hb dL_law_30 (by decide) (fun _ => ?_) (fun h => ((by revert h; decide : False)).elim)
  refine lv_iconst (v := 1) hx hb dL_law_912 (by decide) ?_
  exact va_forget (fun q h => hA2 _ (hS.2.2 q h)) (W.widen (k := 600002) (n := 7302232) (Nat.le_of_ble_eq_true rfl) (Nat.le_of_ble_eq_true rfl) (lw_ret hx hb hr hlocks dL_law_913))
set_option maxHeartbeats 400000000 in
set_option maxRecDepth 100000 in
theorem lf_one4_p2 {p : Program} {e : Env} {s : State} {m : MethodId} {below : List Frame} {meth : Method} {c : Code} (l : Launch) (hl9 : l.stackTraces = false) (D : va_G) (cT : Nat → ClassId) (aK aV : Nat → Nat) {A : Nat → Prop} {b : Nat} {xs : Nat → Int32} (C : xLw p s m meth c b D cT aK aV A) {H : Heap} {locs : List Loc} {ls : Array Slot} (a0 : Nat) (a1 : Nat) (a2 : Nat) (a3 : Nat) (a4 : Nat) (a5 : Nat) (a6 : Nat) (a7 : Nat) (a8 : Nat) (a9 : Nat) (a10 : Nat) (a11 : Nat) (a12 : Nat) (a13 : Nat) (a14 : Nat) (a15 : Nat) (v16 : Value) (v17 : Value) (b18 : Nat) (v19 : Value) (v20 : Value) (v21 : Value) (v22 : Value) (v23 : Value) (v24 : Value) (v25 : Value) (v26 : Value) (v27 : Value) (v28 : Value) (v29 : Value) (v30 : Value) (v31 : Value) (v32 : Value) (v33 : Value) (v34 : Value) (v35 : Value) (v36 : Value) (v37 : Value) (v38 : Value) (v39 : Value) (v40 : Value) (v41 : Value) (v42 : Value) (v43 : Value) (v44 : Value) (v45 : Value) (v46 : Value) (v47 : Value) (f48 : Nat → Int64) (v49 : Value) (v50 : Value) (f51 : Nat → Option Nat) (b53 : Nat) (v55 : Value) (f56 : Nat → Int64) (v58 : Value) (v59 : Value) (f60 : Nat → Int32) (f61 : Nat → Int64) (f62 : Nat → Option Nat) (f65 : Nat → Int32) (f67 : Nat → Int32) (f72 : Nat → Option Nat) (f75 : Nat → Int32) (f76 : Nat → Int32) (h52 : f51 (xs 3).toNatClampNeg = some a5) (h54 : f51 (xs 1).toNatClampNeg = some b53) (h57 : f56 0 = 0) (h63 : f62 (xs 3).toNatClampNeg = some a12) (h64 : f62 (xs 1).toNatClampNeg = some a12) (h66 : f65 (xs 3).toNatClampNeg = 4) (h68 : f67 0 = 110) (h69 : f67 1 = 117) (h70 : f67 2 = 108) (h71 : f67 3 = 108) (h73 : f72 0 = none) (h74 : f72 1 = none) (hto1 : ¬ (xs 1) < 0) (hto2 : ¬ 7 < (xs 1)) (hto3 : (xs 1) ≤ 7) (hto4 : vp_in (xs 1) 8) (hf : xs 2 = 4) (ha1 : ¬ (xs 3) < 0) (ha2 : ¬ 7 < (xs 3)) (ha3 : (xs 3) ≤ 7) (ha4 : vp_in (xs 3) 8) (hXs : va_X b 6 xs s s.heap) (hP : va_P D xcl [(a0, .inr (0, [v16, v17, .ref a7, .ref a4, .ref b18, .ref a3, v19, v20])), (a1, .inr (5, [v21, .ref a13, v22, .ref a15, v23, v24, v25, v26, v27, v28, v29, v30, v31, v32, v33, v34, v35, v36, v37, v38, v39, .ref a14, v40, v41, .ref a10, .ref a11, v42, v43, v44, v45, v46, v47])), (a2, .inl (cT 2, 1, .inr (.inl f48))), (a3, .inr (2, [.ref a9, v49, v50])), (a4, .inl (cT 3, 8, .inr (.inr (.inr (.inr f51))))), (a5, .inr (2, [.ref a6, .int 1, v55])), (a6, .inl (cT 2, 4096, .inr (.inl f56))), (a7, .inr (1, [.ref a8, v58, v59])), (a8, .inl (cT 0, 4096, .inl f60)), (a9, .inl (cT 2, 4096, .inr (.inl f61))), (a10, .inl (cT 5, 8, .inr (.inr (.inr (.inr f62))))), (a11, .inl (cT 1, 8, .inl f65)), (a12, .inl (cT 0, 4096, .inl f67)), (a13, .inl (cT 4, 1024, .inr (.inr (.inr (.inr f72))))), (a14, .inl (cT 0, 1024, .inl f75)), (a15, .inl (cT 0, 4096, .inl f76))] H) (hD : va_D A [(a0, .inr (0, [v16, v17, .ref a7, .ref a4, .ref b18, .ref a3, v19, v20])), (a1, .inr (5, [v21, .ref a13, v22, .ref a15, v23, v24, v25, v26, v27, v28, v29, v30, v31, v32, v33, v34, v35, v36, v37, v38, v39, .ref a14, v40, v41, .ref a10, .ref a11, v42, v43, v44, v45, v46, v47])), (a2, .inl (cT 2, 1, .inr (.inl f48))), (a3, .inr (2, [.ref a9, v49, v50])), (a4, .inl (cT 3, 8, .inr (.inr (.inr (.inr f51))))), (a5, .inr (2, [.ref a6, .int 1, v55])), (a6, .inl (cT 2, 4096, .inr (.inl f56))), (a7, .inr (1, [.ref a8, v58, v59])), (a8, .inl (cT 0, 4096, .inl f60)), (a9, .inl (cT 2, 4096, .inr (.inl f61))), (a10, .inl (cT 5, 8, .inr (.inr (.inr (.inr f62))))), (a11, .inl (cT 1, 8, .inl f65)), (a12, .inl (cT 0, 4096, .inl f67)), (a13, .inl (cT 4, 1024, .inr (.inr (.inr (.inr f72))))), (a14, .inl (cT 0, 1024, .inl f75)), (a15, .inl (cT 0, 4096, .inl f76))]) (hS : va_S A s.heap H locs) (hl : lv_has ls 8 [(4, .int 0), (3, .ref a2), (2, .ref a1), (1, .ref a0), (0, .ref b)]) : W p l e room_1 s m #[Value.ref b] below meth c H locs 54 107242 (lw_Z below #[Value.ref b] s) (F0 m 591 ls []) := by
  obtain ⟨hx, hb, hr, hml, hown, htx, hbl, hbA, hlocks, hK, hZ, hA, hA2⟩ := C
  refine lv_aload_n hx hb dL_law_591 rfl (lv_at hl 3 rfl) ?_
  refine lv_aload_n hx hb dL_law_592 rfl (lv_at hl 4 rfl) ?_
  refine lv_iload hx hb dL_law_593 (lv_at hl 0 rfl) ?_
  refine lv_iconst (v := 1) hx hb dL_law_595 (by decide) ?_
  refine lv_iadd hx hb dL_law_596 ?_
  refine W.eq (g2 := F0 m 597 ls [.int 1, .ref b, .ref a0]) rfl ?_
  refine va_sld hx hb hXs hbl hbA hS (i := 1) (show ¬ ((1 : Int32) < 0 ∨ 6 ≤ (1 : Int32).toNatClampNeg) by decide) dL_law_597 ?_
  refine W.eq (g2 := F0 m 598 ls [.int (xs 1), .ref a0]) rfl ?_
  refine lv_aload_n hx hb dL_law_598 rfl (lv_at hl 4 rfl) ?_
  refine lv_iload hx hb dL_law_599 (lv_at hl 0 rfl) ?_
  refine lv_iconst (v := 2) hx hb dL_law_601 (by decide) ?_
  refine lv_iadd hx hb dL_law_602 ?_
  refine W.eq (g2 := F0 m 603 ls [.int 2, .ref b, .int (xs 1), .ref a0]) rfl ?_
  refine va_sld hx hb hXs hbl hbA hS (i := 2) (show ¬ ((2 : Int32) < 0 ∨ 6 ≤ (2 : Int32).toNatClampNeg) by decide) dL_law_603 ?_
  refine W.eq (g2 := F0 m 604 ls [.int (xs 2), .int (xs 1), .ref a0]) rfl ?_
  rw [hf]
  refine W.eq (g2 := F0 m 604 ls [.int 4, .int (xs 1), .ref a0]) rfl ?_
  refine lv_aload_n hx hb dL_law_604 rfl (lv_at hl 4 rfl) ?_
  refine lv_iload hx hb dL_law_605 (lv_at hl 0 rfl) ?_
  refine lv_iconst (v := 3) hx hb dL_law_607 (by decide) ?_
  refine lv_iadd hx hb dL_law_608 ?_
  refine W.eq (g2 := F0 m 609 ls [.int 3, .ref b, .int 4, .int (xs 1), .ref a0]) rfl ?_
  refine va_sld hx hb hXs hbl hbA hS (i := 3) (show ¬ ((3 : Int32) < 0 ∨ 6 ≤ (3 : Int32).toNatClampNeg) by decide) dL_law_609 ?_
  refine W.eq (g2 := F0 m 610 ls [.int (xs 3), .int 4, .int (xs 1), .ref a0]) rfl ?_
  obtain ⟨hPc, hDc, hFc⟩ := xcut (wc := [(a0, .inr (0, [v16, v17, .ref a7, .ref a4, .ref b18, .ref a3, v19, v20])), (a3, .inr (2, [.ref a9, v49, v50])), (a4, .inl (cT 3, 8, .inr (.inr (.inr (.inr f51))))), (a5, .inr (2, [.ref a6, .int 1, v55])), (a6, .inl (cT 2, 4096, .inr (.inl f56))), (a7, .inr (1, [.ref a8, v58, v59])), (a8, .inl (cT 0, 4096, .inl f60)), (a9, .inl (cT 2, 4096, .inr (.inl f61)))]) hP hD hS hA [0, 3, 4, 5, 6, 7, 8, 9] rfl rfl (by decide)
  refine va_calli (vx_runSW (As := [.ref a0, .int (xs 1), .int 4, .int (xs 3)]) (rest := []) ⟨hx, hb, hml, hown, htx⟩ (cL_one_10 l hl9 D cT aK aV H.size a0 a3 a4 a5 a6 a7 a8 a9 (xs 1) (xs 3) v16 v17 b18 v19 v20 v49 v50 f51 b53 v55 f56 v58 v59 f60 f61 hto1 hto2 hto3 hto4 ha1 ha2 ha3 ha4 (by first | rfl | exact h52 | exact h54 | exact h57 | exact h63 | exact h64 | exact h66 | exact h68 | exact h69 | exact h70 | exact h71 | exact h73 | exact h74) (by first | rfl | exact h52 | exact h54 | exact h57 | exact h63 | exact h64 | exact h66 | exact h68 | exact h69 | exact h70 | exact h71 | exact h73 | exact h74) (by first | rfl | exact h52 | exact h54 | exact h57 | exact h63 | exact h64 | exact h66 | exact h68 | exact h69 | exact h70 | exact h71 | exact h73 | exact h74)) (xcSW 4 htx (xw_goodC kw_4_21) rfl rfl rfl (htx _ kw_1_0) (htx _ kw_4_19) ⟨by decide, by decide, by decide +kernel⟩ ⟨Nat.le_of_ble_eq_true rfl, Nat.le_of_ble_eq_true rfl⟩ (htx _ kw_4_20)) ⟨xPre_blind, (fun U hU hW => ⟨rfl, xPre_of hZ hS hFc hPc hDc hK U hU hW⟩)⟩ rfl rfl hl.1 rfl (lv_room (Nat.le_of_ble_eq_true rfl)) dL_law_610 ⟨Nat.le_of_ble_eq_true rfl, Nat.le_of_ble_eq_true rfl⟩) hS (fun q _ h => hFc q h) hFc (fun r1 u9 t H1 locs ht hvm hr9 hB hz1 hk1 hS => ?_)
  obtain ⟨y2, y3, y4, y5, y6, y7, hP1, hK1, hD1⟩ := hB
  rw [ht] at hP1
  obtain ⟨hP, hD⟩ := xjoin (W := [(a1, .inr (5, [v21, .ref a13, v22, .ref a15, v23, v24, v25, v26, v27, v28, v29, v30, v31, v32, v33, v34, v35, v36, v37, v38, v39, .ref a14, v40, v41, .ref a10, .ref a11, v42, v43, v44, v45, v46, v47])), (a2, .inl (cT 2, 1, .inr (.inl f48))), (a10, .inl (cT 5, 8, .inr (.inr (.inr (.inr f62))))), (a11, .inl (cT 1, 8, .inl f65)), (a12, .inl (cT 0, 4096, .inl f67)), (a13, .inl (cT 4, 1024, .inr (.inr (.inr (.inr f72))))), (a14, .inl (cT 0, 1024, .inl f75)), (a15, .inl (cT 0, 4096, .inl f76)), (a0, .inr (0, [v16, v17, .ref a7, .ref a4, .ref b18, .ref b53, v19, v20])), (a3, .inr (2, [.ref a9, .int 5, .int 0])), (a4, .inl (cT 3, 8, .inr (.inr (.inr (.inr (va_up f51 (xs 1).toNatClampNeg (some a3))))))), (a5, .inr (2, [.ref a6, .int 1, v55])), (a6, .inl (cT 2, 4096, .inr (.inl f56))), (a7, .inr (1, [.ref a8, .int 6, .int 0])), (a8, .inl (cT 0, 4096, .inl (upd (upd (upd (upd (upd (upd (upd (upd (upd (upd f60 0 110) 1 117) 2 108) 3 108) 0 (vp_nar .byte y2)) 1 (vp_nar .byte y3)) 2 (vp_nar .byte y4)) 3 (vp_nar .byte y5)) 4 (vp_nar .byte y6)) 5 (vp_nar .byte y7)))), (a9, .inl (cT 2, 4096, .inr (.inl (vp_updL (vp_updL (vp_updL (vp_updL (vp_updL (vp_updL f61 0 0) 1 110) 2 117) 3 108) 4 108) 0 2621476))))]) hP hD [0, 3, 4, 5, 6, 7, 8, 9] [1, 2, 10, 11, 12, 13, 14, 15] 8 rfl rfl (by decide) (by decide) hk1 hFc hP1 hD1
  generalize H1 = H at hP hS ⊢
  rw [hr9]
  refine W.eq (g2 := F0 m 613 ls [.int 0]) rfl ?_
  refine lv_istore (lv' := [(5, .int 0), (4, .int 0), (3, .ref a2), (2, .ref a1), (1, .ref a0), (0, .ref b)]) hx hb dL_law_613 hl (by decide) rfl (fun ls hl => ?_)
  refine lv_aload_n hx hb dL_law_615 rfl (lv_at hl 3 rfl) ?_
  refine lv_aload_n hx hb dL_law_616 rfl (lv_at hl 5 rfl) ?_
  refine lv_iload hx hb dL_law_617 (lv_at hl 1 rfl) ?_
  refine lv_iconst (v := 1) hx hb dL_law_619 (by decide) ?_
  refine lv_iadd hx hb dL_law_620 ?_
  refine W.eq (g2 := F0 m 621 ls [.int 1, .ref b, .ref a1]) rfl ?_
  refine va_sld hx hb hXs hbl hbA hS (i := 1) (show ¬ ((1 : Int32) < 0 ∨ 6 ≤ (1 : Int32).toNatClampNeg) by decide) dL_law_621 ?_
  refine W.eq (g2 := F0 m 622 ls [.int (xs 1), .ref a1]) rfl ?_
  refine lv_aload_n hx hb dL_law_622 rfl (lv_at hl 5 rfl) ?_
  refine lv_iload hx hb dL_law_623 (lv_at hl 1 rfl) ?_
  refine lv_iconst (v := 2) hx hb dL_law_625 (by decide) ?_
  refine lv_iadd hx hb dL_law_626 ?_
  refine W.eq (g2 := F0 m 627 ls [.int 2, .ref b, .int (xs 1), .ref a1]) rfl ?_
  refine va_sld hx hb hXs hbl hbA hS (i := 2) (show ¬ ((2 : Int32) < 0 ∨ 6 ≤ (2 : Int32).toNatClampNeg) by decide) dL_law_627 ?_
  refine W.eq (g2 := F0 m 628 ls [.int (xs 2), .int (xs 1), .ref a1]) rfl ?_
  rw [hf]
  refine W.eq (g2 := F0 m 628 ls [.int 4, .int (xs 1), .ref a1]) rfl ?_
  refine lv_aload_n hx hb dL_law_628 rfl (lv_at hl 5 rfl) ?_
  refine lv_iload hx hb dL_law_629 (lv_at hl 1 rfl) ?_
  refine lv_iconst (v := 3) hx hb dL_law_631 (by decide) ?_
  refine lv_iadd hx hb dL_law_632 ?_
  refine W.eq (g2 := F0 m 633 ls [.int 3, .ref b, .int 4, .int (xs 1), .ref a1]) rfl ?_
  refine va_sld hx hb hXs hbl hbA hS (i := 3) (show ¬ ((3 : Int32) < 0 ∨ 6 ≤ (3 : Int32).toNatClampNeg) by decide) dL_law_633 ?_
  refine W.eq (g2 := F0 m 634 ls [.int (xs 3), .int 4, .int (xs 1), .ref a1]) rfl ?_
  obtain ⟨hPc, hDc, hFc⟩ := xcut (wc := [(a1, .inr (5, [v21, .ref a13, v22, .ref a15, v23, v24, v25, v26, v27, v28, v29, v30, v31, v32, v33, v34, v35, v36, v37, v38, v39, .ref a14, v40, v41, .ref a10, .ref a11, v42, v43, v44, v45, v46, v47])), (a10, .inl (cT 5, 8, .inr (.inr (.inr (.inr f62))))), (a11, .inl (cT 1, 8, .inl f65)), (a12, .inl (cT 0, 4096, .inl f67)), (a13, .inl (cT 4, 1024, .inr (.inr (.inr (.inr f72))))), (a14, .inl (cT 0, 1024, .inl f75)), (a15, .inl (cT 0, 4096, .inl f76))]) hP hD hS hA [0, 2, 3, 4, 5, 6, 7] rfl rfl (by decide)
  refine va_callv (va_runV (C := "ValueBenchModel") (As := [.int (xs 1), .int 4, .int (xs 3)]) (rest := []) ⟨hx, hb, hml, hown, htx⟩ (cM_one0_12 l hl9 D cT aK aV H.size a1 a10 a11 a12 a13 a14 a15 (xs 1) (xs 3) v21 v22 v23 v24 v25 v26 v27 v28 v29 v30 v31 v32 v33 v34 v35 v36 v37 v38 v39 v40 v41 v42 v43 v44 v45 v46 v47 f62 f65 f67 f72 f75 f76 hto1 hto2 hto3 hto4 ha1 ha2 ha3 ha4 (by first | rfl | exact h52 | exact h57 | exact h63 | exact h64 | exact h66 | exact h68 | exact h69 | exact h70 | exact h71 | exact h73 | exact h74) (by first | rfl | exact h52 | exact h57 | exact h63 | exact h64 | exact h66 | exact h68 | exact h69 | exact h70 | exact h71 | exact h73 | exact h74) (by first | rfl | exact h52 | exact h57 | exact h63 | exact h64 | exact h66 | exact h68 | exact h69 | exact h70 | exact h71 | exact h73 | exact h74) (by first | rfl | exact h52 | exact h57 | exact h63 | exact h64 | exact h66 | exact h68 | exact h69 | exact h70 | exact h71 | exact h73 | exact h74) (by first | rfl | exact h52 | exact h57 | exact h63 | exact h64 | exact h66 | exact h68 | exact h69 | exact h70 | exact h71 | exact h73 | exact h74) (by first | rfl | exact h52 | exact h57 | exact h63 | exact h64 | exact h66 | exact h68 | exact h69 | exact h70 | exact h71 | exact h73 | exact h74) (by first | rfl | exact h52 | exact h57 | exact h63 | exact h64 | exact h66 | exact h68 | exact h69 | exact h70 | exact h71 | exact h73 | exact h74) (by first | rfl | exact h52 | exact h57 | exact h63 | exact h64 | exact h66 | exact h68 | exact h69 | exact h70 | exact h71 | exact h73 | exact h74) (by first | rfl | exact h52 | exact h57 | exact h63 | exact h64 | exact h66 | exact h68 | exact h69 | exact h70 | exact h71 | exact h73 | exact h74)) ⟨callB_of 3 htx (xw_goodC kw_7_123) rfl rfl rfl (htx _ kw_1_5) (htx _ kw_7_120) ⟨by decide, by decide, by decide +kernel⟩ ⟨Nat.le_of_ble_eq_true rfl, Nat.le_of_ble_eq_true rfl⟩, (htx _ kw_7_121), (htx _ kw_7_122)⟩ ⟨xPre_blind, va_recv hK hP (ci := 5) rfl (q0 := 0) rfl, (fun U hU hW => ⟨rfl, xPre_of hZ hS hFc hPc hDc hK U hU hW⟩)⟩ rfl rfl hl.1 rfl (lv_room (Nat.le_of_ble_eq_true rfl)) dL_law_634 ⟨Nat.le_of_ble_eq_true rfl, Nat.le_of_ble_eq_true rfl⟩) hS (fun q _ h => hFc q h) hFc (fun u9 t H1 locs ht hvm hr9 hB hz1 hk1 hS => ?_)
  obtain ⟨q8, q9, y10, y11, y12, y13, y14, y15, hP1, hK1, hD1⟩ := hB
  rw [ht] at hP1
  obtain ⟨hP, hD⟩ := xjoin (W := [(a2, .inl (cT 2, 1, .inr (.inl f48))), (a0, .inr (0, [v16, v17, .ref a7, .ref a4, .ref b18, .ref b53, v19, v20])), (a3, .inr (2, [.ref a9, .int 5, .int 0])), (a4, .inl (cT 3, 8, .inr (.inr (.inr (.inr (va_up f51 (xs 1).toNatClampNeg (some a3))))))), (a5, .inr (2, [.ref a6, .int 1, v55])), (a6, .inl (cT 2, 4096, .inr (.inl f56))), (a7, .inr (1, [.ref a8, .int 6, .int 0])), (a8, .inl (cT 0, 4096, .inl (upd (upd (upd (upd (upd (upd (upd (upd (upd (upd f60 0 110) 1 117) 2 108) 3 108) 0 (vp_nar .byte y2)) 1 (vp_nar .byte y3)) 2 (vp_nar .byte y4)) 3 (vp_nar .byte y5)) 4 (vp_nar .byte y6)) 5 (vp_nar .byte y7)))), (a9, .inl (cT 2, 4096, .inr (.inl (vp_updL (vp_updL (vp_updL (vp_updL (vp_updL (vp_updL f61 0 0) 1 110) 2 117) 3 108) 4 108) 0 2621476)))), (a1, .inr (5, [.int 0, .ref a13, .int 2, .ref a15, .int 4, v24, v25, .int 0, v27, .int 0, v29, v30, .int 0, v32, v33, .ref a12, .int 4, .int 4, .int 0, .int 100, v39, .ref a14, .int 6, .int 4096, .ref a10, .ref a11, v42, v43, v44, v45, v46, v47])), (a10, .inl (cT 5, 8, .inr (.inr (.inr (.inr f62))))), (a11, .inl (cT 1, 8, .inl (upd f65 (xs 1).toNatClampNeg 6))), (a12, .inl (cT 0, 4096, .inl (upd (upd (upd (upd (upd (upd f67 0 (vp_nar .byte (vp_nar .byte y10))) 1 (vp_nar .byte (vp_nar .byte y11))) 2 (vp_nar .byte (vp_nar .byte y12))) 3 (vp_nar .byte (vp_nar .byte y13))) 4 (vp_nar .byte (vp_nar .byte y14))) 5 (vp_nar .byte (vp_nar .byte y15))))), (a13, .inl (cT 4, 1024, .inr (.inr (.inr (.inr (va_up (va_up f72 0 (some q8)) 1 (some q9))))))), (a14, .inl (cT 0, 1024, .inl (upd (upd (upd (upd (upd (upd (upd (upd (upd (upd f75 0 110) 1 117) 2 108) 3 108) 0 (vp_nar .byte y10)) 1 (vp_nar .byte y11)) 2 (vp_nar .byte y12)) 3 (vp_nar .byte y13)) 4 (vp_nar .byte y14)) 5 (vp_nar .byte y15)))), (a15, .inl (cT 0, 4096, .inl (upd (upd (upd (upd f76 0 110) 1 117) 2 108) 3 108))), (q8, .inr (6, [.int 0, .long 0, .int 0, .int 0, .int 0, .int 1])), (q9, .inr (6, [.int 4, .long 0, .int 0, .int 4, .int 0, .int 5]))]) hP hD [0, 2, 3, 4, 5, 6, 7] [1, 8, 9, 10, 11, 12, 13, 14, 15] 9 rfl rfl (by decide) (by decide) hk1 hFc hP1 hD1
  generalize H1 = H at hP hS ⊢
  refine lv_aload_n hx hb dL_law_637 rfl (lv_at hl 3 rfl) ?_
  obtain ⟨hPc, hDc, hFc⟩ := xcut (wc := [(a1, .inr (5, [.int 0, .ref a13, .int 2, .ref a15, .int 4, v24, v25, .int 0, v27, .int 0, v29, v30, .int 0, v32, v33, .ref a12, .int 4, .int 4, .int 0, .int 100, v39, .ref a14, .int 6, .int 4096, .ref a10, .ref a11, v42, v43, v44, v45, v46, v47]))]) hP hD hS hA [9] rfl rfl (by decide)
  refine va_calli (va_runV (C := "ValueBenchModel") (As := []) (rest := []) ⟨hx, hb, hml, hown, htx⟩ (cM_thrown_0 l hl9 D cT aK aV H.size a1 (.ref a13) (.int 2) (.ref a15) (.int 4) v24 v25 (.int 0) v27 (.int 0) v29 v30 (.int 0) v32 v33 (.ref a12) (.int 4) (.int 4) (.int 0) (.int 100) v39 (.ref a14) (.int 6) (.int 4096) (.ref a10) (.ref a11) v42 v43 v44 v45 v46 v47) ⟨callB_of 0 htx (xw_goodC kw_5_187) rfl rfl rfl (htx _ kw_1_5) (htx _ kw_5_184) ⟨by decide, by decide, by decide +kernel⟩ ⟨Nat.le_of_ble_eq_true rfl, Nat.le_of_ble_eq_true rfl⟩, (htx _ kw_5_185), (htx _ kw_5_186)⟩ ⟨xPre_blind, va_recv hK hP (ci := 5) rfl (q0 := 9) rfl, (fun U hU hW => ⟨rfl, xPre_of hZ hS hFc hPc hDc hK U hU hW⟩)⟩ rfl rfl hl.1 rfl (lv_room (Nat.le_of_ble_eq_true rfl)) dL_law_638 ⟨Nat.le_of_ble_eq_true rfl, Nat.le_of_ble_eq_true rfl⟩) hS (fun q _ h => hFc q h) hFc (fun r16 u9 t H1 locs ht hvm hr9 hB hz1 hk1 hS => ?_)
  obtain ⟨hP1, hK1, hD1⟩ := hB
  rw [ht] at hP1
  obtain ⟨hP, hD⟩ := xjoin (W := [(a2, .inl (cT 2, 1, .inr (.inl f48))), (a0, .inr (0, [v16, v17, .ref a7, .ref a4, .ref b18, .ref b53, v19, v20])), (a3, .inr (2, [.ref a9, .int 5, .int 0])), (a4, .inl (cT 3, 8, .inr (.inr (.inr (.inr (va_up f51 (xs 1).toNatClampNeg (some a3))))))), (a5, .inr (2, [.ref a6, .int 1, v55])), (a6, .inl (cT 2, 4096, .inr (.inl f56))), (a7, .inr (1, [.ref a8, .int 6, .int 0])), (a8, .inl (cT 0, 4096, .inl (upd (upd (upd (upd (upd (upd (upd (upd (upd (upd f60 0 110) 1 117) 2 108) 3 108) 0 (vp_nar .byte y2)) 1 (vp_nar .byte y3)) 2 (vp_nar .byte y4)) 3 (vp_nar .byte y5)) 4 (vp_nar .byte y6)) 5 (vp_nar .byte y7)))), (a9, .inl (cT 2, 4096, .inr (.inl (vp_updL (vp_updL (vp_updL (vp_updL (vp_updL (vp_updL f61 0 0) 1 110) 2 117) 3 108) 4 108) 0 2621476)))), (a10, .inl (cT 5, 8, .inr (.inr (.inr (.inr f62))))), (a11, .inl (cT 1, 8, .inl (upd f65 (xs 1).toNatClampNeg 6))), (a12, .inl (cT 0, 4096, .inl (upd (upd (upd (upd (upd (upd f67 0 (vp_nar .byte (vp_nar .byte y10))) 1 (vp_nar .byte (vp_nar .byte y11))) 2 (vp_nar .byte (vp_nar .byte y12))) 3 (vp_nar .byte (vp_nar .byte y13))) 4 (vp_nar .byte (vp_nar .byte y14))) 5 (vp_nar .byte (vp_nar .byte y15))))), (a13, .inl (cT 4, 1024, .inr (.inr (.inr (.inr (va_up (va_up f72 0 (some q8)) 1 (some q9))))))), (a14, .inl (cT 0, 1024, .inl (upd (upd (upd (upd (upd (upd (upd (upd (upd (upd f75 0 110) 1 117) 2 108) 3 108) 0 (vp_nar .byte y10)) 1 (vp_nar .byte y11)) 2 (vp_nar .byte y12)) 3 (vp_nar .byte y13)) 4 (vp_nar .byte y14)) 5 (vp_nar .byte y15)))), (a15, .inl (cT 0, 4096, .inl (upd (upd (upd (upd f76 0 110) 1 117) 2 108) 3 108))), (q8, .inr (6, [.int 0, .long 0, .int 0, .int 0, .int 0, .int 1])), (q9, .inr (6, [.int 4, .long 0, .int 0, .int 4, .int 0, .int 5])), (a1, .inr (5, [.int 0, .ref a13, .int 2, .ref a15, .int 4, v24, v25, .int 0, v27, .int 0, v29, v30, .int 0, v32, v33, .ref a12, .int 4, .int 4, .int 0, .int 100, v39, .ref a14, .int 6, .int 4096, .ref a10, .ref a11, v42, v43, v44, v45, v46, v47]))]) hP hD [9] [0, 1, 2, 3, 4, 5, 6, 7, 8, 10, 11, 12, 13, 14, 15, 16, 17] 17 rfl rfl (by decide) (by decide) hk1 hFc hP1 hD1
  generalize H1 = H at hP hS ⊢
  rw [hr9]
  refine W.eq (g2 := F0 m 641 ls [.int 0]) rfl ?_
  refine lv_iload hx hb dL_law_641 (lv_at hl 0 rfl) ?_
  refine lv_icmp_eq (tgt := 648) hx hb dL_law_643 (by decide) (fun _ => ?_) (fun h => ((by revert h; decide : False)).elim)
  refine lv_goto (tgt := 906) hx hb dL_law_648 (by decide) ?_
  refine lv_iinc (v := 6) (lv' := [(4, .int 6), (5, .int 0), (3, .ref a2), (2, .ref a1), (1, .ref a0), (0, .ref b)]) hx hb dL_law_906 hl (k := 1) rfl (by decide) (by decide) rfl (fun ls hl => ?_)
  refine lv_goto (tgt := 23) hx hb dL_law_909 (by decide) ?_
  refine lv_iload hx hb dL_law_23 (lv_at hl 0 rfl) ?_
  refine lv_aload_n hx hb dL_law_25 rfl (lv_at hl 5 rfl) ?_
  refine va_slen hx hb hXs hbl hbA hS dL_law_26 ?_
  refine W.eq (g2 := F0 m 27 ls [.int 6, .int 6]) rfl ?_
  refine lv_bipush (v := 6) hx hb dL_law_27 (by decide) ?_
  refine lv_isub hx hb dL_law_29 ?_
  refine W.eq (g2 := F0 m 30 ls [.int 0, .int 6]) rfl ?_
  refine lv_icmp_gt (tgt := 912) hx hb dL_law_30 (by decide) (fun _ => ?_) (fun h => ((by revert h; decide : False)).elim)
  refine lv_iconst (v := 1) hx hb dL_law_912 (by decide) ?_
  exact va_forget (fun q h => hA2 _ (hS.2.2 q h)) (W.widen (k := 600002) (n := 7302232) (Nat.le_of_ble_eq_true rfl) (Nat.le_of_ble_eq_true rfl) (lw_ret hx hb hr hlocks dL_law_913))
set_option maxHeartbeats 400000000 in
set_option maxRecDepth 100000 in
theorem lf_one4_p0 {p : Program} {e : Env} {s : State} {m : MethodId} {below : List Frame} {meth : Method} {c : Code} (l : Launch) (hl9 : l.stackTraces = false) (D : va_G) (cT : Nat → ClassId) (aK aV : Nat → Nat) {A : Nat → Prop} {b : Nat} {xs : Nat → Int32} (C : xLw p s m meth c b D cT aK aV A) {H : Heap} {locs : List Loc} {ls : Array Slot} (a0 : Nat) (a1 : Nat) (a2 : Nat) (a3 : Nat) (a4 : Nat) (a5 : Nat) (a6 : Nat) (a7 : Nat) (a8 : Nat) (a9 : Nat) (a10 : Nat) (a11 : Nat) (a12 : Nat) (a13 : Nat) (a14 : Nat) (a15 : Nat) (a16 : Nat) (v17 : Value) (v18 : Value) (b19 : Nat) (v20 : Value) (v21 : Value) (v22 : Value) (v23 : Value) (v24 : Value) (v25 : Value) (v26 : Value) (v27 : Value) (v28 : Value) (v29 : Value) (v30 : Value) (v31 : Value) (v32 : Value) (v33 : Value) (v34 : Value) (v35 : Value) (v36 : Value) (v37 : Value) (v38 : Value) (v39 : Value) (v40 : Value) (v41 : Value) (v42 : Value) (v43 : Value) (v44 : Value) (v45 : Value) (v46 : Value) (v47 : Value) (v48 : Value) (f49 : Nat → Int64) (v50 : Value) (v51 : Value) (f52 : Nat → Option Nat) (b54 : Nat) (v56 : Value) (f57 : Nat → Int64) (v59 : Value) (v60 : Value) (f61 : Nat → Int32) (f62 : Nat → Int64) (f63 : Nat → Option Nat) (f66 : Nat → Int32) (f68 : Nat → Int32) (f73 : Nat → Option Nat) (f76 : Nat → Int32) (f77 : Nat → Int32) (f78 : Nat → Int32) (h53 : f52 (xs 3).toNatClampNeg = some a5) (h55 : f52 (xs 1).toNatClampNeg = some b54) (h58 : f57 0 = 0) (h64 : f63 (xs 3).toNatClampNeg = some a12) (h65 : f63 (xs 1).toNatClampNeg = some a16) (h67 : f66 (xs 3).toNatClampNeg = 4) (h69 : f68 0 = 110) (h70 : f68 1 = 117) (h71 : f68 2 = 108) (h72 : f68 3 = 108) (h74 : f73 0 = none) (h75 : f73 1 = none) (hto1 : ¬ (xs 1) < 0) (hto2 : ¬ 7 < (xs 1)) (hto3 : (xs 1) ≤ 7) (hto4 : vp_in (xs 1) 8) (hf : xs 2 = 4) (ha1 : ¬ (xs 3) < 0) (ha2 : ¬ 7 < (xs 3)) (ha3 : (xs 3) ≤ 7) (ha4 : vp_in (xs 3) 8) (hXs : va_X b 6 xs s s.heap) (hP : va_P D xcl [(a0, .inr (0, [v17, v18, .ref a7, .ref a4, .ref b19, .ref a3, v20, v21])), (a1, .inr (5, [v22, .ref a13, v23, .ref a15, v24, v25, v26, v27, v28, v29, v30, v31, v32, v33, v34, v35, v36, v37, v38, v39, v40, .ref a14, v41, v42, .ref a10, .ref a11, v43, v44, v45, v46, v47, v48])), (a2, .inl (cT 2, 1, .inr (.inl f49))), (a3, .inr (2, [.ref a9, v50, v51])), (a4, .inl (cT 3, 8, .inr (.inr (.inr (.inr f52))))), (a5, .inr (2, [.ref a6, .int 1, v56])), (a6, .inl (cT 2, 4096, .inr (.inl f57))), (a7, .inr (1, [.ref a8, v59, v60])), (a8, .inl (cT 0, 4096, .inl f61)), (a9, .inl (cT 2, 4096, .inr (.inl f62))), (a10, .inl (cT 5, 8, .inr (.inr (.inr (.inr f63))))), (a11, .inl (cT 1, 8, .inl f66)), (a12, .inl (cT 0, 4096, .inl f68)), (a13, .inl (cT 4, 1024, .inr (.inr (.inr (.inr f73))))), (a14, .inl (cT 0, 1024, .inl f76)), (a15, .inl (cT 0, 4096, .inl f77)), (a16, .inl (cT 0, 4096, .inl f78))] H) (hD : va_D A [(a0, .inr (0, [v17, v18, .ref a7, .ref a4, .ref b19, .ref a3, v20, v21])), (a1, .inr (5, [v22, .ref a13, v23, .ref a15, v24, v25, v26, v27, v28, v29, v30, v31, v32, v33, v34, v35, v36, v37, v38, v39, v40, .ref a14, v41, v42, .ref a10, .ref a11, v43, v44, v45, v46, v47, v48])), (a2, .inl (cT 2, 1, .inr (.inl f49))), (a3, .inr (2, [.ref a9, v50, v51])), (a4, .inl (cT 3, 8, .inr (.inr (.inr (.inr f52))))), (a5, .inr (2, [.ref a6, .int 1, v56])), (a6, .inl (cT 2, 4096, .inr (.inl f57))), (a7, .inr (1, [.ref a8, v59, v60])), (a8, .inl (cT 0, 4096, .inl f61)), (a9, .inl (cT 2, 4096, .inr (.inl f62))), (a10, .inl (cT 5, 8, .inr (.inr (.inr (.inr f63))))), (a11, .inl (cT 1, 8, .inl f66)), (a12, .inl (cT 0, 4096, .inl f68)), (a13, .inl (cT 4, 1024, .inr (.inr (.inr (.inr f73))))), (a14, .inl (cT 0, 1024, .inl f76)), (a15, .inl (cT 0, 4096, .inl f77)), (a16, .inl (cT 0, 4096, .inl f78))]) (hS : va_S A s.heap H locs) (hl : lv_has ls 8 [(4, .int 0), (3, .ref a2), (2, .ref a1), (1, .ref a0), (0, .ref b)]) : W p l e room_1 s m #[Value.ref b] below meth c H locs 54 107242 (lw_Z below #[Value.ref b] s) (F0 m 591 ls []) := by
  obtain ⟨hx, hb, hr, hml, hown, htx, hbl, hbA, hlocks, hK, hZ, hA, hA2⟩ := C
  refine lv_aload_n hx hb dL_law_591 rfl (lv_at hl 3 rfl) ?_
  refine lv_aload_n hx hb dL_law_592 rfl (lv_at hl 4 rfl) ?_
  refine lv_iload hx hb dL_law_593 (lv_at hl 0 rfl) ?_
  refine lv_iconst (v := 1) hx hb dL_law_595 (by decide) ?_
  refine lv_iadd hx hb dL_law_596 ?_
  refine W.eq (g2 := F0 m 597 ls [.int 1, .ref b, .ref a0]) rfl ?_
  refine va_sld hx hb hXs hbl hbA hS (i := 1) (show ¬ ((1 : Int32) < 0 ∨ 6 ≤ (1 : Int32).toNatClampNeg) by decide) dL_law_597 ?_
  refine W.eq (g2 := F0 m 598 ls [.int (xs 1), .ref a0]) rfl ?_
  refine lv_aload_n hx hb dL_law_598 rfl (lv_at hl 4 rfl) ?_
  refine lv_iload hx hb dL_law_599 (lv_at hl 0 rfl) ?_
  refine lv_iconst (v := 2) hx hb dL_law_601 (by decide) ?_
  refine lv_iadd hx hb dL_law_602 ?_
  refine W.eq (g2 := F0 m 603 ls [.int 2, .ref b, .int (xs 1), .ref a0]) rfl ?_
  refine va_sld hx hb hXs hbl hbA hS (i := 2) (show ¬ ((2 : Int32) < 0 ∨ 6 ≤ (2 : Int32).toNatClampNeg) by decide) dL_law_603 ?_
  refine W.eq (g2 := F0 m 604 ls [.int (xs 2), .int (xs 1), .ref a0]) rfl ?_
  rw [hf]
  refine W.eq (g2 := F0 m 604 ls [.int 4, .int (xs 1), .ref a0]) rfl ?_
  refine lv_aload_n hx hb dL_law_604 rfl (lv_at hl 4 rfl) ?_
  refine lv_iload hx hb dL_law_605 (lv_at hl 0 rfl) ?_
  refine lv_iconst (v := 3) hx hb dL_law_607 (by decide) ?_
  refine lv_iadd hx hb dL_law_608 ?_
  refine W.eq (g2 := F0 m 609 ls [.int 3, .ref b, .int 4, .int (xs 1), .ref a0]) rfl ?_
  refine va_sld hx hb hXs hbl hbA hS (i := 3) (show ¬ ((3 : Int32) < 0 ∨ 6 ≤ (3 : Int32).toNatClampNeg) by decide) dL_law_609 ?_
  refine W.eq (g2 := F0 m 610 ls [.int (xs 3), .int 4, .int (xs 1), .ref a0]) rfl ?_
  obtain ⟨hPc, hDc, hFc⟩ := xcut (wc := [(a0, .inr (0, [v17, v18, .ref a7, .ref a4, .ref b19, .ref a3, v20, v21])), (a3, .inr (2, [.ref a9, v50, v51])), (a4, .inl (cT 3, 8, .inr (.inr (.inr (.inr f52))))), (a5, .inr (2, [.ref a6, .int 1, v56])), (a6, .inl (cT 2, 4096, .inr (.inl f57))), (a7, .inr (1, [.ref a8, v59, v60])), (a8, .inl (cT 0, 4096, .inl f61)), (a9, .inl (cT 2, 4096, .inr (.inl f62)))]) hP hD hS hA [0, 3, 4, 5, 6, 7, 8, 9] rfl rfl (by decide)
  refine va_calli (vx_runSW (As := [.ref a0, .int (xs 1), .int 4, .int (xs 3)]) (rest := []) ⟨hx, hb, hml, hown, htx⟩ (cL_one_10 l hl9 D cT aK aV H.size a0 a3 a4 a5 a6 a7 a8 a9 (xs 1) (xs 3) v17 v18 b19 v20 v21 v50 v51 f52 b54 v56 f57 v59 v60 f61 f62 hto1 hto2 hto3 hto4 ha1 ha2 ha3 ha4 (by first | rfl | exact h53 | exact h55 | exact h58 | exact h64 | exact h65 | exact h67 | exact h69 | exact h70 | exact h71 | exact h72 | exact h74 | exact h75) (by first | rfl | exact h53 | exact h55 | exact h58 | exact h64 | exact h65 | exact h67 | exact h69 | exact h70 | exact h71 | exact h72 | exact h74 | exact h75) (by first | rfl | exact h53 | exact h55 | exact h58 | exact h64 | exact h65 | exact h67 | exact h69 | exact h70 | exact h71 | exact h72 | exact h74 | exact h75)) (xcSW 4 htx (xw_goodC kw_4_21) rfl rfl rfl (htx _ kw_1_0) (htx _ kw_4_19) ⟨by decide, by decide, by decide +kernel⟩ ⟨Nat.le_of_ble_eq_true rfl, Nat.le_of_ble_eq_true rfl⟩ (htx _ kw_4_20)) ⟨xPre_blind, (fun U hU hW => ⟨rfl, xPre_of hZ hS hFc hPc hDc hK U hU hW⟩)⟩ rfl rfl hl.1 rfl (lv_room (Nat.le_of_ble_eq_true rfl)) dL_law_610 ⟨Nat.le_of_ble_eq_true rfl, Nat.le_of_ble_eq_true rfl⟩) hS (fun q _ h => hFc q h) hFc (fun r1 u9 t H1 locs ht hvm hr9 hB hz1 hk1 hS => ?_)
  obtain ⟨y2, y3, y4, y5, y6, y7, hP1, hK1, hD1⟩ := hB
  rw [ht] at hP1
  obtain ⟨hP, hD⟩ := xjoin (W := [(a1, .inr (5, [v22, .ref a13, v23, .ref a15, v24, v25, v26, v27, v28, v29, v30, v31, v32, v33, v34, v35, v36, v37, v38, v39, v40, .ref a14, v41, v42, .ref a10, .ref a11, v43, v44, v45, v46, v47, v48])), (a2, .inl (cT 2, 1, .inr (.inl f49))), (a10, .inl (cT 5, 8, .inr (.inr (.inr (.inr f63))))), (a11, .inl (cT 1, 8, .inl f66)), (a12, .inl (cT 0, 4096, .inl f68)), (a13, .inl (cT 4, 1024, .inr (.inr (.inr (.inr f73))))), (a14, .inl (cT 0, 1024, .inl f76)), (a15, .inl (cT 0, 4096, .inl f77)), (a16, .inl (cT 0, 4096, .inl f78)), (a0, .inr (0, [v17, v18, .ref a7, .ref a4, .ref b19, .ref b54, v20, v21])), (a3, .inr (2, [.ref a9, .int 5, .int 0])), (a4, .inl (cT 3, 8, .inr (.inr (.inr (.inr (va_up f52 (xs 1).toNatClampNeg (some a3))))))), (a5, .inr (2, [.ref a6, .int 1, v56])), (a6, .inl (cT 2, 4096, .inr (.inl f57))), (a7, .inr (1, [.ref a8, .int 6, .int 0])), (a8, .inl (cT 0, 4096, .inl (upd (upd (upd (upd (upd (upd (upd (upd (upd (upd f61 0 110) 1 117) 2 108) 3 108) 0 (vp_nar .byte y2)) 1 (vp_nar .byte y3)) 2 (vp_nar .byte y4)) 3 (vp_nar .byte y5)) 4 (vp_nar .byte y6)) 5 (vp_nar .byte y7)))), (a9, .inl (cT 2, 4096, .inr (.inl (vp_updL (vp_updL (vp_updL (vp_updL (vp_updL (vp_updL f62 0 0) 1 110) 2 117) 3 108) 4 108) 0 2621476))))]) hP hD [0, 3, 4, 5, 6, 7, 8, 9] [1, 2, 10, 11, 12, 13, 14, 15, 16] 9 rfl rfl (by decide) (by decide) hk1 hFc hP1 hD1
  generalize H1 = H at hP hS ⊢
  rw [hr9]
  refine W.eq (g2 := F0 m 613 ls [.int 0]) rfl ?_
  refine lv_istore (lv' := [(5, .int 0), (4, .int 0), (3, .ref a2), (2, .ref a1), (1, .ref a0), (0, .ref b)]) hx hb dL_law_613 hl (by decide) rfl (fun ls hl => ?_)
  refine lv_aload_n hx hb dL_law_615 rfl (lv_at hl 3 rfl) ?_
  refine lv_aload_n hx hb dL_law_616 rfl (lv_at hl 5 rfl) ?_
  refine lv_iload hx hb dL_law_617 (lv_at hl 1 rfl) ?_
  refine lv_iconst (v := 1) hx hb dL_law_619 (by decide) ?_
  refine lv_iadd hx hb dL_law_620 ?_
  refine W.eq (g2 := F0 m 621 ls [.int 1, .ref b, .ref a1]) rfl ?_
  refine va_sld hx hb hXs hbl hbA hS (i := 1) (show ¬ ((1 : Int32) < 0 ∨ 6 ≤ (1 : Int32).toNatClampNeg) by decide) dL_law_621 ?_
  refine W.eq (g2 := F0 m 622 ls [.int (xs 1), .ref a1]) rfl ?_
  refine lv_aload_n hx hb dL_law_622 rfl (lv_at hl 5 rfl) ?_
  refine lv_iload hx hb dL_law_623 (lv_at hl 1 rfl) ?_
  refine lv_iconst (v := 2) hx hb dL_law_625 (by decide) ?_
  refine lv_iadd hx hb dL_law_626 ?_
  refine W.eq (g2 := F0 m 627 ls [.int 2, .ref b, .int (xs 1), .ref a1]) rfl ?_
  refine va_sld hx hb hXs hbl hbA hS (i := 2) (show ¬ ((2 : Int32) < 0 ∨ 6 ≤ (2 : Int32).toNatClampNeg) by decide) dL_law_627 ?_
  refine W.eq (g2 := F0 m 628 ls [.int (xs 2), .int (xs 1), .ref a1]) rfl ?_
  rw [hf]
  refine W.eq (g2 := F0 m 628 ls [.int 4, .int (xs 1), .ref a1]) rfl ?_
  refine lv_aload_n hx hb dL_law_628 rfl (lv_at hl 5 rfl) ?_
  refine lv_iload hx hb dL_law_629 (lv_at hl 1 rfl) ?_
  refine lv_iconst (v := 3) hx hb dL_law_631 (by decide) ?_
  refine lv_iadd hx hb dL_law_632 ?_
  refine W.eq (g2 := F0 m 633 ls [.int 3, .ref b, .int 4, .int (xs 1), .ref a1]) rfl ?_
  refine va_sld hx hb hXs hbl hbA hS (i := 3) (show ¬ ((3 : Int32) < 0 ∨ 6 ≤ (3 : Int32).toNatClampNeg) by decide) dL_law_633 ?_
  refine W.eq (g2 := F0 m 634 ls [.int (xs 3), .int 4, .int (xs 1), .ref a1]) rfl ?_
  obtain ⟨hPc, hDc, hFc⟩ := xcut (wc := [(a1, .inr (5, [v22, .ref a13, v23, .ref a15, v24, v25, v26, v27, v28, v29, v30, v31, v32, v33, v34, v35, v36, v37, v38, v39, v40, .ref a14, v41, v42, .ref a10, .ref a11, v43, v44, v45, v46, v47, v48])), (a10, .inl (cT 5, 8, .inr (.inr (.inr (.inr f63))))), (a11, .inl (cT 1, 8, .inl f66)), (a12, .inl (cT 0, 4096, .inl f68)), (a13, .inl (cT 4, 1024, .inr (.inr (.inr (.inr f73))))), (a14, .inl (cT 0, 1024, .inl f76)), (a15, .inl (cT 0, 4096, .inl f77)), (a16, .inl (cT 0, 4096, .inl f78))]) hP hD hS hA [0, 2, 3, 4, 5, 6, 7, 8] rfl rfl (by decide)
  refine va_callv (va_runV (C := "ValueBenchModel") (As := [.int (xs 1), .int 4, .int (xs 3)]) (rest := []) ⟨hx, hb, hml, hown, htx⟩ (cM_one0_13 l hl9 D cT aK aV H.size a1 a10 a11 a12 a13 a14 a15 a16 (xs 1) (xs 3) v22 v23 v24 v25 v26 v27 v28 v29 v30 v31 v32 v33 v34 v35 v36 v37 v38 v39 v40 v41 v42 v43 v44 v45 v46 v47 v48 f63 f66 f68 f73 f76 f77 f78 hto1 hto2 hto3 hto4 ha1 ha2 ha3 ha4 (by first | rfl | exact h53 | exact h58 | exact h64 | exact h65 | exact h67 | exact h69 | exact h70 | exact h71 | exact h72 | exact h74 | exact h75) (by first | rfl | exact h53 | exact h58 | exact h64 | exact h65 | exact h67 | exact h69 | exact h70 | exact h71 | exact h72 | exact h74 | exact h75) (by first | rfl | exact h53 | exact h58 | exact h64 | exact h65 | exact h67 | exact h69 | exact h70 | exact h71 | exact h72 | exact h74 | exact h75) (by first | rfl | exact h53 | exact h58 | exact h64 | exact h65 | exact h67 | exact h69 | exact h70 | exact h71 | exact h72 | exact h74 | exact h75) (by first | rfl | exact h53 | exact h58 | exact h64 | exact h65 | exact h67 | exact h69 | exact h70 | exact h71 | exact h72 | exact h74 | exact h75) (by first | rfl | exact h53 | exact h58 | exact h64 | exact h65 | exact h67 | exact h69 | exact h70 | exact h71 | exact h72 | exact h74 | exact h75) (by first | rfl | exact h53 | exact h58 | exact h64 | exact h65 | exact h67 | exact h69 | exact h70 | exact h71 | exact h72 | exact h74 | exact h75) (by first | rfl | exact h53 | exact h58 | exact h64 | exact h65 | exact h67 | exact h69 | exact h70 | exact h71 | exact h72 | exact h74 | exact h75) (by first | rfl | exact h53 | exact h58 | exact h64 | exact h65 | exact h67 | exact h69 | exact h70 | exact h71 | exact h72 | exact h74 | exact h75)) ⟨callB_of 3 htx (xw_goodC kw_7_123) rfl rfl rfl (htx _ kw_1_5) (htx _ kw_7_120) ⟨by decide, by decide, by decide +kernel⟩ ⟨Nat.le_of_ble_eq_true rfl, Nat.le_of_ble_eq_true rfl⟩, (htx _ kw_7_121), (htx _ kw_7_122)⟩ ⟨xPre_blind, va_recv hK hP (ci := 5) rfl (q0 := 0) rfl, (fun U hU hW => ⟨rfl, xPre_of hZ hS hFc hPc hDc hK U hU hW⟩)⟩ rfl rfl hl.1 rfl (lv_room (Nat.le_of_ble_eq_true rfl)) dL_law_634 ⟨Nat.le_of_ble_eq_true rfl, Nat.le_of_ble_eq_true rfl⟩) hS (fun q _ h => hFc q h) hFc (fun u9 t H1 locs ht hvm hr9 hB hz1 hk1 hS => ?_)
  obtain ⟨q8, q9, y10, y11, y12, y13, y14, y15, hP1, hK1, hD1⟩ := hB
  rw [ht] at hP1
  obtain ⟨hP, hD⟩ := xjoin (W := [(a2, .inl (cT 2, 1, .inr (.inl f49))), (a0, .inr (0, [v17, v18, .ref a7, .ref a4, .ref b19, .ref b54, v20, v21])), (a3, .inr (2, [.ref a9, .int 5, .int 0])), (a4, .inl (cT 3, 8, .inr (.inr (.inr (.inr (va_up f52 (xs 1).toNatClampNeg (some a3))))))), (a5, .inr (2, [.ref a6, .int 1, v56])), (a6, .inl (cT 2, 4096, .inr (.inl f57))), (a7, .inr (1, [.ref a8, .int 6, .int 0])), (a8, .inl (cT 0, 4096, .inl (upd (upd (upd (upd (upd (upd (upd (upd (upd (upd f61 0 110) 1 117) 2 108) 3 108) 0 (vp_nar .byte y2)) 1 (vp_nar .byte y3)) 2 (vp_nar .byte y4)) 3 (vp_nar .byte y5)) 4 (vp_nar .byte y6)) 5 (vp_nar .byte y7)))), (a9, .inl (cT 2, 4096, .inr (.inl (vp_updL (vp_updL (vp_updL (vp_updL (vp_updL (vp_updL f62 0 0) 1 110) 2 117) 3 108) 4 108) 0 2621476)))), (a1, .inr (5, [.int 0, .ref a13, .int 2, .ref a15, .int 4, v25, v26, .int 0, v28, .int 0, v30, v31, .int 0, v33, v34, .ref a12, .int 4, .int 4, .int 0, .int 100, v40, .ref a14, .int 6, .int 4096, .ref a10, .ref a11, v43, v44, v45, v46, v47, v48])), (a10, .inl (cT 5, 8, .inr (.inr (.inr (.inr f63))))), (a11, .inl (cT 1, 8, .inl (upd f66 (xs 1).toNatClampNeg 6))), (a12, .inl (cT 0, 4096, .inl f68)), (a13, .inl (cT 4, 1024, .inr (.inr (.inr (.inr (va_up (va_up f73 0 (some q8)) 1 (some q9))))))), (a14, .inl (cT 0, 1024, .inl (upd (upd (upd (upd (upd (upd (upd (upd (upd (upd f76 0 110) 1 117) 2 108) 3 108) 0 (vp_nar .byte y10)) 1 (vp_nar .byte y11)) 2 (vp_nar .byte y12)) 3 (vp_nar .byte y13)) 4 (vp_nar .byte y14)) 5 (vp_nar .byte y15)))), (a15, .inl (cT 0, 4096, .inl (upd (upd (upd (upd f77 0 110) 1 117) 2 108) 3 108))), (a16, .inl (cT 0, 4096, .inl (upd (upd (upd (upd (upd (upd f78 0 (vp_nar .byte (vp_nar .byte y10))) 1 (vp_nar .byte (vp_nar .byte y11))) 2 (vp_nar .byte (vp_nar .byte y12))) 3 (vp_nar .byte (vp_nar .byte y13))) 4 (vp_nar .byte (vp_nar .byte y14))) 5 (vp_nar .byte (vp_nar .byte y15))))), (q8, .inr (6, [.int 0, .long 0, .int 0, .int 0, .int 0, .int 1])), (q9, .inr (6, [.int 4, .long 0, .int 0, .int 4, .int 0, .int 5]))]) hP hD [0, 2, 3, 4, 5, 6, 7, 8] [1, 9, 10, 11, 12, 13, 14, 15, 16] 9 rfl rfl (by decide) (by decide) hk1 hFc hP1 hD1
  generalize H1 = H at hP hS ⊢
  refine lv_aload_n hx hb dL_law_637 rfl (lv_at hl 3 rfl) ?_
  obtain ⟨hPc, hDc, hFc⟩ := xcut (wc := [(a1, .inr (5, [.int 0, .ref a13, .int 2, .ref a15, .int 4, v25, v26, .int 0, v28, .int 0, v30, v31, .int 0, v33, v34, .ref a12, .int 4, .int 4, .int 0, .int 100, v40, .ref a14, .int 6, .int 4096, .ref a10, .ref a11, v43, v44, v45, v46, v47, v48]))]) hP hD hS hA [9] rfl rfl (by decide)
  refine va_calli (va_runV (C := "ValueBenchModel") (As := []) (rest := []) ⟨hx, hb, hml, hown, htx⟩ (cM_thrown_0 l hl9 D cT aK aV H.size a1 (.ref a13) (.int 2) (.ref a15) (.int 4) v25 v26 (.int 0) v28 (.int 0) v30 v31 (.int 0) v33 v34 (.ref a12) (.int 4) (.int 4) (.int 0) (.int 100) v40 (.ref a14) (.int 6) (.int 4096) (.ref a10) (.ref a11) v43 v44 v45 v46 v47 v48) ⟨callB_of 0 htx (xw_goodC kw_5_187) rfl rfl rfl (htx _ kw_1_5) (htx _ kw_5_184) ⟨by decide, by decide, by decide +kernel⟩ ⟨Nat.le_of_ble_eq_true rfl, Nat.le_of_ble_eq_true rfl⟩, (htx _ kw_5_185), (htx _ kw_5_186)⟩ ⟨xPre_blind, va_recv hK hP (ci := 5) rfl (q0 := 9) rfl, (fun U hU hW => ⟨rfl, xPre_of hZ hS hFc hPc hDc hK U hU hW⟩)⟩ rfl rfl hl.1 rfl (lv_room (Nat.le_of_ble_eq_true rfl)) dL_law_638 ⟨Nat.le_of_ble_eq_true rfl, Nat.le_of_ble_eq_true rfl⟩) hS (fun q _ h => hFc q h) hFc (fun r16 u9 t H1 locs ht hvm hr9 hB hz1 hk1 hS => ?_)
  obtain ⟨hP1, hK1, hD1⟩ := hB
  rw [ht] at hP1
  obtain ⟨hP, hD⟩ := xjoin (W := [(a2, .inl (cT 2, 1, .inr (.inl f49))), (a0, .inr (0, [v17, v18, .ref a7, .ref a4, .ref b19, .ref b54, v20, v21])), (a3, .inr (2, [.ref a9, .int 5, .int 0])), (a4, .inl (cT 3, 8, .inr (.inr (.inr (.inr (va_up f52 (xs 1).toNatClampNeg (some a3))))))), (a5, .inr (2, [.ref a6, .int 1, v56])), (a6, .inl (cT 2, 4096, .inr (.inl f57))), (a7, .inr (1, [.ref a8, .int 6, .int 0])), (a8, .inl (cT 0, 4096, .inl (upd (upd (upd (upd (upd (upd (upd (upd (upd (upd f61 0 110) 1 117) 2 108) 3 108) 0 (vp_nar .byte y2)) 1 (vp_nar .byte y3)) 2 (vp_nar .byte y4)) 3 (vp_nar .byte y5)) 4 (vp_nar .byte y6)) 5 (vp_nar .byte y7)))), (a9, .inl (cT 2, 4096, .inr (.inl (vp_updL (vp_updL (vp_updL (vp_updL (vp_updL (vp_updL f62 0 0) 1 110) 2 117) 3 108) 4 108) 0 2621476)))), (a10, .inl (cT 5, 8, .inr (.inr (.inr (.inr f63))))), (a11, .inl (cT 1, 8, .inl (upd f66 (xs 1).toNatClampNeg 6))), (a12, .inl (cT 0, 4096, .inl f68)), (a13, .inl (cT 4, 1024, .inr (.inr (.inr (.inr (va_up (va_up f73 0 (some q8)) 1 (some q9))))))), (a14, .inl (cT 0, 1024, .inl (upd (upd (upd (upd (upd (upd (upd (upd (upd (upd f76 0 110) 1 117) 2 108) 3 108) 0 (vp_nar .byte y10)) 1 (vp_nar .byte y11)) 2 (vp_nar .byte y12)) 3 (vp_nar .byte y13)) 4 (vp_nar .byte y14)) 5 (vp_nar .byte y15)))), (a15, .inl (cT 0, 4096, .inl (upd (upd (upd (upd f77 0 110) 1 117) 2 108) 3 108))), (a16, .inl (cT 0, 4096, .inl (upd (upd (upd (upd (upd (upd f78 0 (vp_nar .byte (vp_nar .byte y10))) 1 (vp_nar .byte (vp_nar .byte y11))) 2 (vp_nar .byte (vp_nar .byte y12))) 3 (vp_nar .byte (vp_nar .byte y13))) 4 (vp_nar .byte (vp_nar .byte y14))) 5 (vp_nar .byte (vp_nar .byte y15))))), (q8, .inr (6, [.int 0, .long 0, .int 0, .int 0, .int 0, .int 1])), (q9, .inr (6, [.int 4, .long 0, .int 0, .int 4, .int 0, .int 5])), (a1, .inr (5, [.int 0, .ref a13, .int 2, .ref a15, .int 4, v25, v26, .int 0, v28, .int 0, v30, v31, .int 0, v33, v34, .ref a12, .int 4, .int 4, .int 0, .int 100, v40, .ref a14, .int 6, .int 4096, .ref a10, .ref a11, v43, v44, v45, v46, v47, v48]))]) hP hD [9] [0, 1, 2, 3, 4, 5, 6, 7, 8, 10, 11, 12, 13, 14, 15, 16, 17, 18] 18 rfl rfl (by decide) (by decide) hk1 hFc hP1 hD1
  generalize H1 = H at hP hS ⊢
  rw [hr9]
  refine W.eq (g2 := F0 m 641 ls [.int 0]) rfl ?_
  refine lv_iload hx hb dL_law_641 (lv_at hl 0 rfl) ?_
  refine lv_icmp_eq (tgt := 648) hx hb dL_law_643 (by decide) (fun _ => ?_) (fun h => ((by revert h; decide : False)).elim)
  refine lv_goto (tgt := 906) hx hb dL_law_648 (by decide) ?_
  refine lv_iinc (v := 6) (lv' := [(4, .int 6), (5, .int 0), (3, .ref a2), (2, .ref a1), (1, .ref a0), (0, .ref b)]) hx hb dL_law_906 hl (k := 1) rfl (by decide) (by decide) rfl (fun ls hl => ?_)
  refine lv_goto (tgt := 23) hx hb dL_law_909 (by decide) ?_
  refine lv_iload hx hb dL_law_23 (lv_at hl 0 rfl) ?_
  refine lv_aload_n hx hb dL_law_25 rfl (lv_at hl 5 rfl) ?_
  refine va_slen hx hb hXs hbl hbA hS dL_law_26 ?_
  refine W.eq (g2 := F0 m 27 ls [.int 6, .int 6]) rfl ?_
  refine lv_bipush (v := 6) hx hb dL_law_27 (by decide) ?_
  refine lv_isub hx hb dL_law_29 ?_
  refine W.eq (g2 := F0 m 30 ls [.int 0, .int 6]) rfl ?_
  refine lv_icmp_gt (tgt := 912) hx hb dL_law_30 (by decide) (fun _ => ?_) (fun h => ((by revert h; decide : False)).elim)
  refine lv_iconst (v := 1) hx hb dL_law_912 (by decide) ?_
  exact va_forget (fun q h => hA2 _ (hS.2.2 q h)) (W.widen (k := 600002) (n := 7302232) (Nat.le_of_ble_eq_true rfl) (Nat.le_of_ble_eq_true rfl) (lw_ret hx hb hr hlocks dL_law_913))
set_option maxHeartbeats 400000000 in
set_option maxRecDepth 100000 in
theorem lf_one5_p2 {p : Program} {e : Env} {s : State} {m : MethodId} {below : List Frame} {meth : Method} {c : Code} (l : Launch) (hl9 : l.stackTraces = false) (D : va_G) (cT : Nat → ClassId) (aK aV : Nat → Nat) {A : Nat → Prop} {b : Nat} {xs : Nat → Int32} (C : xLw p s m meth c b D cT aK aV A) {H : Heap} {locs : List Loc} {ls : Array Slot} (a0 : Nat) (a1 : Nat) (a2 : Nat) (a3 : Nat) (a4 : Nat) (a5 : Nat) (a6 : Nat) (a7 : Nat) (a8 : Nat) (a9 : Nat) (a10 : Nat) (v11 : Value) (v12 : Value) (b13 : Nat) (b14 : Nat) (v15 : Value) (v16 : Value) (v17 : Value) (v18 : Value) (v19 : Value) (v20 : Value) (v21 : Value) (v22 : Value) (v23 : Value) (v24 : Value) (v25 : Value) (v26 : Value) (v27 : Value) (v28 : Value) (v29 : Value) (v30 : Value) (v31 : Value) (v32 : Value) (v33 : Value) (v34 : Value) (v35 : Value) (v36 : Value) (v37 : Value) (v38 : Value) (v39 : Value) (v40 : Value) (v41 : Value) (v42 : Value) (v43 : Value) (v44 : Value) (v45 : Value) (f46 : Nat → Int64) (v47 : Value) (v48 : Value) (v49 : Value) (f50 : Nat → Option Nat) (v52 : Value) (f53 : Nat → Int64) (f55 : Nat → Option Nat) (f57 : Nat → Int32) (f59 : Nat → Int32) (f64 : Nat → Option Nat) (h51 : f50 (xs 3).toNatClampNeg = some a5) (h54 : f53 0 = 0) (h56 : f55 (xs 3).toNatClampNeg = some a9) (h58 : f57 (xs 3).toNatClampNeg = 4) (h60 : f59 0 = 110) (h61 : f59 1 = 117) (h62 : f59 2 = 108) (h63 : f59 3 = 108) (h65 : f64 0 = none) (hto1 : ¬ (xs 1) < 0) (hto2 : ¬ 7 < (xs 1)) (hto3 : (xs 1) ≤ 7) (hto4 : vp_in (xs 1) 8) (hf : xs 2 = 5) (ha1 : ¬ (xs 3) < 0) (ha2 : ¬ 7 < (xs 3)) (ha3 : (xs 3) ≤ 7) (ha4 : vp_in (xs 3) 8) (hXs : va_X b 6 xs s s.heap) (hP : va_P D xcl [(a0, .inr (0, [v11, v12, .ref b13, .ref a4, .ref b14, .ref a3, v15, v16])), (a1, .inr (5, [v17, .ref a10, v18, v19, v20, v21, v22, v23, v24, v25, v26, v27, v28, v29, v30, v31, v32, v33, v34, v35, v36, v37, v38, v39, .ref a7, .ref a8, v40, v41, v42, v43, v44, v45])), (a2, .inl (cT 2, 1, .inr (.inl f46))), (a3, .inr (2, [v47, v48, v49])), (a4, .inl (cT 3, 8, .inr (.inr (.inr (.inr f50))))), (a5, .inr (2, [.ref a6, .int 1, v52])), (a6, .inl (cT 2, 4096, .inr (.inl f53))), (a7, .inl (cT 5, 8, .inr (.inr (.inr (.inr f55))))), (a8, .inl (cT 1, 8, .inl f57)), (a9, .inl (cT 0, 4096, .inl f59)), (a10, .inl (cT 4, 1024, .inr (.inr (.inr (.inr f64)))))] H) (hD : va_D A [(a0, .inr (0, [v11, v12, .ref b13, .ref a4, .ref b14, .ref a3, v15, v16])), (a1, .inr (5, [v17, .ref a10, v18, v19, v20, v21, v22, v23, v24, v25, v26, v27, v28, v29, v30, v31, v32, v33, v34, v35, v36, v37, v38, v39, .ref a7, .ref a8, v40, v41, v42, v43, v44, v45])), (a2, .inl (cT 2, 1, .inr (.inl f46))), (a3, .inr (2, [v47, v48, v49])), (a4, .inl (cT 3, 8, .inr (.inr (.inr (.inr f50))))), (a5, .inr (2, [.ref a6, .int 1, v52])), (a6, .inl (cT 2, 4096, .inr (.inl f53))), (a7, .inl (cT 5, 8, .inr (.inr (.inr (.inr f55))))), (a8, .inl (cT 1, 8, .inl f57)), (a9, .inl (cT 0, 4096, .inl f59)), (a10, .inl (cT 4, 1024, .inr (.inr (.inr (.inr f64)))))]) (hS : va_S A s.heap H locs) (hl : lv_has ls 8 [(4, .int 0), (3, .ref a2), (2, .ref a1), (1, .ref a0), (0, .ref b)]) : W p l e room_1 s m #[Value.ref b] below meth c H locs 54 107242 (lw_Z below #[Value.ref b] s) (F0 m 591 ls []) := by
  obtain ⟨hx, hb, hr, hml, hown, htx, hbl, hbA, hlocks, hK, hZ, hA, hA2⟩ := C
  refine lv_aload_n hx hb dL_law_591 rfl (lv_at hl 3 rfl) ?_
  refine lv_aload_n hx hb dL_law_592 rfl (lv_at hl 4 rfl) ?_
  refine lv_iload hx hb dL_law_593 (lv_at hl 0 rfl) ?_
  refine lv_iconst (v := 1) hx hb dL_law_595 (by decide) ?_
  refine lv_iadd hx hb dL_law_596 ?_
  refine W.eq (g2 := F0 m 597 ls [.int 1, .ref b, .ref a0]) rfl ?_
  refine va_sld hx hb hXs hbl hbA hS (i := 1) (show ¬ ((1 : Int32) < 0 ∨ 6 ≤ (1 : Int32).toNatClampNeg) by decide) dL_law_597 ?_
  refine W.eq (g2 := F0 m 598 ls [.int (xs 1), .ref a0]) rfl ?_
  refine lv_aload_n hx hb dL_law_598 rfl (lv_at hl 4 rfl) ?_
  refine lv_iload hx hb dL_law_599 (lv_at hl 0 rfl) ?_
  refine lv_iconst (v := 2) hx hb dL_law_601 (by decide) ?_
  refine lv_iadd hx hb dL_law_602 ?_
  refine W.eq (g2 := F0 m 603 ls [.int 2, .ref b, .int (xs 1), .ref a0]) rfl ?_
  refine va_sld hx hb hXs hbl hbA hS (i := 2) (show ¬ ((2 : Int32) < 0 ∨ 6 ≤ (2 : Int32).toNatClampNeg) by decide) dL_law_603 ?_
  refine W.eq (g2 := F0 m 604 ls [.int (xs 2), .int (xs 1), .ref a0]) rfl ?_
  rw [hf]
  refine W.eq (g2 := F0 m 604 ls [.int 5, .int (xs 1), .ref a0]) rfl ?_
  refine lv_aload_n hx hb dL_law_604 rfl (lv_at hl 4 rfl) ?_
  refine lv_iload hx hb dL_law_605 (lv_at hl 0 rfl) ?_
  refine lv_iconst (v := 3) hx hb dL_law_607 (by decide) ?_
  refine lv_iadd hx hb dL_law_608 ?_
  refine W.eq (g2 := F0 m 609 ls [.int 3, .ref b, .int 5, .int (xs 1), .ref a0]) rfl ?_
  refine va_sld hx hb hXs hbl hbA hS (i := 3) (show ¬ ((3 : Int32) < 0 ∨ 6 ≤ (3 : Int32).toNatClampNeg) by decide) dL_law_609 ?_
  refine W.eq (g2 := F0 m 610 ls [.int (xs 3), .int 5, .int (xs 1), .ref a0]) rfl ?_
  obtain ⟨hPc, hDc, hFc⟩ := xcut (wc := [(a0, .inr (0, [v11, v12, .ref b13, .ref a4, .ref b14, .ref a3, v15, v16])), (a3, .inr (2, [v47, v48, v49])), (a4, .inl (cT 3, 8, .inr (.inr (.inr (.inr f50))))), (a5, .inr (2, [.ref a6, .int 1, v52])), (a6, .inl (cT 2, 4096, .inr (.inl f53)))]) hP hD hS hA [0, 3, 4, 5, 6] rfl rfl (by decide)
  refine va_calli (vx_runSW (As := [.ref a0, .int (xs 1), .int 5, .int (xs 3)]) (rest := []) ⟨hx, hb, hml, hown, htx⟩ (cL_one_11 l hl9 D cT aK aV H.size a0 a3 a4 a5 a6 (xs 1) (xs 3) v11 v12 b13 b14 v15 v16 v47 v48 v49 f50 v52 f53 hto1 hto2 hto3 hto4 ha1 ha2 ha3 ha4 (by first | rfl | exact h51 | exact h54 | exact h56 | exact h58 | exact h60 | exact h61 | exact h62 | exact h63 | exact h65) (by first | rfl | exact h51 | exact h54 | exact h56 | exact h58 | exact h60 | exact h61 | exact h62 | exact h63 | exact h65)) (xcSW 4 htx (xw_goodC kw_4_21) rfl rfl rfl (htx _ kw_1_0) (htx _ kw_4_19) ⟨by decide, by decide, by decide +kernel⟩ ⟨Nat.le_of_ble_eq_true rfl, Nat.le_of_ble_eq_true rfl⟩ (htx _ kw_4_20)) ⟨xPre_blind, (fun U hU hW => ⟨rfl, xPre_of hZ hS hFc hPc hDc hK U hU hW⟩)⟩ rfl rfl hl.1 rfl (lv_room (Nat.le_of_ble_eq_true rfl)) dL_law_610 ⟨Nat.le_of_ble_eq_true rfl, Nat.le_of_ble_eq_true rfl⟩) hS (fun q _ h => hFc q h) hFc (fun r1 u9 t H1 locs ht hvm hr9 hB hz1 hk1 hS => ?_)
  obtain ⟨hP1, hK1, hD1⟩ := hB
  rw [ht] at hP1
  obtain ⟨hP, hD⟩ := xjoin (W := [(a1, .inr (5, [v17, .ref a10, v18, v19, v20, v21, v22, v23, v24, v25, v26, v27, v28, v29, v30, v31, v32, v33, v34, v35, v36, v37, v38, v39, .ref a7, .ref a8, v40, v41, v42, v43, v44, v45])), (a2, .inl (cT 2, 1, .inr (.inl f46))), (a7, .inl (cT 5, 8, .inr (.inr (.inr (.inr f55))))), (a8, .inl (cT 1, 8, .inl f57)), (a9, .inl (cT 0, 4096, .inl f59)), (a10, .inl (cT 4, 1024, .inr (.inr (.inr (.inr f64))))), (a0, .inr (0, [v11, v12, .ref b13, .ref a4, .ref b14, .ref a3, v15, .int 1])), (a3, .inr (2, [v47, .int 0, .int 0])), (a4, .inl (cT 3, 8, .inr (.inr (.inr (.inr f50))))), (a5, .inr (2, [.ref a6, .int 1, v52])), (a6, .inl (cT 2, 4096, .inr (.inl f53)))]) hP hD [0, 3, 4, 5, 6] [1, 2, 7, 8, 9, 10] 6 rfl rfl (by decide) (by decide) hk1 hFc hP1 hD1
  generalize H1 = H at hP hS ⊢
  rw [hr9]
  refine W.eq (g2 := F0 m 613 ls [.int 2]) rfl ?_
  refine lv_istore (lv' := [(5, .int 2), (4, .int 0), (3, .ref a2), (2, .ref a1), (1, .ref a0), (0, .ref b)]) hx hb dL_law_613 hl (by decide) rfl (fun ls hl => ?_)
  refine lv_aload_n hx hb dL_law_615 rfl (lv_at hl 3 rfl) ?_
  refine lv_aload_n hx hb dL_law_616 rfl (lv_at hl 5 rfl) ?_
  refine lv_iload hx hb dL_law_617 (lv_at hl 1 rfl) ?_
  refine lv_iconst (v := 1) hx hb dL_law_619 (by decide) ?_
  refine lv_iadd hx hb dL_law_620 ?_
  refine W.eq (g2 := F0 m 621 ls [.int 1, .ref b, .ref a1]) rfl ?_
  refine va_sld hx hb hXs hbl hbA hS (i := 1) (show ¬ ((1 : Int32) < 0 ∨ 6 ≤ (1 : Int32).toNatClampNeg) by decide) dL_law_621 ?_
  refine W.eq (g2 := F0 m 622 ls [.int (xs 1), .ref a1]) rfl ?_
  refine lv_aload_n hx hb dL_law_622 rfl (lv_at hl 5 rfl) ?_
  refine lv_iload hx hb dL_law_623 (lv_at hl 1 rfl) ?_
  refine lv_iconst (v := 2) hx hb dL_law_625 (by decide) ?_
  refine lv_iadd hx hb dL_law_626 ?_
  refine W.eq (g2 := F0 m 627 ls [.int 2, .ref b, .int (xs 1), .ref a1]) rfl ?_
  refine va_sld hx hb hXs hbl hbA hS (i := 2) (show ¬ ((2 : Int32) < 0 ∨ 6 ≤ (2 : Int32).toNatClampNeg) by decide) dL_law_627 ?_
  refine W.eq (g2 := F0 m 628 ls [.int (xs 2), .int (xs 1), .ref a1]) rfl ?_
  rw [hf]
  refine W.eq (g2 := F0 m 628 ls [.int 5, .int (xs 1), .ref a1]) rfl ?_
  refine lv_aload_n hx hb dL_law_628 rfl (lv_at hl 5 rfl) ?_
  refine lv_iload hx hb dL_law_629 (lv_at hl 1 rfl) ?_
  refine lv_iconst (v := 3) hx hb dL_law_631 (by decide) ?_
  refine lv_iadd hx hb dL_law_632 ?_
  refine W.eq (g2 := F0 m 633 ls [.int 3, .ref b, .int 5, .int (xs 1), .ref a1]) rfl ?_
  refine va_sld hx hb hXs hbl hbA hS (i := 3) (show ¬ ((3 : Int32) < 0 ∨ 6 ≤ (3 : Int32).toNatClampNeg) by decide) dL_law_633 ?_
  refine W.eq (g2 := F0 m 634 ls [.int (xs 3), .int 5, .int (xs 1), .ref a1]) rfl ?_
  obtain ⟨hPc, hDc, hFc⟩ := xcut (wc := [(a1, .inr (5, [v17, .ref a10, v18, v19, v20, v21, v22, v23, v24, v25, v26, v27, v28, v29, v30, v31, v32, v33, v34, v35, v36, v37, v38, v39, .ref a7, .ref a8, v40, v41, v42, v43, v44, v45])), (a7, .inl (cT 5, 8, .inr (.inr (.inr (.inr f55))))), (a8, .inl (cT 1, 8, .inl f57)), (a9, .inl (cT 0, 4096, .inl f59)), (a10, .inl (cT 4, 1024, .inr (.inr (.inr (.inr f64)))))]) hP hD hS hA [0, 2, 3, 4, 5] rfl rfl (by decide)
  refine va_callv (va_runV (C := "ValueBenchModel") (As := [.int (xs 1), .int 5, .int (xs 3)]) (rest := []) ⟨hx, hb, hml, hown, htx⟩ (cM_one0_14 l hl9 D cT aK aV H.size a1 a7 a8 a9 a10 (xs 1) (xs 3) v17 v18 v19 v20 v21 v22 v23 v24 v25 v26 v27 v28 v29 v30 v31 v32 v33 v34 v35 v36 v37 v38 v39 v40 v41 v42 v43 v44 v45 f55 f57 f59 f64 hto1 hto2 hto3 hto4 ha1 ha2 ha3 ha4 (by first | rfl | exact h51 | exact h54 | exact h56 | exact h58 | exact h60 | exact h61 | exact h62 | exact h63 | exact h65) (by first | rfl | exact h51 | exact h54 | exact h56 | exact h58 | exact h60 | exact h61 | exact h62 | exact h63 | exact h65) (by first | rfl | exact h51 | exact h54 | exact h56 | exact h58 | exact h60 | exact h61 | exact h62 | exact h63 | exact h65) (by first | rfl | exact h51 | exact h54 | exact h56 | exact h58 | exact h60 | exact h61 | exact h62 | exact h63 | exact h65) (by first | rfl | exact h51 | exact h54 | exact h56 | exact h58 | exact h60 | exact h61 | exact h62 | exact h63 | exact h65) (by first | rfl | exact h51 | exact h54 | exact h56 | exact h58 | exact h60 | exact h61 | exact h62 | exact h63 | exact h65) (by first | rfl | exact h51 | exact h54 | exact h56 | exact h58 | exact h60 | exact h61 | exact h62 | exact h63 | exact h65)) ⟨callB_of 3 htx (xw_goodC kw_7_123) rfl rfl rfl (htx _ kw_1_5) (htx _ kw_7_120) ⟨by decide, by decide, by decide +kernel⟩ ⟨Nat.le_of_ble_eq_true rfl, Nat.le_of_ble_eq_true rfl⟩, (htx _ kw_7_121), (htx _ kw_7_122)⟩ ⟨xPre_blind, va_recv hK hP (ci := 5) rfl (q0 := 0) rfl, (fun U hU hW => ⟨rfl, xPre_of hZ hS hFc hPc hDc hK U hU hW⟩)⟩ rfl rfl hl.1 rfl (lv_room (Nat.le_of_ble_eq_true rfl)) dL_law_634 ⟨Nat.le_of_ble_eq_true rfl, Nat.le_of_ble_eq_true rfl⟩) hS (fun q _ h => hFc q h) hFc (fun u9 t H1 locs ht hvm hr9 hB hz1 hk1 hS => ?_)
  obtain ⟨q2, hP1, hK1, hD1⟩ := hB
  rw [ht] at hP1
  obtain ⟨hP, hD⟩ := xjoin (W := [(a2, .inl (cT 2, 1, .inr (.inl f46))), (a0, .inr (0, [v11, v12, .ref b13, .ref a4, .ref b14, .ref a3, v15, .int 1])), (a3, .inr (2, [v47, .int 0, .int 0])), (a4, .inl (cT 3, 8, .inr (.inr (.inr (.inr f50))))), (a5, .inr (2, [.ref a6, .int 1, v52])), (a6, .inl (cT 2, 4096, .inr (.inl f53))), (a1, .inr (5, [.int 2, .ref a10, .int 1, v19, .int 0, v21, v22, .int 0, .int 1, .int 0, v26, v27, .int 0, v29, v30, .ref a9, .int 4, .int 4, .int 0, .int 100, v36, v37, .int 0, .int 1000000000, .ref a7, .ref a8, v40, v41, v42, v43, .int 1, v45])), (a7, .inl (cT 5, 8, .inr (.inr (.inr (.inr f55))))), (a8, .inl (cT 1, 8, .inl f57)), (a9, .inl (cT 0, 4096, .inl f59)), (a10, .inl (cT 4, 1024, .inr (.inr (.inr (.inr (va_up f64 0 (some q2))))))), (q2, .inr (6, [.int 0, .long 0, .int 0, .int 0, .int 0, .int 1]))]) hP hD [0, 2, 3, 4, 5] [1, 6, 7, 8, 9, 10] 6 rfl rfl (by decide) (by decide) hk1 hFc hP1 hD1
  generalize H1 = H at hP hS ⊢
  refine lv_aload_n hx hb dL_law_637 rfl (lv_at hl 3 rfl) ?_
  obtain ⟨hPc, hDc, hFc⟩ := xcut (wc := [(a1, .inr (5, [.int 2, .ref a10, .int 1, v19, .int 0, v21, v22, .int 0, .int 1, .int 0, v26, v27, .int 0, v29, v30, .ref a9, .int 4, .int 4, .int 0, .int 100, v36, v37, .int 0, .int 1000000000, .ref a7, .ref a8, v40, v41, v42, v43, .int 1, v45]))]) hP hD hS hA [6] rfl rfl (by decide)
  refine va_calli (va_runV (C := "ValueBenchModel") (As := []) (rest := []) ⟨hx, hb, hml, hown, htx⟩ (cM_thrown_2 l hl9 D cT aK aV H.size a1 (.ref a10) (.int 1) v19 (.int 0) v21 v22 (.int 0) (.int 1) (.int 0) v26 v27 (.int 0) v29 v30 (.ref a9) (.int 4) (.int 4) (.int 0) (.int 100) v36 v37 (.int 0) (.int 1000000000) (.ref a7) (.ref a8) v40 v41 v42 v43 (.int 1) v45) ⟨callB_of 0 htx (xw_goodC kw_5_187) rfl rfl rfl (htx _ kw_1_5) (htx _ kw_5_184) ⟨by decide, by decide, by decide +kernel⟩ ⟨Nat.le_of_ble_eq_true rfl, Nat.le_of_ble_eq_true rfl⟩, (htx _ kw_5_185), (htx _ kw_5_186)⟩ ⟨xPre_blind, va_recv hK hP (ci := 5) rfl (q0 := 6) rfl, (fun U hU hW => ⟨rfl, xPre_of hZ hS hFc hPc hDc hK U hU hW⟩)⟩ rfl rfl hl.1 rfl (lv_room (Nat.le_of_ble_eq_true rfl)) dL_law_638 ⟨Nat.le_of_ble_eq_true rfl, Nat.le_of_ble_eq_true rfl⟩) hS (fun q _ h => hFc q h) hFc (fun r3 u9 t H1 locs ht hvm hr9 hB hz1 hk1 hS => ?_)
  obtain ⟨hP1, hK1, hD1⟩ := hB
  rw [ht] at hP1
  obtain ⟨hP, hD⟩ := xjoin (W := [(a2, .inl (cT 2, 1, .inr (.inl f46))), (a0, .inr (0, [v11, v12, .ref b13, .ref a4, .ref b14, .ref a3, v15, .int 1])), (a3, .inr (2, [v47, .int 0, .int 0])), (a4, .inl (cT 3, 8, .inr (.inr (.inr (.inr f50))))), (a5, .inr (2, [.ref a6, .int 1, v52])), (a6, .inl (cT 2, 4096, .inr (.inl f53))), (a7, .inl (cT 5, 8, .inr (.inr (.inr (.inr f55))))), (a8, .inl (cT 1, 8, .inl f57)), (a9, .inl (cT 0, 4096, .inl f59)), (a10, .inl (cT 4, 1024, .inr (.inr (.inr (.inr (va_up f64 0 (some q2))))))), (q2, .inr (6, [.int 0, .long 0, .int 0, .int 0, .int 0, .int 1])), (a1, .inr (5, [.int 2, .ref a10, .int 1, v19, .int 0, v21, v22, .int 0, .int 1, .int 0, v26, v27, .int 0, v29, v30, .ref a9, .int 4, .int 4, .int 0, .int 100, v36, v37, .int 0, .int 1000000000, .ref a7, .ref a8, v40, v41, v42, v43, .int 1, v45]))]) hP hD [6] [0, 1, 2, 3, 4, 5, 7, 8, 9, 10, 11] 11 rfl rfl (by decide) (by decide) hk1 hFc hP1 hD1
  generalize H1 = H at hP hS ⊢
  rw [hr9]
  refine W.eq (g2 := F0 m 641 ls [.int 2]) rfl ?_
  refine lv_iload hx hb dL_law_641 (lv_at hl 0 rfl) ?_
  refine lv_icmp_eq (tgt := 648) hx hb dL_law_643 (by decide) (fun _ => ?_) (fun h => ((by revert h; decide : False)).elim)
  refine lv_goto (tgt := 906) hx hb dL_law_648 (by decide) ?_
  refine lv_iinc (v := 6) (lv' := [(4, .int 6), (5, .int 2), (3, .ref a2), (2, .ref a1), (1, .ref a0), (0, .ref b)]) hx hb dL_law_906 hl (k := 1) rfl (by decide) (by decide) rfl (fun ls hl => ?_)
  refine lv_goto (tgt := 23) hx hb dL_law_909 (by decide) ?_
  refine lv_iload hx hb dL_law_23 (lv_at hl 0 rfl) ?_
  refine lv_aload_n hx hb dL_law_25 rfl (lv_at hl 5 rfl) ?_
  refine va_slen hx hb hXs hbl hbA hS dL_law_26 ?_
  refine W.eq (g2 := F0 m 27 ls [.int 6, .int 6]) rfl ?_
  refine lv_bipush (v := 6) hx hb dL_law_27 (by decide) ?_
  refine lv_isub hx hb dL_law_29 ?_
  refine W.eq (g2 := F0 m 30 ls [.int 0, .int 6]) rfl ?_
  refine lv_icmp_gt (tgt := 912) hx hb dL_law_30 (by decide) (fun _ => ?_) (fun h => ((by revert h; decide : False)).elim)
  refine lv_iconst (v := 1) hx hb dL_law_912 (by decide) ?_
  exact va_forget (fun q h => hA2 _ (hS.2.2 q h)) (W.widen (k := 600002) (n := 7302232) (Nat.le_of_ble_eq_true rfl) (Nat.le_of_ble_eq_true rfl) (lw_ret hx hb hr hlocks dL_law_913))
set_option maxHeartbeats 400000000 in
set_option maxRecDepth 100000 in
theorem lf_one5_p0 {p : Program} {e : Env} {s : State} {m : MethodId} {below : List Frame} {meth : Method} {c : Code} (l : Launch) (hl9 : l.stackTraces = false) (D : va_G) (cT : Nat → ClassId) (aK aV : Nat → Nat) {A : Nat → Prop} {b : Nat} {xs : Nat → Int32} (C : xLw p s m meth c b D cT aK aV A) {H : Heap} {locs : List Loc} {ls : Array Slot} (a0 : Nat) (a1 : Nat) (a2 : Nat) (a3 : Nat) (a4 : Nat) (a5 : Nat) (a6 : Nat) (a7 : Nat) (a8 : Nat) (a9 : Nat) (a10 : Nat) (v11 : Value) (v12 : Value) (b13 : Nat) (b14 : Nat) (v15 : Value) (v16 : Value) (v17 : Value) (v18 : Value) (v19 : Value) (v20 : Value) (v21 : Value) (v22 : Value) (v23 : Value) (v24 : Value) (v25 : Value) (v26 : Value) (v27 : Value) (v28 : Value) (v29 : Value) (v30 : Value) (v31 : Value) (v32 : Value) (v33 : Value) (v34 : Value) (v35 : Value) (v36 : Value) (v37 : Value) (v38 : Value) (v39 : Value) (v40 : Value) (v41 : Value) (v42 : Value) (v43 : Value) (v44 : Value) (v45 : Value) (f46 : Nat → Int64) (v47 : Value) (v48 : Value) (v49 : Value) (f50 : Nat → Option Nat) (v52 : Value) (f53 : Nat → Int64) (f55 : Nat → Option Nat) (f57 : Nat → Int32) (f59 : Nat → Int32) (f64 : Nat → Option Nat) (h51 : f50 (xs 3).toNatClampNeg = some a5) (h54 : f53 0 = 0) (h56 : f55 (xs 3).toNatClampNeg = some a9) (h58 : f57 (xs 3).toNatClampNeg = 4) (h60 : f59 0 = 110) (h61 : f59 1 = 117) (h62 : f59 2 = 108) (h63 : f59 3 = 108) (h65 : f64 0 = none) (hto1 : ¬ (xs 1) < 0) (hto2 : ¬ 7 < (xs 1)) (hto3 : (xs 1) ≤ 7) (hto4 : vp_in (xs 1) 8) (hf : xs 2 = 5) (ha1 : ¬ (xs 3) < 0) (ha2 : ¬ 7 < (xs 3)) (ha3 : (xs 3) ≤ 7) (ha4 : vp_in (xs 3) 8) (hXs : va_X b 6 xs s s.heap) (hP : va_P D xcl [(a0, .inr (0, [v11, v12, .ref b13, .ref a4, .ref b14, .ref a3, v15, v16])), (a1, .inr (5, [v17, .ref a10, v18, v19, v20, v21, v22, v23, v24, v25, v26, v27, v28, v29, v30, v31, v32, v33, v34, v35, v36, v37, v38, v39, .ref a7, .ref a8, v40, v41, v42, v43, v44, v45])), (a2, .inl (cT 2, 1, .inr (.inl f46))), (a3, .inr (2, [v47, v48, v49])), (a4, .inl (cT 3, 8, .inr (.inr (.inr (.inr f50))))), (a5, .inr (2, [.ref a6, .int 1, v52])), (a6, .inl (cT 2, 4096, .inr (.inl f53))), (a7, .inl (cT 5, 8, .inr (.inr (.inr (.inr f55))))), (a8, .inl (cT 1, 8, .inl f57)), (a9, .inl (cT 0, 4096, .inl f59)), (a10, .inl (cT 4, 1024, .inr (.inr (.inr (.inr f64)))))] H) (hD : va_D A [(a0, .inr (0, [v11, v12, .ref b13, .ref a4, .ref b14, .ref a3, v15, v16])), (a1, .inr (5, [v17, .ref a10, v18, v19, v20, v21, v22, v23, v24, v25, v26, v27, v28, v29, v30, v31, v32, v33, v34, v35, v36, v37, v38, v39, .ref a7, .ref a8, v40, v41, v42, v43, v44, v45])), (a2, .inl (cT 2, 1, .inr (.inl f46))), (a3, .inr (2, [v47, v48, v49])), (a4, .inl (cT 3, 8, .inr (.inr (.inr (.inr f50))))), (a5, .inr (2, [.ref a6, .int 1, v52])), (a6, .inl (cT 2, 4096, .inr (.inl f53))), (a7, .inl (cT 5, 8, .inr (.inr (.inr (.inr f55))))), (a8, .inl (cT 1, 8, .inl f57)), (a9, .inl (cT 0, 4096, .inl f59)), (a10, .inl (cT 4, 1024, .inr (.inr (.inr (.inr f64)))))]) (hS : va_S A s.heap H locs) (hl : lv_has ls 8 [(4, .int 0), (3, .ref a2), (2, .ref a1), (1, .ref a0), (0, .ref b)]) : W p l e room_1 s m #[Value.ref b] below meth c H locs 54 107242 (lw_Z below #[Value.ref b] s) (F0 m 591 ls []) := by
  obtain ⟨hx, hb, hr, hml, hown, htx, hbl, hbA, hlocks, hK, hZ, hA, hA2⟩ := C
  refine lv_aload_n hx hb dL_law_591 rfl (lv_at hl 3 rfl) ?_
  refine lv_aload_n hx hb dL_law_592 rfl (lv_at hl 4 rfl) ?_
  refine lv_iload hx hb dL_law_593 (lv_at hl 0 rfl) ?_
  refine lv_iconst (v := 1) hx hb dL_law_595 (by decide) ?_
  refine lv_iadd hx hb dL_law_596 ?_
  refine W.eq (g2 := F0 m 597 ls [.int 1, .ref b, .ref a0]) rfl ?_
  refine va_sld hx hb hXs hbl hbA hS (i := 1) (show ¬ ((1 : Int32) < 0 ∨ 6 ≤ (1 : Int32).toNatClampNeg) by decide) dL_law_597 ?_
  refine W.eq (g2 := F0 m 598 ls [.int (xs 1), .ref a0]) rfl ?_
  refine lv_aload_n hx hb dL_law_598 rfl (lv_at hl 4 rfl) ?_
  refine lv_iload hx hb dL_law_599 (lv_at hl 0 rfl) ?_
  refine lv_iconst (v := 2) hx hb dL_law_601 (by decide) ?_
  refine lv_iadd hx hb dL_law_602 ?_
  refine W.eq (g2 := F0 m 603 ls [.int 2, .ref b, .int (xs 1), .ref a0]) rfl ?_
  refine va_sld hx hb hXs hbl hbA hS (i := 2) (show ¬ ((2 : Int32) < 0 ∨ 6 ≤ (2 : Int32).toNatClampNeg) by decide) dL_law_603 ?_
  refine W.eq (g2 := F0 m 604 ls [.int (xs 2), .int (xs 1), .ref a0]) rfl ?_
  rw [hf]
  refine W.eq (g2 := F0 m 604 ls [.int 5, .int (xs 1), .ref a0]) rfl ?_
  refine lv_aload_n hx hb dL_law_604 rfl (lv_at hl 4 rfl) ?_
  refine lv_iload hx hb dL_law_605 (lv_at hl 0 rfl) ?_
  refine lv_iconst (v := 3) hx hb dL_law_607 (by decide) ?_
  refine lv_iadd hx hb dL_law_608 ?_
  refine W.eq (g2 := F0 m 609 ls [.int 3, .ref b, .int 5, .int (xs 1), .ref a0]) rfl ?_
  refine va_sld hx hb hXs hbl hbA hS (i := 3) (show ¬ ((3 : Int32) < 0 ∨ 6 ≤ (3 : Int32).toNatClampNeg) by decide) dL_law_609 ?_
  refine W.eq (g2 := F0 m 610 ls [.int (xs 3), .int 5, .int (xs 1), .ref a0]) rfl ?_
  obtain ⟨hPc, hDc, hFc⟩ := xcut (wc := [(a0, .inr (0, [v11, v12, .ref b13, .ref a4, .ref b14, .ref a3, v15, v16])), (a3, .inr (2, [v47, v48, v49])), (a4, .inl (cT 3, 8, .inr (.inr (.inr (.inr f50))))), (a5, .inr (2, [.ref a6, .int 1, v52])), (a6, .inl (cT 2, 4096, .inr (.inl f53)))]) hP hD hS hA [0, 3, 4, 5, 6] rfl rfl (by decide)
  refine va_calli (vx_runSW (As := [.ref a0, .int (xs 1), .int 5, .int (xs 3)]) (rest := []) ⟨hx, hb, hml, hown, htx⟩ (cL_one_11 l hl9 D cT aK aV H.size a0 a3 a4 a5 a6 (xs 1) (xs 3) v11 v12 b13 b14 v15 v16 v47 v48 v49 f50 v52 f53 hto1 hto2 hto3 hto4 ha1 ha2 ha3 ha4 (by first | rfl | exact h51 | exact h54 | exact h56 | exact h58 | exact h60 | exact h61 | exact h62 | exact h63 | exact h65) (by first | rfl | exact h51 | exact h54 | exact h56 | exact h58 | exact h60 | exact h61 | exact h62 | exact h63 | exact h65)) (xcSW 4 htx (xw_goodC kw_4_21) rfl rfl rfl (htx _ kw_1_0) (htx _ kw_4_19) ⟨by decide, by decide, by decide +kernel⟩ ⟨Nat.le_of_ble_eq_true rfl, Nat.le_of_ble_eq_true rfl⟩ (htx _ kw_4_20)) ⟨xPre_blind, (fun U hU hW => ⟨rfl, xPre_of hZ hS hFc hPc hDc hK U hU hW⟩)⟩ rfl rfl hl.1 rfl (lv_room (Nat.le_of_ble_eq_true rfl)) dL_law_610 ⟨Nat.le_of_ble_eq_true rfl, Nat.le_of_ble_eq_true rfl⟩) hS (fun q _ h => hFc q h) hFc (fun r1 u9 t H1 locs ht hvm hr9 hB hz1 hk1 hS => ?_)
  obtain ⟨hP1, hK1, hD1⟩ := hB
  rw [ht] at hP1
  obtain ⟨hP, hD⟩ := xjoin (W := [(a1, .inr (5, [v17, .ref a10, v18, v19, v20, v21, v22, v23, v24, v25, v26, v27, v28, v29, v30, v31, v32, v33, v34, v35, v36, v37, v38, v39, .ref a7, .ref a8, v40, v41, v42, v43, v44, v45])), (a2, .inl (cT 2, 1, .inr (.inl f46))), (a7, .inl (cT 5, 8, .inr (.inr (.inr (.inr f55))))), (a8, .inl (cT 1, 8, .inl f57)), (a9, .inl (cT 0, 4096, .inl f59)), (a10, .inl (cT 4, 1024, .inr (.inr (.inr (.inr f64))))), (a0, .inr (0, [v11, v12, .ref b13, .ref a4, .ref b14, .ref a3, v15, .int 1])), (a3, .inr (2, [v47, .int 0, .int 0])), (a4, .inl (cT 3, 8, .inr (.inr (.inr (.inr f50))))), (a5, .inr (2, [.ref a6, .int 1, v52])), (a6, .inl (cT 2, 4096, .inr (.inl f53)))]) hP hD [0, 3, 4, 5, 6] [1, 2, 7, 8, 9, 10] 6 rfl rfl (by decide) (by decide) hk1 hFc hP1 hD1
  generalize H1 = H at hP hS ⊢
  rw [hr9]
  refine W.eq (g2 := F0 m 613 ls [.int 2]) rfl ?_
  refine lv_istore (lv' := [(5, .int 2), (4, .int 0), (3, .ref a2), (2, .ref a1), (1, .ref a0), (0, .ref b)]) hx hb dL_law_613 hl (by decide) rfl (fun ls hl => ?_)
  refine lv_aload_n hx hb dL_law_615 rfl (lv_at hl 3 rfl) ?_
  refine lv_aload_n hx hb dL_law_616 rfl (lv_at hl 5 rfl) ?_
  refine lv_iload hx hb dL_law_617 (lv_at hl 1 rfl) ?_
  refine lv_iconst (v := 1) hx hb dL_law_619 (by decide) ?_
  refine lv_iadd hx hb dL_law_620 ?_
  refine W.eq (g2 := F0 m 621 ls [.int 1, .ref b, .ref a1]) rfl ?_
  refine va_sld hx hb hXs hbl hbA hS (i := 1) (show ¬ ((1 : Int32) < 0 ∨ 6 ≤ (1 : Int32).toNatClampNeg) by decide) dL_law_621 ?_
  refine W.eq (g2 := F0 m 622 ls [.int (xs 1), .ref a1]) rfl ?_
  refine lv_aload_n hx hb dL_law_622 rfl (lv_at hl 5 rfl) ?_
  refine lv_iload hx hb dL_law_623 (lv_at hl 1 rfl) ?_
  refine lv_iconst (v := 2) hx hb dL_law_625 (by decide) ?_
  refine lv_iadd hx hb dL_law_626 ?_
  refine W.eq (g2 := F0 m 627 ls [.int 2, .ref b, .int (xs 1), .ref a1]) rfl ?_
  refine va_sld hx hb hXs hbl hbA hS (i := 2) (show ¬ ((2 : Int32) < 0 ∨ 6 ≤ (2 : Int32).toNatClampNeg) by decide) dL_law_627 ?_
  refine W.eq (g2 := F0 m 628 ls [.int (xs 2), .int (xs 1), .ref a1]) rfl ?_
  rw [hf]
  refine W.eq (g2 := F0 m 628 ls [.int 5, .int (xs 1), .ref a1]) rfl ?_
  refine lv_aload_n hx hb dL_law_628 rfl (lv_at hl 5 rfl) ?_
  refine lv_iload hx hb dL_law_629 (lv_at hl 1 rfl) ?_
  refine lv_iconst (v := 3) hx hb dL_law_631 (by decide) ?_
  refine lv_iadd hx hb dL_law_632 ?_
  refine W.eq (g2 := F0 m 633 ls [.int 3, .ref b, .int 5, .int (xs 1), .ref a1]) rfl ?_
  refine va_sld hx hb hXs hbl hbA hS (i := 3) (show ¬ ((3 : Int32) < 0 ∨ 6 ≤ (3 : Int32).toNatClampNeg) by decide) dL_law_633 ?_
  refine W.eq (g2 := F0 m 634 ls [.int (xs 3), .int 5, .int (xs 1), .ref a1]) rfl ?_
  obtain ⟨hPc, hDc, hFc⟩ := xcut (wc := [(a1, .inr (5, [v17, .ref a10, v18, v19, v20, v21, v22, v23, v24, v25, v26, v27, v28, v29, v30, v31, v32, v33, v34, v35, v36, v37, v38, v39, .ref a7, .ref a8, v40, v41, v42, v43, v44, v45])), (a7, .inl (cT 5, 8, .inr (.inr (.inr (.inr f55))))), (a8, .inl (cT 1, 8, .inl f57)), (a9, .inl (cT 0, 4096, .inl f59)), (a10, .inl (cT 4, 1024, .inr (.inr (.inr (.inr f64)))))]) hP hD hS hA [0, 2, 3, 4, 5] rfl rfl (by decide)
  refine va_callv (va_runV (C := "ValueBenchModel") (As := [.int (xs 1), .int 5, .int (xs 3)]) (rest := []) ⟨hx, hb, hml, hown, htx⟩ (cM_one0_14 l hl9 D cT aK aV H.size a1 a7 a8 a9 a10 (xs 1) (xs 3) v17 v18 v19 v20 v21 v22 v23 v24 v25 v26 v27 v28 v29 v30 v31 v32 v33 v34 v35 v36 v37 v38 v39 v40 v41 v42 v43 v44 v45 f55 f57 f59 f64 hto1 hto2 hto3 hto4 ha1 ha2 ha3 ha4 (by first | rfl | exact h51 | exact h54 | exact h56 | exact h58 | exact h60 | exact h61 | exact h62 | exact h63 | exact h65) (by first | rfl | exact h51 | exact h54 | exact h56 | exact h58 | exact h60 | exact h61 | exact h62 | exact h63 | exact h65) (by first | rfl | exact h51 | exact h54 | exact h56 | exact h58 | exact h60 | exact h61 | exact h62 | exact h63 | exact h65) (by first | rfl | exact h51 | exact h54 | exact h56 | exact h58 | exact h60 | exact h61 | exact h62 | exact h63 | exact h65) (by first | rfl | exact h51 | exact h54 | exact h56 | exact h58 | exact h60 | exact h61 | exact h62 | exact h63 | exact h65) (by first | rfl | exact h51 | exact h54 | exact h56 | exact h58 | exact h60 | exact h61 | exact h62 | exact h63 | exact h65) (by first | rfl | exact h51 | exact h54 | exact h56 | exact h58 | exact h60 | exact h61 | exact h62 | exact h63 | exact h65)) ⟨callB_of 3 htx (xw_goodC kw_7_123) rfl rfl rfl (htx _ kw_1_5) (htx _ kw_7_120) ⟨by decide, by decide, by decide +kernel⟩ ⟨Nat.le_of_ble_eq_true rfl, Nat.le_of_ble_eq_true rfl⟩, (htx _ kw_7_121), (htx _ kw_7_122)⟩ ⟨xPre_blind, va_recv hK hP (ci := 5) rfl (q0 := 0) rfl, (fun U hU hW => ⟨rfl, xPre_of hZ hS hFc hPc hDc hK U hU hW⟩)⟩ rfl rfl hl.1 rfl (lv_room (Nat.le_of_ble_eq_true rfl)) dL_law_634 ⟨Nat.le_of_ble_eq_true rfl, Nat.le_of_ble_eq_true rfl⟩) hS (fun q _ h => hFc q h) hFc (fun u9 t H1 locs ht hvm hr9 hB hz1 hk1 hS => ?_)
  obtain ⟨q2, hP1, hK1, hD1⟩ := hB
  rw [ht] at hP1
  obtain ⟨hP, hD⟩ := xjoin (W := [(a2, .inl (cT 2, 1, .inr (.inl f46))), (a0, .inr (0, [v11, v12, .ref b13, .ref a4, .ref b14, .ref a3, v15, .int 1])), (a3, .inr (2, [v47, .int 0, .int 0])), (a4, .inl (cT 3, 8, .inr (.inr (.inr (.inr f50))))), (a5, .inr (2, [.ref a6, .int 1, v52])), (a6, .inl (cT 2, 4096, .inr (.inl f53))), (a1, .inr (5, [.int 2, .ref a10, .int 1, v19, .int 0, v21, v22, .int 0, .int 1, .int 0, v26, v27, .int 0, v29, v30, .ref a9, .int 4, .int 4, .int 0, .int 100, v36, v37, .int 0, .int 1000000000, .ref a7, .ref a8, v40, v41, v42, v43, .int 1, v45])), (a7, .inl (cT 5, 8, .inr (.inr (.inr (.inr f55))))), (a8, .inl (cT 1, 8, .inl f57)), (a9, .inl (cT 0, 4096, .inl f59)), (a10, .inl (cT 4, 1024, .inr (.inr (.inr (.inr (va_up f64 0 (some q2))))))), (q2, .inr (6, [.int 0, .long 0, .int 0, .int 0, .int 0, .int 1]))]) hP hD [0, 2, 3, 4, 5] [1, 6, 7, 8, 9, 10] 6 rfl rfl (by decide) (by decide) hk1 hFc hP1 hD1
  generalize H1 = H at hP hS ⊢
  refine lv_aload_n hx hb dL_law_637 rfl (lv_at hl 3 rfl) ?_
  obtain ⟨hPc, hDc, hFc⟩ := xcut (wc := [(a1, .inr (5, [.int 2, .ref a10, .int 1, v19, .int 0, v21, v22, .int 0, .int 1, .int 0, v26, v27, .int 0, v29, v30, .ref a9, .int 4, .int 4, .int 0, .int 100, v36, v37, .int 0, .int 1000000000, .ref a7, .ref a8, v40, v41, v42, v43, .int 1, v45]))]) hP hD hS hA [6] rfl rfl (by decide)
  refine va_calli (va_runV (C := "ValueBenchModel") (As := []) (rest := []) ⟨hx, hb, hml, hown, htx⟩ (cM_thrown_2 l hl9 D cT aK aV H.size a1 (.ref a10) (.int 1) v19 (.int 0) v21 v22 (.int 0) (.int 1) (.int 0) v26 v27 (.int 0) v29 v30 (.ref a9) (.int 4) (.int 4) (.int 0) (.int 100) v36 v37 (.int 0) (.int 1000000000) (.ref a7) (.ref a8) v40 v41 v42 v43 (.int 1) v45) ⟨callB_of 0 htx (xw_goodC kw_5_187) rfl rfl rfl (htx _ kw_1_5) (htx _ kw_5_184) ⟨by decide, by decide, by decide +kernel⟩ ⟨Nat.le_of_ble_eq_true rfl, Nat.le_of_ble_eq_true rfl⟩, (htx _ kw_5_185), (htx _ kw_5_186)⟩ ⟨xPre_blind, va_recv hK hP (ci := 5) rfl (q0 := 6) rfl, (fun U hU hW => ⟨rfl, xPre_of hZ hS hFc hPc hDc hK U hU hW⟩)⟩ rfl rfl hl.1 rfl (lv_room (Nat.le_of_ble_eq_true rfl)) dL_law_638 ⟨Nat.le_of_ble_eq_true rfl, Nat.le_of_ble_eq_true rfl⟩) hS (fun q _ h => hFc q h) hFc (fun r3 u9 t H1 locs ht hvm hr9 hB hz1 hk1 hS => ?_)
  obtain ⟨hP1, hK1, hD1⟩ := hB
  rw [ht] at hP1
  obtain ⟨hP, hD⟩ := xjoin (W := [(a2, .inl (cT 2, 1, .inr (.inl f46))), (a0, .inr (0, [v11, v12, .ref b13, .ref a4, .ref b14, .ref a3, v15, .int 1])), (a3, .inr (2, [v47, .int 0, .int 0])), (a4, .inl (cT 3, 8, .inr (.inr (.inr (.inr f50))))), (a5, .inr (2, [.ref a6, .int 1, v52])), (a6, .inl (cT 2, 4096, .inr (.inl f53))), (a7, .inl (cT 5, 8, .inr (.inr (.inr (.inr f55))))), (a8, .inl (cT 1, 8, .inl f57)), (a9, .inl (cT 0, 4096, .inl f59)), (a10, .inl (cT 4, 1024, .inr (.inr (.inr (.inr (va_up f64 0 (some q2))))))), (q2, .inr (6, [.int 0, .long 0, .int 0, .int 0, .int 0, .int 1])), (a1, .inr (5, [.int 2, .ref a10, .int 1, v19, .int 0, v21, v22, .int 0, .int 1, .int 0, v26, v27, .int 0, v29, v30, .ref a9, .int 4, .int 4, .int 0, .int 100, v36, v37, .int 0, .int 1000000000, .ref a7, .ref a8, v40, v41, v42, v43, .int 1, v45]))]) hP hD [6] [0, 1, 2, 3, 4, 5, 7, 8, 9, 10, 11] 11 rfl rfl (by decide) (by decide) hk1 hFc hP1 hD1
  generalize H1 = H at hP hS ⊢
  rw [hr9]
  refine W.eq (g2 := F0 m 641 ls [.int 2]) rfl ?_
  refine lv_iload hx hb dL_law_641 (lv_at hl 0 rfl) ?_
  refine lv_icmp_eq (tgt := 648) hx hb dL_law_643 (by decide) (fun _ => ?_) (fun h => ((by revert h; decide : False)).elim)
  refine lv_goto (tgt := 906) hx hb dL_law_648 (by decide) ?_
  refine lv_iinc (v := 6) (lv' := [(4, .int 6), (5, .int 2), (3, .ref a2), (2, .ref a1), (1, .ref a0), (0, .ref b)]) hx hb dL_law_906 hl (k := 1) rfl (by decide) (by decide) rfl (fun ls hl => ?_)
  refine lv_goto (tgt := 23) hx hb dL_law_909 (by decide) ?_
  refine lv_iload hx hb dL_law_23 (lv_at hl 0 rfl) ?_
  refine lv_aload_n hx hb dL_law_25 rfl (lv_at hl 5 rfl) ?_
  refine va_slen hx hb hXs hbl hbA hS dL_law_26 ?_
  refine W.eq (g2 := F0 m 27 ls [.int 6, .int 6]) rfl ?_
  refine lv_bipush (v := 6) hx hb dL_law_27 (by decide) ?_
  refine lv_isub hx hb dL_law_29 ?_
  refine W.eq (g2 := F0 m 30 ls [.int 0, .int 6]) rfl ?_
  refine lv_icmp_gt (tgt := 912) hx hb dL_law_30 (by decide) (fun _ => ?_) (fun h => ((by revert h; decide : False)).elim)
  refine lv_iconst (v := 1) hx hb dL_law_912 (by decide) ?_
  exact va_forget (fun q h => hA2 _ (hS.2.2 q h)) (W.widen (k := 600002) (n := 7302232) (Nat.le_of_ble_eq_true rfl) (Nat.le_of_ble_eq_true rfl) (lw_ret hx hb hr hlocks dL_law_913))
set_option maxHeartbeats 400000000 in
set_option maxRecDepth 100000 in
theorem lf_one6_p2 {p : Program} {e : Env} {s : State} {m : MethodId} {below : List Frame} {meth : Method} {c : Code} (l : Launch) (hl9 : l.stackTraces = false) (D : va_G) (cT : Nat → ClassId) (aK aV : Nat → Nat) {A : Nat → Prop} {b : Nat} {xs : Nat → Int32} (C : xLw p s m meth c b D cT aK aV A) {H : Heap} {locs : List Loc} {ls : Array Slot} (a0 : Nat) (a1 : Nat) (a2 : Nat) (a3 : Nat) (a4 : Nat) (a5 : Nat) (a6 : Nat) (a7 : Nat) (a8 : Nat) (a9 : Nat) (a10 : Nat) (a11 : Nat) (a12 : Nat) (a13 : Nat) (a14 : Nat) (a15 : Nat) (v16 : Value) (v17 : Value) (b18 : Nat) (v19 : Value) (v20 : Value) (v21 : Value) (v22 : Value) (v23 : Value) (v24 : Value) (v25 : Value) (v26 : Value) (v27 : Value) (v28 : Value) (v29 : Value) (v30 : Value) (v31 : Value) (v32 : Value) (v33 : Value) (v34 : Value) (v35 : Value) (v36 : Value) (v37 : Value) (v38 : Value) (v39 : Value) (v40 : Value) (v41 : Value) (v42 : Value) (v43 : Value) (v44 : Value) (v45 : Value) (v46 : Value) (v47 : Value) (f48 : Nat → Int64) (v49 : Value) (v50 : Value) (f51 : Nat → Option Nat) (b53 : Nat) (v55 : Value) (v56 : Value) (v57 : Value) (f58 : Nat → Int64) (f60 : Nat → Int32) (f61 : Nat → Int64) (f62 : Nat → Option Nat) (f65 : Nat → Int32) (f67 : Nat → Int32) (f72 : Nat → Option Nat) (f75 : Nat → Int32) (f76 : Nat → Int32) (h52 : f51 (xs 3).toNatClampNeg = some a6) (h54 : f51 (xs 1).toNatClampNeg = some b53) (h59 : f58 0 = 0) (h63 : f62 (xs 3).toNatClampNeg = some a12) (h64 : f62 (xs 1).toNatClampNeg = some a12) (h66 : f65 (xs 3).toNatClampNeg = 4) (h68 : f67 0 = 110) (h69 : f67 1 = 117) (h70 : f67 2 = 108) (h71 : f67 3 = 108) (h73 : f72 0 = none) (h74 : f72 1 = none) (hto1 : ¬ (xs 1) < 0) (hto2 : ¬ 7 < (xs 1)) (hto3 : (xs 1) ≤ 7) (hto4 : vp_in (xs 1) 8) (hf : xs 2 = 6) (ha1 : ¬ (xs 3) < 0) (ha2 : ¬ 7 < (xs 3)) (ha3 : (xs 3) ≤ 7) (ha4 : vp_in (xs 3) 8) (hXs : va_X b 6 xs s s.heap) (hP : va_P D xcl [(a0, .inr (0, [v16, v17, .ref a5, .ref a4, .ref b18, .ref a3, v19, v20])), (a1, .inr (5, [v21, .ref a13, v22, .ref a15, v23, v24, v25, v26, v27, v28, v29, v30, v31, v32, v33, v34, v35, v36, v37, v38, v39, .ref a14, v40, v41, .ref a10, .ref a11, v42, v43, v44, v45, v46, v47])), (a2, .inl (cT 2, 1, .inr (.inl f48))), (a3, .inr (2, [.ref a9, v49, v50])), (a4, .inl (cT 3, 8, .inr (.inr (.inr (.inr f51))))), (a5, .inr (1, [.ref a8, v55, v56])), (a6, .inr (2, [.ref a7, .int 1, v57])), (a7, .inl (cT 2, 4096, .inr (.inl f58))), (a8, .inl (cT 0, 4096, .inl f60)), (a9, .inl (cT 2, 4096, .inr (.inl f61))), (a10, .inl (cT 5, 8, .inr (.inr (.inr (.inr f62))))), (a11, .inl (cT 1, 8, .inl f65)), (a12, .inl (cT 0, 4096, .inl f67)), (a13, .inl (cT 4, 1024, .inr (.inr (.inr (.inr f72))))), (a14, .inl (cT 0, 1024, .inl f75)), (a15, .inl (cT 0, 4096, .inl f76))] H) (hD : va_D A [(a0, .inr (0, [v16, v17, .ref a5, .ref a4, .ref b18, .ref a3, v19, v20])), (a1, .inr (5, [v21, .ref a13, v22, .ref a15, v23, v24, v25, v26, v27, v28, v29, v30, v31, v32, v33, v34, v35, v36, v37, v38, v39, .ref a14, v40, v41, .ref a10, .ref a11, v42, v43, v44, v45, v46, v47])), (a2, .inl (cT 2, 1, .inr (.inl f48))), (a3, .inr (2, [.ref a9, v49, v50])), (a4, .inl (cT 3, 8, .inr (.inr (.inr (.inr f51))))), (a5, .inr (1, [.ref a8, v55, v56])), (a6, .inr (2, [.ref a7, .int 1, v57])), (a7, .inl (cT 2, 4096, .inr (.inl f58))), (a8, .inl (cT 0, 4096, .inl f60)), (a9, .inl (cT 2, 4096, .inr (.inl f61))), (a10, .inl (cT 5, 8, .inr (.inr (.inr (.inr f62))))), (a11, .inl (cT 1, 8, .inl f65)), (a12, .inl (cT 0, 4096, .inl f67)), (a13, .inl (cT 4, 1024, .inr (.inr (.inr (.inr f72))))), (a14, .inl (cT 0, 1024, .inl f75)), (a15, .inl (cT 0, 4096, .inl f76))]) (hS : va_S A s.heap H locs) (hl : lv_has ls 8 [(4, .int 0), (3, .ref a2), (2, .ref a1), (1, .ref a0), (0, .ref b)]) : W p l e room_1 s m #[Value.ref b] below meth c H locs 54 107242 (lw_Z below #[Value.ref b] s) (F0 m 591 ls []) := by
  obtain ⟨hx, hb, hr, hml, hown, htx, hbl, hbA, hlocks, hK, hZ, hA, hA2⟩ := C
  refine lv_aload_n hx hb dL_law_591 rfl (lv_at hl 3 rfl) ?_
  refine lv_aload_n hx hb dL_law_592 rfl (lv_at hl 4 rfl) ?_
  refine lv_iload hx hb dL_law_593 (lv_at hl 0 rfl) ?_
  refine lv_iconst (v := 1) hx hb dL_law_595 (by decide) ?_
  refine lv_iadd hx hb dL_law_596 ?_
  refine W.eq (g2 := F0 m 597 ls [.int 1, .ref b, .ref a0]) rfl ?_
  refine va_sld hx hb hXs hbl hbA hS (i := 1) (show ¬ ((1 : Int32) < 0 ∨ 6 ≤ (1 : Int32).toNatClampNeg) by decide) dL_law_597 ?_
  refine W.eq (g2 := F0 m 598 ls [.int (xs 1), .ref a0]) rfl ?_
  refine lv_aload_n hx hb dL_law_598 rfl (lv_at hl 4 rfl) ?_
  refine lv_iload hx hb dL_law_599 (lv_at hl 0 rfl) ?_
  refine lv_iconst (v := 2) hx hb dL_law_601 (by decide) ?_
  refine lv_iadd hx hb dL_law_602 ?_
  refine W.eq (g2 := F0 m 603 ls [.int 2, .ref b, .int (xs 1), .ref a0]) rfl ?_
  refine va_sld hx hb hXs hbl hbA hS (i := 2) (show ¬ ((2 : Int32) < 0 ∨ 6 ≤ (2 : Int32).toNatClampNeg) by decide) dL_law_603 ?_
  refine W.eq (g2 := F0 m 604 ls [.int (xs 2), .int (xs 1), .ref a0]) rfl ?_
  rw [hf]
  refine W.eq (g2 := F0 m 604 ls [.int 6, .int (xs 1), .ref a0]) rfl ?_
  refine lv_aload_n hx hb dL_law_604 rfl (lv_at hl 4 rfl) ?_
  refine lv_iload hx hb dL_law_605 (lv_at hl 0 rfl) ?_
  refine lv_iconst (v := 3) hx hb dL_law_607 (by decide) ?_
  refine lv_iadd hx hb dL_law_608 ?_
  refine W.eq (g2 := F0 m 609 ls [.int 3, .ref b, .int 6, .int (xs 1), .ref a0]) rfl ?_
  refine va_sld hx hb hXs hbl hbA hS (i := 3) (show ¬ ((3 : Int32) < 0 ∨ 6 ≤ (3 : Int32).toNatClampNeg) by decide) dL_law_609 ?_
  refine W.eq (g2 := F0 m 610 ls [.int (xs 3), .int 6, .int (xs 1), .ref a0]) rfl ?_
  obtain ⟨hPc, hDc, hFc⟩ := xcut (wc := [(a0, .inr (0, [v16, v17, .ref a5, .ref a4, .ref b18, .ref a3, v19, v20])), (a3, .inr (2, [.ref a9, v49, v50])), (a4, .inl (cT 3, 8, .inr (.inr (.inr (.inr f51))))), (a5, .inr (1, [.ref a8, v55, v56])), (a6, .inr (2, [.ref a7, .int 1, v57])), (a7, .inl (cT 2, 4096, .inr (.inl f58))), (a8, .inl (cT 0, 4096, .inl f60)), (a9, .inl (cT 2, 4096, .inr (.inl f61)))]) hP hD hS hA [0, 3, 4, 5, 6, 7, 8, 9] rfl rfl (by decide)
  refine va_calli (vx_runSW (As := [.ref a0, .int (xs 1), .int 6, .int (xs 3)]) (rest := []) ⟨hx, hb, hml, hown, htx⟩ (cL_one_12 l hl9 D cT aK aV H.size a0 a3 a4 a5 a6 a7 a8 a9 (xs 1) (xs 3) v16 v17 b18 v19 v20 v49 v50 f51 b53 v55 v56 v57 f58 f60 f61 hto1 hto2 hto3 hto4 ha1 ha2 ha3 ha4 (by first | rfl | exact h52 | exact h54 | exact h59 | exact h63 | exact h64 | exact h66 | exact h68 | exact h69 | exact h70 | exact h71 | exact h73 | exact h74) (by first | rfl | exact h52 | exact h54 | exact h59 | exact h63 | exact h64 | exact h66 | exact h68 | exact h69 | exact h70 | exact h71 | exact h73 | exact h74) (by first | rfl | exact h52 | exact h54 | exact h59 | exact h63 | exact h64 | exact h66 | exact h68 | exact h69 | exact h70 | exact h71 | exact h73 | exact h74)) (xcSW 4 htx (xw_goodC kw_4_21) rfl rfl rfl (htx _ kw_1_0) (htx _ kw_4_19) ⟨by decide, by decide, by decide +kernel⟩ ⟨Nat.le_of_ble_eq_true rfl, Nat.le_of_ble_eq_true rfl⟩ (htx _ kw_4_20)) ⟨xPre_blind, (fun U hU hW => ⟨rfl, xPre_of hZ hS hFc hPc hDc hK U hU hW⟩)⟩ rfl rfl hl.1 rfl (lv_room (Nat.le_of_ble_eq_true rfl)) dL_law_610 ⟨Nat.le_of_ble_eq_true rfl, Nat.le_of_ble_eq_true rfl⟩) hS (fun q _ h => hFc q h) hFc (fun r1 u9 t H1 locs ht hvm hr9 hB hz1 hk1 hS => ?_)
  obtain ⟨y2, y3, y4, y5, y6, y7, hP1, hK1, hD1⟩ := hB
  rw [ht] at hP1
  obtain ⟨hP, hD⟩ := xjoin (W := [(a1, .inr (5, [v21, .ref a13, v22, .ref a15, v23, v24, v25, v26, v27, v28, v29, v30, v31, v32, v33, v34, v35, v36, v37, v38, v39, .ref a14, v40, v41, .ref a10, .ref a11, v42, v43, v44, v45, v46, v47])), (a2, .inl (cT 2, 1, .inr (.inl f48))), (a10, .inl (cT 5, 8, .inr (.inr (.inr (.inr f62))))), (a11, .inl (cT 1, 8, .inl f65)), (a12, .inl (cT 0, 4096, .inl f67)), (a13, .inl (cT 4, 1024, .inr (.inr (.inr (.inr f72))))), (a14, .inl (cT 0, 1024, .inl f75)), (a15, .inl (cT 0, 4096, .inl f76)), (a0, .inr (0, [v16, v17, .ref a5, .ref a4, .ref b18, .ref b53, v19, v20])), (a3, .inr (2, [.ref a9, .int 5, .int 0])), (a4, .inl (cT 3, 8, .inr (.inr (.inr (.inr (va_up f51 (xs 1).toNatClampNeg (some a3))))))), (a5, .inr (1, [.ref a8, .int 6, .int 0])), (a6, .inr (2, [.ref a7, .int 1, v57])), (a7, .inl (cT 2, 4096, .inr (.inl f58))), (a8, .inl (cT 0, 4096, .inl (upd (upd (upd (upd (upd (upd (upd (upd (upd (upd f60 0 110) 1 117) 2 108) 3 108) 0 (vp_nar .byte y2)) 1 (vp_nar .byte y3)) 2 (vp_nar .byte y4)) 3 (vp_nar .byte y5)) 4 (vp_nar .byte y6)) 5 (vp_nar .byte y7)))), (a9, .inl (cT 2, 4096, .inr (.inl (vp_updL (vp_updL (vp_updL (vp_updL (vp_updL (vp_updL f61 0 0) 1 110) 2 117) 3 108) 4 108) 0 2621476))))]) hP hD [0, 3, 4, 5, 6, 7, 8, 9] [1, 2, 10, 11, 12, 13, 14, 15] 8 rfl rfl (by decide) (by decide) hk1 hFc hP1 hD1
  generalize H1 = H at hP hS ⊢
  rw [hr9]
  refine W.eq (g2 := F0 m 613 ls [.int 0]) rfl ?_
  refine lv_istore (lv' := [(5, .int 0), (4, .int 0), (3, .ref a2), (2, .ref a1), (1, .ref a0), (0, .ref b)]) hx hb dL_law_613 hl (by decide) rfl (fun ls hl => ?_)
  refine lv_aload_n hx hb dL_law_615 rfl (lv_at hl 3 rfl) ?_
  refine lv_aload_n hx hb dL_law_616 rfl (lv_at hl 5 rfl) ?_
  refine lv_iload hx hb dL_law_617 (lv_at hl 1 rfl) ?_
  refine lv_iconst (v := 1) hx hb dL_law_619 (by decide) ?_
  refine lv_iadd hx hb dL_law_620 ?_
  refine W.eq (g2 := F0 m 621 ls [.int 1, .ref b, .ref a1]) rfl ?_
  refine va_sld hx hb hXs hbl hbA hS (i := 1) (show ¬ ((1 : Int32) < 0 ∨ 6 ≤ (1 : Int32).toNatClampNeg) by decide) dL_law_621 ?_
  refine W.eq (g2 := F0 m 622 ls [.int (xs 1), .ref a1]) rfl ?_
  refine lv_aload_n hx hb dL_law_622 rfl (lv_at hl 5 rfl) ?_
  refine lv_iload hx hb dL_law_623 (lv_at hl 1 rfl) ?_
  refine lv_iconst (v := 2) hx hb dL_law_625 (by decide) ?_
  refine lv_iadd hx hb dL_law_626 ?_
  refine W.eq (g2 := F0 m 627 ls [.int 2, .ref b, .int (xs 1), .ref a1]) rfl ?_
  refine va_sld hx hb hXs hbl hbA hS (i := 2) (show ¬ ((2 : Int32) < 0 ∨ 6 ≤ (2 : Int32).toNatClampNeg) by decide) dL_law_627 ?_
  refine W.eq (g2 := F0 m 628 ls [.int (xs 2), .int (xs 1), .ref a1]) rfl ?_
  rw [hf]
  refine W.eq (g2 := F0 m 628 ls [.int 6, .int (xs 1), .ref a1]) rfl ?_
  refine lv_aload_n hx hb dL_law_628 rfl (lv_at hl 5 rfl) ?_
  refine lv_iload hx hb dL_law_629 (lv_at hl 1 rfl) ?_
  refine lv_iconst (v := 3) hx hb dL_law_631 (by decide) ?_
  refine lv_iadd hx hb dL_law_632 ?_
  refine W.eq (g2 := F0 m 633 ls [.int 3, .ref b, .int 6, .int (xs 1), .ref a1]) rfl ?_
  refine va_sld hx hb hXs hbl hbA hS (i := 3) (show ¬ ((3 : Int32) < 0 ∨ 6 ≤ (3 : Int32).toNatClampNeg) by decide) dL_law_633 ?_
  refine W.eq (g2 := F0 m 634 ls [.int (xs 3), .int 6, .int (xs 1), .ref a1]) rfl ?_
  obtain ⟨hPc, hDc, hFc⟩ := xcut (wc := [(a1, .inr (5, [v21, .ref a13, v22, .ref a15, v23, v24, v25, v26, v27, v28, v29, v30, v31, v32, v33, v34, v35, v36, v37, v38, v39, .ref a14, v40, v41, .ref a10, .ref a11, v42, v43, v44, v45, v46, v47])), (a10, .inl (cT 5, 8, .inr (.inr (.inr (.inr f62))))), (a11, .inl (cT 1, 8, .inl f65)), (a12, .inl (cT 0, 4096, .inl f67)), (a13, .inl (cT 4, 1024, .inr (.inr (.inr (.inr f72))))), (a14, .inl (cT 0, 1024, .inl f75)), (a15, .inl (cT 0, 4096, .inl f76))]) hP hD hS hA [0, 2, 3, 4, 5, 6, 7] rfl rfl (by decide)
  refine va_callv (va_runV (C := "ValueBenchModel") (As := [.int (xs 1), .int 6, .int (xs 3)]) (rest := []) ⟨hx, hb, hml, hown, htx⟩ (cM_one0_15 l hl9 D cT aK aV H.size a1 a10 a11 a12 a13 a14 a15 (xs 1) (xs 3) v21 v22 v23 v24 v25 v26 v27 v28 v29 v30 v31 v32 v33 v34 v35 v36 v37 v38 v39 v40 v41 v42 v43 v44 v45 v46 v47 f62 f65 f67 f72 f75 f76 hto1 hto2 hto3 hto4 ha1 ha2 ha3 ha4 (by first | rfl | exact h52 | exact h59 | exact h63 | exact h64 | exact h66 | exact h68 | exact h69 | exact h70 | exact h71 | exact h73 | exact h74) (by first | rfl | exact h52 | exact h59 | exact h63 | exact h64 | exact h66 | exact h68 | exact h69 | exact h70 | exact h71 | exact h73 | exact h74) (by first | rfl | exact h52 | exact h59 | exact h63 | exact h64 | exact h66 | exact h68 | exact h69 | exact h70 | exact h71 | exact h73 | exact h74) (by first | rfl | exact h52 | exact h59 | exact h63 | exact h64 | exact h66 | exact h68 | exact h69 | exact h70 | exact h71 | exact h73 | exact h74) (by first | rfl | exact h52 | exact h59 | exact h63 | exact h64 | exact h66 | exact h68 | exact h69 | exact h70 | exact h71 | exact h73 | exact h74) (by first | rfl | exact h52 | exact h59 | exact h63 | exact h64 | exact h66 | exact h68 | exact h69 | exact h70 | exact h71 | exact h73 | exact h74) (by first | rfl | exact h52 | exact h59 | exact h63 | exact h64 | exact h66 | exact h68 | exact h69 | exact h70 | exact h71 | exact h73 | exact h74) (by first | rfl | exact h52 | exact h59 | exact h63 | exact h64 | exact h66 | exact h68 | exact h69 | exact h70 | exact h71 | exact h73 | exact h74) (by first | rfl | exact h52 | exact h59 | exact h63 | exact h64 | exact h66 | exact h68 | exact h69 | exact h70 | exact h71 | exact h73 | exact h74)) ⟨callB_of 3 htx (xw_goodC kw_7_123) rfl rfl rfl (htx _ kw_1_5) (htx _ kw_7_120) ⟨by decide, by decide, by decide +kernel⟩ ⟨Nat.le_of_ble_eq_true rfl, Nat.le_of_ble_eq_true rfl⟩, (htx _ kw_7_121), (htx _ kw_7_122)⟩ ⟨xPre_blind, va_recv hK hP (ci := 5) rfl (q0 := 0) rfl, (fun U hU hW => ⟨rfl, xPre_of hZ hS hFc hPc hDc hK U hU hW⟩)⟩ rfl rfl hl.1 rfl (lv_room (Nat.le_of_ble_eq_true rfl)) dL_law_634 ⟨Nat.le_of_ble_eq_true rfl, Nat.le_of_ble_eq_true rfl⟩) hS (fun q _ h => hFc q h) hFc (fun u9 t H1 locs ht hvm hr9 hB hz1 hk1 hS => ?_)
  obtain ⟨q8, q9, y10, y11, y12, y13, y14, y15, hP1, hK1, hD1⟩ := hB
  rw [ht] at hP1
  obtain ⟨hP, hD⟩ := xjoin (W := [(a2, .inl (cT 2, 1, .inr (.inl f48))), (a0, .inr (0, [v16, v17, .ref a5, .ref a4, .ref b18, .ref b53, v19, v20])), (a3, .inr (2, [.ref a9, .int 5, .int 0])), (a4, .inl (cT 3, 8, .inr (.inr (.inr (.inr (va_up f51 (xs 1).toNatClampNeg (some a3))))))), (a5, .inr (1, [.ref a8, .int 6, .int 0])), (a6, .inr (2, [.ref a7, .int 1, v57])), (a7, .inl (cT 2, 4096, .inr (.inl f58))), (a8, .inl (cT 0, 4096, .inl (upd (upd (upd (upd (upd (upd (upd (upd (upd (upd f60 0 110) 1 117) 2 108) 3 108) 0 (vp_nar .byte y2)) 1 (vp_nar .byte y3)) 2 (vp_nar .byte y4)) 3 (vp_nar .byte y5)) 4 (vp_nar .byte y6)) 5 (vp_nar .byte y7)))), (a9, .inl (cT 2, 4096, .inr (.inl (vp_updL (vp_updL (vp_updL (vp_updL (vp_updL (vp_updL f61 0 0) 1 110) 2 117) 3 108) 4 108) 0 2621476)))), (a1, .inr (5, [.int 0, .ref a13, .int 2, .ref a15, .int 4, v24, v25, .int 0, v27, .int 0, v29, v30, .int 0, v32, v33, .ref a12, .int 4, .int 4, .int 0, .int 100, v39, .ref a14, .int 6, .int 4096, .ref a10, .ref a11, v42, v43, v44, v45, v46, v47])), (a10, .inl (cT 5, 8, .inr (.inr (.inr (.inr f62))))), (a11, .inl (cT 1, 8, .inl (upd f65 (xs 1).toNatClampNeg 6))), (a12, .inl (cT 0, 4096, .inl (upd (upd (upd (upd (upd (upd f67 0 (vp_nar .byte (vp_nar .byte y10))) 1 (vp_nar .byte (vp_nar .byte y11))) 2 (vp_nar .byte (vp_nar .byte y12))) 3 (vp_nar .byte (vp_nar .byte y13))) 4 (vp_nar .byte (vp_nar .byte y14))) 5 (vp_nar .byte (vp_nar .byte y15))))), (a13, .inl (cT 4, 1024, .inr (.inr (.inr (.inr (va_up (va_up f72 0 (some q8)) 1 (some q9))))))), (a14, .inl (cT 0, 1024, .inl (upd (upd (upd (upd (upd (upd (upd (upd (upd (upd f75 0 110) 1 117) 2 108) 3 108) 0 (vp_nar .byte y10)) 1 (vp_nar .byte y11)) 2 (vp_nar .byte y12)) 3 (vp_nar .byte y13)) 4 (vp_nar .byte y14)) 5 (vp_nar .byte y15)))), (a15, .inl (cT 0, 4096, .inl (upd (upd (upd (upd f76 0 110) 1 117) 2 108) 3 108))), (q8, .inr (6, [.int 0, .long 0, .int 0, .int 0, .int 0, .int 1])), (q9, .inr (6, [.int 4, .long 0, .int 0, .int 4, .int 0, .int 5]))]) hP hD [0, 2, 3, 4, 5, 6, 7] [1, 8, 9, 10, 11, 12, 13, 14, 15] 9 rfl rfl (by decide) (by decide) hk1 hFc hP1 hD1
  generalize H1 = H at hP hS ⊢
  refine lv_aload_n hx hb dL_law_637 rfl (lv_at hl 3 rfl) ?_
  obtain ⟨hPc, hDc, hFc⟩ := xcut (wc := [(a1, .inr (5, [.int 0, .ref a13, .int 2, .ref a15, .int 4, v24, v25, .int 0, v27, .int 0, v29, v30, .int 0, v32, v33, .ref a12, .int 4, .int 4, .int 0, .int 100, v39, .ref a14, .int 6, .int 4096, .ref a10, .ref a11, v42, v43, v44, v45, v46, v47]))]) hP hD hS hA [9] rfl rfl (by decide)
  refine va_calli (va_runV (C := "ValueBenchModel") (As := []) (rest := []) ⟨hx, hb, hml, hown, htx⟩ (cM_thrown_0 l hl9 D cT aK aV H.size a1 (.ref a13) (.int 2) (.ref a15) (.int 4) v24 v25 (.int 0) v27 (.int 0) v29 v30 (.int 0) v32 v33 (.ref a12) (.int 4) (.int 4) (.int 0) (.int 100) v39 (.ref a14) (.int 6) (.int 4096) (.ref a10) (.ref a11) v42 v43 v44 v45 v46 v47) ⟨callB_of 0 htx (xw_goodC kw_5_187) rfl rfl rfl (htx _ kw_1_5) (htx _ kw_5_184) ⟨by decide, by decide, by decide +kernel⟩ ⟨Nat.le_of_ble_eq_true rfl, Nat.le_of_ble_eq_true rfl⟩, (htx _ kw_5_185), (htx _ kw_5_186)⟩ ⟨xPre_blind, va_recv hK hP (ci := 5) rfl (q0 := 9) rfl, (fun U hU hW => ⟨rfl, xPre_of hZ hS hFc hPc hDc hK U hU hW⟩)⟩ rfl rfl hl.1 rfl (lv_room (Nat.le_of_ble_eq_true rfl)) dL_law_638 ⟨Nat.le_of_ble_eq_true rfl, Nat.le_of_ble_eq_true rfl⟩) hS (fun q _ h => hFc q h) hFc (fun r16 u9 t H1 locs ht hvm hr9 hB hz1 hk1 hS => ?_)
  obtain ⟨hP1, hK1, hD1⟩ := hB
  rw [ht] at hP1
  obtain ⟨hP, hD⟩ := xjoin (W := [(a2, .inl (cT 2, 1, .inr (.inl f48))), (a0, .inr (0, [v16, v17, .ref a5, .ref a4, .ref b18, .ref b53, v19, v20])), (a3, .inr (2, [.ref a9, .int 5, .int 0])), (a4, .inl (cT 3, 8, .inr (.inr (.inr (.inr (va_up f51 (xs 1).toNatClampNeg (some a3))))))), (a5, .inr (1, [.ref a8, .int 6, .int 0])), (a6, .inr (2, [.ref a7, .int 1, v57])), (a7, .inl (cT 2, 4096, .inr (.inl f58))), (a8, .inl (cT 0, 4096, .inl (upd (upd (upd (upd (upd (upd (upd (upd (upd (upd f60 0 110) 1 117) 2 108) 3 108) 0 (vp_nar .byte y2)) 1 (vp_nar .byte y3)) 2 (vp_nar .byte y4)) 3 (vp_nar .byte y5)) 4 (vp_nar .byte y6)) 5 (vp_nar .byte y7)))), (a9, .inl (cT 2, 4096, .inr (.inl (vp_updL (vp_updL (vp_updL (vp_updL (vp_updL (vp_updL f61 0 0) 1 110) 2 117) 3 108) 4 108) 0 2621476)))), (a10, .inl (cT 5, 8, .inr (.inr (.inr (.inr f62))))), (a11, .inl (cT 1, 8, .inl (upd f65 (xs 1).toNatClampNeg 6))), (a12, .inl (cT 0, 4096, .inl (upd (upd (upd (upd (upd (upd f67 0 (vp_nar .byte (vp_nar .byte y10))) 1 (vp_nar .byte (vp_nar .byte y11))) 2 (vp_nar .byte (vp_nar .byte y12))) 3 (vp_nar .byte (vp_nar .byte y13))) 4 (vp_nar .byte (vp_nar .byte y14))) 5 (vp_nar .byte (vp_nar .byte y15))))), (a13, .inl (cT 4, 1024, .inr (.inr (.inr (.inr (va_up (va_up f72 0 (some q8)) 1 (some q9))))))), (a14, .inl (cT 0, 1024, .inl (upd (upd (upd (upd (upd (upd (upd (upd (upd (upd f75 0 110) 1 117) 2 108) 3 108) 0 (vp_nar .byte y10)) 1 (vp_nar .byte y11)) 2 (vp_nar .byte y12)) 3 (vp_nar .byte y13)) 4 (vp_nar .byte y14)) 5 (vp_nar .byte y15)))), (a15, .inl (cT 0, 4096, .inl (upd (upd (upd (upd f76 0 110) 1 117) 2 108) 3 108))), (q8, .inr (6, [.int 0, .long 0, .int 0, .int 0, .int 0, .int 1])), (q9, .inr (6, [.int 4, .long 0, .int 0, .int 4, .int 0, .int 5])), (a1, .inr (5, [.int 0, .ref a13, .int 2, .ref a15, .int 4, v24, v25, .int 0, v27, .int 0, v29, v30, .int 0, v32, v33, .ref a12, .int 4, .int 4, .int 0, .int 100, v39, .ref a14, .int 6, .int 4096, .ref a10, .ref a11, v42, v43, v44, v45, v46, v47]))]) hP hD [9] [0, 1, 2, 3, 4, 5, 6, 7, 8, 10, 11, 12, 13, 14, 15, 16, 17] 17 rfl rfl (by decide) (by decide) hk1 hFc hP1 hD1
  generalize H1 = H at hP hS ⊢
  rw [hr9]
  refine W.eq (g2 := F0 m 641 ls [.int 0]) rfl ?_
  refine lv_iload hx hb dL_law_641 (lv_at hl 0 rfl) ?_
  refine lv_icmp_eq (tgt := 648) hx hb dL_law_643 (by decide) (fun _ => ?_) (fun h => ((by revert h; decide : False)).elim)
  refine lv_goto (tgt := 906) hx hb dL_law_648 (by decide) ?_
  refine lv_iinc (v := 6) (lv' := [(4, .int 6), (5, .int 0), (3, .ref a2), (2, .ref a1), (1, .ref a0), (0, .ref b)]) hx hb dL_law_906 hl (k := 1) rfl (by decide) (by decide) rfl (fun ls hl => ?_)
  refine lv_goto (tgt := 23) hx hb dL_law_909 (by decide) ?_
  refine lv_iload hx hb dL_law_23 (lv_at hl 0 rfl) ?_
  refine lv_aload_n hx hb dL_law_25 rfl (lv_at hl 5 rfl) ?_
  refine va_slen hx hb hXs hbl hbA hS dL_law_26 ?_
  refine W.eq (g2 := F0 m 27 ls [.int 6, .int 6]) rfl ?_
  refine lv_bipush (v := 6) hx hb dL_law_27 (by decide) ?_
  refine lv_isub hx hb dL_law_29 ?_
  refine W.eq (g2 := F0 m 30 ls [.int 0, .int 6]) rfl ?_
  refine lv_icmp_gt (tgt := 912) hx hb dL_law_30 (by decide) (fun _ => ?_) (fun h => ((by revert h; decide : False)).elim)
  refine lv_iconst (v := 1) hx hb dL_law_912 (by decide) ?_
  exact va_forget (fun q h => hA2 _ (hS.2.2 q h)) (W.widen (k := 600002) (n := 7302232) (Nat.le_of_ble_eq_true rfl) (Nat.le_of_ble_eq_true rfl) (lw_ret hx hb hr hlocks dL_law_913))
set_option maxHeartbeats 400000000 in
set_option maxRecDepth 100000 in
theorem lf_one6_p0 {p : Program} {e : Env} {s : State} {m : MethodId} {below : List Frame} {meth : Method} {c : Code} (l : Launch) (hl9 : l.stackTraces = false) (D : va_G) (cT : Nat → ClassId) (aK aV : Nat → Nat) {A : Nat → Prop} {b : Nat} {xs : Nat → Int32} (C : xLw p s m meth c b D cT aK aV A) {H : Heap} {locs : List Loc} {ls : Array Slot} (a0 : Nat) (a1 : Nat) (a2 : Nat) (a3 : Nat) (a4 : Nat) (a5 : Nat) (a6 : Nat) (a7 : Nat) (a8 : Nat) (a9 : Nat) (a10 : Nat) (a11 : Nat) (a12 : Nat) (a13 : Nat) (a14 : Nat) (a15 : Nat) (a16 : Nat) (v17 : Value) (v18 : Value) (b19 : Nat) (v20 : Value) (v21 : Value) (v22 : Value) (v23 : Value) (v24 : Value) (v25 : Value) (v26 : Value) (v27 : Value) (v28 : Value) (v29 : Value) (v30 : Value) (v31 : Value) (v32 : Value) (v33 : Value) (v34 : Value) (v35 : Value) (v36 : Value) (v37 : Value) (v38 : Value) (v39 : Value) (v40 : Value) (v41 : Value) (v42 : Value) (v43 : Value) (v44 : Value) (v45 : Value) (v46 : Value) (v47 : Value) (v48 : Value) (f49 : Nat → Int64) (v50 : Value) (v51 : Value) (f52 : Nat → Option Nat) (b54 : Nat) (v56 : Value) (v57 : Value) (v58 : Value) (f59 : Nat → Int64) (f61 : Nat → Int32) (f62 : Nat → Int64) (f63 : Nat → Option Nat) (f66 : Nat → Int32) (f68 : Nat → Int32) (f73 : Nat → Option Nat) (f76 : Nat → Int32) (f77 : Nat → Int32) (f78 : Nat → Int32) (h53 : f52 (xs 3).toNatClampNeg = some a6) (h55 : f52 (xs 1).toNatClampNeg = some b54) (h60 : f59 0 = 0) (h64 : f63 (xs 3).toNatClampNeg = some a12) (h65 : f63 (xs 1).toNatClampNeg = some a16) (h67 : f66 (xs 3).toNatClampNeg = 4) (h69 : f68 0 = 110) (h70 : f68 1 = 117) (h71 : f68 2 = 108) (h72 : f68 3 = 108) (h74 : f73 0 = none) (h75 : f73 1 = none) (hto1 : ¬ (xs 1) < 0) (hto2 : ¬ 7 < (xs 1)) (hto3 : (xs 1) ≤ 7) (hto4 : vp_in (xs 1) 8) (hf : xs 2 = 6) (ha1 : ¬ (xs 3) < 0) (ha2 : ¬ 7 < (xs 3)) (ha3 : (xs 3) ≤ 7) (ha4 : vp_in (xs 3) 8) (hXs : va_X b 6 xs s s.heap) (hP : va_P D xcl [(a0, .inr (0, [v17, v18, .ref a5, .ref a4, .ref b19, .ref a3, v20, v21])), (a1, .inr (5, [v22, .ref a13, v23, .ref a15, v24, v25, v26, v27, v28, v29, v30, v31, v32, v33, v34, v35, v36, v37, v38, v39, v40, .ref a14, v41, v42, .ref a10, .ref a11, v43, v44, v45, v46, v47, v48])), (a2, .inl (cT 2, 1, .inr (.inl f49))), (a3, .inr (2, [.ref a9, v50, v51])), (a4, .inl (cT 3, 8, .inr (.inr (.inr (.inr f52))))), (a5, .inr (1, [.ref a8, v56, v57])), (a6, .inr (2, [.ref a7, .int 1, v58])), (a7, .inl (cT 2, 4096, .inr (.inl f59))), (a8, .inl (cT 0, 4096, .inl f61)), (a9, .inl (cT 2, 4096, .inr (.inl f62))), (a10, .inl (cT 5, 8, .inr (.inr (.inr (.inr f63))))), (a11, .inl (cT 1, 8, .inl f66)), (a12, .inl (cT 0, 4096, .inl f68)), (a13, .inl (cT 4, 1024, .inr (.inr (.inr (.inr f73))))), (a14, .inl (cT 0, 1024, .inl f76)), (a15, .inl (cT 0, 4096, .inl f77)), (a16, .inl (cT 0, 4096, .inl f78))] H) (hD : va_D A [(a0, .inr (0, [v17, v18, .ref a5, .ref a4, .ref b19, .ref a3, v20, v21])), (a1, .inr (5, [v22, .ref a13, v23, .ref a15, v24, v25, v26, v27, v28, v29, v30, v31, v32, v33, v34, v35, v36, v37, v38, v39, v40, .ref a14, v41, v42, .ref a10, .ref a11, v43, v44, v45, v46, v47, v48])), (a2, .inl (cT 2, 1, .inr (.inl f49))), (a3, .inr (2, [.ref a9, v50, v51])), (a4, .inl (cT 3, 8, .inr (.inr (.inr (.inr f52))))), (a5, .inr (1, [.ref a8, v56, v57])), (a6, .inr (2, [.ref a7, .int 1, v58])), (a7, .inl (cT 2, 4096, .inr (.inl f59))), (a8, .inl (cT 0, 4096, .inl f61)), (a9, .inl (cT 2, 4096, .inr (.inl f62))), (a10, .inl (cT 5, 8, .inr (.inr (.inr (.inr f63))))), (a11, .inl (cT 1, 8, .inl f66)), (a12, .inl (cT 0, 4096, .inl f68)), (a13, .inl (cT 4, 1024, .inr (.inr (.inr (.inr f73))))), (a14, .inl (cT 0, 1024, .inl f76)), (a15, .inl (cT 0, 4096, .inl f77)), (a16, .inl (cT 0, 4096, .inl f78))]) (hS : va_S A s.heap H locs) (hl : lv_has ls 8 [(4, .int 0), (3, .ref a2), (2, .ref a1), (1, .ref a0), (0, .ref b)]) : W p l e room_1 s m #[Value.ref b] below meth c H locs 54 107242 (lw_Z below #[Value.ref b] s) (F0 m 591 ls []) := by
  obtain ⟨hx, hb, hr, hml, hown, htx, hbl, hbA, hlocks, hK, hZ, hA, hA2⟩ := C
  refine lv_aload_n hx hb dL_law_591 rfl (lv_at hl 3 rfl) ?_
  refine lv_aload_n hx hb dL_law_592 rfl (lv_at hl 4 rfl) ?_
  refine lv_iload hx hb dL_law_593 (lv_at hl 0 rfl) ?_
  refine lv_iconst (v := 1) hx hb dL_law_595 (by decide) ?_
  refine lv_iadd hx hb dL_law_596 ?_
  refine W.eq (g2 := F0 m 597 ls [.int 1, .ref b, .ref a0]) rfl ?_
  refine va_sld hx hb hXs hbl hbA hS (i := 1) (show ¬ ((1 : Int32) < 0 ∨ 6 ≤ (1 : Int32).toNatClampNeg) by decide) dL_law_597 ?_
  refine W.eq (g2 := F0 m 598 ls [.int (xs 1), .ref a0]) rfl ?_
  refine lv_aload_n hx hb dL_law_598 rfl (lv_at hl 4 rfl) ?_
  refine lv_iload hx hb dL_law_599 (lv_at hl 0 rfl) ?_
  refine lv_iconst (v := 2) hx hb dL_law_601 (by decide) ?_
  refine lv_iadd hx hb dL_law_602 ?_
  refine W.eq (g2 := F0 m 603 ls [.int 2, .ref b, .int (xs 1), .ref a0]) rfl ?_
  refine va_sld hx hb hXs hbl hbA hS (i := 2) (show ¬ ((2 : Int32) < 0 ∨ 6 ≤ (2 : Int32).toNatClampNeg) by decide) dL_law_603 ?_
  refine W.eq (g2 := F0 m 604 ls [.int (xs 2), .int (xs 1), .ref a0]) rfl ?_
  rw [hf]
  refine W.eq (g2 := F0 m 604 ls [.int 6, .int (xs 1), .ref a0]) rfl ?_
  refine lv_aload_n hx hb dL_law_604 rfl (lv_at hl 4 rfl) ?_
  refine lv_iload hx hb dL_law_605 (lv_at hl 0 rfl) ?_
  refine lv_iconst (v := 3) hx hb dL_law_607 (by decide) ?_
  refine lv_iadd hx hb dL_law_608 ?_
  refine W.eq (g2 := F0 m 609 ls [.int 3, .ref b, .int 6, .int (xs 1), .ref a0]) rfl ?_
  refine va_sld hx hb hXs hbl hbA hS (i := 3) (show ¬ ((3 : Int32) < 0 ∨ 6 ≤ (3 : Int32).toNatClampNeg) by decide) dL_law_609 ?_
  refine W.eq (g2 := F0 m 610 ls [.int (xs 3), .int 6, .int (xs 1), .ref a0]) rfl ?_
  obtain ⟨hPc, hDc, hFc⟩ := xcut (wc := [(a0, .inr (0, [v17, v18, .ref a5, .ref a4, .ref b19, .ref a3, v20, v21])), (a3, .inr (2, [.ref a9, v50, v51])), (a4, .inl (cT 3, 8, .inr (.inr (.inr (.inr f52))))), (a5, .inr (1, [.ref a8, v56, v57])), (a6, .inr (2, [.ref a7, .int 1, v58])), (a7, .inl (cT 2, 4096, .inr (.inl f59))), (a8, .inl (cT 0, 4096, .inl f61)), (a9, .inl (cT 2, 4096, .inr (.inl f62)))]) hP hD hS hA [0, 3, 4, 5, 6, 7, 8, 9] rfl rfl (by decide)
  refine va_calli (vx_runSW (As := [.ref a0, .int (xs 1), .int 6, .int (xs 3)]) (rest := []) ⟨hx, hb, hml, hown, htx⟩ (cL_one_12 l hl9 D cT aK aV H.size a0 a3 a4 a5 a6 a7 a8 a9 (xs 1) (xs 3) v17 v18 b19 v20 v21 v50 v51 f52 b54 v56 v57 v58 f59 f61 f62 hto1 hto2 hto3 hto4 ha1 ha2 ha3 ha4 (by first | rfl | exact h53 | exact h55 | exact h60 | exact h64 | exact h65 | exact h67 | exact h69 | exact h70 | exact h71 | exact h72 | exact h74 | exact h75) (by first | rfl | exact h53 | exact h55 | exact h60 | exact h64 | exact h65 | exact h67 | exact h69 | exact h70 | exact h71 | exact h72 | exact h74 | exact h75) (by first | rfl | exact h53 | exact h55 | exact h60 | exact h64 | exact h65 | exact h67 | exact h69 | exact h70 | exact h71 | exact h72 | exact h74 | exact h75)) (xcSW 4 htx (xw_goodC kw_4_21) rfl rfl rfl (htx _ kw_1_0) (htx _ kw_4_19) ⟨by decide, by decide, by decide +kernel⟩ ⟨Nat.le_of_ble_eq_true rfl, Nat.le_of_ble_eq_true rfl⟩ (htx _ kw_4_20)) ⟨xPre_blind, (fun U hU hW => ⟨rfl, xPre_of hZ hS hFc hPc hDc hK U hU hW⟩)⟩ rfl rfl hl.1 rfl (lv_room (Nat.le_of_ble_eq_true rfl)) dL_law_610 ⟨Nat.le_of_ble_eq_true rfl, Nat.le_of_ble_eq_true rfl⟩) hS (fun q _ h => hFc q h) hFc (fun r1 u9 t H1 locs ht hvm hr9 hB hz1 hk1 hS => ?_)
  obtain ⟨y2, y3, y4, y5, y6, y7, hP1, hK1, hD1⟩ := hB
  rw [ht] at hP1
  obtain ⟨hP, hD⟩ := xjoin (W := [(a1, .inr (5, [v22, .ref a13, v23, .ref a15, v24, v25, v26, v27, v28, v29, v30, v31, v32, v33, v34, v35, v36, v37, v38, v39, v40, .ref a14, v41, v42, .ref a10, .ref a11, v43, v44, v45, v46, v47, v48])), (a2, .inl (cT 2, 1, .inr (.inl f49))), (a10, .inl (cT 5, 8, .inr (.inr (.inr (.inr f63))))), (a11, .inl (cT 1, 8, .inl f66)), (a12, .inl (cT 0, 4096, .inl f68)), (a13, .inl (cT 4, 1024, .inr (.inr (.inr (.inr f73))))), (a14, .inl (cT 0, 1024, .inl f76)), (a15, .inl (cT 0, 4096, .inl f77)), (a16, .inl (cT 0, 4096, .inl f78)), (a0, .inr (0, [v17, v18, .ref a5, .ref a4, .ref b19, .ref b54, v20, v21])), (a3, .inr (2, [.ref a9, .int 5, .int 0])), (a4, .inl (cT 3, 8, .inr (.inr (.inr (.inr (va_up f52 (xs 1).toNatClampNeg (some a3))))))), (a5, .inr (1, [.ref a8, .int 6, .int 0])), (a6, .inr (2, [.ref a7, .int 1, v58])), (a7, .inl (cT 2, 4096, .inr (.inl f59))), (a8, .inl (cT 0, 4096, .inl (upd (upd (upd (upd (upd (upd (upd (upd (upd (upd f61 0 110) 1 117) 2 108) 3 108) 0 (vp_nar .byte y2)) 1 (vp_nar .byte y3)) 2 (vp_nar .byte y4)) 3 (vp_nar .byte y5)) 4 (vp_nar .byte y6)) 5 (vp_nar .byte y7)))), (a9, .inl (cT 2, 4096, .inr (.inl (vp_updL (vp_updL (vp_updL (vp_updL (vp_updL (vp_updL f62 0 0) 1 110) 2 117) 3 108) 4 108) 0 2621476))))]) hP hD [0, 3, 4, 5, 6, 7, 8, 9] [1, 2, 10, 11, 12, 13, 14, 15, 16] 9 rfl rfl (by decide) (by decide) hk1 hFc hP1 hD1
  generalize H1 = H at hP hS ⊢
  rw [hr9]
  refine W.eq (g2 := F0 m 613 ls [.int 0]) rfl ?_
  refine lv_istore (lv' := [(5, .int 0), (4, .int 0), (3, .ref a2), (2, .ref a1), (1, .ref a0), (0, .ref b)]) hx hb dL_law_613 hl (by decide) rfl (fun ls hl => ?_)
  refine lv_aload_n hx hb dL_law_615 rfl (lv_at hl 3 rfl) ?_
  refine lv_aload_n hx hb dL_law_616 rfl (lv_at hl 5 rfl) ?_
  refine lv_iload hx hb dL_law_617 (lv_at hl 1 rfl) ?_
  refine lv_iconst (v := 1) hx hb dL_law_619 (by decide) ?_
  refine lv_iadd hx hb dL_law_620 ?_
  refine W.eq (g2 := F0 m 621 ls [.int 1, .ref b, .ref a1]) rfl ?_
  refine va_sld hx hb hXs hbl hbA hS (i := 1) (show ¬ ((1 : Int32) < 0 ∨ 6 ≤ (1 : Int32).toNatClampNeg) by decide) dL_law_621 ?_
  refine W.eq (g2 := F0 m 622 ls [.int (xs 1), .ref a1]) rfl ?_
  refine lv_aload_n hx hb dL_law_622 rfl (lv_at hl 5 rfl) ?_
  refine lv_iload hx hb dL_law_623 (lv_at hl 1 rfl) ?_
  refine lv_iconst (v := 2) hx hb dL_law_625 (by decide) ?_
  refine lv_iadd hx hb dL_law_626 ?_
  refine W.eq (g2 := F0 m 627 ls [.int 2, .ref b, .int (xs 1), .ref a1]) rfl ?_
  refine va_sld hx hb hXs hbl hbA hS (i := 2) (show ¬ ((2 : Int32) < 0 ∨ 6 ≤ (2 : Int32).toNatClampNeg) by decide) dL_law_627 ?_
  refine W.eq (g2 := F0 m 628 ls [.int (xs 2), .int (xs 1), .ref a1]) rfl ?_
  rw [hf]
  refine W.eq (g2 := F0 m 628 ls [.int 6, .int (xs 1), .ref a1]) rfl ?_
  refine lv_aload_n hx hb dL_law_628 rfl (lv_at hl 5 rfl) ?_
  refine lv_iload hx hb dL_law_629 (lv_at hl 1 rfl) ?_
  refine lv_iconst (v := 3) hx hb dL_law_631 (by decide) ?_
  refine lv_iadd hx hb dL_law_632 ?_
  refine W.eq (g2 := F0 m 633 ls [.int 3, .ref b, .int 6, .int (xs 1), .ref a1]) rfl ?_
  refine va_sld hx hb hXs hbl hbA hS (i := 3) (show ¬ ((3 : Int32) < 0 ∨ 6 ≤ (3 : Int32).toNatClampNeg) by decide) dL_law_633 ?_
  refine W.eq (g2 := F0 m 634 ls [.int (xs 3), .int 6, .int (xs 1), .ref a1]) rfl ?_
  obtain ⟨hPc, hDc, hFc⟩ := xcut (wc := [(a1, .inr (5, [v22, .ref a13, v23, .ref a15, v24, v25, v26, v27, v28, v29, v30, v31, v32, v33, v34, v35, v36, v37, v38, v39, v40, .ref a14, v41, v42, .ref a10, .ref a11, v43, v44, v45, v46, v47, v48])), (a10, .inl (cT 5, 8, .inr (.inr (.inr (.inr f63))))), (a11, .inl (cT 1, 8, .inl f66)), (a12, .inl (cT 0, 4096, .inl f68)), (a13, .inl (cT 4, 1024, .inr (.inr (.inr (.inr f73))))), (a14, .inl (cT 0, 1024, .inl f76)), (a15, .inl (cT 0, 4096, .inl f77)), (a16, .inl (cT 0, 4096, .inl f78))]) hP hD hS hA [0, 2, 3, 4, 5, 6, 7, 8] rfl rfl (by decide)
  refine va_callv (va_runV (C := "ValueBenchModel") (As := [.int (xs 1), .int 6, .int (xs 3)]) (rest := []) ⟨hx, hb, hml, hown, htx⟩ (cM_one0_16 l hl9 D cT aK aV H.size a1 a10 a11 a12 a13 a14 a15 a16 (xs 1) (xs 3) v22 v23 v24 v25 v26 v27 v28 v29 v30 v31 v32 v33 v34 v35 v36 v37 v38 v39 v40 v41 v42 v43 v44 v45 v46 v47 v48 f63 f66 f68 f73 f76 f77 f78 hto1 hto2 hto3 hto4 ha1 ha2 ha3 ha4 (by first | rfl | exact h53 | exact h60 | exact h64 | exact h65 | exact h67 | exact h69 | exact h70 | exact h71 | exact h72 | exact h74 | exact h75) (by first | rfl | exact h53 | exact h60 | exact h64 | exact h65 | exact h67 | exact h69 | exact h70 | exact h71 | exact h72 | exact h74 | exact h75) (by first | rfl | exact h53 | exact h60 | exact h64 | exact h65 | exact h67 | exact h69 | exact h70 | exact h71 | exact h72 | exact h74 | exact h75) (by first | rfl | exact h53 | exact h60 | exact h64 | exact h65 | exact h67 | exact h69 | exact h70 | exact h71 | exact h72 | exact h74 | exact h75) (by first | rfl | exact h53 | exact h60 | exact h64 | exact h65 | exact h67 | exact h69 | exact h70 | exact h71 | exact h72 | exact h74 | exact h75) (by first | rfl | exact h53 | exact h60 | exact h64 | exact h65 | exact h67 | exact h69 | exact h70 | exact h71 | exact h72 | exact h74 | exact h75) (by first | rfl | exact h53 | exact h60 | exact h64 | exact h65 | exact h67 | exact h69 | exact h70 | exact h71 | exact h72 | exact h74 | exact h75) (by first | rfl | exact h53 | exact h60 | exact h64 | exact h65 | exact h67 | exact h69 | exact h70 | exact h71 | exact h72 | exact h74 | exact h75) (by first | rfl | exact h53 | exact h60 | exact h64 | exact h65 | exact h67 | exact h69 | exact h70 | exact h71 | exact h72 | exact h74 | exact h75)) ⟨callB_of 3 htx (xw_goodC kw_7_123) rfl rfl rfl (htx _ kw_1_5) (htx _ kw_7_120) ⟨by decide, by decide, by decide +kernel⟩ ⟨Nat.le_of_ble_eq_true rfl, Nat.le_of_ble_eq_true rfl⟩, (htx _ kw_7_121), (htx _ kw_7_122)⟩ ⟨xPre_blind, va_recv hK hP (ci := 5) rfl (q0 := 0) rfl, (fun U hU hW => ⟨rfl, xPre_of hZ hS hFc hPc hDc hK U hU hW⟩)⟩ rfl rfl hl.1 rfl (lv_room (Nat.le_of_ble_eq_true rfl)) dL_law_634 ⟨Nat.le_of_ble_eq_true rfl, Nat.le_of_ble_eq_true rfl⟩) hS (fun q _ h => hFc q h) hFc (fun u9 t H1 locs ht hvm hr9 hB hz1 hk1 hS => ?_)
  obtain ⟨q8, q9, y10, y11, y12, y13, y14, y15, hP1, hK1, hD1⟩ := hB
  rw [ht] at hP1
  obtain ⟨hP, hD⟩ := xjoin (W := [(a2, .inl (cT 2, 1, .inr (.inl f49))), (a0, .inr (0, [v17, v18, .ref a5, .ref a4, .ref b19, .ref b54, v20, v21])), (a3, .inr (2, [.ref a9, .int 5, .int 0])), (a4, .inl (cT 3, 8, .inr (.inr (.inr (.inr (va_up f52 (xs 1).toNatClampNeg (some a3))))))), (a5, .inr (1, [.ref a8, .int 6, .int 0])), (a6, .inr (2, [.ref a7, .int 1, v58])), (a7, .inl (cT 2, 4096, .inr (.inl f59))), (a8, .inl (cT 0, 4096, .inl (upd (upd (upd (upd (upd (upd (upd (upd (upd (upd f61 0 110) 1 117) 2 108) 3 108) 0 (vp_nar .byte y2)) 1 (vp_nar .byte y3)) 2 (vp_nar .byte y4)) 3 (vp_nar .byte y5)) 4 (vp_nar .byte y6)) 5 (vp_nar .byte y7)))), (a9, .inl (cT 2, 4096, .inr (.inl (vp_updL (vp_updL (vp_updL (vp_updL (vp_updL (vp_updL f62 0 0) 1 110) 2 117) 3 108) 4 108) 0 2621476)))), (a1, .inr (5, [.int 0, .ref a13, .int 2, .ref a15, .int 4, v25, v26, .int 0, v28, .int 0, v30, v31, .int 0, v33, v34, .ref a12, .int 4, .int 4, .int 0, .int 100, v40, .ref a14, .int 6, .int 4096, .ref a10, .ref a11, v43, v44, v45, v46, v47, v48])), (a10, .inl (cT 5, 8, .inr (.inr (.inr (.inr f63))))), (a11, .inl (cT 1, 8, .inl (upd f66 (xs 1).toNatClampNeg 6))), (a12, .inl (cT 0, 4096, .inl f68)), (a13, .inl (cT 4, 1024, .inr (.inr (.inr (.inr (va_up (va_up f73 0 (some q8)) 1 (some q9))))))), (a14, .inl (cT 0, 1024, .inl (upd (upd (upd (upd (upd (upd (upd (upd (upd (upd f76 0 110) 1 117) 2 108) 3 108) 0 (vp_nar .byte y10)) 1 (vp_nar .byte y11)) 2 (vp_nar .byte y12)) 3 (vp_nar .byte y13)) 4 (vp_nar .byte y14)) 5 (vp_nar .byte y15)))), (a15, .inl (cT 0, 4096, .inl (upd (upd (upd (upd f77 0 110) 1 117) 2 108) 3 108))), (a16, .inl (cT 0, 4096, .inl (upd (upd (upd (upd (upd (upd f78 0 (vp_nar .byte (vp_nar .byte y10))) 1 (vp_nar .byte (vp_nar .byte y11))) 2 (vp_nar .byte (vp_nar .byte y12))) 3 (vp_nar .byte (vp_nar .byte y13))) 4 (vp_nar .byte (vp_nar .byte y14))) 5 (vp_nar .byte (vp_nar .byte y15))))), (q8, .inr (6, [.int 0, .long 0, .int 0, .int 0, .int 0, .int 1])), (q9, .inr (6, [.int 4, .long 0, .int 0, .int 4, .int 0, .int 5]))]) hP hD [0, 2, 3, 4, 5, 6, 7, 8] [1, 9, 10, 11, 12, 13, 14, 15, 16] 9 rfl rfl (by decide) (by decide) hk1 hFc hP1 hD1
  generalize H1 = H at hP hS ⊢
  refine lv_aload_n hx hb dL_law_637 rfl (lv_at hl 3 rfl) ?_
  obtain ⟨hPc, hDc, hFc⟩ := xcut (wc := [(a1, .inr (5, [.int 0, .ref a13, .int 2, .ref a15, .int 4, v25, v26, .int 0, v28, .int 0, v30, v31, .int 0, v33, v34, .ref a12, .int 4, .int 4, .int 0, .int 100, v40, .ref a14, .int 6, .int 4096, .ref a10, .ref a11, v43, v44, v45, v46, v47, v48]))]) hP hD hS hA [9] rfl rfl (by decide)
  refine va_calli (va_runV (C := "ValueBenchModel") (As := []) (rest := []) ⟨hx, hb, hml, hown, htx⟩ (cM_thrown_0 l hl9 D cT aK aV H.size a1 (.ref a13) (.int 2) (.ref a15) (.int 4) v25 v26 (.int 0) v28 (.int 0) v30 v31 (.int 0) v33 v34 (.ref a12) (.int 4) (.int 4) (.int 0) (.int 100) v40 (.ref a14) (.int 6) (.int 4096) (.ref a10) (.ref a11) v43 v44 v45 v46 v47 v48) ⟨callB_of 0 htx (xw_goodC kw_5_187) rfl rfl rfl (htx _ kw_1_5) (htx _ kw_5_184) ⟨by decide, by decide, by decide +kernel⟩ ⟨Nat.le_of_ble_eq_true rfl, Nat.le_of_ble_eq_true rfl⟩, (htx _ kw_5_185), (htx _ kw_5_186)⟩ ⟨xPre_blind, va_recv hK hP (ci := 5) rfl (q0 := 9) rfl, (fun U hU hW => ⟨rfl, xPre_of hZ hS hFc hPc hDc hK U hU hW⟩)⟩ rfl rfl hl.1 rfl (lv_room (Nat.le_of_ble_eq_true rfl)) dL_law_638 ⟨Nat.le_of_ble_eq_true rfl, Nat.le_of_ble_eq_true rfl⟩) hS (fun q _ h => hFc q h) hFc (fun r16 u9 t H1 locs ht hvm hr9 hB hz1 hk1 hS => ?_)
  obtain ⟨hP1, hK1, hD1⟩ := hB
  rw [ht] at hP1
  obtain ⟨hP, hD⟩ := xjoin (W := [(a2, .inl (cT 2, 1, .inr (.inl f49))), (a0, .inr (0, [v17, v18, .ref a5, .ref a4, .ref b19, .ref b54, v20, v21])), (a3, .inr (2, [.ref a9, .int 5, .int 0])), (a4, .inl (cT 3, 8, .inr (.inr (.inr (.inr (va_up f52 (xs 1).toNatClampNeg (some a3))))))), (a5, .inr (1, [.ref a8, .int 6, .int 0])), (a6, .inr (2, [.ref a7, .int 1, v58])), (a7, .inl (cT 2, 4096, .inr (.inl f59))), (a8, .inl (cT 0, 4096, .inl (upd (upd (upd (upd (upd (upd (upd (upd (upd (upd f61 0 110) 1 117) 2 108) 3 108) 0 (vp_nar .byte y2)) 1 (vp_nar .byte y3)) 2 (vp_nar .byte y4)) 3 (vp_nar .byte y5)) 4 (vp_nar .byte y6)) 5 (vp_nar .byte y7)))), (a9, .inl (cT 2, 4096, .inr (.inl (vp_updL (vp_updL (vp_updL (vp_updL (vp_updL (vp_updL f62 0 0) 1 110) 2 117) 3 108) 4 108) 0 2621476)))), (a10, .inl (cT 5, 8, .inr (.inr (.inr (.inr f63))))), (a11, .inl (cT 1, 8, .inl (upd f66 (xs 1).toNatClampNeg 6))), (a12, .inl (cT 0, 4096, .inl f68)), (a13, .inl (cT 4, 1024, .inr (.inr (.inr (.inr (va_up (va_up f73 0 (some q8)) 1 (some q9))))))), (a14, .inl (cT 0, 1024, .inl (upd (upd (upd (upd (upd (upd (upd (upd (upd (upd f76 0 110) 1 117) 2 108) 3 108) 0 (vp_nar .byte y10)) 1 (vp_nar .byte y11)) 2 (vp_nar .byte y12)) 3 (vp_nar .byte y13)) 4 (vp_nar .byte y14)) 5 (vp_nar .byte y15)))), (a15, .inl (cT 0, 4096, .inl (upd (upd (upd (upd f77 0 110) 1 117) 2 108) 3 108))), (a16, .inl (cT 0, 4096, .inl (upd (upd (upd (upd (upd (upd f78 0 (vp_nar .byte (vp_nar .byte y10))) 1 (vp_nar .byte (vp_nar .byte y11))) 2 (vp_nar .byte (vp_nar .byte y12))) 3 (vp_nar .byte (vp_nar .byte y13))) 4 (vp_nar .byte (vp_nar .byte y14))) 5 (vp_nar .byte (vp_nar .byte y15))))), (q8, .inr (6, [.int 0, .long 0, .int 0, .int 0, .int 0, .int 1])), (q9, .inr (6, [.int 4, .long 0, .int 0, .int 4, .int 0, .int 5])), (a1, .inr (5, [.int 0, .ref a13, .int 2, .ref a15, .int 4, v25, v26, .int 0, v28, .int 0, v30, v31, .int 0, v33, v34, .ref a12, .int 4, .int 4, .int 0, .int 100, v40, .ref a14, .int 6, .int 4096, .ref a10, .ref a11, v43, v44, v45, v46, v47, v48]))]) hP hD [9] [0, 1, 2, 3, 4, 5, 6, 7, 8, 10, 11, 12, 13, 14, 15, 16, 17, 18] 18 rfl rfl (by decide) (by decide) hk1 hFc hP1 hD1
  generalize H1 = H at hP hS ⊢
  rw [hr9]
  refine W.eq (g2 := F0 m 641 ls [.int 0]) rfl ?_
  refine lv_iload hx hb dL_law_641 (lv_at hl 0 rfl) ?_
  refine lv_icmp_eq (tgt := 648) hx hb dL_law_643 (by decide) (fun _ => ?_) (fun h => ((by revert h; decide : False)).elim)
  refine lv_goto (tgt := 906) hx hb dL_law_648 (by decide) ?_
  refine lv_iinc (v := 6) (lv' := [(4, .int 6), (5, .int 0), (3, .ref a2), (2, .ref a1), (1, .ref a0), (0, .ref b)]) hx hb dL_law_906 hl (k := 1) rfl (by decide) (by decide) rfl (fun ls hl => ?_)
  refine lv_goto (tgt := 23) hx hb dL_law_909 (by decide) ?_
  refine lv_iload hx hb dL_law_23 (lv_at hl 0 rfl) ?_
  refine lv_aload_n hx hb dL_law_25 rfl (lv_at hl 5 rfl) ?_
  refine va_slen hx hb hXs hbl hbA hS dL_law_26 ?_
  refine W.eq (g2 := F0 m 27 ls [.int 6, .int 6]) rfl ?_
  refine lv_bipush (v := 6) hx hb dL_law_27 (by decide) ?_
  refine lv_isub hx hb dL_law_29 ?_
  refine W.eq (g2 := F0 m 30 ls [.int 0, .int 6]) rfl ?_
  refine lv_icmp_gt (tgt := 912) hx hb dL_law_30 (by decide) (fun _ => ?_) (fun h => ((by revert h; decide : False)).elim)
  refine lv_iconst (v := 1) hx hb dL_law_912 (by decide) ?_
  exact va_forget (fun q h => hA2 _ (hS.2.2 q h)) (W.widen (k := 600002) (n := 7302232) (Nat.le_of_ble_eq_true rfl) (Nat.le_of_ble_eq_true rfl) (lw_ret hx hb hr hlocks dL_law_913))
set_option maxHeartbeats 400000000 in
set_option maxRecDepth 100000 in
theorem lf_one7_p2 {p : Program} {e : Env} {s : State} {m : MethodId} {below : List Frame} {meth : Method} {c : Code} (l : Launch) (hl9 : l.stackTraces = false) (D : va_G) (cT : Nat → ClassId) (aK aV : Nat → Nat) {A : Nat → Prop} {b : Nat} {xs : Nat → Int32} (C : xLw p s m meth c b D cT aK aV A) {H : Heap} {locs : List Loc} {ls : Array Slot} (a0 : Nat) (a1 : Nat) (a2 : Nat) (a3 : Nat) (a4 : Nat) (a5 : Nat) (a6 : Nat) (a7 : Nat) (a8 : Nat) (a9 : Nat) (a10 : Nat) (v11 : Value) (v12 : Value) (b13 : Nat) (b14 : Nat) (v15 : Value) (v16 : Value) (v17 : Value) (v18 : Value) (v19 : Value) (v20 : Value) (v21 : Value) (v22 : Value) (v23 : Value) (v24 : Value) (v25 : Value) (v26 : Value) (v27 : Value) (v28 : Value) (v29 : Value) (v30 : Value) (v31 : Value) (v32 : Value) (v33 : Value) (v34 : Value) (v35 : Value) (v36 : Value) (v37 : Value) (v38 : Value) (v39 : Value) (v40 : Value) (v41 : Value) (v42 : Value) (v43 : Value) (v44 : Value) (v45 : Value) (f46 : Nat → Int64) (v47 : Value) (v48 : Value) (v49 : Value) (f50 : Nat → Option Nat) (v52 : Value) (f53 : Nat → Int64) (f55 : Nat → Option Nat) (f57 : Nat → Int32) (f59 : Nat → Int32) (f64 : Nat → Option Nat) (h51 : f50 (xs 3).toNatClampNeg = some a5) (h54 : f53 0 = 0) (h56 : f55 (xs 3).toNatClampNeg = some a9) (h58 : f57 (xs 3).toNatClampNeg = 4) (h60 : f59 0 = 110) (h61 : f59 1 = 117) (h62 : f59 2 = 108) (h63 : f59 3 = 108) (h65 : f64 0 = none) (hto1 : ¬ (xs 1) < 0) (hto2 : ¬ 7 < (xs 1)) (hto3 : (xs 1) ≤ 7) (hto4 : vp_in (xs 1) 8) (hf : xs 2 = 7) (ha1 : ¬ (xs 3) < 0) (ha2 : ¬ 7 < (xs 3)) (ha3 : (xs 3) ≤ 7) (ha4 : vp_in (xs 3) 8) (hXs : va_X b 6 xs s s.heap) (hP : va_P D xcl [(a0, .inr (0, [v11, v12, .ref b13, .ref a4, .ref b14, .ref a3, v15, v16])), (a1, .inr (5, [v17, .ref a10, v18, v19, v20, v21, v22, v23, v24, v25, v26, v27, v28, v29, v30, v31, v32, v33, v34, v35, v36, v37, v38, v39, .ref a7, .ref a8, v40, v41, v42, v43, v44, v45])), (a2, .inl (cT 2, 1, .inr (.inl f46))), (a3, .inr (2, [v47, v48, v49])), (a4, .inl (cT 3, 8, .inr (.inr (.inr (.inr f50))))), (a5, .inr (2, [.ref a6, .int 1, v52])), (a6, .inl (cT 2, 4096, .inr (.inl f53))), (a7, .inl (cT 5, 8, .inr (.inr (.inr (.inr f55))))), (a8, .inl (cT 1, 8, .inl f57)), (a9, .inl (cT 0, 4096, .inl f59)), (a10, .inl (cT 4, 1024, .inr (.inr (.inr (.inr f64)))))] H) (hD : va_D A [(a0, .inr (0, [v11, v12, .ref b13, .ref a4, .ref b14, .ref a3, v15, v16])), (a1, .inr (5, [v17, .ref a10, v18, v19, v20, v21, v22, v23, v24, v25, v26, v27, v28, v29, v30, v31, v32, v33, v34, v35, v36, v37, v38, v39, .ref a7, .ref a8, v40, v41, v42, v43, v44, v45])), (a2, .inl (cT 2, 1, .inr (.inl f46))), (a3, .inr (2, [v47, v48, v49])), (a4, .inl (cT 3, 8, .inr (.inr (.inr (.inr f50))))), (a5, .inr (2, [.ref a6, .int 1, v52])), (a6, .inl (cT 2, 4096, .inr (.inl f53))), (a7, .inl (cT 5, 8, .inr (.inr (.inr (.inr f55))))), (a8, .inl (cT 1, 8, .inl f57)), (a9, .inl (cT 0, 4096, .inl f59)), (a10, .inl (cT 4, 1024, .inr (.inr (.inr (.inr f64)))))]) (hS : va_S A s.heap H locs) (hl : lv_has ls 8 [(4, .int 0), (3, .ref a2), (2, .ref a1), (1, .ref a0), (0, .ref b)]) : W p l e room_1 s m #[Value.ref b] below meth c H locs 54 107242 (lw_Z below #[Value.ref b] s) (F0 m 591 ls []) := by
  obtain ⟨hx, hb, hr, hml, hown, htx, hbl, hbA, hlocks, hK, hZ, hA, hA2⟩ := C
  refine lv_aload_n hx hb dL_law_591 rfl (lv_at hl 3 rfl) ?_
  refine lv_aload_n hx hb dL_law_592 rfl (lv_at hl 4 rfl) ?_
  refine lv_iload hx hb dL_law_593 (lv_at hl 0 rfl) ?_
  refine lv_iconst (v := 1) hx hb dL_law_595 (by decide) ?_
  refine lv_iadd hx hb dL_law_596 ?_
  refine W.eq (g2 := F0 m 597 ls [.int 1, .ref b, .ref a0]) rfl ?_
  refine va_sld hx hb hXs hbl hbA hS (i := 1) (show ¬ ((1 : Int32) < 0 ∨ 6 ≤ (1 : Int32).toNatClampNeg) by decide) dL_law_597 ?_
  refine W.eq (g2 := F0 m 598 ls [.int (xs 1), .ref a0]) rfl ?_
  refine lv_aload_n hx hb dL_law_598 rfl (lv_at hl 4 rfl) ?_
  refine lv_iload hx hb dL_law_599 (lv_at hl 0 rfl) ?_
  refine lv_iconst (v := 2) hx hb dL_law_601 (by decide) ?_
  refine lv_iadd hx hb dL_law_602 ?_
  refine W.eq (g2 := F0 m 603 ls [.int 2, .ref b, .int (xs 1), .ref a0]) rfl ?_
  refine va_sld hx hb hXs hbl hbA hS (i := 2) (show ¬ ((2 : Int32) < 0 ∨ 6 ≤ (2 : Int32).toNatClampNeg) by decide) dL_law_603 ?_
  refine W.eq (g2 := F0 m 604 ls [.int (xs 2), .int (xs 1), .ref a0]) rfl ?_
  rw [hf]
  refine W.eq (g2 := F0 m 604 ls [.int 7, .int (xs 1), .ref a0]) rfl ?_
  refine lv_aload_n hx hb dL_law_604 rfl (lv_at hl 4 rfl) ?_
  refine lv_iload hx hb dL_law_605 (lv_at hl 0 rfl) ?_
  refine lv_iconst (v := 3) hx hb dL_law_607 (by decide) ?_
  refine lv_iadd hx hb dL_law_608 ?_
  refine W.eq (g2 := F0 m 609 ls [.int 3, .ref b, .int 7, .int (xs 1), .ref a0]) rfl ?_
  refine va_sld hx hb hXs hbl hbA hS (i := 3) (show ¬ ((3 : Int32) < 0 ∨ 6 ≤ (3 : Int32).toNatClampNeg) by decide) dL_law_609 ?_
  refine W.eq (g2 := F0 m 610 ls [.int (xs 3), .int 7, .int (xs 1), .ref a0]) rfl ?_
  obtain ⟨hPc, hDc, hFc⟩ := xcut (wc := [(a0, .inr (0, [v11, v12, .ref b13, .ref a4, .ref b14, .ref a3, v15, v16])), (a3, .inr (2, [v47, v48, v49])), (a4, .inl (cT 3, 8, .inr (.inr (.inr (.inr f50))))), (a5, .inr (2, [.ref a6, .int 1, v52])), (a6, .inl (cT 2, 4096, .inr (.inl f53)))]) hP hD hS hA [0, 3, 4, 5, 6] rfl rfl (by decide)
  refine va_calli (vx_runSW (As := [.ref a0, .int (xs 1), .int 7, .int (xs 3)]) (rest := []) ⟨hx, hb, hml, hown, htx⟩ (cL_one_13 l hl9 D cT aK aV H.size a0 a3 a4 a5 a6 (xs 1) (xs 3) v11 v12 b13 b14 v15 v16 v47 v48 v49 f50 v52 f53 hto1 hto2 hto3 hto4 ha1 ha2 ha3 ha4 (by first | rfl | exact h51 | exact h54 | exact h56 | exact h58 | exact h60 | exact h61 | exact h62 | exact h63 | exact h65) (by first | rfl | exact h51 | exact h54 | exact h56 | exact h58 | exact h60 | exact h61 | exact h62 | exact h63 | exact h65)) (xcSW 4 htx (xw_goodC kw_4_21) rfl rfl rfl (htx _ kw_1_0) (htx _ kw_4_19) ⟨by decide, by decide, by decide +kernel⟩ ⟨Nat.le_of_ble_eq_true rfl, Nat.le_of_ble_eq_true rfl⟩ (htx _ kw_4_20)) ⟨xPre_blind, (fun U hU hW => ⟨rfl, xPre_of hZ hS hFc hPc hDc hK U hU hW⟩)⟩ rfl rfl hl.1 rfl (lv_room (Nat.le_of_ble_eq_true rfl)) dL_law_610 ⟨Nat.le_of_ble_eq_true rfl, Nat.le_of_ble_eq_true rfl⟩) hS (fun q _ h => hFc q h) hFc (fun r1 u9 t H1 locs ht hvm hr9 hB hz1 hk1 hS => ?_)
  obtain ⟨hP1, hK1, hD1⟩ := hB
  rw [ht] at hP1
  obtain ⟨hP, hD⟩ := xjoin (W := [(a1, .inr (5, [v17, .ref a10, v18, v19, v20, v21, v22, v23, v24, v25, v26, v27, v28, v29, v30, v31, v32, v33, v34, v35, v36, v37, v38, v39, .ref a7, .ref a8, v40, v41, v42, v43, v44, v45])), (a2, .inl (cT 2, 1, .inr (.inl f46))), (a7, .inl (cT 5, 8, .inr (.inr (.inr (.inr f55))))), (a8, .inl (cT 1, 8, .inl f57)), (a9, .inl (cT 0, 4096, .inl f59)), (a10, .inl (cT 4, 1024, .inr (.inr (.inr (.inr f64))))), (a0, .inr (0, [v11, v12, .ref b13, .ref a4, .ref b14, .ref a3, v15, .int 1])), (a3, .inr (2, [v47, .int 0, .int 0])), (a4, .inl (cT 3, 8, .inr (.inr (.inr (.inr f50))))), (a5, .inr (2, [.ref a6, .int 1, v52])), (a6, .inl (cT 2, 4096, .inr (.inl f53)))]) hP hD [0, 3, 4, 5, 6] [1, 2, 7, 8, 9, 10] 6 rfl rfl (by decide) (by decide) hk1 hFc hP1 hD1
  generalize H1 = H at hP hS ⊢
  rw [hr9]
  refine W.eq (g2 := F0 m 613 ls [.int 2]) rfl ?_
  refine lv_istore (lv' := [(5, .int 2), (4, .int 0), (3, .ref a2), (2, .ref a1), (1, .ref a0), (0, .ref b)]) hx hb dL_law_613 hl (by decide) rfl (fun ls hl => ?_)
  refine lv_aload_n hx hb dL_law_615 rfl (lv_at hl 3 rfl) ?_
  refine lv_aload_n hx hb dL_law_616 rfl (lv_at hl 5 rfl) ?_
  refine lv_iload hx hb dL_law_617 (lv_at hl 1 rfl) ?_
  refine lv_iconst (v := 1) hx hb dL_law_619 (by decide) ?_
  refine lv_iadd hx hb dL_law_620 ?_
  refine W.eq (g2 := F0 m 621 ls [.int 1, .ref b, .ref a1]) rfl ?_
  refine va_sld hx hb hXs hbl hbA hS (i := 1) (show ¬ ((1 : Int32) < 0 ∨ 6 ≤ (1 : Int32).toNatClampNeg) by decide) dL_law_621 ?_
  refine W.eq (g2 := F0 m 622 ls [.int (xs 1), .ref a1]) rfl ?_
  refine lv_aload_n hx hb dL_law_622 rfl (lv_at hl 5 rfl) ?_
  refine lv_iload hx hb dL_law_623 (lv_at hl 1 rfl) ?_
  refine lv_iconst (v := 2) hx hb dL_law_625 (by decide) ?_
  refine lv_iadd hx hb dL_law_626 ?_
  refine W.eq (g2 := F0 m 627 ls [.int 2, .ref b, .int (xs 1), .ref a1]) rfl ?_
  refine va_sld hx hb hXs hbl hbA hS (i := 2) (show ¬ ((2 : Int32) < 0 ∨ 6 ≤ (2 : Int32).toNatClampNeg) by decide) dL_law_627 ?_
  refine W.eq (g2 := F0 m 628 ls [.int (xs 2), .int (xs 1), .ref a1]) rfl ?_
  rw [hf]
  refine W.eq (g2 := F0 m 628 ls [.int 7, .int (xs 1), .ref a1]) rfl ?_
  refine lv_aload_n hx hb dL_law_628 rfl (lv_at hl 5 rfl) ?_
  refine lv_iload hx hb dL_law_629 (lv_at hl 1 rfl) ?_
  refine lv_iconst (v := 3) hx hb dL_law_631 (by decide) ?_
  refine lv_iadd hx hb dL_law_632 ?_
  refine W.eq (g2 := F0 m 633 ls [.int 3, .ref b, .int 7, .int (xs 1), .ref a1]) rfl ?_
  refine va_sld hx hb hXs hbl hbA hS (i := 3) (show ¬ ((3 : Int32) < 0 ∨ 6 ≤ (3 : Int32).toNatClampNeg) by decide) dL_law_633 ?_
  refine W.eq (g2 := F0 m 634 ls [.int (xs 3), .int 7, .int (xs 1), .ref a1]) rfl ?_
  obtain ⟨hPc, hDc, hFc⟩ := xcut (wc := [(a1, .inr (5, [v17, .ref a10, v18, v19, v20, v21, v22, v23, v24, v25, v26, v27, v28, v29, v30, v31, v32, v33, v34, v35, v36, v37, v38, v39, .ref a7, .ref a8, v40, v41, v42, v43, v44, v45])), (a7, .inl (cT 5, 8, .inr (.inr (.inr (.inr f55))))), (a8, .inl (cT 1, 8, .inl f57)), (a9, .inl (cT 0, 4096, .inl f59)), (a10, .inl (cT 4, 1024, .inr (.inr (.inr (.inr f64)))))]) hP hD hS hA [0, 2, 3, 4, 5] rfl rfl (by decide)
  refine va_callv (va_runV (C := "ValueBenchModel") (As := [.int (xs 1), .int 7, .int (xs 3)]) (rest := []) ⟨hx, hb, hml, hown, htx⟩ (cM_one0_17 l hl9 D cT aK aV H.size a1 a7 a8 a9 a10 (xs 1) (xs 3) v17 v18 v19 v20 v21 v22 v23 v24 v25 v26 v27 v28 v29 v30 v31 v32 v33 v34 v35 v36 v37 v38 v39 v40 v41 v42 v43 v44 v45 f55 f57 f59 f64 hto1 hto2 hto3 hto4 ha1 ha2 ha3 ha4 (by first | rfl | exact h51 | exact h54 | exact h56 | exact h58 | exact h60 | exact h61 | exact h62 | exact h63 | exact h65) (by first | rfl | exact h51 | exact h54 | exact h56 | exact h58 | exact h60 | exact h61 | exact h62 | exact h63 | exact h65) (by first | rfl | exact h51 | exact h54 | exact h56 | exact h58 | exact h60 | exact h61 | exact h62 | exact h63 | exact h65) (by first | rfl | exact h51 | exact h54 | exact h56 | exact h58 | exact h60 | exact h61 | exact h62 | exact h63 | exact h65) (by first | rfl | exact h51 | exact h54 | exact h56 | exact h58 | exact h60 | exact h61 | exact h62 | exact h63 | exact h65) (by first | rfl | exact h51 | exact h54 | exact h56 | exact h58 | exact h60 | exact h61 | exact h62 | exact h63 | exact h65) (by first | rfl | exact h51 | exact h54 | exact h56 | exact h58 | exact h60 | exact h61 | exact h62 | exact h63 | exact h65)) ⟨callB_of 3 htx (xw_goodC kw_7_123) rfl rfl rfl (htx _ kw_1_5) (htx _ kw_7_120) ⟨by decide, by decide, by decide +kernel⟩ ⟨Nat.le_of_ble_eq_true rfl, Nat.le_of_ble_eq_true rfl⟩, (htx _ kw_7_121), (htx _ kw_7_122)⟩ ⟨xPre_blind, va_recv hK hP (ci := 5) rfl (q0 := 0) rfl, (fun U hU hW => ⟨rfl, xPre_of hZ hS hFc hPc hDc hK U hU hW⟩)⟩ rfl rfl hl.1 rfl (lv_room (Nat.le_of_ble_eq_true rfl)) dL_law_634 ⟨Nat.le_of_ble_eq_true rfl, Nat.le_of_ble_eq_true rfl⟩) hS (fun q _ h => hFc q h) hFc (fun u9 t H1 locs ht hvm hr9 hB hz1 hk1 hS => ?_)
  obtain ⟨q2, hP1, hK1, hD1⟩ := hB
  rw [ht] at hP1
  obtain ⟨hP, hD⟩ := xjoin (W := [(a2, .inl (cT 2, 1, .inr (.inl f46))), (a0, .inr (0, [v11, v12, .ref b13, .ref a4, .ref b14, .ref a3, v15, .int 1])), (a3, .inr (2, [v47, .int 0, .int 0])), (a4, .inl (cT 3, 8, .inr (.inr (.inr (.inr f50))))), (a5, .inr (2, [.ref a6, .int 1, v52])), (a6, .inl (cT 2, 4096, .inr (.inl f53))), (a1, .inr (5, [.int 2, .ref a10, .int 1, v19, .int 0, v21, v22, .int 0, .int 1, .int 0, v26, v27, .int 0, v29, v30, .ref a9, .int 4, .int 4, .int 0, .int 100, v36, v37, .int 0, .int 1000000000, .ref a7, .ref a8, v40, v41, v42, v43, .int 1, v45])), (a7, .inl (cT 5, 8, .inr (.inr (.inr (.inr f55))))), (a8, .inl (cT 1, 8, .inl f57)), (a9, .inl (cT 0, 4096, .inl f59)), (a10, .inl (cT 4, 1024, .inr (.inr (.inr (.inr (va_up f64 0 (some q2))))))), (q2, .inr (6, [.int 0, .long 0, .int 0, .int 0, .int 0, .int 1]))]) hP hD [0, 2, 3, 4, 5] [1, 6, 7, 8, 9, 10] 6 rfl rfl (by decide) (by decide) hk1 hFc hP1 hD1
  generalize H1 = H at hP hS ⊢
  refine lv_aload_n hx hb dL_law_637 rfl (lv_at hl 3 rfl) ?_
  obtain ⟨hPc, hDc, hFc⟩ := xcut (wc := [(a1, .inr (5, [.int 2, .ref a10, .int 1, v19, .int 0, v21, v22, .int 0, .int 1, .int 0, v26, v27, .int 0, v29, v30, .ref a9, .int 4, .int 4, .int 0, .int 100, v36, v37, .int 0, .int 1000000000, .ref a7, .ref a8, v40, v41, v42, v43, .int 1, v45]))]) hP hD hS hA [6] rfl rfl (by decide)
  refine va_calli (va_runV (C := "ValueBenchModel") (As := []) (rest := []) ⟨hx, hb, hml, hown, htx⟩ (cM_thrown_2 l hl9 D cT aK aV H.size a1 (.ref a10) (.int 1) v19 (.int 0) v21 v22 (.int 0) (.int 1) (.int 0) v26 v27 (.int 0) v29 v30 (.ref a9) (.int 4) (.int 4) (.int 0) (.int 100) v36 v37 (.int 0) (.int 1000000000) (.ref a7) (.ref a8) v40 v41 v42 v43 (.int 1) v45) ⟨callB_of 0 htx (xw_goodC kw_5_187) rfl rfl rfl (htx _ kw_1_5) (htx _ kw_5_184) ⟨by decide, by decide, by decide +kernel⟩ ⟨Nat.le_of_ble_eq_true rfl, Nat.le_of_ble_eq_true rfl⟩, (htx _ kw_5_185), (htx _ kw_5_186)⟩ ⟨xPre_blind, va_recv hK hP (ci := 5) rfl (q0 := 6) rfl, (fun U hU hW => ⟨rfl, xPre_of hZ hS hFc hPc hDc hK U hU hW⟩)⟩ rfl rfl hl.1 rfl (lv_room (Nat.le_of_ble_eq_true rfl)) dL_law_638 ⟨Nat.le_of_ble_eq_true rfl, Nat.le_of_ble_eq_true rfl⟩) hS (fun q _ h => hFc q h) hFc (fun r3 u9 t H1 locs ht hvm hr9 hB hz1 hk1 hS => ?_)
  obtain ⟨hP1, hK1, hD1⟩ := hB
  rw [ht] at hP1
  obtain ⟨hP, hD⟩ := xjoin (W := [(a2, .inl (cT 2, 1, .inr (.inl f46))), (a0, .inr (0, [v11, v12, .ref b13, .ref a4, .ref b14, .ref a3, v15, .int 1])), (a3, .inr (2, [v47, .int 0, .int 0])), (a4, .inl (cT 3, 8, .inr (.inr (.inr (.inr f50))))), (a5, .inr (2, [.ref a6, .int 1, v52])), (a6, .inl (cT 2, 4096, .inr (.inl f53))), (a7, .inl (cT 5, 8, .inr (.inr (.inr (.inr f55))))), (a8, .inl (cT 1, 8, .inl f57)), (a9, .inl (cT 0, 4096, .inl f59)), (a10, .inl (cT 4, 1024, .inr (.inr (.inr (.inr (va_up f64 0 (some q2))))))), (q2, .inr (6, [.int 0, .long 0, .int 0, .int 0, .int 0, .int 1])), (a1, .inr (5, [.int 2, .ref a10, .int 1, v19, .int 0, v21, v22, .int 0, .int 1, .int 0, v26, v27, .int 0, v29, v30, .ref a9, .int 4, .int 4, .int 0, .int 100, v36, v37, .int 0, .int 1000000000, .ref a7, .ref a8, v40, v41, v42, v43, .int 1, v45]))]) hP hD [6] [0, 1, 2, 3, 4, 5, 7, 8, 9, 10, 11] 11 rfl rfl (by decide) (by decide) hk1 hFc hP1 hD1
  generalize H1 = H at hP hS ⊢
  rw [hr9]
  refine W.eq (g2 := F0 m 641 ls [.int 2]) rfl ?_
  refine lv_iload hx hb dL_law_641 (lv_at hl 0 rfl) ?_
  refine lv_icmp_eq (tgt := 648) hx hb dL_law_643 (by decide) (fun _ => ?_) (fun h => ((by revert h; decide : False)).elim)
  refine lv_goto (tgt := 906) hx hb dL_law_648 (by decide) ?_
  refine lv_iinc (v := 6) (lv' := [(4, .int 6), (5, .int 2), (3, .ref a2), (2, .ref a1), (1, .ref a0), (0, .ref b)]) hx hb dL_law_906 hl (k := 1) rfl (by decide) (by decide) rfl (fun ls hl => ?_)
  refine lv_goto (tgt := 23) hx hb dL_law_909 (by decide) ?_
  refine lv_iload hx hb dL_law_23 (lv_at hl 0 rfl) ?_
  refine lv_aload_n hx hb dL_law_25 rfl (lv_at hl 5 rfl) ?_
  refine va_slen hx hb hXs hbl hbA hS dL_law_26 ?_
  refine W.eq (g2 := F0 m 27 ls [.int 6, .int 6]) rfl ?_
  refine lv_bipush (v := 6) hx hb dL_law_27 (by decide) ?_
  refine lv_isub hx hb dL_law_29 ?_
  refine W.eq (g2 := F0 m 30 ls [.int 0, .int 6]) rfl ?_
  refine lv_icmp_gt (tgt := 912) hx hb dL_law_30 (by decide) (fun _ => ?_) (fun h => ((by revert h; decide : False)).elim)
  refine lv_iconst (v := 1) hx hb dL_law_912 (by decide) ?_
  exact va_forget (fun q h => hA2 _ (hS.2.2 q h)) (W.widen (k := 600002) (n := 7302232) (Nat.le_of_ble_eq_true rfl) (Nat.le_of_ble_eq_true rfl) (lw_ret hx hb hr hlocks dL_law_913))
set_option maxHeartbeats 400000000 in
set_option maxRecDepth 100000 in
theorem lf_one7_p0 {p : Program} {e : Env} {s : State} {m : MethodId} {below : List Frame} {meth : Method} {c : Code} (l : Launch) (hl9 : l.stackTraces = false) (D : va_G) (cT : Nat → ClassId) (aK aV : Nat → Nat) {A : Nat → Prop} {b : Nat} {xs : Nat → Int32} (C : xLw p s m meth c b D cT aK aV A) {H : Heap} {locs : List Loc} {ls : Array Slot} (a0 : Nat) (a1 : Nat) (a2 : Nat) (a3 : Nat) (a4 : Nat) (a5 : Nat) (a6 : Nat) (a7 : Nat) (a8 : Nat) (a9 : Nat) (a10 : Nat) (v11 : Value) (v12 : Value) (b13 : Nat) (b14 : Nat) (v15 : Value) (v16 : Value) (v17 : Value) (v18 : Value) (v19 : Value) (v20 : Value) (v21 : Value) (v22 : Value) (v23 : Value) (v24 : Value) (v25 : Value) (v26 : Value) (v27 : Value) (v28 : Value) (v29 : Value) (v30 : Value) (v31 : Value) (v32 : Value) (v33 : Value) (v34 : Value) (v35 : Value) (v36 : Value) (v37 : Value) (v38 : Value) (v39 : Value) (v40 : Value) (v41 : Value) (v42 : Value) (v43 : Value) (v44 : Value) (v45 : Value) (f46 : Nat → Int64) (v47 : Value) (v48 : Value) (v49 : Value) (f50 : Nat → Option Nat) (v52 : Value) (f53 : Nat → Int64) (f55 : Nat → Option Nat) (f57 : Nat → Int32) (f59 : Nat → Int32) (f64 : Nat → Option Nat) (h51 : f50 (xs 3).toNatClampNeg = some a5) (h54 : f53 0 = 0) (h56 : f55 (xs 3).toNatClampNeg = some a9) (h58 : f57 (xs 3).toNatClampNeg = 4) (h60 : f59 0 = 110) (h61 : f59 1 = 117) (h62 : f59 2 = 108) (h63 : f59 3 = 108) (h65 : f64 0 = none) (hto1 : ¬ (xs 1) < 0) (hto2 : ¬ 7 < (xs 1)) (hto3 : (xs 1) ≤ 7) (hto4 : vp_in (xs 1) 8) (hf : xs 2 = 7) (ha1 : ¬ (xs 3) < 0) (ha2 : ¬ 7 < (xs 3)) (ha3 : (xs 3) ≤ 7) (ha4 : vp_in (xs 3) 8) (hXs : va_X b 6 xs s s.heap) (hP : va_P D xcl [(a0, .inr (0, [v11, v12, .ref b13, .ref a4, .ref b14, .ref a3, v15, v16])), (a1, .inr (5, [v17, .ref a10, v18, v19, v20, v21, v22, v23, v24, v25, v26, v27, v28, v29, v30, v31, v32, v33, v34, v35, v36, v37, v38, v39, .ref a7, .ref a8, v40, v41, v42, v43, v44, v45])), (a2, .inl (cT 2, 1, .inr (.inl f46))), (a3, .inr (2, [v47, v48, v49])), (a4, .inl (cT 3, 8, .inr (.inr (.inr (.inr f50))))), (a5, .inr (2, [.ref a6, .int 1, v52])), (a6, .inl (cT 2, 4096, .inr (.inl f53))), (a7, .inl (cT 5, 8, .inr (.inr (.inr (.inr f55))))), (a8, .inl (cT 1, 8, .inl f57)), (a9, .inl (cT 0, 4096, .inl f59)), (a10, .inl (cT 4, 1024, .inr (.inr (.inr (.inr f64)))))] H) (hD : va_D A [(a0, .inr (0, [v11, v12, .ref b13, .ref a4, .ref b14, .ref a3, v15, v16])), (a1, .inr (5, [v17, .ref a10, v18, v19, v20, v21, v22, v23, v24, v25, v26, v27, v28, v29, v30, v31, v32, v33, v34, v35, v36, v37, v38, v39, .ref a7, .ref a8, v40, v41, v42, v43, v44, v45])), (a2, .inl (cT 2, 1, .inr (.inl f46))), (a3, .inr (2, [v47, v48, v49])), (a4, .inl (cT 3, 8, .inr (.inr (.inr (.inr f50))))), (a5, .inr (2, [.ref a6, .int 1, v52])), (a6, .inl (cT 2, 4096, .inr (.inl f53))), (a7, .inl (cT 5, 8, .inr (.inr (.inr (.inr f55))))), (a8, .inl (cT 1, 8, .inl f57)), (a9, .inl (cT 0, 4096, .inl f59)), (a10, .inl (cT 4, 1024, .inr (.inr (.inr (.inr f64)))))]) (hS : va_S A s.heap H locs) (hl : lv_has ls 8 [(4, .int 0), (3, .ref a2), (2, .ref a1), (1, .ref a0), (0, .ref b)]) : W p l e room_1 s m #[Value.ref b] below meth c H locs 54 107242 (lw_Z below #[Value.ref b] s) (F0 m 591 ls []) := by
  obtain ⟨hx, hb, hr, hml, hown, htx, hbl, hbA, hlocks, hK, hZ, hA, hA2⟩ := C
  refine lv_aload_n hx hb dL_law_591 rfl (lv_at hl 3 rfl) ?_
  refine lv_aload_n hx hb dL_law_592 rfl (lv_at hl 4 rfl) ?_
  refine lv_iload hx hb dL_law_593 (lv_at hl 0 rfl) ?_
  refine lv_iconst (v := 1) hx hb dL_law_595 (by decide) ?_
  refine lv_iadd hx hb dL_law_596 ?_
  refine W.eq (g2 := F0 m 597 ls [.int 1, .ref b, .ref a0]) rfl ?_
  refine va_sld hx hb hXs hbl hbA hS (i := 1) (show ¬ ((1 : Int32) < 0 ∨ 6 ≤ (1 : Int32).toNatClampNeg) by decide) dL_law_597 ?_
  refine W.eq (g2 := F0 m 598 ls [.int (xs 1), .ref a0]) rfl ?_
  refine lv_aload_n hx hb dL_law_598 rfl (lv_at hl 4 rfl) ?_
  refine lv_iload hx hb dL_law_599 (lv_at hl 0 rfl) ?_
  refine lv_iconst (v := 2) hx hb dL_law_601 (by decide) ?_
  refine lv_iadd hx hb dL_law_602 ?_
  refine W.eq (g2 := F0 m 603 ls [.int 2, .ref b, .int (xs 1), .ref a0]) rfl ?_
  refine va_sld hx hb hXs hbl hbA hS (i := 2) (show ¬ ((2 : Int32) < 0 ∨ 6 ≤ (2 : Int32).toNatClampNeg) by decide) dL_law_603 ?_
  refine W.eq (g2 := F0 m 604 ls [.int (xs 2), .int (xs 1), .ref a0]) rfl ?_
  rw [hf]
  refine W.eq (g2 := F0 m 604 ls [.int 7, .int (xs 1), .ref a0]) rfl ?_
  refine lv_aload_n hx hb dL_law_604 rfl (lv_at hl 4 rfl) ?_
  refine lv_iload hx hb dL_law_605 (lv_at hl 0 rfl) ?_
  refine lv_iconst (v := 3) hx hb dL_law_607 (by decide) ?_
  refine lv_iadd hx hb dL_law_608 ?_
  refine W.eq (g2 := F0 m 609 ls [.int 3, .ref b, .int 7, .int (xs 1), .ref a0]) rfl ?_
  refine va_sld hx hb hXs hbl hbA hS (i := 3) (show ¬ ((3 : Int32) < 0 ∨ 6 ≤ (3 : Int32).toNatClampNeg) by decide) dL_law_609 ?_
  refine W.eq (g2 := F0 m 610 ls [.int (xs 3), .int 7, .int (xs 1), .ref a0]) rfl ?_
  obtain ⟨hPc, hDc, hFc⟩ := xcut (wc := [(a0, .inr (0, [v11, v12, .ref b13, .ref a4, .ref b14, .ref a3, v15, v16])), (a3, .inr (2, [v47, v48, v49])), (a4, .inl (cT 3, 8, .inr (.inr (.inr (.inr f50))))), (a5, .inr (2, [.ref a6, .int 1, v52])), (a6, .inl (cT 2, 4096, .inr (.inl f53)))]) hP hD hS hA [0, 3, 4, 5, 6] rfl rfl (by decide)
  refine va_calli (vx_runSW (As := [.ref a0, .int (xs 1), .int 7, .int (xs 3)]) (rest := []) ⟨hx, hb, hml, hown, htx⟩ (cL_one_13 l hl9 D cT aK aV H.size a0 a3 a4 a5 a6 (xs 1) (xs 3) v11 v12 b13 b14 v15 v16 v47 v48 v49 f50 v52 f53 hto1 hto2 hto3 hto4 ha1 ha2 ha3 ha4 (by first | rfl | exact h51 | exact h54 | exact h56 | exact h58 | exact h60 | exact h61 | exact h62 | exact h63 | exact h65) (by first | rfl | exact h51 | exact h54 | exact h56 | exact h58 | exact h60 | exact h61 | exact h62 | exact h63 | exact h65)) (xcSW 4 htx (xw_goodC kw_4_21) rfl rfl rfl (htx _ kw_1_0) (htx _ kw_4_19) ⟨by decide, by decide, by decide +kernel⟩ ⟨Nat.le_of_ble_eq_true rfl, Nat.le_of_ble_eq_true rfl⟩ (htx _ kw_4_20)) ⟨xPre_blind, (fun U hU hW => ⟨rfl, xPre_of hZ hS hFc hPc hDc hK U hU hW⟩)⟩ rfl rfl hl.1 rfl (lv_room (Nat.le_of_ble_eq_true rfl)) dL_law_610 ⟨Nat.le_of_ble_eq_true rfl, Nat.le_of_ble_eq_true rfl⟩) hS (fun q _ h => hFc q h) hFc (fun r1 u9 t H1 locs ht hvm hr9 hB hz1 hk1 hS => ?_)
  obtain ⟨hP1, hK1, hD1⟩ := hB
  rw [ht] at hP1
  obtain ⟨hP, hD⟩ := xjoin (W := [(a1, .inr (5, [v17, .ref a10, v18, v19, v20, v21, v22, v23, v24, v25, v26, v27, v28, v29, v30, v31, v32, v33, v34, v35, v36, v37, v38, v39, .ref a7, .ref a8, v40, v41, v42, v43, v44, v45])), (a2, .inl (cT 2, 1, .inr (.inl f46))), (a7, .inl (cT 5, 8, .inr (.inr (.inr (.inr f55))))), (a8, .inl (cT 1, 8, .inl f57)), (a9, .inl (cT 0, 4096, .inl f59)), (a10, .inl (cT 4, 1024, .inr (.inr (.inr (.inr f64))))), (a0, .inr (0, [v11, v12, .ref b13, .ref a4, .ref b14, .ref a3, v15, .int 1])), (a3, .inr (2, [v47, .int 0, .int 0])), (a4, .inl (cT 3, 8, .inr (.inr (.inr (.inr f50))))), (a5, .inr (2, [.ref a6, .int 1, v52])), (a6, .inl (cT 2, 4096, .inr (.inl f53)))]) hP hD [0, 3, 4, 5, 6] [1, 2, 7, 8, 9, 10] 6 rfl rfl (by decide) (by decide) hk1 hFc hP1 hD1
  generalize H1 = H at hP hS ⊢
  rw [hr9]
  refine W.eq (g2 := F0 m 613 ls [.int 2]) rfl ?_
  refine lv_istore (lv' := [(5, .int 2), (4, .int 0), (3, .ref a2), (2, .ref a1), (1, .ref a0), (0, .ref b)]) hx hb dL_law_613 hl (by decide) rfl (fun ls hl => ?_)
  refine lv_aload_n hx hb dL_law_615 rfl (lv_at hl 3 rfl) ?_
  refine lv_aload_n hx hb dL_law_616 rfl (lv_at hl 5 rfl) ?_
  refine lv_iload hx hb dL_law_617 (lv_at hl 1 rfl) ?_
  refine lv_iconst (v := 1) hx hb dL_law_619 (by decide) ?_
  refine lv_iadd hx hb dL_law_620 ?_
  refine W.eq (g2 := F0 m 621 ls [.int 1, .ref b, .ref a1]) rfl ?_
  refine va_sld hx hb hXs hbl hbA hS (i := 1) (show ¬ ((1 : Int32) < 0 ∨ 6 ≤ (1 : Int32).toNatClampNeg) by decide) dL_law_621 ?_
  refine W.eq (g2 := F0 m 622 ls [.int (xs 1), .ref a1]) rfl ?_
  refine lv_aload_n hx hb dL_law_622 rfl (lv_at hl 5 rfl) ?_
  refine lv_iload hx hb dL_law_623 (lv_at hl 1 rfl) ?_
  refine lv_iconst (v := 2) hx hb dL_law_625 (by decide) ?_
  refine lv_iadd hx hb dL_law_626 ?_
  refine W.eq (g2 := F0 m 627 ls [.int 2, .ref b, .int (xs 1), .ref a1]) rfl ?_
  refine va_sld hx hb hXs hbl hbA hS (i := 2) (show ¬ ((2 : Int32) < 0 ∨ 6 ≤ (2 : Int32).toNatClampNeg) by decide) dL_law_627 ?_
  refine W.eq (g2 := F0 m 628 ls [.int (xs 2), .int (xs 1), .ref a1]) rfl ?_
  rw [hf]
  refine W.eq (g2 := F0 m 628 ls [.int 7, .int (xs 1), .ref a1]) rfl ?_
  refine lv_aload_n hx hb dL_law_628 rfl (lv_at hl 5 rfl) ?_
  refine lv_iload hx hb dL_law_629 (lv_at hl 1 rfl) ?_
  refine lv_iconst (v := 3) hx hb dL_law_631 (by decide) ?_
  refine lv_iadd hx hb dL_law_632 ?_
  refine W.eq (g2 := F0 m 633 ls [.int 3, .ref b, .int 7, .int (xs 1), .ref a1]) rfl ?_
  refine va_sld hx hb hXs hbl hbA hS (i := 3) (show ¬ ((3 : Int32) < 0 ∨ 6 ≤ (3 : Int32).toNatClampNeg) by decide) dL_law_633 ?_
  refine W.eq (g2 := F0 m 634 ls [.int (xs 3), .int 7, .int (xs 1), .ref a1]) rfl ?_
  obtain ⟨hPc, hDc, hFc⟩ := xcut (wc := [(a1, .inr (5, [v17, .ref a10, v18, v19, v20, v21, v22, v23, v24, v25, v26, v27, v28, v29, v30, v31, v32, v33, v34, v35, v36, v37, v38, v39, .ref a7, .ref a8, v40, v41, v42, v43, v44, v45])), (a7, .inl (cT 5, 8, .inr (.inr (.inr (.inr f55))))), (a8, .inl (cT 1, 8, .inl f57)), (a9, .inl (cT 0, 4096, .inl f59)), (a10, .inl (cT 4, 1024, .inr (.inr (.inr (.inr f64)))))]) hP hD hS hA [0, 2, 3, 4, 5] rfl rfl (by decide)
  refine va_callv (va_runV (C := "ValueBenchModel") (As := [.int (xs 1), .int 7, .int (xs 3)]) (rest := []) ⟨hx, hb, hml, hown, htx⟩ (cM_one0_17 l hl9 D cT aK aV H.size a1 a7 a8 a9 a10 (xs 1) (xs 3) v17 v18 v19 v20 v21 v22 v23 v24 v25 v26 v27 v28 v29 v30 v31 v32 v33 v34 v35 v36 v37 v38 v39 v40 v41 v42 v43 v44 v45 f55 f57 f59 f64 hto1 hto2 hto3 hto4 ha1 ha2 ha3 ha4 (by first | rfl | exact h51 | exact h54 | exact h56 | exact h58 | exact h60 | exact h61 | exact h62 | exact h63 | exact h65) (by first | rfl | exact h51 | exact h54 | exact h56 | exact h58 | exact h60 | exact h61 | exact h62 | exact h63 | exact h65) (by first | rfl | exact h51 | exact h54 | exact h56 | exact h58 | exact h60 | exact h61 | exact h62 | exact h63 | exact h65) (by first | rfl | exact h51 | exact h54 | exact h56 | exact h58 | exact h60 | exact h61 | exact h62 | exact h63 | exact h65) (by first | rfl | exact h51 | exact h54 | exact h56 | exact h58 | exact h60 | exact h61 | exact h62 | exact h63 | exact h65) (by first | rfl | exact h51 | exact h54 | exact h56 | exact h58 | exact h60 | exact h61 | exact h62 | exact h63 | exact h65) (by first | rfl | exact h51 | exact h54 | exact h56 | exact h58 | exact h60 | exact h61 | exact h62 | exact h63 | exact h65)) ⟨callB_of 3 htx (xw_goodC kw_7_123) rfl rfl rfl (htx _ kw_1_5) (htx _ kw_7_120) ⟨by decide, by decide, by decide +kernel⟩ ⟨Nat.le_of_ble_eq_true rfl, Nat.le_of_ble_eq_true rfl⟩, (htx _ kw_7_121), (htx _ kw_7_122)⟩ ⟨xPre_blind, va_recv hK hP (ci := 5) rfl (q0 := 0) rfl, (fun U hU hW => ⟨rfl, xPre_of hZ hS hFc hPc hDc hK U hU hW⟩)⟩ rfl rfl hl.1 rfl (lv_room (Nat.le_of_ble_eq_true rfl)) dL_law_634 ⟨Nat.le_of_ble_eq_true rfl, Nat.le_of_ble_eq_true rfl⟩) hS (fun q _ h => hFc q h) hFc (fun u9 t H1 locs ht hvm hr9 hB hz1 hk1 hS => ?_)
  obtain ⟨q2, hP1, hK1, hD1⟩ := hB
  rw [ht] at hP1
  obtain ⟨hP, hD⟩ := xjoin (W := [(a2, .inl (cT 2, 1, .inr (.inl f46))), (a0, .inr (0, [v11, v12, .ref b13, .ref a4, .ref b14, .ref a3, v15, .int 1])), (a3, .inr (2, [v47, .int 0, .int 0])), (a4, .inl (cT 3, 8, .inr (.inr (.inr (.inr f50))))), (a5, .inr (2, [.ref a6, .int 1, v52])), (a6, .inl (cT 2, 4096, .inr (.inl f53))), (a1, .inr (5, [.int 2, .ref a10, .int 1, v19, .int 0, v21, v22, .int 0, .int 1, .int 0, v26, v27, .int 0, v29, v30, .ref a9, .int 4, .int 4, .int 0, .int 100, v36, v37, .int 0, .int 1000000000, .ref a7, .ref a8, v40, v41, v42, v43, .int 1, v45])), (a7, .inl (cT 5, 8, .inr (.inr (.inr (.inr f55))))), (a8, .inl (cT 1, 8, .inl f57)), (a9, .inl (cT 0, 4096, .inl f59)), (a10, .inl (cT 4, 1024, .inr (.inr (.inr (.inr (va_up f64 0 (some q2))))))), (q2, .inr (6, [.int 0, .long 0, .int 0, .int 0, .int 0, .int 1]))]) hP hD [0, 2, 3, 4, 5] [1, 6, 7, 8, 9, 10] 6 rfl rfl (by decide) (by decide) hk1 hFc hP1 hD1
  generalize H1 = H at hP hS ⊢
  refine lv_aload_n hx hb dL_law_637 rfl (lv_at hl 3 rfl) ?_
  obtain ⟨hPc, hDc, hFc⟩ := xcut (wc := [(a1, .inr (5, [.int 2, .ref a10, .int 1, v19, .int 0, v21, v22, .int 0, .int 1, .int 0, v26, v27, .int 0, v29, v30, .ref a9, .int 4, .int 4, .int 0, .int 100, v36, v37, .int 0, .int 1000000000, .ref a7, .ref a8, v40, v41, v42, v43, .int 1, v45]))]) hP hD hS hA [6] rfl rfl (by decide)
  refine va_calli (va_runV (C := "ValueBenchModel") (As := []) (rest := []) ⟨hx, hb, hml, hown, htx⟩ (cM_thrown_2 l hl9 D cT aK aV H.size a1 (.ref a10) (.int 1) v19 (.int 0) v21 v22 (.int 0) (.int 1) (.int 0) v26 v27 (.int 0) v29 v30 (.ref a9) (.int 4) (.int 4) (.int 0) (.int 100) v36 v37 (.int 0) (.int 1000000000) (.ref a7) (.ref a8) v40 v41 v42 v43 (.int 1) v45) ⟨callB_of 0 htx (xw_goodC kw_5_187) rfl rfl rfl (htx _ kw_1_5) (htx _ kw_5_184) ⟨by decide, by decide, by decide +kernel⟩ ⟨Nat.le_of_ble_eq_true rfl, Nat.le_of_ble_eq_true rfl⟩, (htx _ kw_5_185), (htx _ kw_5_186)⟩ ⟨xPre_blind, va_recv hK hP (ci := 5) rfl (q0 := 6) rfl, (fun U hU hW => ⟨rfl, xPre_of hZ hS hFc hPc hDc hK U hU hW⟩)⟩ rfl rfl hl.1 rfl (lv_room (Nat.le_of_ble_eq_true rfl)) dL_law_638 ⟨Nat.le_of_ble_eq_true rfl, Nat.le_of_ble_eq_true rfl⟩) hS (fun q _ h => hFc q h) hFc (fun r3 u9 t H1 locs ht hvm hr9 hB hz1 hk1 hS => ?_)
  obtain ⟨hP1, hK1, hD1⟩ := hB
  rw [ht] at hP1
  obtain ⟨hP, hD⟩ := xjoin (W := [(a2, .inl (cT 2, 1, .inr (.inl f46))), (a0, .inr (0, [v11, v12, .ref b13, .ref a4, .ref b14, .ref a3, v15, .int 1])), (a3, .inr (2, [v47, .int 0, .int 0])), (a4, .inl (cT 3, 8, .inr (.inr (.inr (.inr f50))))), (a5, .inr (2, [.ref a6, .int 1, v52])), (a6, .inl (cT 2, 4096, .inr (.inl f53))), (a7, .inl (cT 5, 8, .inr (.inr (.inr (.inr f55))))), (a8, .inl (cT 1, 8, .inl f57)), (a9, .inl (cT 0, 4096, .inl f59)), (a10, .inl (cT 4, 1024, .inr (.inr (.inr (.inr (va_up f64 0 (some q2))))))), (q2, .inr (6, [.int 0, .long 0, .int 0, .int 0, .int 0, .int 1])), (a1, .inr (5, [.int 2, .ref a10, .int 1, v19, .int 0, v21, v22, .int 0, .int 1, .int 0, v26, v27, .int 0, v29, v30, .ref a9, .int 4, .int 4, .int 0, .int 100, v36, v37, .int 0, .int 1000000000, .ref a7, .ref a8, v40, v41, v42, v43, .int 1, v45]))]) hP hD [6] [0, 1, 2, 3, 4, 5, 7, 8, 9, 10, 11] 11 rfl rfl (by decide) (by decide) hk1 hFc hP1 hD1
  generalize H1 = H at hP hS ⊢
  rw [hr9]
  refine W.eq (g2 := F0 m 641 ls [.int 2]) rfl ?_
  refine lv_iload hx hb dL_law_641 (lv_at hl 0 rfl) ?_
  refine lv_icmp_eq (tgt := 648) hx hb dL_law_643 (by decide) (fun _ => ?_) (fun h => ((by revert h; decide : False)).elim)
  refine lv_goto (tgt := 906) hx hb dL_law_648 (by decide) ?_
  refine lv_iinc (v := 6) (lv' := [(4, .int 6), (5, .int 2), (3, .ref a2), (2, .ref a1), (1, .ref a0), (0, .ref b)]) hx hb dL_law_906 hl (k := 1) rfl (by decide) (by decide) rfl (fun ls hl => ?_)
  refine lv_goto (tgt := 23) hx hb dL_law_909 (by decide) ?_
  refine lv_iload hx hb dL_law_23 (lv_at hl 0 rfl) ?_
  refine lv_aload_n hx hb dL_law_25 rfl (lv_at hl 5 rfl) ?_
  refine va_slen hx hb hXs hbl hbA hS dL_law_26 ?_
  refine W.eq (g2 := F0 m 27 ls [.int 6, .int 6]) rfl ?_
  refine lv_bipush (v := 6) hx hb dL_law_27 (by decide) ?_
  refine lv_isub hx hb dL_law_29 ?_
  refine W.eq (g2 := F0 m 30 ls [.int 0, .int 6]) rfl ?_
  refine lv_icmp_gt (tgt := 912) hx hb dL_law_30 (by decide) (fun _ => ?_) (fun h => ((by revert h; decide : False)).elim)
  refine lv_iconst (v := 1) hx hb dL_law_912 (by decide) ?_
  exact va_forget (fun q h => hA2 _ (hS.2.2 q h)) (W.widen (k := 600002) (n := 7302232) (Nat.le_of_ble_eq_true rfl) (Nat.le_of_ble_eq_true rfl) (lw_ret hx hb hr hlocks dL_law_913))
set_option maxHeartbeats 400000000 in
set_option maxRecDepth 100000 in
theorem lf_one8_p2 {p : Program} {e : Env} {s : State} {m : MethodId} {below : List Frame} {meth : Method} {c : Code} (l : Launch) (hl9 : l.stackTraces = false) (D : va_G) (cT : Nat → ClassId) (aK aV : Nat → Nat) {A : Nat → Prop} {b : Nat} {xs : Nat → Int32} (C : xLw p s m meth c b D cT aK aV A) {H : Heap} {locs : List Loc} {ls : Array Slot} (a0 : Nat) (a1 : Nat) (a2 : Nat) (a3 : Nat) (a4 : Nat) (a5 : Nat) (a6 : Nat) (a7 : Nat) (a8 : Nat) (a9 : Nat) (a10 : Nat) (v11 : Value) (v12 : Value) (b13 : Nat) (b14 : Nat) (v15 : Value) (v16 : Value) (v17 : Value) (v18 : Value) (v19 : Value) (v20 : Value) (v21 : Value) (v22 : Value) (v23 : Value) (v24 : Value) (v25 : Value) (v26 : Value) (v27 : Value) (v28 : Value) (v29 : Value) (v30 : Value) (v31 : Value) (v32 : Value) (v33 : Value) (v34 : Value) (v35 : Value) (v36 : Value) (v37 : Value) (v38 : Value) (v39 : Value) (v40 : Value) (v41 : Value) (v42 : Value) (v43 : Value) (v44 : Value) (v45 : Value) (f46 : Nat → Int64) (v47 : Value) (v48 : Value) (v49 : Value) (f50 : Nat → Option Nat) (v52 : Value) (f53 : Nat → Int64) (f55 : Nat → Option Nat) (f57 : Nat → Int32) (f59 : Nat → Int32) (f64 : Nat → Option Nat) (h51 : f50 (xs 3).toNatClampNeg = some a5) (h54 : f53 0 = 0) (h56 : f55 (xs 3).toNatClampNeg = some a9) (h58 : f57 (xs 3).toNatClampNeg = 4) (h60 : f59 0 = 110) (h61 : f59 1 = 117) (h62 : f59 2 = 108) (h63 : f59 3 = 108) (h65 : f64 0 = none) (hto1 : ¬ (xs 1) < 0) (hto2 : ¬ 7 < (xs 1)) (hto3 : (xs 1) ≤ 7) (hto4 : vp_in (xs 1) 8) (hf : xs 2 = 8) (ha1 : ¬ (xs 3) < 0) (ha2 : ¬ 7 < (xs 3)) (ha3 : (xs 3) ≤ 7) (ha4 : vp_in (xs 3) 8) (hXs : va_X b 6 xs s s.heap) (hP : va_P D xcl [(a0, .inr (0, [v11, v12, .ref b13, .ref a4, .ref b14, .ref a3, v15, v16])), (a1, .inr (5, [v17, .ref a10, v18, v19, v20, v21, v22, v23, v24, v25, v26, v27, v28, v29, v30, v31, v32, v33, v34, v35, v36, v37, v38, v39, .ref a7, .ref a8, v40, v41, v42, v43, v44, v45])), (a2, .inl (cT 2, 1, .inr (.inl f46))), (a3, .inr (2, [v47, v48, v49])), (a4, .inl (cT 3, 8, .inr (.inr (.inr (.inr f50))))), (a5, .inr (2, [.ref a6, .int 1, v52])), (a6, .inl (cT 2, 4096, .inr (.inl f53))), (a7, .inl (cT 5, 8, .inr (.inr (.inr (.inr f55))))), (a8, .inl (cT 1, 8, .inl f57)), (a9, .inl (cT 0, 4096, .inl f59)), (a10, .inl (cT 4, 1024, .inr (.inr (.inr (.inr f64)))))] H) (hD : va_D A [(a0, .inr (0, [v11, v12, .ref b13, .ref a4, .ref b14, .ref a3, v15, v16])), (a1, .inr (5, [v17, .ref a10, v18, v19, v20, v21, v22, v23, v24, v25, v26, v27, v28, v29, v30, v31, v32, v33, v34, v35, v36, v37, v38, v39, .ref a7, .ref a8, v40, v41, v42, v43, v44, v45])), (a2, .inl (cT 2, 1, .inr (.inl f46))), (a3, .inr (2, [v47, v48, v49])), (a4, .inl (cT 3, 8, .inr (.inr (.inr (.inr f50))))), (a5, .inr (2, [.ref a6, .int 1, v52])), (a6, .inl (cT 2, 4096, .inr (.inl f53))), (a7, .inl (cT 5, 8, .inr (.inr (.inr (.inr f55))))), (a8, .inl (cT 1, 8, .inl f57)), (a9, .inl (cT 0, 4096, .inl f59)), (a10, .inl (cT 4, 1024, .inr (.inr (.inr (.inr f64)))))]) (hS : va_S A s.heap H locs) (hl : lv_has ls 8 [(4, .int 0), (3, .ref a2), (2, .ref a1), (1, .ref a0), (0, .ref b)]) : W p l e room_1 s m #[Value.ref b] below meth c H locs 54 107242 (lw_Z below #[Value.ref b] s) (F0 m 591 ls []) := by
  obtain ⟨hx, hb, hr, hml, hown, htx, hbl, hbA, hlocks, hK, hZ, hA, hA2⟩ := C
  refine lv_aload_n hx hb dL_law_591 rfl (lv_at hl 3 rfl) ?_
  refine lv_aload_n hx hb dL_law_592 rfl (lv_at hl 4 rfl) ?_
  refine lv_iload hx hb dL_law_593 (lv_at hl 0 rfl) ?_
  refine lv_iconst (v := 1) hx hb dL_law_595 (by decide) ?_
  refine lv_iadd hx hb dL_law_596 ?_
  refine W.eq (g2 := F0 m 597 ls [.int 1, .ref b, .ref a0]) rfl ?_
  refine va_sld hx hb hXs hbl hbA hS (i := 1) (show ¬ ((1 : Int32) < 0 ∨ 6 ≤ (1 : Int32).toNatClampNeg) by decide) dL_law_597 ?_
  refine W.eq (g2 := F0 m 598 ls [.int (xs 1), .ref a0]) rfl ?_
  refine lv_aload_n hx hb dL_law_598 rfl (lv_at hl 4 rfl) ?_
  refine lv_iload hx hb dL_law_599 (lv_at hl 0 rfl) ?_
  refine lv_iconst (v := 2) hx hb dL_law_601 (by decide) ?_
  refine lv_iadd hx hb dL_law_602 ?_
  refine W.eq (g2 := F0 m 603 ls [.int 2, .ref b, .int (xs 1), .ref a0]) rfl ?_
  refine va_sld hx hb hXs hbl hbA hS (i := 2) (show ¬ ((2 : Int32) < 0 ∨ 6 ≤ (2 : Int32).toNatClampNeg) by decide) dL_law_603 ?_
  refine W.eq (g2 := F0 m 604 ls [.int (xs 2), .int (xs 1), .ref a0]) rfl ?_
  rw [hf]
  refine W.eq (g2 := F0 m 604 ls [.int 8, .int (xs 1), .ref a0]) rfl ?_
  refine lv_aload_n hx hb dL_law_604 rfl (lv_at hl 4 rfl) ?_
  refine lv_iload hx hb dL_law_605 (lv_at hl 0 rfl) ?_
  refine lv_iconst (v := 3) hx hb dL_law_607 (by decide) ?_
  refine lv_iadd hx hb dL_law_608 ?_
  refine W.eq (g2 := F0 m 609 ls [.int 3, .ref b, .int 8, .int (xs 1), .ref a0]) rfl ?_
  refine va_sld hx hb hXs hbl hbA hS (i := 3) (show ¬ ((3 : Int32) < 0 ∨ 6 ≤ (3 : Int32).toNatClampNeg) by decide) dL_law_609 ?_
  refine W.eq (g2 := F0 m 610 ls [.int (xs 3), .int 8, .int (xs 1), .ref a0]) rfl ?_
  obtain ⟨hPc, hDc, hFc⟩ := xcut (wc := [(a0, .inr (0, [v11, v12, .ref b13, .ref a4, .ref b14, .ref a3, v15, v16])), (a3, .inr (2, [v47, v48, v49])), (a4, .inl (cT 3, 8, .inr (.inr (.inr (.inr f50))))), (a5, .inr (2, [.ref a6, .int 1, v52])), (a6, .inl (cT 2, 4096, .inr (.inl f53)))]) hP hD hS hA [0, 3, 4, 5, 6] rfl rfl (by decide)
  refine va_calli (vx_runSW (As := [.ref a0, .int (xs 1), .int 8, .int (xs 3)]) (rest := []) ⟨hx, hb, hml, hown, htx⟩ (cL_one_14 l hl9 D cT aK aV H.size a0 a3 a4 a5 a6 (xs 1) (xs 3) v11 v12 b13 b14 v15 v16 v47 v48 v49 f50 v52 f53 hto1 hto2 hto3 hto4 ha1 ha2 ha3 ha4 (by first | rfl | exact h51 | exact h54 | exact h56 | exact h58 | exact h60 | exact h61 | exact h62 | exact h63 | exact h65) (by first | rfl | exact h51 | exact h54 | exact h56 | exact h58 | exact h60 | exact h61 | exact h62 | exact h63 | exact h65)) (xcSW 4 htx (xw_goodC kw_4_21) rfl rfl rfl (htx _ kw_1_0) (htx _ kw_4_19) ⟨by decide, by decide, by decide +kernel⟩ ⟨Nat.le_of_ble_eq_true rfl, Nat.le_of_ble_eq_true rfl⟩ (htx _ kw_4_20)) ⟨xPre_blind, (fun U hU hW => ⟨rfl, xPre_of hZ hS hFc hPc hDc hK U hU hW⟩)⟩ rfl rfl hl.1 rfl (lv_room (Nat.le_of_ble_eq_true rfl)) dL_law_610 ⟨Nat.le_of_ble_eq_true rfl, Nat.le_of_ble_eq_true rfl⟩) hS (fun q _ h => hFc q h) hFc (fun r1 u9 t H1 locs ht hvm hr9 hB hz1 hk1 hS => ?_)
  obtain ⟨hP1, hK1, hD1⟩ := hB
  rw [ht] at hP1
  obtain ⟨hP, hD⟩ := xjoin (W := [(a1, .inr (5, [v17, .ref a10, v18, v19, v20, v21, v22, v23, v24, v25, v26, v27, v28, v29, v30, v31, v32, v33, v34, v35, v36, v37, v38, v39, .ref a7, .ref a8, v40, v41, v42, v43, v44, v45])), (a2, .inl (cT 2, 1, .inr (.inl f46))), (a7, .inl (cT 5, 8, .inr (.inr (.inr (.inr f55))))), (a8, .inl (cT 1, 8, .inl f57)), (a9, .inl (cT 0, 4096, .inl f59)), (a10, .inl (cT 4, 1024, .inr (.inr (.inr (.inr f64))))), (a0, .inr (0, [v11, v12, .ref b13, .ref a4, .ref b14, .ref a3, v15, .int 1])), (a3, .inr (2, [v47, .int 0, .int 0])), (a4, .inl (cT 3, 8, .inr (.inr (.inr (.inr f50))))), (a5, .inr (2, [.ref a6, .int 1, v52])), (a6, .inl (cT 2, 4096, .inr (.inl f53)))]) hP hD [0, 3, 4, 5, 6] [1, 2, 7, 8, 9, 10] 6 rfl rfl (by decide) (by decide) hk1 hFc hP1 hD1
  generalize H1 = H at hP hS ⊢
  rw [hr9]
  refine W.eq (g2 := F0 m 613 ls [.int 2]) rfl ?_
  refine lv_istore (lv' := [(5, .int 2), (4, .int 0), (3, .ref a2), (2, .ref a1), (1, .ref a0), (0, .ref b)]) hx hb dL_law_613 hl (by decide) rfl (fun ls hl => ?_)
  refine lv_aload_n hx hb dL_law_615 rfl (lv_at hl 3 rfl) ?_
  refine lv_aload_n hx hb dL_law_616 rfl (lv_at hl 5 rfl) ?_
  refine lv_iload hx hb dL_law_617 (lv_at hl 1 rfl) ?_
  refine lv_iconst (v := 1) hx hb dL_law_619 (by decide) ?_
  refine lv_iadd hx hb dL_law_620 ?_
  refine W.eq (g2 := F0 m 621 ls [.int 1, .ref b, .ref a1]) rfl ?_
  refine va_sld hx hb hXs hbl hbA hS (i := 1) (show ¬ ((1 : Int32) < 0 ∨ 6 ≤ (1 : Int32).toNatClampNeg) by decide) dL_law_621 ?_
  refine W.eq (g2 := F0 m 622 ls [.int (xs 1), .ref a1]) rfl ?_
  refine lv_aload_n hx hb dL_law_622 rfl (lv_at hl 5 rfl) ?_
  refine lv_iload hx hb dL_law_623 (lv_at hl 1 rfl) ?_
  refine lv_iconst (v := 2) hx hb dL_law_625 (by decide) ?_
  refine lv_iadd hx hb dL_law_626 ?_
  refine W.eq (g2 := F0 m 627 ls [.int 2, .ref b, .int (xs 1), .ref a1]) rfl ?_
  refine va_sld hx hb hXs hbl hbA hS (i := 2) (show ¬ ((2 : Int32) < 0 ∨ 6 ≤ (2 : Int32).toNatClampNeg) by decide) dL_law_627 ?_
  refine W.eq (g2 := F0 m 628 ls [.int (xs 2), .int (xs 1), .ref a1]) rfl ?_
  rw [hf]
  refine W.eq (g2 := F0 m 628 ls [.int 8, .int (xs 1), .ref a1]) rfl ?_
  refine lv_aload_n hx hb dL_law_628 rfl (lv_at hl 5 rfl) ?_
  refine lv_iload hx hb dL_law_629 (lv_at hl 1 rfl) ?_
  refine lv_iconst (v := 3) hx hb dL_law_631 (by decide) ?_
  refine lv_iadd hx hb dL_law_632 ?_
  refine W.eq (g2 := F0 m 633 ls [.int 3, .ref b, .int 8, .int (xs 1), .ref a1]) rfl ?_
  refine va_sld hx hb hXs hbl hbA hS (i := 3) (show ¬ ((3 : Int32) < 0 ∨ 6 ≤ (3 : Int32).toNatClampNeg) by decide) dL_law_633 ?_
  refine W.eq (g2 := F0 m 634 ls [.int (xs 3), .int 8, .int (xs 1), .ref a1]) rfl ?_
  obtain ⟨hPc, hDc, hFc⟩ := xcut (wc := [(a1, .inr (5, [v17, .ref a10, v18, v19, v20, v21, v22, v23, v24, v25, v26, v27, v28, v29, v30, v31, v32, v33, v34, v35, v36, v37, v38, v39, .ref a7, .ref a8, v40, v41, v42, v43, v44, v45])), (a7, .inl (cT 5, 8, .inr (.inr (.inr (.inr f55))))), (a8, .inl (cT 1, 8, .inl f57)), (a9, .inl (cT 0, 4096, .inl f59)), (a10, .inl (cT 4, 1024, .inr (.inr (.inr (.inr f64)))))]) hP hD hS hA [0, 2, 3, 4, 5] rfl rfl (by decide)
  refine va_callv (va_runV (C := "ValueBenchModel") (As := [.int (xs 1), .int 8, .int (xs 3)]) (rest := []) ⟨hx, hb, hml, hown, htx⟩ (cM_one0_18 l hl9 D cT aK aV H.size a1 a7 a8 a9 a10 (xs 1) (xs 3) v17 v18 v19 v20 v21 v22 v23 v24 v25 v26 v27 v28 v29 v30 v31 v32 v33 v34 v35 v36 v37 v38 v39 v40 v41 v42 v43 v44 v45 f55 f57 f59 f64 hto1 hto2 hto3 hto4 ha1 ha2 ha3 ha4 (by first | rfl | exact h51 | exact h54 | exact h56 | exact h58 | exact h60 | exact h61 | exact h62 | exact h63 | exact h65) (by first | rfl | exact h51 | exact h54 | exact h56 | exact h58 | exact h60 | exact h61 | exact h62 | exact h63 | exact h65) (by first | rfl | exact h51 | exact h54 | exact h56 | exact h58 | exact h60 | exact h61 | exact h62 | exact h63 | exact h65) (by first | rfl | exact h51 | exact h54 | exact h56 | exact h58 | exact h60 | exact h61 | exact h62 | exact h63 | exact h65) (by first | rfl | exact h51 | exact h54 | exact h56 | exact h58 | exact h60 | exact h61 | exact h62 | exact h63 | exact h65) (by first | rfl | exact h51 | exact h54 | exact h56 | exact h58 | exact h60 | exact h61 | exact h62 | exact h63 | exact h65) (by first | rfl | exact h51 | exact h54 | exact h56 | exact h58 | exact h60 | exact h61 | exact h62 | exact h63 | exact h65)) ⟨callB_of 3 htx (xw_goodC kw_7_123) rfl rfl rfl (htx _ kw_1_5) (htx _ kw_7_120) ⟨by decide, by decide, by decide +kernel⟩ ⟨Nat.le_of_ble_eq_true rfl, Nat.le_of_ble_eq_true rfl⟩, (htx _ kw_7_121), (htx _ kw_7_122)⟩ ⟨xPre_blind, va_recv hK hP (ci := 5) rfl (q0 := 0) rfl, (fun U hU hW => ⟨rfl, xPre_of hZ hS hFc hPc hDc hK U hU hW⟩)⟩ rfl rfl hl.1 rfl (lv_room (Nat.le_of_ble_eq_true rfl)) dL_law_634 ⟨Nat.le_of_ble_eq_true rfl, Nat.le_of_ble_eq_true rfl⟩) hS (fun q _ h => hFc q h) hFc (fun u9 t H1 locs ht hvm hr9 hB hz1 hk1 hS => ?_)
  obtain ⟨q2, hP1, hK1, hD1⟩ := hB
  rw [ht] at hP1
  obtain ⟨hP, hD⟩ := xjoin (W := [(a2, .inl (cT 2, 1, .inr (.inl f46))), (a0, .inr (0, [v11, v12, .ref b13, .ref a4, .ref b14, .ref a3, v15, .int 1])), (a3, .inr (2, [v47, .int 0, .int 0])), (a4, .inl (cT 3, 8, .inr (.inr (.inr (.inr f50))))), (a5, .inr (2, [.ref a6, .int 1, v52])), (a6, .inl (cT 2, 4096, .inr (.inl f53))), (a1, .inr (5, [.int 2, .ref a10, .int 1, v19, .int 0, v21, v22, .int 0, .int 1, .int 0, v26, v27, .int 0, v29, v30, .ref a9, .int 4, .int 4, .int 0, .int 100, v36, v37, .int 0, .int 1000000000, .ref a7, .ref a8, v40, v41, v42, v43, .int 1, v45])), (a7, .inl (cT 5, 8, .inr (.inr (.inr (.inr f55))))), (a8, .inl (cT 1, 8, .inl f57)), (a9, .inl (cT 0, 4096, .inl f59)), (a10, .inl (cT 4, 1024, .inr (.inr (.inr (.inr (va_up f64 0 (some q2))))))), (q2, .inr (6, [.int 0, .long 0, .int 0, .int 0, .int 0, .int 1]))]) hP hD [0, 2, 3, 4, 5] [1, 6, 7, 8, 9, 10] 6 rfl rfl (by decide) (by decide) hk1 hFc hP1 hD1
  generalize H1 = H at hP hS ⊢
  refine lv_aload_n hx hb dL_law_637 rfl (lv_at hl 3 rfl) ?_
  obtain ⟨hPc, hDc, hFc⟩ := xcut (wc := [(a1, .inr (5, [.int 2, .ref a10, .int 1, v19, .int 0, v21, v22, .int 0, .int 1, .int 0, v26, v27, .int 0, v29, v30, .ref a9, .int 4, .int 4, .int 0, .int 100, v36, v37, .int 0, .int 1000000000, .ref a7, .ref a8, v40, v41, v42, v43, .int 1, v45]))]) hP hD hS hA [6] rfl rfl (by decide)
  refine va_calli (va_runV (C := "ValueBenchModel") (As := []) (rest := []) ⟨hx, hb, hml, hown, htx⟩ (cM_thrown_2 l hl9 D cT aK aV H.size a1 (.ref a10) (.int 1) v19 (.int 0) v21 v22 (.int 0) (.int 1) (.int 0) v26 v27 (.int 0) v29 v30 (.ref a9) (.int 4) (.int 4) (.int 0) (.int 100) v36 v37 (.int 0) (.int 1000000000) (.ref a7) (.ref a8) v40 v41 v42 v43 (.int 1) v45) ⟨callB_of 0 htx (xw_goodC kw_5_187) rfl rfl rfl (htx _ kw_1_5) (htx _ kw_5_184) ⟨by decide, by decide, by decide +kernel⟩ ⟨Nat.le_of_ble_eq_true rfl, Nat.le_of_ble_eq_true rfl⟩, (htx _ kw_5_185), (htx _ kw_5_186)⟩ ⟨xPre_blind, va_recv hK hP (ci := 5) rfl (q0 := 6) rfl, (fun U hU hW => ⟨rfl, xPre_of hZ hS hFc hPc hDc hK U hU hW⟩)⟩ rfl rfl hl.1 rfl (lv_room (Nat.le_of_ble_eq_true rfl)) dL_law_638 ⟨Nat.le_of_ble_eq_true rfl, Nat.le_of_ble_eq_true rfl⟩) hS (fun q _ h => hFc q h) hFc (fun r3 u9 t H1 locs ht hvm hr9 hB hz1 hk1 hS => ?_)
  obtain ⟨hP1, hK1, hD1⟩ := hB
  rw [ht] at hP1
  obtain ⟨hP, hD⟩ := xjoin (W := [(a2, .inl (cT 2, 1, .inr (.inl f46))), (a0, .inr (0, [v11, v12, .ref b13, .ref a4, .ref b14, .ref a3, v15, .int 1])), (a3, .inr (2, [v47, .int 0, .int 0])), (a4, .inl (cT 3, 8, .inr (.inr (.inr (.inr f50))))), (a5, .inr (2, [.ref a6, .int 1, v52])), (a6, .inl (cT 2, 4096, .inr (.inl f53))), (a7, .inl (cT 5, 8, .inr (.inr (.inr (.inr f55))))), (a8, .inl (cT 1, 8, .inl f57)), (a9, .inl (cT 0, 4096, .inl f59)), (a10, .inl (cT 4, 1024, .inr (.inr (.inr (.inr (va_up f64 0 (some q2))))))), (q2, .inr (6, [.int 0, .long 0, .int 0, .int 0, .int 0, .int 1])), (a1, .inr (5, [.int 2, .ref a10, .int 1, v19, .int 0, v21, v22, .int 0, .int 1, .int 0, v26, v27, .int 0, v29, v30, .ref a9, .int 4, .int 4, .int 0, .int 100, v36, v37, .int 0, .int 1000000000, .ref a7, .ref a8, v40, v41, v42, v43, .int 1, v45]))]) hP hD [6] [0, 1, 2, 3, 4, 5, 7, 8, 9, 10, 11] 11 rfl rfl (by decide) (by decide) hk1 hFc hP1 hD1
  generalize H1 = H at hP hS ⊢
  rw [hr9]
  refine W.eq (g2 := F0 m 641 ls [.int 2]) rfl ?_
  refine lv_iload hx hb dL_law_641 (lv_at hl 0 rfl) ?_
  refine lv_icmp_eq (tgt := 648) hx hb dL_law_643 (by decide) (fun _ => ?_) (fun h => ((by revert h; decide : False)).elim)
  refine lv_goto (tgt := 906) hx hb dL_law_648 (by decide) ?_
  refine lv_iinc (v := 6) (lv' := [(4, .int 6), (5, .int 2), (3, .ref a2), (2, .ref a1), (1, .ref a0), (0, .ref b)]) hx hb dL_law_906 hl (k := 1) rfl (by decide) (by decide) rfl (fun ls hl => ?_)
  refine lv_goto (tgt := 23) hx hb dL_law_909 (by decide) ?_
  refine lv_iload hx hb dL_law_23 (lv_at hl 0 rfl) ?_
  refine lv_aload_n hx hb dL_law_25 rfl (lv_at hl 5 rfl) ?_
  refine va_slen hx hb hXs hbl hbA hS dL_law_26 ?_
  refine W.eq (g2 := F0 m 27 ls [.int 6, .int 6]) rfl ?_
  refine lv_bipush (v := 6) hx hb dL_law_27 (by decide) ?_
  refine lv_isub hx hb dL_law_29 ?_
  refine W.eq (g2 := F0 m 30 ls [.int 0, .int 6]) rfl ?_
  refine lv_icmp_gt (tgt := 912) hx hb dL_law_30 (by decide) (fun _ => ?_) (fun h => ((by revert h; decide : False)).elim)
  refine lv_iconst (v := 1) hx hb dL_law_912 (by decide) ?_
  exact va_forget (fun q h => hA2 _ (hS.2.2 q h)) (W.widen (k := 600002) (n := 7302232) (Nat.le_of_ble_eq_true rfl) (Nat.le_of_ble_eq_true rfl) (lw_ret hx hb hr hlocks dL_law_913))
set_option maxHeartbeats 400000000 in
set_option maxRecDepth 100000 in
theorem lf_one8_p0 {p : Program} {e : Env} {s : State} {m : MethodId} {below : List Frame} {meth : Method} {c : Code} (l : Launch) (hl9 : l.stackTraces = false) (D : va_G) (cT : Nat → ClassId) (aK aV : Nat → Nat) {A : Nat → Prop} {b : Nat} {xs : Nat → Int32} (C : xLw p s m meth c b D cT aK aV A) {H : Heap} {locs : List Loc} {ls : Array Slot} (a0 : Nat) (a1 : Nat) (a2 : Nat) (a3 : Nat) (a4 : Nat) (a5 : Nat) (a6 : Nat) (a7 : Nat) (a8 : Nat) (a9 : Nat) (a10 : Nat) (v11 : Value) (v12 : Value) (b13 : Nat) (b14 : Nat) (v15 : Value) (v16 : Value) (v17 : Value) (v18 : Value) (v19 : Value) (v20 : Value) (v21 : Value) (v22 : Value) (v23 : Value) (v24 : Value) (v25 : Value) (v26 : Value) (v27 : Value) (v28 : Value) (v29 : Value) (v30 : Value) (v31 : Value) (v32 : Value) (v33 : Value) (v34 : Value) (v35 : Value) (v36 : Value) (v37 : Value) (v38 : Value) (v39 : Value) (v40 : Value) (v41 : Value) (v42 : Value) (v43 : Value) (v44 : Value) (v45 : Value) (f46 : Nat → Int64) (v47 : Value) (v48 : Value) (v49 : Value) (f50 : Nat → Option Nat) (v52 : Value) (f53 : Nat → Int64) (f55 : Nat → Option Nat) (f57 : Nat → Int32) (f59 : Nat → Int32) (f64 : Nat → Option Nat) (h51 : f50 (xs 3).toNatClampNeg = some a5) (h54 : f53 0 = 0) (h56 : f55 (xs 3).toNatClampNeg = some a9) (h58 : f57 (xs 3).toNatClampNeg = 4) (h60 : f59 0 = 110) (h61 : f59 1 = 117) (h62 : f59 2 = 108) (h63 : f59 3 = 108) (h65 : f64 0 = none) (hto1 : ¬ (xs 1) < 0) (hto2 : ¬ 7 < (xs 1)) (hto3 : (xs 1) ≤ 7) (hto4 : vp_in (xs 1) 8) (hf : xs 2 = 8) (ha1 : ¬ (xs 3) < 0) (ha2 : ¬ 7 < (xs 3)) (ha3 : (xs 3) ≤ 7) (ha4 : vp_in (xs 3) 8) (hXs : va_X b 6 xs s s.heap) (hP : va_P D xcl [(a0, .inr (0, [v11, v12, .ref b13, .ref a4, .ref b14, .ref a3, v15, v16])), (a1, .inr (5, [v17, .ref a10, v18, v19, v20, v21, v22, v23, v24, v25, v26, v27, v28, v29, v30, v31, v32, v33, v34, v35, v36, v37, v38, v39, .ref a7, .ref a8, v40, v41, v42, v43, v44, v45])), (a2, .inl (cT 2, 1, .inr (.inl f46))), (a3, .inr (2, [v47, v48, v49])), (a4, .inl (cT 3, 8, .inr (.inr (.inr (.inr f50))))), (a5, .inr (2, [.ref a6, .int 1, v52])), (a6, .inl (cT 2, 4096, .inr (.inl f53))), (a7, .inl (cT 5, 8, .inr (.inr (.inr (.inr f55))))), (a8, .inl (cT 1, 8, .inl f57)), (a9, .inl (cT 0, 4096, .inl f59)), (a10, .inl (cT 4, 1024, .inr (.inr (.inr (.inr f64)))))] H) (hD : va_D A [(a0, .inr (0, [v11, v12, .ref b13, .ref a4, .ref b14, .ref a3, v15, v16])), (a1, .inr (5, [v17, .ref a10, v18, v19, v20, v21, v22, v23, v24, v25, v26, v27, v28, v29, v30, v31, v32, v33, v34, v35, v36, v37, v38, v39, .ref a7, .ref a8, v40, v41, v42, v43, v44, v45])), (a2, .inl (cT 2, 1, .inr (.inl f46))), (a3, .inr (2, [v47, v48, v49])), (a4, .inl (cT 3, 8, .inr (.inr (.inr (.inr f50))))), (a5, .inr (2, [.ref a6, .int 1, v52])), (a6, .inl (cT 2, 4096, .inr (.inl f53))), (a7, .inl (cT 5, 8, .inr (.inr (.inr (.inr f55))))), (a8, .inl (cT 1, 8, .inl f57)), (a9, .inl (cT 0, 4096, .inl f59)), (a10, .inl (cT 4, 1024, .inr (.inr (.inr (.inr f64)))))]) (hS : va_S A s.heap H locs) (hl : lv_has ls 8 [(4, .int 0), (3, .ref a2), (2, .ref a1), (1, .ref a0), (0, .ref b)]) : W p l e room_1 s m #[Value.ref b] below meth c H locs 54 107242 (lw_Z below #[Value.ref b] s) (F0 m 591 ls []) := by
  obtain ⟨hx, hb, hr, hml, hown, htx, hbl, hbA, hlocks, hK, hZ, hA, hA2⟩ := C
  refine lv_aload_n hx hb dL_law_591 rfl (lv_at hl 3 rfl) ?_
  refine lv_aload_n hx hb dL_law_592 rfl (lv_at hl 4 rfl) ?_
  refine lv_iload hx hb dL_law_593 (lv_at hl 0 rfl) ?_
  refine lv_iconst (v := 1) hx hb dL_law_595 (by decide) ?_
  refine lv_iadd hx hb dL_law_596 ?_
  refine W.eq (g2 := F0 m 597 ls [.int 1, .ref b, .ref a0]) rfl ?_
  refine va_sld hx hb hXs hbl hbA hS (i := 1) (show ¬ ((1 : Int32) < 0 ∨ 6 ≤ (1 : Int32).toNatClampNeg) by decide) dL_law_597 ?_
  refine W.eq (g2 := F0 m 598 ls [.int (xs 1), .ref a0]) rfl ?_
  refine lv_aload_n hx hb dL_law_598 rfl (lv_at hl 4 rfl) ?_
  refine lv_iload hx hb dL_law_599 (lv_at hl 0 rfl) ?_
  refine lv_iconst (v := 2) hx hb dL_law_601 (by decide) ?_
  refine lv_iadd hx hb dL_law_602 ?_
  refine W.eq (g2 := F0 m 603 ls [.int 2, .ref b, .int (xs 1), .ref a0]) rfl ?_
  refine va_sld hx hb hXs hbl hbA hS (i := 2) (show ¬ ((2 : Int32) < 0 ∨ 6 ≤ (2 : Int32).toNatClampNeg) by decide) dL_law_603 ?_
  refine W.eq (g2 := F0 m 604 ls [.int (xs 2), .int (xs 1), .ref a0]) rfl ?_
  rw [hf]
  refine W.eq (g2 := F0 m 604 ls [.int 8, .int (xs 1), .ref a0]) rfl ?_
  refine lv_aload_n hx hb dL_law_604 rfl (lv_at hl 4 rfl) ?_
  refine lv_iload hx hb dL_law_605 (lv_at hl 0 rfl) ?_
  refine lv_iconst (v := 3) hx hb dL_law_607 (by decide) ?_
  refine lv_iadd hx hb dL_law_608 ?_
  refine W.eq (g2 := F0 m 609 ls [.int 3, .ref b, .int 8, .int (xs 1), .ref a0]) rfl ?_
  refine va_sld hx hb hXs hbl hbA hS (i := 3) (show ¬ ((3 : Int32) < 0 ∨ 6 ≤ (3 : Int32).toNatClampNeg) by decide) dL_law_609 ?_
  refine W.eq (g2 := F0 m 610 ls [.int (xs 3), .int 8, .int (xs 1), .ref a0]) rfl ?_
  obtain ⟨hPc, hDc, hFc⟩ := xcut (wc := [(a0, .inr (0, [v11, v12, .ref b13, .ref a4, .ref b14, .ref a3, v15, v16])), (a3, .inr (2, [v47, v48, v49])), (a4, .inl (cT 3, 8, .inr (.inr (.inr (.inr f50))))), (a5, .inr (2, [.ref a6, .int 1, v52])), (a6, .inl (cT 2, 4096, .inr (.inl f53)))]) hP hD hS hA [0, 3, 4, 5, 6] rfl rfl (by decide)
  refine va_calli (vx_runSW (As := [.ref a0, .int (xs 1), .int 8, .int (xs 3)]) (rest := []) ⟨hx, hb, hml, hown, htx⟩ (cL_one_14 l hl9 D cT aK aV H.size a0 a3 a4 a5 a6 (xs 1) (xs 3) v11 v12 b13 b14 v15 v16 v47 v48 v49 f50 v52 f53 hto1 hto2 hto3 hto4 ha1 ha2 ha3 ha4 (by first | rfl | exact h51 | exact h54 | exact h56 | exact h58 | exact h60 | exact h61 | exact h62 | exact h63 | exact h65) (by first | rfl | exact h51 | exact h54 | exact h56 | exact h58 | exact h60 | exact h61 | exact h62 | exact h63 | exact h65)) (xcSW 4 htx (xw_goodC kw_4_21) rfl rfl rfl (htx _ kw_1_0) (htx _ kw_4_19) ⟨by decide, by decide, by decide +kernel⟩ ⟨Nat.le_of_ble_eq_true rfl, Nat.le_of_ble_eq_true rfl⟩ (htx _ kw_4_20)) ⟨xPre_blind, (fun U hU hW => ⟨rfl, xPre_of hZ hS hFc hPc hDc hK U hU hW⟩)⟩ rfl rfl hl.1 rfl (lv_room (Nat.le_of_ble_eq_true rfl)) dL_law_610 ⟨Nat.le_of_ble_eq_true rfl, Nat.le_of_ble_eq_true rfl⟩) hS (fun q _ h => hFc q h) hFc (fun r1 u9 t H1 locs ht hvm hr9 hB hz1 hk1 hS => ?_)
  obtain ⟨hP1, hK1, hD1⟩ := hB
  rw [ht] at hP1
  obtain ⟨hP, hD⟩ := xjoin (W := [(a1, .inr (5, [v17, .ref a10, v18, v19, v20, v21, v22, v23, v24, v25, v26, v27, v28, v29, v30, v31, v32, v33, v34, v35, v36, v37, v38, v39, .ref a7, .ref a8, v40, v41, v42, v43, v44, v45])), (a2, .inl (cT 2, 1, .inr (.inl f46))), (a7, .inl (cT 5, 8, .inr (.inr (.inr (.inr f55))))), (a8, .inl (cT 1, 8, .inl f57)), (a9, .inl (cT 0, 4096, .inl f59)), (a10, .inl (cT 4, 1024, .inr (.inr (.inr (.inr f64))))), (a0, .inr (0, [v11, v12, .ref b13, .ref a4, .ref b14, .ref a3, v15, .int 1])), (a3, .inr (2, [v47, .int 0, .int 0])), (a4, .inl (cT 3, 8, .inr (.inr (.inr (.inr f50))))), (a5, .inr (2, [.ref a6, .int 1, v52])), (a6, .inl (cT 2, 4096, .inr (.inl f53)))]) hP hD [0, 3, 4, 5, 6] [1, 2, 7, 8, 9, 10] 6 rfl rfl (by decide) (by decide) hk1 hFc hP1 hD1
  generalize H1 = H at hP hS ⊢
  rw [hr9]
  refine W.eq (g2 := F0 m 613 ls [.int 2]) rfl ?_
  refine lv_istore (lv' := [(5, .int 2), (4, .int 0), (3, .ref a2), (2, .ref a1), (1, .ref a0), (0, .ref b)]) hx hb dL_law_613 hl (by decide) rfl (fun ls hl => ?_)
  refine lv_aload_n hx hb dL_law_615 rfl (lv_at hl 3 rfl) ?_
  refine lv_aload_n hx hb dL_law_616 rfl (lv_at hl 5 rfl) ?_
  refine lv_iload hx hb dL_law_617 (lv_at hl 1 rfl) ?_
  refine lv_iconst (v := 1) hx hb dL_law_619 (by decide) ?_
  refine lv_iadd hx hb dL_law_620 ?_
  refine W.eq (g2 := F0 m 621 ls [.int 1, .ref b, .ref a1]) rfl ?_
  refine va_sld hx hb hXs hbl hbA hS (i := 1) (show ¬ ((1 : Int32) < 0 ∨ 6 ≤ (1 : Int32).toNatClampNeg) by decide) dL_law_621 ?_
  refine W.eq (g2 := F0 m 622 ls [.int (xs 1), .ref a1]) rfl ?_
  refine lv_aload_n hx hb dL_law_622 rfl (lv_at hl 5 rfl) ?_
  refine lv_iload hx hb dL_law_623 (lv_at hl 1 rfl) ?_
  refine lv_iconst (v := 2) hx hb dL_law_625 (by decide) ?_
  refine lv_iadd hx hb dL_law_626 ?_
  refine W.eq (g2 := F0 m 627 ls [.int 2, .ref b, .int (xs 1), .ref a1]) rfl ?_
  refine va_sld hx hb hXs hbl hbA hS (i := 2) (show ¬ ((2 : Int32) < 0 ∨ 6 ≤ (2 : Int32).toNatClampNeg) by decide) dL_law_627 ?_
  refine W.eq (g2 := F0 m 628 ls [.int (xs 2), .int (xs 1), .ref a1]) rfl ?_
  rw [hf]
  refine W.eq (g2 := F0 m 628 ls [.int 8, .int (xs 1), .ref a1]) rfl ?_
  refine lv_aload_n hx hb dL_law_628 rfl (lv_at hl 5 rfl) ?_
  refine lv_iload hx hb dL_law_629 (lv_at hl 1 rfl) ?_
  refine lv_iconst (v := 3) hx hb dL_law_631 (by decide) ?_
  refine lv_iadd hx hb dL_law_632 ?_
  refine W.eq (g2 := F0 m 633 ls [.int 3, .ref b, .int 8, .int (xs 1), .ref a1]) rfl ?_
  refine va_sld hx hb hXs hbl hbA hS (i := 3) (show ¬ ((3 : Int32) < 0 ∨ 6 ≤ (3 : Int32).toNatClampNeg) by decide) dL_law_633 ?_
  refine W.eq (g2 := F0 m 634 ls [.int (xs 3), .int 8, .int (xs 1), .ref a1]) rfl ?_
  obtain ⟨hPc, hDc, hFc⟩ := xcut (wc := [(a1, .inr (5, [v17, .ref a10, v18, v19, v20, v21, v22, v23, v24, v25, v26, v27, v28, v29, v30, v31, v32, v33, v34, v35, v36, v37, v38, v39, .ref a7, .ref a8, v40, v41, v42, v43, v44, v45])), (a7, .inl (cT 5, 8, .inr (.inr (.inr (.inr f55))))), (a8, .inl (cT 1, 8, .inl f57)), (a9, .inl (cT 0, 4096, .inl f59)), (a10, .inl (cT 4, 1024, .inr (.inr (.inr (.inr f64)))))]) hP hD hS hA [0, 2, 3, 4, 5] rfl rfl (by decide)
  refine va_callv (va_runV (C := "ValueBenchModel") (As := [.int (xs 1), .int 8, .int (xs 3)]) (rest := []) ⟨hx, hb, hml, hown, htx⟩ (cM_one0_18 l hl9 D cT aK aV H.size a1 a7 a8 a9 a10 (xs 1) (xs 3) v17 v18 v19 v20 v21 v22 v23 v24 v25 v26 v27 v28 v29 v30 v31 v32 v33 v34 v35 v36 v37 v38 v39 v40 v41 v42 v43 v44 v45 f55 f57 f59 f64 hto1 hto2 hto3 hto4 ha1 ha2 ha3 ha4 (by first | rfl | exact h51 | exact h54 | exact h56 | exact h58 | exact h60 | exact h61 | exact h62 | exact h63 | exact h65) (by first | rfl | exact h51 | exact h54 | exact h56 | exact h58 | exact h60 | exact h61 | exact h62 | exact h63 | exact h65) (by first | rfl | exact h51 | exact h54 | exact h56 | exact h58 | exact h60 | exact h61 | exact h62 | exact h63 | exact h65) (by first | rfl | exact h51 | exact h54 | exact h56 | exact h58 | exact h60 | exact h61 | exact h62 | exact h63 | exact h65) (by first | rfl | exact h51 | exact h54 | exact h56 | exact h58 | exact h60 | exact h61 | exact h62 | exact h63 | exact h65) (by first | rfl | exact h51 | exact h54 | exact h56 | exact h58 | exact h60 | exact h61 | exact h62 | exact h63 | exact h65) (by first | rfl | exact h51 | exact h54 | exact h56 | exact h58 | exact h60 | exact h61 | exact h62 | exact h63 | exact h65)) ⟨callB_of 3 htx (xw_goodC kw_7_123) rfl rfl rfl (htx _ kw_1_5) (htx _ kw_7_120) ⟨by decide, by decide, by decide +kernel⟩ ⟨Nat.le_of_ble_eq_true rfl, Nat.le_of_ble_eq_true rfl⟩, (htx _ kw_7_121), (htx _ kw_7_122)⟩ ⟨xPre_blind, va_recv hK hP (ci := 5) rfl (q0 := 0) rfl, (fun U hU hW => ⟨rfl, xPre_of hZ hS hFc hPc hDc hK U hU hW⟩)⟩ rfl rfl hl.1 rfl (lv_room (Nat.le_of_ble_eq_true rfl)) dL_law_634 ⟨Nat.le_of_ble_eq_true rfl, Nat.le_of_ble_eq_true rfl⟩) hS (fun q _ h => hFc q h) hFc (fun u9 t H1 locs ht hvm hr9 hB hz1 hk1 hS => ?_)
  obtain ⟨q2, hP1, hK1, hD1⟩ := hB
  rw [ht] at hP1
  obtain ⟨hP, hD⟩ := xjoin (W := [(a2, .inl (cT 2, 1, .inr (.inl f46))), (a0, .inr (0, [v11, v12, .ref b13, .ref a4, .ref b14, .ref a3, v15, .int 1])), (a3, .inr (2, [v47, .int 0, .int 0])), (a4, .inl (cT 3, 8, .inr (.inr (.inr (.inr f50))))), (a5, .inr (2, [.ref a6, .int 1, v52])), (a6, .inl (cT 2, 4096, .inr (.inl f53))), (a1, .inr (5, [.int 2, .ref a10, .int 1, v19, .int 0, v21, v22, .int 0, .int 1, .int 0, v26, v27, .int 0, v29, v30, .ref a9, .int 4, .int 4, .int 0, .int 100, v36, v37, .int 0, .int 1000000000, .ref a7, .ref a8, v40, v41, v42, v43, .int 1, v45])), (a7, .inl (cT 5, 8, .inr (.inr (.inr (.inr f55))))), (a8, .inl (cT 1, 8, .inl f57)), (a9, .inl (cT 0, 4096, .inl f59)), (a10, .inl (cT 4, 1024, .inr (.inr (.inr (.inr (va_up f64 0 (some q2))))))), (q2, .inr (6, [.int 0, .long 0, .int 0, .int 0, .int 0, .int 1]))]) hP hD [0, 2, 3, 4, 5] [1, 6, 7, 8, 9, 10] 6 rfl rfl (by decide) (by decide) hk1 hFc hP1 hD1
  generalize H1 = H at hP hS ⊢
  refine lv_aload_n hx hb dL_law_637 rfl (lv_at hl 3 rfl) ?_
  obtain ⟨hPc, hDc, hFc⟩ := xcut (wc := [(a1, .inr (5, [.int 2, .ref a10, .int 1, v19, .int 0, v21, v22, .int 0, .int 1, .int 0, v26, v27, .int 0, v29, v30, .ref a9, .int 4, .int 4, .int 0, .int 100, v36, v37, .int 0, .int 1000000000, .ref a7, .ref a8, v40, v41, v42, v43, .int 1, v45]))]) hP hD hS hA [6] rfl rfl (by decide)
  refine va_calli (va_runV (C := "ValueBenchModel") (As := []) (rest := []) ⟨hx, hb, hml, hown, htx⟩ (cM_thrown_2 l hl9 D cT aK aV H.size a1 (.ref a10) (.int 1) v19 (.int 0) v21 v22 (.int 0) (.int 1) (.int 0) v26 v27 (.int 0) v29 v30 (.ref a9) (.int 4) (.int 4) (.int 0) (.int 100) v36 v37 (.int 0) (.int 1000000000) (.ref a7) (.ref a8) v40 v41 v42 v43 (.int 1) v45) ⟨callB_of 0 htx (xw_goodC kw_5_187) rfl rfl rfl (htx _ kw_1_5) (htx _ kw_5_184) ⟨by decide, by decide, by decide +kernel⟩ ⟨Nat.le_of_ble_eq_true rfl, Nat.le_of_ble_eq_true rfl⟩, (htx _ kw_5_185), (htx _ kw_5_186)⟩ ⟨xPre_blind, va_recv hK hP (ci := 5) rfl (q0 := 6) rfl, (fun U hU hW => ⟨rfl, xPre_of hZ hS hFc hPc hDc hK U hU hW⟩)⟩ rfl rfl hl.1 rfl (lv_room (Nat.le_of_ble_eq_true rfl)) dL_law_638 ⟨Nat.le_of_ble_eq_true rfl, Nat.le_of_ble_eq_true rfl⟩) hS (fun q _ h => hFc q h) hFc (fun r3 u9 t H1 locs ht hvm hr9 hB hz1 hk1 hS => ?_)
  obtain ⟨hP1, hK1, hD1⟩ := hB
  rw [ht] at hP1
  obtain ⟨hP, hD⟩ := xjoin (W := [(a2, .inl (cT 2, 1, .inr (.inl f46))), (a0, .inr (0, [v11, v12, .ref b13, .ref a4, .ref b14, .ref a3, v15, .int 1])), (a3, .inr (2, [v47, .int 0, .int 0])), (a4, .inl (cT 3, 8, .inr (.inr (.inr (.inr f50))))), (a5, .inr (2, [.ref a6, .int 1, v52])), (a6, .inl (cT 2, 4096, .inr (.inl f53))), (a7, .inl (cT 5, 8, .inr (.inr (.inr (.inr f55))))), (a8, .inl (cT 1, 8, .inl f57)), (a9, .inl (cT 0, 4096, .inl f59)), (a10, .inl (cT 4, 1024, .inr (.inr (.inr (.inr (va_up f64 0 (some q2))))))), (q2, .inr (6, [.int 0, .long 0, .int 0, .int 0, .int 0, .int 1])), (a1, .inr (5, [.int 2, .ref a10, .int 1, v19, .int 0, v21, v22, .int 0, .int 1, .int 0, v26, v27, .int 0, v29, v30, .ref a9, .int 4, .int 4, .int 0, .int 100, v36, v37, .int 0, .int 1000000000, .ref a7, .ref a8, v40, v41, v42, v43, .int 1, v45]))]) hP hD [6] [0, 1, 2, 3, 4, 5, 7, 8, 9, 10, 11] 11 rfl rfl (by decide) (by decide) hk1 hFc hP1 hD1
  generalize H1 = H at hP hS ⊢
  rw [hr9]
  refine W.eq (g2 := F0 m 641 ls [.int 2]) rfl ?_
  refine lv_iload hx hb dL_law_641 (lv_at hl 0 rfl) ?_
  refine lv_icmp_eq (tgt := 648) hx hb dL_law_643 (by decide) (fun _ => ?_) (fun h => ((by revert h; decide : False)).elim)
  refine lv_goto (tgt := 906) hx hb dL_law_648 (by decide) ?_
  refine lv_iinc (v := 6) (lv' := [(4, .int 6), (5, .int 2), (3, .ref a2), (2, .ref a1), (1, .ref a0), (0, .ref b)]) hx hb dL_law_906 hl (k := 1) rfl (by decide) (by decide) rfl (fun ls hl => ?_)
  refine lv_goto (tgt := 23) hx hb dL_law_909 (by decide) ?_
  refine lv_iload hx hb dL_law_23 (lv_at hl 0 rfl) ?_
  refine lv_aload_n hx hb dL_law_25 rfl (lv_at hl 5 rfl) ?_
  refine va_slen hx hb hXs hbl hbA hS dL_law_26 ?_
  refine W.eq (g2 := F0 m 27 ls [.int 6, .int 6]) rfl ?_
  refine lv_bipush (v := 6) hx hb dL_law_27 (by decide) ?_
  refine lv_isub hx hb dL_law_29 ?_
  refine W.eq (g2 := F0 m 30 ls [.int 0, .int 6]) rfl ?_
  refine lv_icmp_gt (tgt := 912) hx hb dL_law_30 (by decide) (fun _ => ?_) (fun h => ((by revert h; decide : False)).elim)
  refine lv_iconst (v := 1) hx hb dL_law_912 (by decide) ?_
  exact va_forget (fun q h => hA2 _ (hS.2.2 q h)) (W.widen (k := 600002) (n := 7302232) (Nat.le_of_ble_eq_true rfl) (Nat.le_of_ble_eq_true rfl) (lw_ret hx hb hr hlocks dL_law_913))
set_option maxHeartbeats 400000000 in
set_option maxRecDepth 100000 in
theorem lf_one9_p2 {p : Program} {e : Env} {s : State} {m : MethodId} {below : List Frame} {meth : Method} {c : Code} (l : Launch) (hl9 : l.stackTraces = false) (D : va_G) (cT : Nat → ClassId) (aK aV : Nat → Nat) {A : Nat → Prop} {b : Nat} {xs : Nat → Int32} (C : xLw p s m meth c b D cT aK aV A) {H : Heap} {locs : List Loc} {ls : Array Slot} (a0 : Nat) (a1 : Nat) (a2 : Nat) (a3 : Nat) (a4 : Nat) (a5 : Nat) (a6 : Nat) (a7 : Nat) (a8 : Nat) (a9 : Nat) (a10 : Nat) (a11 : Nat) (a12 : Nat) (a13 : Nat) (a14 : Nat) (a15 : Nat) (v16 : Value) (v17 : Value) (b18 : Nat) (v19 : Value) (v20 : Value) (v21 : Value) (v22 : Value) (v23 : Value) (v24 : Value) (v25 : Value) (v26 : Value) (v27 : Value) (v28 : Value) (v29 : Value) (v30 : Value) (v31 : Value) (v32 : Value) (v33 : Value) (v34 : Value) (v35 : Value) (v36 : Value) (v37 : Value) (v38 : Value) (v39 : Value) (v40 : Value) (v41 : Value) (v42 : Value) (v43 : Value) (v44 : Value) (v45 : Value) (v46 : Value) (v47 : Value) (f48 : Nat → Int64) (v49 : Value) (v50 : Value) (f51 : Nat → Option Nat) (b53 : Nat) (v55 : Value) (f56 : Nat → Int64) (f58 : Nat → Int64) (v59 : Value) (v60 : Value) (f61 : Nat → Int32) (f62 : Nat → Option Nat) (f65 : Nat → Int32) (f67 : Nat → Int32) (f72 : Nat → Option Nat) (f75 : Nat → Option Nat) (f76 : Nat → Int32) (h52 : f51 (xs 3).toNatClampNeg = some a5) (h54 : f51 (xs 1).toNatClampNeg = some b53) (h57 : f56 0 = 0) (h63 : f62 (xs 3).toNatClampNeg = some a12) (h64 : f62 (xs 1).toNatClampNeg = some a12) (h66 : f65 (xs 3).toNatClampNeg = 4) (h68 : f67 0 = 110) (h69 : f67 1 = 117) (h70 : f67 2 = 108) (h71 : f67 3 = 108) (h73 : f72 0 = none) (h74 : f72 1 = none) (hto1 : ¬ (xs 1) < 0) (hto2 : ¬ 7 < (xs 1)) (hto3 : (xs 1) ≤ 7) (hto4 : vp_in (xs 1) 8) (hf : xs 2 = 9) (ha1 : ¬ (xs 3) < 0) (ha2 : ¬ 7 < (xs 3)) (ha3 : (xs 3) ≤ 7) (ha4 : vp_in (xs 3) 8) (hXs : va_X b 6 xs s s.heap) (hP : va_P D xcl [(a0, .inr (0, [v16, v17, .ref a8, .ref a4, .ref b18, .ref a3, v19, v20])), (a1, .inr (5, [v21, .ref a13, v22, v23, v24, .ref a14, v25, v26, v27, v28, v29, v30, v31, v32, v33, v34, v35, v36, v37, v38, v39, .ref a15, v40, v41, .ref a10, .ref a11, v42, v43, v44, v45, v46, v47])), (a2, .inl (cT 2, 1, .inr (.inl f48))), (a3, .inr (2, [.ref a7, v49, v50])), (a4, .inl (cT 3, 8, .inr (.inr (.inr (.inr f51))))), (a5, .inr (2, [.ref a6, .int 1, v55])), (a6, .inl (cT 2, 4096, .inr (.inl f56))), (a7, .inl (cT 2, 4096, .inr (.inl f58))), (a8, .inr (1, [.ref a9, v59, v60])), (a9, .inl (cT 0, 4096, .inl f61)), (a10, .inl (cT 5, 8, .inr (.inr (.inr (.inr f62))))), (a11, .inl (cT 1, 8, .inl f65)), (a12, .inl (cT 0, 4096, .inl f67)), (a13, .inl (cT 4, 1024, .inr (.inr (.inr (.inr f72))))), (a14, .inl (cT 4, 1024, .inr (.inr (.inr (.inr f75))))), (a15, .inl (cT 0, 1024, .inl f76))] H) (hD : va_D A [(a0, .inr (0, [v16, v17, .ref a8, .ref a4, .ref b18, .ref a3, v19, v20])), (a1, .inr (5, [v21, .ref a13, v22, v23, v24, .ref a14, v25, v26, v27, v28, v29, v30, v31, v32, v33, v34, v35, v36, v37, v38, v39, .ref a15, v40, v41, .ref a10, .ref a11, v42, v43, v44, v45, v46, v47])), (a2, .inl (cT 2, 1, .inr (.inl f48))), (a3, .inr (2, [.ref a7, v49, v50])), (a4, .inl (cT 3, 8, .inr (.inr (.inr (.inr f51))))), (a5, .inr (2, [.ref a6, .int 1, v55])), (a6, .inl (cT 2, 4096, .inr (.inl f56))), (a7, .inl (cT 2, 4096, .inr (.inl f58))), (a8, .inr (1, [.ref a9, v59, v60])), (a9, .inl (cT 0, 4096, .inl f61)), (a10, .inl (cT 5, 8, .inr (.inr (.inr (.inr f62))))), (a11, .inl (cT 1, 8, .inl f65)), (a12, .inl (cT 0, 4096, .inl f67)), (a13, .inl (cT 4, 1024, .inr (.inr (.inr (.inr f72))))), (a14, .inl (cT 4, 1024, .inr (.inr (.inr (.inr f75))))), (a15, .inl (cT 0, 1024, .inl f76))]) (hS : va_S A s.heap H locs) (hl : lv_has ls 8 [(4, .int 0), (3, .ref a2), (2, .ref a1), (1, .ref a0), (0, .ref b)]) : W p l e room_1 s m #[Value.ref b] below meth c H locs 54 107242 (lw_Z below #[Value.ref b] s) (F0 m 591 ls []) := by
  obtain ⟨hx, hb, hr, hml, hown, htx, hbl, hbA, hlocks, hK, hZ, hA, hA2⟩ := C
  refine lv_aload_n hx hb dL_law_591 rfl (lv_at hl 3 rfl) ?_
  refine lv_aload_n hx hb dL_law_592 rfl (lv_at hl 4 rfl) ?_
  refine lv_iload hx hb dL_law_593 (lv_at hl 0 rfl) ?_
  refine lv_iconst (v := 1) hx hb dL_law_595 (by decide) ?_
  refine lv_iadd hx hb dL_law_596 ?_
  refine W.eq (g2 := F0 m 597 ls [.int 1, .ref b, .ref a0]) rfl ?_
  refine va_sld hx hb hXs hbl hbA hS (i := 1) (show ¬ ((1 : Int32) < 0 ∨ 6 ≤ (1 : Int32).toNatClampNeg) by decide) dL_law_597 ?_
  refine W.eq (g2 := F0 m 598 ls [.int (xs 1), .ref a0]) rfl ?_
  refine lv_aload_n hx hb dL_law_598 rfl (lv_at hl 4 rfl) ?_
  refine lv_iload hx hb dL_law_599 (lv_at hl 0 rfl) ?_
  refine lv_iconst (v := 2) hx hb dL_law_601 (by decide) ?_
  refine lv_iadd hx hb dL_law_602 ?_
  refine W.eq (g2 := F0 m 603 ls [.int 2, .ref b, .int (xs 1), .ref a0]) rfl ?_
  refine va_sld hx hb hXs hbl hbA hS (i := 2) (show ¬ ((2 : Int32) < 0 ∨ 6 ≤ (2 : Int32).toNatClampNeg) by decide) dL_law_603 ?_
  refine W.eq (g2 := F0 m 604 ls [.int (xs 2), .int (xs 1), .ref a0]) rfl ?_
  rw [hf]
  refine W.eq (g2 := F0 m 604 ls [.int 9, .int (xs 1), .ref a0]) rfl ?_
  refine lv_aload_n hx hb dL_law_604 rfl (lv_at hl 4 rfl) ?_
  refine lv_iload hx hb dL_law_605 (lv_at hl 0 rfl) ?_
  refine lv_iconst (v := 3) hx hb dL_law_607 (by decide) ?_
  refine lv_iadd hx hb dL_law_608 ?_
  refine W.eq (g2 := F0 m 609 ls [.int 3, .ref b, .int 9, .int (xs 1), .ref a0]) rfl ?_
  refine va_sld hx hb hXs hbl hbA hS (i := 3) (show ¬ ((3 : Int32) < 0 ∨ 6 ≤ (3 : Int32).toNatClampNeg) by decide) dL_law_609 ?_
  refine W.eq (g2 := F0 m 610 ls [.int (xs 3), .int 9, .int (xs 1), .ref a0]) rfl ?_
  obtain ⟨hPc, hDc, hFc⟩ := xcut (wc := [(a0, .inr (0, [v16, v17, .ref a8, .ref a4, .ref b18, .ref a3, v19, v20])), (a3, .inr (2, [.ref a7, v49, v50])), (a4, .inl (cT 3, 8, .inr (.inr (.inr (.inr f51))))), (a5, .inr (2, [.ref a6, .int 1, v55])), (a6, .inl (cT 2, 4096, .inr (.inl f56))), (a7, .inl (cT 2, 4096, .inr (.inl f58))), (a8, .inr (1, [.ref a9, v59, v60])), (a9, .inl (cT 0, 4096, .inl f61))]) hP hD hS hA [0, 3, 4, 5, 6, 7, 8, 9] rfl rfl (by decide)
  refine va_calli (vx_runSW (As := [.ref a0, .int (xs 1), .int 9, .int (xs 3)]) (rest := []) ⟨hx, hb, hml, hown, htx⟩ (cL_one_15 l hl9 D cT aK aV H.size a0 a3 a4 a5 a6 a7 a8 a9 (xs 1) (xs 3) v16 v17 b18 v19 v20 v49 v50 f51 b53 v55 f56 f58 v59 v60 f61 hto1 hto2 hto3 hto4 ha1 ha2 ha3 ha4 (by first | rfl | exact h52 | exact h54 | exact h57 | exact h63 | exact h64 | exact h66 | exact h68 | exact h69 | exact h70 | exact h71 | exact h73 | exact h74) (by first | rfl | exact h52 | exact h54 | exact h57 | exact h63 | exact h64 | exact h66 | exact h68 | exact h69 | exact h70 | exact h71 | exact h73 | exact h74) (by first | rfl | exact h52 | exact h54 | exact h57 | exact h63 | exact h64 | exact h66 | exact h68 | exact h69 | exact h70 | exact h71 | exact h73 | exact h74)) (xcSW 4 htx (xw_goodC kw_4_21) rfl rfl rfl (htx _ kw_1_0) (htx _ kw_4_19) ⟨by decide, by decide, by decide +kernel⟩ ⟨Nat.le_of_ble_eq_true rfl, Nat.le_of_ble_eq_true rfl⟩ (htx _ kw_4_20)) ⟨xPre_blind, (fun U hU hW => ⟨rfl, xPre_of hZ hS hFc hPc hDc hK U hU hW⟩)⟩ rfl rfl hl.1 rfl (lv_room (Nat.le_of_ble_eq_true rfl)) dL_law_610 ⟨Nat.le_of_ble_eq_true rfl, Nat.le_of_ble_eq_true rfl⟩) hS (fun q _ h => hFc q h) hFc (fun r1 u9 t H1 locs ht hvm hr9 hB hz1 hk1 hS => ?_)
  obtain ⟨y2, y3, hP1, hK1, hD1⟩ := hB
  rw [ht] at hP1
  obtain ⟨hP, hD⟩ := xjoin (W := [(a1, .inr (5, [v21, .ref a13, v22, v23, v24, .ref a14, v25, v26, v27, v28, v29, v30, v31, v32, v33, v34, v35, v36, v37, v38, v39, .ref a15, v40, v41, .ref a10, .ref a11, v42, v43, v44, v45, v46, v47])), (a2, .inl (cT 2, 1, .inr (.inl f48))), (a10, .inl (cT 5, 8, .inr (.inr (.inr (.inr f62))))), (a11, .inl (cT 1, 8, .inl f65)), (a12, .inl (cT 0, 4096, .inl f67)), (a13, .inl (cT 4, 1024, .inr (.inr (.inr (.inr f72))))), (a14, .inl (cT 4, 1024, .inr (.inr (.inr (.inr f75))))), (a15, .inl (cT 0, 1024, .inl f76)), (a0, .inr (0, [v16, v17, .ref a8, .ref a4, .ref b18, .ref b53, v19, v20])), (a3, .inr (2, [.ref a7, .int 1, .int 0])), (a4, .inl (cT 3, 8, .inr (.inr (.inr (.inr (va_up f51 (xs 1).toNatClampNeg (some a3))))))), (a5, .inr (2, [.ref a6, .int 1, v55])), (a6, .inl (cT 2, 4096, .inr (.inl f56))), (a7, .inl (cT 2, 4096, .inr (.inl (vp_updL (vp_updL f58 0 0) 0 524293)))), (a8, .inr (1, [.ref a9, .int 2, .int 0])), (a9, .inl (cT 0, 4096, .inl (upd (upd f61 0 (vp_nar .byte y2)) 1 (vp_nar .byte y3))))]) hP hD [0, 3, 4, 5, 6, 7, 8, 9] [1, 2, 10, 11, 12, 13, 14, 15] 8 rfl rfl (by decide) (by decide) hk1 hFc hP1 hD1
  generalize H1 = H at hP hS ⊢
  rw [hr9]
  refine W.eq (g2 := F0 m 613 ls [.int 0]) rfl ?_
  refine lv_istore (lv' := [(5, .int 0), (4, .int 0), (3, .ref a2), (2, .ref a1), (1, .ref a0), (0, .ref b)]) hx hb dL_law_613 hl (by decide) rfl (fun ls hl => ?_)
  refine lv_aload_n hx hb dL_law_615 rfl (lv_at hl 3 rfl) ?_
  refine lv_aload_n hx hb dL_law_616 rfl (lv_at hl 5 rfl) ?_
  refine lv_iload hx hb dL_law_617 (lv_at hl 1 rfl) ?_
  refine lv_iconst (v := 1) hx hb dL_law_619 (by decide) ?_
  refine lv_iadd hx hb dL_law_620 ?_
  refine W.eq (g2 := F0 m 621 ls [.int 1, .ref b, .ref a1]) rfl ?_
  refine va_sld hx hb hXs hbl hbA hS (i := 1) (show ¬ ((1 : Int32) < 0 ∨ 6 ≤ (1 : Int32).toNatClampNeg) by decide) dL_law_621 ?_
  refine W.eq (g2 := F0 m 622 ls [.int (xs 1), .ref a1]) rfl ?_
  refine lv_aload_n hx hb dL_law_622 rfl (lv_at hl 5 rfl) ?_
  refine lv_iload hx hb dL_law_623 (lv_at hl 1 rfl) ?_
  refine lv_iconst (v := 2) hx hb dL_law_625 (by decide) ?_
  refine lv_iadd hx hb dL_law_626 ?_
  refine W.eq (g2 := F0 m 627 ls [.int 2, .ref b, .int (xs 1), .ref a1]) rfl ?_
  refine va_sld hx hb hXs hbl hbA hS (i := 2) (show ¬ ((2 : Int32) < 0 ∨ 6 ≤ (2 : Int32).toNatClampNeg) by decide) dL_law_627 ?_
  refine W.eq (g2 := F0 m 628 ls [.int (xs 2), .int (xs 1), .ref a1]) rfl ?_
  rw [hf]
  refine W.eq (g2 := F0 m 628 ls [.int 9, .int (xs 1), .ref a1]) rfl ?_
  refine lv_aload_n hx hb dL_law_628 rfl (lv_at hl 5 rfl) ?_
  refine lv_iload hx hb dL_law_629 (lv_at hl 1 rfl) ?_
  refine lv_iconst (v := 3) hx hb dL_law_631 (by decide) ?_
  refine lv_iadd hx hb dL_law_632 ?_
  refine W.eq (g2 := F0 m 633 ls [.int 3, .ref b, .int 9, .int (xs 1), .ref a1]) rfl ?_
  refine va_sld hx hb hXs hbl hbA hS (i := 3) (show ¬ ((3 : Int32) < 0 ∨ 6 ≤ (3 : Int32).toNatClampNeg) by decide) dL_law_633 ?_
  refine W.eq (g2 := F0 m 634 ls [.int (xs 3), .int 9, .int (xs 1), .ref a1]) rfl ?_
  obtain ⟨hPc, hDc, hFc⟩ := xcut (wc := [(a1, .inr (5, [v21, .ref a13, v22, v23, v24, .ref a14, v25, v26, v27, v28, v29, v30, v31, v32, v33, v34, v35, v36, v37, v38, v39, .ref a15, v40, v41, .ref a10, .ref a11, v42, v43, v44, v45, v46, v47])), (a10, .inl (cT 5, 8, .inr (.inr (.inr (.inr f62))))), (a11, .inl (cT 1, 8, .inl f65)), (a12, .inl (cT 0, 4096, .inl f67)), (a13, .inl (cT 4, 1024, .inr (.inr (.inr (.inr f72))))), (a14, .inl (cT 4, 1024, .inr (.inr (.inr (.inr f75))))), (a15, .inl (cT 0, 1024, .inl f76))]) hP hD hS hA [0, 2, 3, 4, 5, 6, 7] rfl rfl (by decide)
  refine va_callv (va_runV (C := "ValueBenchModel") (As := [.int (xs 1), .int 9, .int (xs 3)]) (rest := []) ⟨hx, hb, hml, hown, htx⟩ (cM_one0_19 l hl9 D cT aK aV H.size a1 a10 a11 a12 a13 a14 a15 (xs 1) (xs 3) v21 v22 v23 v24 v25 v26 v27 v28 v29 v30 v31 v32 v33 v34 v35 v36 v37 v38 v39 v40 v41 v42 v43 v44 v45 v46 v47 f62 f65 f67 f72 f75 f76 hto1 hto2 hto3 hto4 ha1 ha2 ha3 ha4 (by first | rfl | exact h52 | exact h57 | exact h63 | exact h64 | exact h66 | exact h68 | exact h69 | exact h70 | exact h71 | exact h73 | exact h74) (by first | rfl | exact h52 | exact h57 | exact h63 | exact h64 | exact h66 | exact h68 | exact h69 | exact h70 | exact h71 | exact h73 | exact h74) (by first | rfl | exact h52 | exact h57 | exact h63 | exact h64 | exact h66 | exact h68 | exact h69 | exact h70 | exact h71 | exact h73 | exact h74) (by first | rfl | exact h52 | exact h57 | exact h63 | exact h64 | exact h66 | exact h68 | exact h69 | exact h70 | exact h71 | exact h73 | exact h74) (by first | rfl | exact h52 | exact h57 | exact h63 | exact h64 | exact h66 | exact h68 | exact h69 | exact h70 | exact h71 | exact h73 | exact h74) (by first | rfl | exact h52 | exact h57 | exact h63 | exact h64 | exact h66 | exact h68 | exact h69 | exact h70 | exact h71 | exact h73 | exact h74) (by first | rfl | exact h52 | exact h57 | exact h63 | exact h64 | exact h66 | exact h68 | exact h69 | exact h70 | exact h71 | exact h73 | exact h74) (by first | rfl | exact h52 | exact h57 | exact h63 | exact h64 | exact h66 | exact h68 | exact h69 | exact h70 | exact h71 | exact h73 | exact h74) (by first | rfl | exact h52 | exact h57 | exact h63 | exact h64 | exact h66 | exact h68 | exact h69 | exact h70 | exact h71 | exact h73 | exact h74)) ⟨callB_of 3 htx (xw_goodC kw_7_123) rfl rfl rfl (htx _ kw_1_5) (htx _ kw_7_120) ⟨by decide, by decide, by decide +kernel⟩ ⟨Nat.le_of_ble_eq_true rfl, Nat.le_of_ble_eq_true rfl⟩, (htx _ kw_7_121), (htx _ kw_7_122)⟩ ⟨xPre_blind, va_recv hK hP (ci := 5) rfl (q0 := 0) rfl, (fun U hU hW => ⟨rfl, xPre_of hZ hS hFc hPc hDc hK U hU hW⟩)⟩ rfl rfl hl.1 rfl (lv_room (Nat.le_of_ble_eq_true rfl)) dL_law_634 ⟨Nat.le_of_ble_eq_true rfl, Nat.le_of_ble_eq_true rfl⟩) hS (fun q _ h => hFc q h) hFc (fun u9 t H1 locs ht hvm hr9 hB hz1 hk1 hS => ?_)
  obtain ⟨q4, q5, y6, y7, hP1, hK1, hD1⟩ := hB
  rw [ht] at hP1
  obtain ⟨hP, hD⟩ := xjoin (W := [(a2, .inl (cT 2, 1, .inr (.inl f48))), (a0, .inr (0, [v16, v17, .ref a8, .ref a4, .ref b18, .ref b53, v19, v20])), (a3, .inr (2, [.ref a7, .int 1, .int 0])), (a4, .inl (cT 3, 8, .inr (.inr (.inr (.inr (va_up f51 (xs 1).toNatClampNeg (some a3))))))), (a5, .inr (2, [.ref a6, .int 1, v55])), (a6, .inl (cT 2, 4096, .inr (.inl f56))), (a7, .inl (cT 2, 4096, .inr (.inl (vp_updL (vp_updL f58 0 0) 0 524293)))), (a8, .inr (1, [.ref a9, .int 2, .int 0])), (a9, .inl (cT 0, 4096, .inl (upd (upd f61 0 (vp_nar .byte y2)) 1 (vp_nar .byte y3)))), (a1, .inr (5, [.int 0, .ref a13, .int 2, v23, .int 0, .ref a14, v25, .int 0, v27, .int 0, v29, v30, .int 0, v32, v33, .ref a12, .int 4, .int 4, .int 0, .int 100, v39, .ref a15, .int 2, .int 4096, .ref a10, .ref a11, v42, v43, v44, v45, v46, v47])), (a10, .inl (cT 5, 8, .inr (.inr (.inr (.inr f62))))), (a11, .inl (cT 1, 8, .inl (upd f65 (xs 1).toNatClampNeg 2))), (a12, .inl (cT 0, 4096, .inl (upd (upd f67 0 (vp_nar .byte (vp_nar .byte y6))) 1 (vp_nar .byte (vp_nar .byte y7))))), (a13, .inl (cT 4, 1024, .inr (.inr (.inr (.inr (va_up (va_up f72 0 (some q4)) 1 (some q5))))))), (a14, .inl (cT 4, 1024, .inr (.inr (.inr (.inr f75))))), (a15, .inl (cT 0, 1024, .inl (upd (upd f76 0 (vp_nar .byte y6)) 1 (vp_nar .byte y7)))), (q4, .inr (6, [.int 0, .long 0, .int 0, .int 0, .int 0, .int 1])), (q5, .inr (6, [.int 5, .long 0, .int 0, .int 0, .int 1, .int 1]))]) hP hD [0, 2, 3, 4, 5, 6, 7] [1, 8, 9, 10, 11, 12, 13, 14, 15] 9 rfl rfl (by decide) (by decide) hk1 hFc hP1 hD1
  generalize H1 = H at hP hS ⊢
  refine lv_aload_n hx hb dL_law_637 rfl (lv_at hl 3 rfl) ?_
  obtain ⟨hPc, hDc, hFc⟩ := xcut (wc := [(a1, .inr (5, [.int 0, .ref a13, .int 2, v23, .int 0, .ref a14, v25, .int 0, v27, .int 0, v29, v30, .int 0, v32, v33, .ref a12, .int 4, .int 4, .int 0, .int 100, v39, .ref a15, .int 2, .int 4096, .ref a10, .ref a11, v42, v43, v44, v45, v46, v47]))]) hP hD hS hA [9] rfl rfl (by decide)
  refine va_calli (va_runV (C := "ValueBenchModel") (As := []) (rest := []) ⟨hx, hb, hml, hown, htx⟩ (cM_thrown_0 l hl9 D cT aK aV H.size a1 (.ref a13) (.int 2) v23 (.int 0) (.ref a14) v25 (.int 0) v27 (.int 0) v29 v30 (.int 0) v32 v33 (.ref a12) (.int 4) (.int 4) (.int 0) (.int 100) v39 (.ref a15) (.int 2) (.int 4096) (.ref a10) (.ref a11) v42 v43 v44 v45 v46 v47) ⟨callB_of 0 htx (xw_goodC kw_5_187) rfl rfl rfl (htx _ kw_1_5) (htx _ kw_5_184) ⟨by decide, by decide, by decide +kernel⟩ ⟨Nat.le_of_ble_eq_true rfl, Nat.le_of_ble_eq_true rfl⟩, (htx _ kw_5_185), (htx _ kw_5_186)⟩ ⟨xPre_blind, va_recv hK hP (ci := 5) rfl (q0 := 9) rfl, (fun U hU hW => ⟨rfl, xPre_of hZ hS hFc hPc hDc hK U hU hW⟩)⟩ rfl rfl hl.1 rfl (lv_room (Nat.le_of_ble_eq_true rfl)) dL_law_638 ⟨Nat.le_of_ble_eq_true rfl, Nat.le_of_ble_eq_true rfl⟩) hS (fun q _ h => hFc q h) hFc (fun r8 u9 t H1 locs ht hvm hr9 hB hz1 hk1 hS => ?_)
  obtain ⟨hP1, hK1, hD1⟩ := hB
  rw [ht] at hP1
  obtain ⟨hP, hD⟩ := xjoin (W := [(a2, .inl (cT 2, 1, .inr (.inl f48))), (a0, .inr (0, [v16, v17, .ref a8, .ref a4, .ref b18, .ref b53, v19, v20])), (a3, .inr (2, [.ref a7, .int 1, .int 0])), (a4, .inl (cT 3, 8, .inr (.inr (.inr (.inr (va_up f51 (xs 1).toNatClampNeg (some a3))))))), (a5, .inr (2, [.ref a6, .int 1, v55])), (a6, .inl (cT 2, 4096, .inr (.inl f56))), (a7, .inl (cT 2, 4096, .inr (.inl (vp_updL (vp_updL f58 0 0) 0 524293)))), (a8, .inr (1, [.ref a9, .int 2, .int 0])), (a9, .inl (cT 0, 4096, .inl (upd (upd f61 0 (vp_nar .byte y2)) 1 (vp_nar .byte y3)))), (a10, .inl (cT 5, 8, .inr (.inr (.inr (.inr f62))))), (a11, .inl (cT 1, 8, .inl (upd f65 (xs 1).toNatClampNeg 2))), (a12, .inl (cT 0, 4096, .inl (upd (upd f67 0 (vp_nar .byte (vp_nar .byte y6))) 1 (vp_nar .byte (vp_nar .byte y7))))), (a13, .inl (cT 4, 1024, .inr (.inr (.inr (.inr (va_up (va_up f72 0 (some q4)) 1 (some q5))))))), (a14, .inl (cT 4, 1024, .inr (.inr (.inr (.inr f75))))), (a15, .inl (cT 0, 1024, .inl (upd (upd f76 0 (vp_nar .byte y6)) 1 (vp_nar .byte y7)))), (q4, .inr (6, [.int 0, .long 0, .int 0, .int 0, .int 0, .int 1])), (q5, .inr (6, [.int 5, .long 0, .int 0, .int 0, .int 1, .int 1])), (a1, .inr (5, [.int 0, .ref a13, .int 2, v23, .int 0, .ref a14, v25, .int 0, v27, .int 0, v29, v30, .int 0, v32, v33, .ref a12, .int 4, .int 4, .int 0, .int 100, v39, .ref a15, .int 2, .int 4096, .ref a10, .ref a11, v42, v43, v44, v45, v46, v47]))]) hP hD [9] [0, 1, 2, 3, 4, 5, 6, 7, 8, 10, 11, 12, 13, 14, 15, 16, 17] 17 rfl rfl (by decide) (by decide) hk1 hFc hP1 hD1
  generalize H1 = H at hP hS ⊢
  rw [hr9]
  refine W.eq (g2 := F0 m 641 ls [.int 0]) rfl ?_
  refine lv_iload hx hb dL_law_641 (lv_at hl 0 rfl) ?_
  refine lv_icmp_eq (tgt := 648) hx hb dL_law_643 (by decide) (fun _ => ?_) (fun h => ((by revert h; decide : False)).elim)
  refine lv_goto (tgt := 906) hx hb dL_law_648 (by decide) ?_
  refine lv_iinc (v := 6) (lv' := [(4, .int 6), (5, .int 0), (3, .ref a2), (2, .ref a1), (1, .ref a0), (0, .ref b)]) hx hb dL_law_906 hl (k := 1) rfl (by decide) (by decide) rfl (fun ls hl => ?_)
  refine lv_goto (tgt := 23) hx hb dL_law_909 (by decide) ?_
  refine lv_iload hx hb dL_law_23 (lv_at hl 0 rfl) ?_
  refine lv_aload_n hx hb dL_law_25 rfl (lv_at hl 5 rfl) ?_
  refine va_slen hx hb hXs hbl hbA hS dL_law_26 ?_
  refine W.eq (g2 := F0 m 27 ls [.int 6, .int 6]) rfl ?_
  refine lv_bipush (v := 6) hx hb dL_law_27 (by decide) ?_
  refine lv_isub hx hb dL_law_29 ?_
  refine W.eq (g2 := F0 m 30 ls [.int 0, .int 6]) rfl ?_
  refine lv_icmp_gt (tgt := 912) hx hb dL_law_30 (by decide) (fun _ => ?_) (fun h => ((by revert h; decide : False)).elim)
  refine lv_iconst (v := 1) hx hb dL_law_912 (by decide) ?_
  exact va_forget (fun q h => hA2 _ (hS.2.2 q h)) (W.widen (k := 600002) (n := 7302232) (Nat.le_of_ble_eq_true rfl) (Nat.le_of_ble_eq_true rfl) (lw_ret hx hb hr hlocks dL_law_913))
set_option maxHeartbeats 400000000 in
set_option maxRecDepth 100000 in
theorem lf_one9_p0 {p : Program} {e : Env} {s : State} {m : MethodId} {below : List Frame} {meth : Method} {c : Code} (l : Launch) (hl9 : l.stackTraces = false) (D : va_G) (cT : Nat → ClassId) (aK aV : Nat → Nat) {A : Nat → Prop} {b : Nat} {xs : Nat → Int32} (C : xLw p s m meth c b D cT aK aV A) {H : Heap} {locs : List Loc} {ls : Array Slot} (a0 : Nat) (a1 : Nat) (a2 : Nat) (a3 : Nat) (a4 : Nat) (a5 : Nat) (a6 : Nat) (a7 : Nat) (a8 : Nat) (a9 : Nat) (a10 : Nat) (a11 : Nat) (a12 : Nat) (a13 : Nat) (a14 : Nat) (a15 : Nat) (a16 : Nat) (v17 : Value) (v18 : Value) (b19 : Nat) (v20 : Value) (v21 : Value) (v22 : Value) (v23 : Value) (v24 : Value) (v25 : Value) (v26 : Value) (v27 : Value) (v28 : Value) (v29 : Value) (v30 : Value) (v31 : Value) (v32 : Value) (v33 : Value) (v34 : Value) (v35 : Value) (v36 : Value) (v37 : Value) (v38 : Value) (v39 : Value) (v40 : Value) (v41 : Value) (v42 : Value) (v43 : Value) (v44 : Value) (v45 : Value) (v46 : Value) (v47 : Value) (v48 : Value) (f49 : Nat → Int64) (v50 : Value) (v51 : Value) (f52 : Nat → Option Nat) (b54 : Nat) (v56 : Value) (f57 : Nat → Int64) (f59 : Nat → Int64) (v60 : Value) (v61 : Value) (f62 : Nat → Int32) (f63 : Nat → Option Nat) (f66 : Nat → Int32) (f68 : Nat → Int32) (f73 : Nat → Option Nat) (f76 : Nat → Option Nat) (f77 : Nat → Int32) (f78 : Nat → Int32) (h53 : f52 (xs 3).toNatClampNeg = some a5) (h55 : f52 (xs 1).toNatClampNeg = some b54) (h58 : f57 0 = 0) (h64 : f63 (xs 3).toNatClampNeg = some a12) (h65 : f63 (xs 1).toNatClampNeg = some a16) (h67 : f66 (xs 3).toNatClampNeg = 4) (h69 : f68 0 = 110) (h70 : f68 1 = 117) (h71 : f68 2 = 108) (h72 : f68 3 = 108) (h74 : f73 0 = none) (h75 : f73 1 = none) (hto1 : ¬ (xs 1) < 0) (hto2 : ¬ 7 < (xs 1)) (hto3 : (xs 1) ≤ 7) (hto4 : vp_in (xs 1) 8) (hf : xs 2 = 9) (ha1 : ¬ (xs 3) < 0) (ha2 : ¬ 7 < (xs 3)) (ha3 : (xs 3) ≤ 7) (ha4 : vp_in (xs 3) 8) (hXs : va_X b 6 xs s s.heap) (hP : va_P D xcl [(a0, .inr (0, [v17, v18, .ref a8, .ref a4, .ref b19, .ref a3, v20, v21])), (a1, .inr (5, [v22, .ref a13, v23, v24, v25, .ref a14, v26, v27, v28, v29, v30, v31, v32, v33, v34, v35, v36, v37, v38, v39, v40, .ref a15, v41, v42, .ref a10, .ref a11, v43, v44, v45, v46, v47, v48])), (a2, .inl (cT 2, 1, .inr (.inl f49))), (a3, .inr (2, [.ref a7, v50, v51])), (a4, .inl (cT 3, 8, .inr (.inr (.inr (.inr f52))))), (a5, .inr (2, [.ref a6, .int 1, v56])), (a6, .inl (cT 2, 4096, .inr (.inl f57))), (a7, .inl (cT 2, 4096, .inr (.inl f59))), (a8, .inr (1, [.ref a9, v60, v61])), (a9, .inl (cT 0, 4096, .inl f62)), (a10, .inl (cT 5, 8, .inr (.inr (.inr (.inr f63))))), (a11, .inl (cT 1, 8, .inl f66)), (a12, .inl (cT 0, 4096, .inl f68)), (a13, .inl (cT 4, 1024, .inr (.inr (.inr (.inr f73))))), (a14, .inl (cT 4, 1024, .inr (.inr (.inr (.inr f76))))), (a15, .inl (cT 0, 1024, .inl f77)), (a16, .inl (cT 0, 4096, .inl f78))] H) (hD : va_D A [(a0, .inr (0, [v17, v18, .ref a8, .ref a4, .ref b19, .ref a3, v20, v21])), (a1, .inr (5, [v22, .ref a13, v23, v24, v25, .ref a14, v26, v27, v28, v29, v30, v31, v32, v33, v34, v35, v36, v37, v38, v39, v40, .ref a15, v41, v42, .ref a10, .ref a11, v43, v44, v45, v46, v47, v48])), (a2, .inl (cT 2, 1, .inr (.inl f49))), (a3, .inr (2, [.ref a7, v50, v51])), (a4, .inl (cT 3, 8, .inr (.inr (.inr (.inr f52))))), (a5, .inr (2, [.ref a6, .int 1, v56])), (a6, .inl (cT 2, 4096, .inr (.inl f57))), (a7, .inl (cT 2, 4096, .inr (.inl f59))), (a8, .inr (1, [.ref a9, v60, v61])), (a9, .inl (cT 0, 4096, .inl f62)), (a10, .inl (cT 5, 8, .inr (.inr (.inr (.inr f63))))), (a11, .inl (cT 1, 8, .inl f66)), (a12, .inl (cT 0, 4096, .inl f68)), (a13, .inl (cT 4, 1024, .inr (.inr (.inr (.inr f73))))), (a14, .inl (cT 4, 1024, .inr (.inr (.inr (.inr f76))))), (a15, .inl (cT 0, 1024, .inl f77)), (a16, .inl (cT 0, 4096, .inl f78))]) (hS : va_S A s.heap H locs) (hl : lv_has ls 8 [(4, .int 0), (3, .ref a2), (2, .ref a1), (1, .ref a0), (0, .ref b)]) : W p l e room_1 s m #[Value.ref b] below meth c H locs 54 107242 (lw_Z below #[Value.ref b] s) (F0 m 591 ls []) := by
  obtain ⟨hx, hb, hr, hml, hown, htx, hbl, hbA, hlocks, hK, hZ, hA, hA2⟩ := C
  refine lv_aload_n hx hb dL_law_591 rfl (lv_at hl 3 rfl) ?_
  refine lv_aload_n hx hb dL_law_592 rfl (lv_at hl 4 rfl) ?_
  refine lv_iload hx hb dL_law_593 (lv_at hl 0 rfl) ?_
  refine lv_iconst (v := 1) hx hb dL_law_595 (by decide) ?_
  refine lv_iadd hx hb dL_law_596 ?_
  refine W.eq (g2 := F0 m 597 ls [.int 1, .ref b, .ref a0]) rfl ?_
  refine va_sld hx hb hXs hbl hbA hS (i := 1) (show ¬ ((1 : Int32) < 0 ∨ 6 ≤ (1 : Int32).toNatClampNeg) by decide) dL_law_597 ?_
  refine W.eq (g2 := F0 m 598 ls [.int (xs 1), .ref a0]) rfl ?_
  refine lv_aload_n hx hb dL_law_598 rfl (lv_at hl 4 rfl) ?_
  refine lv_iload hx hb dL_law_599 (lv_at hl 0 rfl) ?_
  refine lv_iconst (v := 2) hx hb dL_law_601 (by decide) ?_
  refine lv_iadd hx hb dL_law_602 ?_
  refine W.eq (g2 := F0 m 603 ls [.int 2, .ref b, .int (xs 1), .ref a0]) rfl ?_
  refine va_sld hx hb hXs hbl hbA hS (i := 2) (show ¬ ((2 : Int32) < 0 ∨ 6 ≤ (2 : Int32).toNatClampNeg) by decide) dL_law_603 ?_
  refine W.eq (g2 := F0 m 604 ls [.int (xs 2), .int (xs 1), .ref a0]) rfl ?_
  rw [hf]
  refine W.eq (g2 := F0 m 604 ls [.int 9, .int (xs 1), .ref a0]) rfl ?_
  refine lv_aload_n hx hb dL_law_604 rfl (lv_at hl 4 rfl) ?_
  refine lv_iload hx hb dL_law_605 (lv_at hl 0 rfl) ?_
  refine lv_iconst (v := 3) hx hb dL_law_607 (by decide) ?_
  refine lv_iadd hx hb dL_law_608 ?_
  refine W.eq (g2 := F0 m 609 ls [.int 3, .ref b, .int 9, .int (xs 1), .ref a0]) rfl ?_
  refine va_sld hx hb hXs hbl hbA hS (i := 3) (show ¬ ((3 : Int32) < 0 ∨ 6 ≤ (3 : Int32).toNatClampNeg) by decide) dL_law_609 ?_
  refine W.eq (g2 := F0 m 610 ls [.int (xs 3), .int 9, .int (xs 1), .ref a0]) rfl ?_
  obtain ⟨hPc, hDc, hFc⟩ := xcut (wc := [(a0, .inr (0, [v17, v18, .ref a8, .ref a4, .ref b19, .ref a3, v20, v21])), (a3, .inr (2, [.ref a7, v50, v51])), (a4, .inl (cT 3, 8, .inr (.inr (.inr (.inr f52))))), (a5, .inr (2, [.ref a6, .int 1, v56])), (a6, .inl (cT 2, 4096, .inr (.inl f57))), (a7, .inl (cT 2, 4096, .inr (.inl f59))), (a8, .inr (1, [.ref a9, v60, v61])), (a9, .inl (cT 0, 4096, .inl f62))]) hP hD hS hA [0, 3, 4, 5, 6, 7, 8, 9] rfl rfl (by decide)
  refine va_calli (vx_runSW (As := [.ref a0, .int (xs 1), .int 9, .int (xs 3)]) (rest := []) ⟨hx, hb, hml, hown, htx⟩ (cL_one_15 l hl9 D cT aK aV H.size a0 a3 a4 a5 a6 a7 a8 a9 (xs 1) (xs 3) v17 v18 b19 v20 v21 v50 v51 f52 b54 v56 f57 f59 v60 v61 f62 hto1 hto2 hto3 hto4 ha1 ha2 ha3 ha4 (by first | rfl | exact h53 | exact h55 | exact h58 | exact h64 | exact h65 | exact h67 | exact h69 | exact h70 | exact h71 | exact h72 | exact h74 | exact h75) (by first | rfl | exact h53 | exact h55 | exact h58 | exact h64 | exact h65 | exact h67 | exact h69 | exact h70 | exact h71 | exact h72 | exact h74 | exact h75) (by first | rfl | exact h53 | exact h55 | exact h58 | exact h64 | exact h65 | exact h67 | exact h69 | exact h70 | exact h71 | exact h72 | exact h74 | exact h75)) (xcSW 4 htx (xw_goodC kw_4_21) rfl rfl rfl (htx _ kw_1_0) (htx _ kw_4_19) ⟨by decide, by decide, by decide +kernel⟩ ⟨Nat.le_of_ble_eq_true rfl, Nat.le_of_ble_eq_true rfl⟩ (htx _ kw_4_20)) ⟨xPre_blind, (fun U hU hW => ⟨rfl, xPre_of hZ hS hFc hPc hDc hK U hU hW⟩)⟩ rfl rfl hl.1 rfl (lv_room (Nat.le_of_ble_eq_true rfl)) dL_law_610 ⟨Nat.le_of_ble_eq_true rfl, Nat.le_of_ble_eq_true rfl⟩) hS (fun q _ h => hFc q h) hFc (fun r1 u9 t H1 locs ht hvm hr9 hB hz1 hk1 hS => ?_)
  obtain ⟨y2, y3, hP1, hK1, hD1⟩ := hB
  rw [ht] at hP1
  obtain ⟨hP, hD⟩ := xjoin (W := [(a1, .inr (5, [v22, .ref a13, v23, v24, v25, .ref a14, v26, v27, v28, v29, v30, v31, v32, v33, v34, v35, v36, v37, v38, v39, v40, .ref a15, v41, v42, .ref a10, .ref a11, v43, v44, v45, v46, v47, v48])), (a2, .inl (cT 2, 1, .inr (.inl f49))), (a10, .inl (cT 5, 8, .inr (.inr (.inr (.inr f63))))), (a11, .inl (cT 1, 8, .inl f66)), (a12, .inl (cT 0, 4096, .inl f68)), (a13, .inl (cT 4, 1024, .inr (.inr (.inr (.inr f73))))), (a14, .inl (cT 4, 1024, .inr (.inr (.inr (.inr f76))))), (a15, .inl (cT 0, 1024, .inl f77)), (a16, .inl (cT 0, 4096, .inl f78)), (a0, .inr (0, [v17, v18, .ref a8, .ref a4, .ref b19, .ref b54, v20, v21])), (a3, .inr (2, [.ref a7, .int 1, .int 0])), (a4, .inl (cT 3, 8, .inr (.inr (.inr (.inr (va_up f52 (xs 1).toNatClampNeg (some a3))))))), (a5, .inr (2, [.ref a6, .int 1, v56])), (a6, .inl (cT 2, 4096, .inr (.inl f57))), (a7, .inl (cT 2, 4096, .inr (.inl (vp_updL (vp_updL f59 0 0) 0 524293)))), (a8, .inr (1, [.ref a9, .int 2, .int 0])), (a9, .inl (cT 0, 4096, .inl (upd (upd f62 0 (vp_nar .byte y2)) 1 (vp_nar .byte y3))))]) hP hD [0, 3, 4, 5, 6, 7, 8, 9] [1, 2, 10, 11, 12, 13, 14, 15, 16] 9 rfl rfl (by decide) (by decide) hk1 hFc hP1 hD1
  generalize H1 = H at hP hS ⊢
  rw [hr9]
  refine W.eq (g2 := F0 m 613 ls [.int 0]) rfl ?_
  refine lv_istore (lv' := [(5, .int 0), (4, .int 0), (3, .ref a2), (2, .ref a1), (1, .ref a0), (0, .ref b)]) hx hb dL_law_613 hl (by decide) rfl (fun ls hl => ?_)
  refine lv_aload_n hx hb dL_law_615 rfl (lv_at hl 3 rfl) ?_
  refine lv_aload_n hx hb dL_law_616 rfl (lv_at hl 5 rfl) ?_
  refine lv_iload hx hb dL_law_617 (lv_at hl 1 rfl) ?_
  refine lv_iconst (v := 1) hx hb dL_law_619 (by decide) ?_
  refine lv_iadd hx hb dL_law_620 ?_
  refine W.eq (g2 := F0 m 621 ls [.int 1, .ref b, .ref a1]) rfl ?_
  refine va_sld hx hb hXs hbl hbA hS (i := 1) (show ¬ ((1 : Int32) < 0 ∨ 6 ≤ (1 : Int32).toNatClampNeg) by decide) dL_law_621 ?_
  refine W.eq (g2 := F0 m 622 ls [.int (xs 1), .ref a1]) rfl ?_
  refine lv_aload_n hx hb dL_law_622 rfl (lv_at hl 5 rfl) ?_
  refine lv_iload hx hb dL_law_623 (lv_at hl 1 rfl) ?_
  refine lv_iconst (v := 2) hx hb dL_law_625 (by decide) ?_
  refine lv_iadd hx hb dL_law_626 ?_
  refine W.eq (g2 := F0 m 627 ls [.int 2, .ref b, .int (xs 1), .ref a1]) rfl ?_
  refine va_sld hx hb hXs hbl hbA hS (i := 2) (show ¬ ((2 : Int32) < 0 ∨ 6 ≤ (2 : Int32).toNatClampNeg) by decide) dL_law_627 ?_
  refine W.eq (g2 := F0 m 628 ls [.int (xs 2), .int (xs 1), .ref a1]) rfl ?_
  rw [hf]
  refine W.eq (g2 := F0 m 628 ls [.int 9, .int (xs 1), .ref a1]) rfl ?_
  refine lv_aload_n hx hb dL_law_628 rfl (lv_at hl 5 rfl) ?_
  refine lv_iload hx hb dL_law_629 (lv_at hl 1 rfl) ?_
  refine lv_iconst (v := 3) hx hb dL_law_631 (by decide) ?_
  refine lv_iadd hx hb dL_law_632 ?_
  refine W.eq (g2 := F0 m 633 ls [.int 3, .ref b, .int 9, .int (xs 1), .ref a1]) rfl ?_
  refine va_sld hx hb hXs hbl hbA hS (i := 3) (show ¬ ((3 : Int32) < 0 ∨ 6 ≤ (3 : Int32).toNatClampNeg) by decide) dL_law_633 ?_
  refine W.eq (g2 := F0 m 634 ls [.int (xs 3), .int 9, .int (xs 1), .ref a1]) rfl ?_
  obtain ⟨hPc, hDc, hFc⟩ := xcut (wc := [(a1, .inr (5, [v22, .ref a13, v23, v24, v25, .ref a14, v26, v27, v28, v29, v30, v31, v32, v33, v34, v35, v36, v37, v38, v39, v40, .ref a15, v41, v42, .ref a10, .ref a11, v43, v44, v45, v46, v47, v48])), (a10, .inl (cT 5, 8, .inr (.inr (.inr (.inr f63))))), (a11, .inl (cT 1, 8, .inl f66)), (a12, .inl (cT 0, 4096, .inl f68)), (a13, .inl (cT 4, 1024, .inr (.inr (.inr (.inr f73))))), (a14, .inl (cT 4, 1024, .inr (.inr (.inr (.inr f76))))), (a15, .inl (cT 0, 1024, .inl f77)), (a16, .inl (cT 0, 4096, .inl f78))]) hP hD hS hA [0, 2, 3, 4, 5, 6, 7, 8] rfl rfl (by decide)
  refine va_callv (va_runV (C := "ValueBenchModel") (As := [.int (xs 1), .int 9, .int (xs 3)]) (rest := []) ⟨hx, hb, hml, hown, htx⟩ (cM_one0_20 l hl9 D cT aK aV H.size a1 a10 a11 a12 a13 a14 a15 a16 (xs 1) (xs 3) v22 v23 v24 v25 v26 v27 v28 v29 v30 v31 v32 v33 v34 v35 v36 v37 v38 v39 v40 v41 v42 v43 v44 v45 v46 v47 v48 f63 f66 f68 f73 f76 f77 f78 hto1 hto2 hto3 hto4 ha1 ha2 ha3 ha4 (by first | rfl | exact h53 | exact h58 | exact h64 | exact h65 | exact h67 | exact h69 | exact h70 | exact h71 | exact h72 | exact h74 | exact h75) (by first | rfl | exact h53 | exact h58 | exact h64 | exact h65 | exact h67 | exact h69 | exact h70 | exact h71 | exact h72 | exact h74 | exact h75) (by first | rfl | exact h53 | exact h58 | exact h64 | exact h65 | exact h67 | exact h69 | exact h70 | exact h71 | exact h72 | exact h74 | exact h75) (by first | rfl | exact h53 | exact h58 | exact h64 | exact h65 | exact h67 | exact h69 | exact h70 | exact h71 | exact h72 | exact h74 | exact h75) (by first | rfl | exact h53 | exact h58 | exact h64 | exact h65 | exact h67 | exact h69 | exact h70 | exact h71 | exact h72 | exact h74 | exact h75) (by first | rfl | exact h53 | exact h58 | exact h64 | exact h65 | exact h67 | exact h69 | exact h70 | exact h71 | exact h72 | exact h74 | exact h75) (by first | rfl | exact h53 | exact h58 | exact h64 | exact h65 | exact h67 | exact h69 | exact h70 | exact h71 | exact h72 | exact h74 | exact h75) (by first | rfl | exact h53 | exact h58 | exact h64 | exact h65 | exact h67 | exact h69 | exact h70 | exact h71 | exact h72 | exact h74 | exact h75) (by first | rfl | exact h53 | exact h58 | exact h64 | exact h65 | exact h67 | exact h69 | exact h70 | exact h71 | exact h72 | exact h74 | exact h75)) ⟨callB_of 3 htx (xw_goodC kw_7_123) rfl rfl rfl (htx _ kw_1_5) (htx _ kw_7_120) ⟨by decide, by decide, by decide +kernel⟩ ⟨Nat.le_of_ble_eq_true rfl, Nat.le_of_ble_eq_true rfl⟩, (htx _ kw_7_121), (htx _ kw_7_122)⟩ ⟨xPre_blind, va_recv hK hP (ci := 5) rfl (q0 := 0) rfl, (fun U hU hW => ⟨rfl, xPre_of hZ hS hFc hPc hDc hK U hU hW⟩)⟩ rfl rfl hl.1 rfl (lv_room (Nat.le_of_ble_eq_true rfl)) dL_law_634 ⟨Nat.le_of_ble_eq_true rfl, Nat.le_of_ble_eq_true rfl⟩) hS (fun q _ h => hFc q h) hFc (fun u9 t H1 locs ht hvm hr9 hB hz1 hk1 hS => ?_)
  obtain ⟨q4, q5, y6, y7, hP1, hK1, hD1⟩ := hB
  rw [ht] at hP1
  obtain ⟨hP, hD⟩ := xjoin (W := [(a2, .inl (cT 2, 1, .inr (.inl f49))), (a0, .inr (0, [v17, v18, .ref a8, .ref a4, .ref b19, .ref b54, v20, v21])), (a3, .inr (2, [.ref a7, .int 1, .int 0])), (a4, .inl (cT 3, 8, .inr (.inr (.inr (.inr (va_up f52 (xs 1).toNatClampNeg (some a3))))))), (a5, .inr (2, [.ref a6, .int 1, v56])), (a6, .inl (cT 2, 4096, .inr (.inl f57))), (a7, .inl (cT 2, 4096, .inr (.inl (vp_updL (vp_updL f59 0 0) 0 524293)))), (a8, .inr (1, [.ref a9, .int 2, .int 0])), (a9, .inl (cT 0, 4096, .inl (upd (upd f62 0 (vp_nar .byte y2)) 1 (vp_nar .byte y3)))), (a1, .inr (5, [.int 0, .ref a13, .int 2, v24, .int 0, .ref a14, v26, .int 0, v28, .int 0, v30, v31, .int 0, v33, v34, .ref a12, .int 4, .int 4, .int 0, .int 100, v40, .ref a15, .int 2, .int 4096, .ref a10, .ref a11, v43, v44, v45, v46, v47, v48])), (a10, .inl (cT 5, 8, .inr (.inr (.inr (.inr f63))))), (a11, .inl (cT 1, 8, .inl (upd f66 (xs 1).toNatClampNeg 2))), (a12, .inl (cT 0, 4096, .inl f68)), (a13, .inl (cT 4, 1024, .inr (.inr (.inr (.inr (va_up (va_up f73 0 (some q4)) 1 (some q5))))))), (a14, .inl (cT 4, 1024, .inr (.inr (.inr (.inr f76))))), (a15, .inl (cT 0, 1024, .inl (upd (upd f77 0 (vp_nar .byte y6)) 1 (vp_nar .byte y7)))), (a16, .inl (cT 0, 4096, .inl (upd (upd f78 0 (vp_nar .byte (vp_nar .byte y6))) 1 (vp_nar .byte (vp_nar .byte y7))))), (q4, .inr (6, [.int 0, .long 0, .int 0, .int 0, .int 0, .int 1])), (q5, .inr (6, [.int 5, .long 0, .int 0, .int 0, .int 1, .int 1]))]) hP hD [0, 2, 3, 4, 5, 6, 7, 8] [1, 9, 10, 11, 12, 13, 14, 15, 16] 9 rfl rfl (by decide) (by decide) hk1 hFc hP1 hD1
  generalize H1 = H at hP hS ⊢
  refine lv_aload_n hx hb dL_law_637 rfl (lv_at hl 3 rfl) ?_
  obtain ⟨hPc, hDc, hFc⟩ := xcut (wc := [(a1, .inr (5, [.int 0, .ref a13, .int 2, v24, .int 0, .ref a14, v26, .int 0, v28, .int 0, v30, v31, .int 0, v33, v34, .ref a12, .int 4, .int 4, .int 0, .int 100, v40, .ref a15, .int 2, .int 4096, .ref a10, .ref a11, v43, v44, v45, v46, v47, v48]))]) hP hD hS hA [9] rfl rfl (by decide)
  refine va_calli (va_runV (C := "ValueBenchModel") (As := []) (rest := []) ⟨hx, hb, hml, hown, htx⟩ (cM_thrown_0 l hl9 D cT aK aV H.size a1 (.ref a13) (.int 2) v24 (.int 0) (.ref a14) v26 (.int 0) v28 (.int 0) v30 v31 (.int 0) v33 v34 (.ref a12) (.int 4) (.int 4) (.int 0) (.int 100) v40 (.ref a15) (.int 2) (.int 4096) (.ref a10) (.ref a11) v43 v44 v45 v46 v47 v48) ⟨callB_of 0 htx (xw_goodC kw_5_187) rfl rfl rfl (htx _ kw_1_5) (htx _ kw_5_184) ⟨by decide, by decide, by decide +kernel⟩ ⟨Nat.le_of_ble_eq_true rfl, Nat.le_of_ble_eq_true rfl⟩, (htx _ kw_5_185), (htx _ kw_5_186)⟩ ⟨xPre_blind, va_recv hK hP (ci := 5) rfl (q0 := 9) rfl, (fun U hU hW => ⟨rfl, xPre_of hZ hS hFc hPc hDc hK U hU hW⟩)⟩ rfl rfl hl.1 rfl (lv_room (Nat.le_of_ble_eq_true rfl)) dL_law_638 ⟨Nat.le_of_ble_eq_true rfl, Nat.le_of_ble_eq_true rfl⟩) hS (fun q _ h => hFc q h) hFc (fun r8 u9 t H1 locs ht hvm hr9 hB hz1 hk1 hS => ?_)
  obtain ⟨hP1, hK1, hD1⟩ := hB
  rw [ht] at hP1
  obtain ⟨hP, hD⟩ := xjoin (W := [(a2, .inl (cT 2, 1, .inr (.inl f49))), (a0, .inr (0, [v17, v18, .ref a8, .ref a4, .ref b19, .ref b54, v20, v21])), (a3, .inr (2, [.ref a7, .int 1, .int 0])), (a4, .inl (cT 3, 8, .inr (.inr (.inr (.inr (va_up f52 (xs 1).toNatClampNeg (some a3))))))), (a5, .inr (2, [.ref a6, .int 1, v56])), (a6, .inl (cT 2, 4096, .inr (.inl f57))), (a7, .inl (cT 2, 4096, .inr (.inl (vp_updL (vp_updL f59 0 0) 0 524293)))), (a8, .inr (1, [.ref a9, .int 2, .int 0])), (a9, .inl (cT 0, 4096, .inl (upd (upd f62 0 (vp_nar .byte y2)) 1 (vp_nar .byte y3)))), (a10, .inl (cT 5, 8, .inr (.inr (.inr (.inr f63))))), (a11, .inl (cT 1, 8, .inl (upd f66 (xs 1).toNatClampNeg 2))), (a12, .inl (cT 0, 4096, .inl f68)), (a13, .inl (cT 4, 1024, .inr (.inr (.inr (.inr (va_up (va_up f73 0 (some q4)) 1 (some q5))))))), (a14, .inl (cT 4, 1024, .inr (.inr (.inr (.inr f76))))), (a15, .inl (cT 0, 1024, .inl (upd (upd f77 0 (vp_nar .byte y6)) 1 (vp_nar .byte y7)))), (a16, .inl (cT 0, 4096, .inl (upd (upd f78 0 (vp_nar .byte (vp_nar .byte y6))) 1 (vp_nar .byte (vp_nar .byte y7))))), (q4, .inr (6, [.int 0, .long 0, .int 0, .int 0, .int 0, .int 1])), (q5, .inr (6, [.int 5, .long 0, .int 0, .int 0, .int 1, .int 1])), (a1, .inr (5, [.int 0, .ref a13, .int 2, v24, .int 0, .ref a14, v26, .int 0, v28, .int 0, v30, v31, .int 0, v33, v34, .ref a12, .int 4, .int 4, .int 0, .int 100, v40, .ref a15, .int 2, .int 4096, .ref a10, .ref a11, v43, v44, v45, v46, v47, v48]))]) hP hD [9] [0, 1, 2, 3, 4, 5, 6, 7, 8, 10, 11, 12, 13, 14, 15, 16, 17, 18] 18 rfl rfl (by decide) (by decide) hk1 hFc hP1 hD1
  generalize H1 = H at hP hS ⊢
  rw [hr9]
  refine W.eq (g2 := F0 m 641 ls [.int 0]) rfl ?_
  refine lv_iload hx hb dL_law_641 (lv_at hl 0 rfl) ?_
  refine lv_icmp_eq (tgt := 648) hx hb dL_law_643 (by decide) (fun _ => ?_) (fun h => ((by revert h; decide : False)).elim)
  refine lv_goto (tgt := 906) hx hb dL_law_648 (by decide) ?_
  refine lv_iinc (v := 6) (lv' := [(4, .int 6), (5, .int 0), (3, .ref a2), (2, .ref a1), (1, .ref a0), (0, .ref b)]) hx hb dL_law_906 hl (k := 1) rfl (by decide) (by decide) rfl (fun ls hl => ?_)
  refine lv_goto (tgt := 23) hx hb dL_law_909 (by decide) ?_
  refine lv_iload hx hb dL_law_23 (lv_at hl 0 rfl) ?_
  refine lv_aload_n hx hb dL_law_25 rfl (lv_at hl 5 rfl) ?_
  refine va_slen hx hb hXs hbl hbA hS dL_law_26 ?_
  refine W.eq (g2 := F0 m 27 ls [.int 6, .int 6]) rfl ?_
  refine lv_bipush (v := 6) hx hb dL_law_27 (by decide) ?_
  refine lv_isub hx hb dL_law_29 ?_
  refine W.eq (g2 := F0 m 30 ls [.int 0, .int 6]) rfl ?_
  refine lv_icmp_gt (tgt := 912) hx hb dL_law_30 (by decide) (fun _ => ?_) (fun h => ((by revert h; decide : False)).elim)
  refine lv_iconst (v := 1) hx hb dL_law_912 (by decide) ?_
  exact va_forget (fun q h => hA2 _ (hS.2.2 q h)) (W.widen (k := 600002) (n := 7302232) (Nat.le_of_ble_eq_true rfl) (Nat.le_of_ble_eq_true rfl) (lw_ret hx hb hr hlocks dL_law_913))
set_option maxHeartbeats 400000000 in
set_option maxRecDepth 100000 in
theorem lf_one10_p2 {p : Program} {e : Env} {s : State} {m : MethodId} {below : List Frame} {meth : Method} {c : Code} (l : Launch) (hl9 : l.stackTraces = false) (D : va_G) (cT : Nat → ClassId) (aK aV : Nat → Nat) {A : Nat → Prop} {b : Nat} {xs : Nat → Int32} (C : xLw p s m meth c b D cT aK aV A) {H : Heap} {locs : List Loc} {ls : Array Slot} (a0 : Nat) (a1 : Nat) (a2 : Nat) (a3 : Nat) (a4 : Nat) (a5 : Nat) (a6 : Nat) (a7 : Nat) (a8 : Nat) (a9 : Nat) (a10 : Nat) (v11 : Value) (v12 : Value) (b13 : Nat) (b14 : Nat) (v15 : Value) (v16 : Value) (v17 : Value) (v18 : Value) (v19 : Value) (v20 : Value) (v21 : Value) (v22 : Value) (v23 : Value) (v24 : Value) (v25 : Value) (v26 : Value) (v27 : Value) (v28 : Value) (v29 : Value) (v30 : Value) (v31 : Value) (v32 : Value) (v33 : Value) (v34 : Value) (v35 : Value) (v36 : Value) (v37 : Value) (v38 : Value) (v39 : Value) (v40 : Value) (v41 : Value) (v42 : Value) (v43 : Value) (v44 : Value) (v45 : Value) (f46 : Nat → Int64) (v47 : Value) (v48 : Value) (v49 : Value) (f50 : Nat → Option Nat) (v52 : Value) (f53 : Nat → Int64) (f55 : Nat → Option Nat) (f57 : Nat → Int32) (f59 : Nat → Int32) (f64 : Nat → Option Nat) (h51 : f50 (xs 3).toNatClampNeg = some a5) (h54 : f53 0 = 0) (h56 : f55 (xs 3).toNatClampNeg = some a9) (h58 : f57 (xs 3).toNatClampNeg = 4) (h60 : f59 0 = 110) (h61 : f59 1 = 117) (h62 : f59 2 = 108) (h63 : f59 3 = 108) (h65 : f64 0 = none) (hto1 : ¬ (xs 1) < 0) (hto2 : ¬ 7 < (xs 1)) (hto3 : (xs 1) ≤ 7) (hto4 : vp_in (xs 1) 8) (hf : xs 2 = 10) (ha1 : ¬ (xs 3) < 0) (ha2 : ¬ 7 < (xs 3)) (ha3 : (xs 3) ≤ 7) (ha4 : vp_in (xs 3) 8) (hXs : va_X b 6 xs s s.heap) (hP : va_P D xcl [(a0, .inr (0, [v11, v12, .ref b13, .ref a4, .ref b14, .ref a3, v15, v16])), (a1, .inr (5, [v17, .ref a10, v18, v19, v20, v21, v22, v23, v24, v25, v26, v27, v28, v29, v30, v31, v32, v33, v34, v35, v36, v37, v38, v39, .ref a7, .ref a8, v40, v41, v42, v43, v44, v45])), (a2, .inl (cT 2, 1, .inr (.inl f46))), (a3, .inr (2, [v47, v48, v49])), (a4, .inl (cT 3, 8, .inr (.inr (.inr (.inr f50))))), (a5, .inr (2, [.ref a6, .int 1, v52])), (a6, .inl (cT 2, 4096, .inr (.inl f53))), (a7, .inl (cT 5, 8, .inr (.inr (.inr (.inr f55))))), (a8, .inl (cT 1, 8, .inl f57)), (a9, .inl (cT 0, 4096, .inl f59)), (a10, .inl (cT 4, 1024, .inr (.inr (.inr (.inr f64)))))] H) (hD : va_D A [(a0, .inr (0, [v11, v12, .ref b13, .ref a4, .ref b14, .ref a3, v15, v16])), (a1, .inr (5, [v17, .ref a10, v18, v19, v20, v21, v22, v23, v24, v25, v26, v27, v28, v29, v30, v31, v32, v33, v34, v35, v36, v37, v38, v39, .ref a7, .ref a8, v40, v41, v42, v43, v44, v45])), (a2, .inl (cT 2, 1, .inr (.inl f46))), (a3, .inr (2, [v47, v48, v49])), (a4, .inl (cT 3, 8, .inr (.inr (.inr (.inr f50))))), (a5, .inr (2, [.ref a6, .int 1, v52])), (a6, .inl (cT 2, 4096, .inr (.inl f53))), (a7, .inl (cT 5, 8, .inr (.inr (.inr (.inr f55))))), (a8, .inl (cT 1, 8, .inl f57)), (a9, .inl (cT 0, 4096, .inl f59)), (a10, .inl (cT 4, 1024, .inr (.inr (.inr (.inr f64)))))]) (hS : va_S A s.heap H locs) (hl : lv_has ls 8 [(4, .int 0), (3, .ref a2), (2, .ref a1), (1, .ref a0), (0, .ref b)]) : W p l e room_1 s m #[Value.ref b] below meth c H locs 54 107242 (lw_Z below #[Value.ref b] s) (F0 m 591 ls []) := by
  obtain ⟨hx, hb, hr, hml, hown, htx, hbl, hbA, hlocks, hK, hZ, hA, hA2⟩ := C
  refine lv_aload_n hx hb dL_law_591 rfl (lv_at hl 3 rfl) ?_
  refine lv_aload_n hx hb dL_law_592 rfl (lv_at hl 4 rfl) ?_
  refine lv_iload hx hb dL_law_593 (lv_at hl 0 rfl) ?_
  refine lv_iconst (v := 1) hx hb dL_law_595 (by decide) ?_
  refine lv_iadd hx hb dL_law_596 ?_
  refine W.eq (g2 := F0 m 597 ls [.int 1, .ref b, .ref a0]) rfl ?_
  refine va_sld hx hb hXs hbl hbA hS (i := 1) (show ¬ ((1 : Int32) < 0 ∨ 6 ≤ (1 : Int32).toNatClampNeg) by decide) dL_law_597 ?_
  refine W.eq (g2 := F0 m 598 ls [.int (xs 1), .ref a0]) rfl ?_
  refine lv_aload_n hx hb dL_law_598 rfl (lv_at hl 4 rfl) ?_
  refine lv_iload hx hb dL_law_599 (lv_at hl 0 rfl) ?_
  refine lv_iconst (v := 2) hx hb dL_law_601 (by decide) ?_
  refine lv_iadd hx hb dL_law_602 ?_
  refine W.eq (g2 := F0 m 603 ls [.int 2, .ref b, .int (xs 1), .ref a0]) rfl ?_
  refine va_sld hx hb hXs hbl hbA hS (i := 2) (show ¬ ((2 : Int32) < 0 ∨ 6 ≤ (2 : Int32).toNatClampNeg) by decide) dL_law_603 ?_
  refine W.eq (g2 := F0 m 604 ls [.int (xs 2), .int (xs 1), .ref a0]) rfl ?_
  rw [hf]
  refine W.eq (g2 := F0 m 604 ls [.int 10, .int (xs 1), .ref a0]) rfl ?_
  refine lv_aload_n hx hb dL_law_604 rfl (lv_at hl 4 rfl) ?_
  refine lv_iload hx hb dL_law_605 (lv_at hl 0 rfl) ?_
  refine lv_iconst (v := 3) hx hb dL_law_607 (by decide) ?_
  refine lv_iadd hx hb dL_law_608 ?_
  refine W.eq (g2 := F0 m 609 ls [.int 3, .ref b, .int 10, .int (xs 1), .ref a0]) rfl ?_
  refine va_sld hx hb hXs hbl hbA hS (i := 3) (show ¬ ((3 : Int32) < 0 ∨ 6 ≤ (3 : Int32).toNatClampNeg) by decide) dL_law_609 ?_
  refine W.eq (g2 := F0 m 610 ls [.int (xs 3), .int 10, .int (xs 1), .ref a0]) rfl ?_
  obtain ⟨hPc, hDc, hFc⟩ := xcut (wc := [(a0, .inr (0, [v11, v12, .ref b13, .ref a4, .ref b14, .ref a3, v15, v16])), (a3, .inr (2, [v47, v48, v49])), (a4, .inl (cT 3, 8, .inr (.inr (.inr (.inr f50))))), (a5, .inr (2, [.ref a6, .int 1, v52])), (a6, .inl (cT 2, 4096, .inr (.inl f53)))]) hP hD hS hA [0, 3, 4, 5, 6] rfl rfl (by decide)
  refine va_calli (vx_runSW (As := [.ref a0, .int (xs 1), .int 10, .int (xs 3)]) (rest := []) ⟨hx, hb, hml, hown, htx⟩ (cL_one_16 l hl9 D cT aK aV H.size a0 a3 a4 a5 a6 (xs 1) (xs 3) v11 v12 b13 b14 v15 v16 v47 v48 v49 f50 v52 f53 hto1 hto2 hto3 hto4 ha1 ha2 ha3 ha4 (by first | rfl | exact h51 | exact h54 | exact h56 | exact h58 | exact h60 | exact h61 | exact h62 | exact h63 | exact h65) (by first | rfl | exact h51 | exact h54 | exact h56 | exact h58 | exact h60 | exact h61 | exact h62 | exact h63 | exact h65)) (xcSW 4 htx (xw_goodC kw_4_21) rfl rfl rfl (htx _ kw_1_0) (htx _ kw_4_19) ⟨by decide, by decide, by decide +kernel⟩ ⟨Nat.le_of_ble_eq_true rfl, Nat.le_of_ble_eq_true rfl⟩ (htx _ kw_4_20)) ⟨xPre_blind, (fun U hU hW => ⟨rfl, xPre_of hZ hS hFc hPc hDc hK U hU hW⟩)⟩ rfl rfl hl.1 rfl (lv_room (Nat.le_of_ble_eq_true rfl)) dL_law_610 ⟨Nat.le_of_ble_eq_true rfl, Nat.le_of_ble_eq_true rfl⟩) hS (fun q _ h => hFc q h) hFc (fun r1 u9 t H1 locs ht hvm hr9 hB hz1 hk1 hS => ?_)
  obtain ⟨hP1, hK1, hD1⟩ := hB
  rw [ht] at hP1
  obtain ⟨hP, hD⟩ := xjoin (W := [(a1, .inr (5, [v17, .ref a10, v18, v19, v20, v21, v22, v23, v24, v25, v26, v27, v28, v29, v30, v31, v32, v33, v34, v35, v36, v37, v38, v39, .ref a7, .ref a8, v40, v41, v42, v43, v44, v45])), (a2, .inl (cT 2, 1, .inr (.inl f46))), (a7, .inl (cT 5, 8, .inr (.inr (.inr (.inr f55))))), (a8, .inl (cT 1, 8, .inl f57)), (a9, .inl (cT 0, 4096, .inl f59)), (a10, .inl (cT 4, 1024, .inr (.inr (.inr (.inr f64))))), (a0, .inr (0, [v11, v12, .ref b13, .ref a4, .ref b14, .ref a3, v15, .int 1])), (a3, .inr (2, [v47, .int 0, .int 0])), (a4, .inl (cT 3, 8, .inr (.inr (.inr (.inr f50))))), (a5, .inr (2, [.ref a6, .int 1, v52])), (a6, .inl (cT 2, 4096, .inr (.inl f53)))]) hP hD [0, 3, 4, 5, 6] [1, 2, 7, 8, 9, 10] 6 rfl rfl (by decide) (by decide) hk1 hFc hP1 hD1
  generalize H1 = H at hP hS ⊢
  rw [hr9]
  refine W.eq (g2 := F0 m 613 ls [.int 2]) rfl ?_
  refine lv_istore (lv' := [(5, .int 2), (4, .int 0), (3, .ref a2), (2, .ref a1), (1, .ref a0), (0, .ref b)]) hx hb dL_law_613 hl (by decide) rfl (fun ls hl => ?_)
  refine lv_aload_n hx hb dL_law_615 rfl (lv_at hl 3 rfl) ?_
  refine lv_aload_n hx hb dL_law_616 rfl (lv_at hl 5 rfl) ?_
  refine lv_iload hx hb dL_law_617 (lv_at hl 1 rfl) ?_
  refine lv_iconst (v := 1) hx hb dL_law_619 (by decide) ?_
  refine lv_iadd hx hb dL_law_620 ?_
  refine W.eq (g2 := F0 m 621 ls [.int 1, .ref b, .ref a1]) rfl ?_
  refine va_sld hx hb hXs hbl hbA hS (i := 1) (show ¬ ((1 : Int32) < 0 ∨ 6 ≤ (1 : Int32).toNatClampNeg) by decide) dL_law_621 ?_
  refine W.eq (g2 := F0 m 622 ls [.int (xs 1), .ref a1]) rfl ?_
  refine lv_aload_n hx hb dL_law_622 rfl (lv_at hl 5 rfl) ?_
  refine lv_iload hx hb dL_law_623 (lv_at hl 1 rfl) ?_
  refine lv_iconst (v := 2) hx hb dL_law_625 (by decide) ?_
  refine lv_iadd hx hb dL_law_626 ?_
  refine W.eq (g2 := F0 m 627 ls [.int 2, .ref b, .int (xs 1), .ref a1]) rfl ?_
  refine va_sld hx hb hXs hbl hbA hS (i := 2) (show ¬ ((2 : Int32) < 0 ∨ 6 ≤ (2 : Int32).toNatClampNeg) by decide) dL_law_627 ?_
  refine W.eq (g2 := F0 m 628 ls [.int (xs 2), .int (xs 1), .ref a1]) rfl ?_
  rw [hf]
  refine W.eq (g2 := F0 m 628 ls [.int 10, .int (xs 1), .ref a1]) rfl ?_
  refine lv_aload_n hx hb dL_law_628 rfl (lv_at hl 5 rfl) ?_
  refine lv_iload hx hb dL_law_629 (lv_at hl 1 rfl) ?_
  refine lv_iconst (v := 3) hx hb dL_law_631 (by decide) ?_
  refine lv_iadd hx hb dL_law_632 ?_
  refine W.eq (g2 := F0 m 633 ls [.int 3, .ref b, .int 10, .int (xs 1), .ref a1]) rfl ?_
  refine va_sld hx hb hXs hbl hbA hS (i := 3) (show ¬ ((3 : Int32) < 0 ∨ 6 ≤ (3 : Int32).toNatClampNeg) by decide) dL_law_633 ?_
  refine W.eq (g2 := F0 m 634 ls [.int (xs 3), .int 10, .int (xs 1), .ref a1]) rfl ?_
  obtain ⟨hPc, hDc, hFc⟩ := xcut (wc := [(a1, .inr (5, [v17, .ref a10, v18, v19, v20, v21, v22, v23, v24, v25, v26, v27, v28, v29, v30, v31, v32, v33, v34, v35, v36, v37, v38, v39, .ref a7, .ref a8, v40, v41, v42, v43, v44, v45])), (a7, .inl (cT 5, 8, .inr (.inr (.inr (.inr f55))))), (a8, .inl (cT 1, 8, .inl f57)), (a9, .inl (cT 0, 4096, .inl f59)), (a10, .inl (cT 4, 1024, .inr (.inr (.inr (.inr f64)))))]) hP hD hS hA [0, 2, 3, 4, 5] rfl rfl (by decide)
  refine va_callv (va_runV (C := "ValueBenchModel") (As := [.int (xs 1), .int 10, .int (xs 3)]) (rest := []) ⟨hx, hb, hml, hown, htx⟩ (cM_one0_21 l hl9 D cT aK aV H.size a1 a7 a8 a9 a10 (xs 1) (xs 3) v17 v18 v19 v20 v21 v22 v23 v24 v25 v26 v27 v28 v29 v30 v31 v32 v33 v34 v35 v36 v37 v38 v39 v40 v41 v42 v43 v44 v45 f55 f57 f59 f64 hto1 hto2 hto3 hto4 ha1 ha2 ha3 ha4 (by first | rfl | exact h51 | exact h54 | exact h56 | exact h58 | exact h60 | exact h61 | exact h62 | exact h63 | exact h65) (by first | rfl | exact h51 | exact h54 | exact h56 | exact h58 | exact h60 | exact h61 | exact h62 | exact h63 | exact h65) (by first | rfl | exact h51 | exact h54 | exact h56 | exact h58 | exact h60 | exact h61 | exact h62 | exact h63 | exact h65) (by first | rfl | exact h51 | exact h54 | exact h56 | exact h58 | exact h60 | exact h61 | exact h62 | exact h63 | exact h65) (by first | rfl | exact h51 | exact h54 | exact h56 | exact h58 | exact h60 | exact h61 | exact h62 | exact h63 | exact h65) (by first | rfl | exact h51 | exact h54 | exact h56 | exact h58 | exact h60 | exact h61 | exact h62 | exact h63 | exact h65) (by first | rfl | exact h51 | exact h54 | exact h56 | exact h58 | exact h60 | exact h61 | exact h62 | exact h63 | exact h65)) ⟨callB_of 3 htx (xw_goodC kw_7_123) rfl rfl rfl (htx _ kw_1_5) (htx _ kw_7_120) ⟨by decide, by decide, by decide +kernel⟩ ⟨Nat.le_of_ble_eq_true rfl, Nat.le_of_ble_eq_true rfl⟩, (htx _ kw_7_121), (htx _ kw_7_122)⟩ ⟨xPre_blind, va_recv hK hP (ci := 5) rfl (q0 := 0) rfl, (fun U hU hW => ⟨rfl, xPre_of hZ hS hFc hPc hDc hK U hU hW⟩)⟩ rfl rfl hl.1 rfl (lv_room (Nat.le_of_ble_eq_true rfl)) dL_law_634 ⟨Nat.le_of_ble_eq_true rfl, Nat.le_of_ble_eq_true rfl⟩) hS (fun q _ h => hFc q h) hFc (fun u9 t H1 locs ht hvm hr9 hB hz1 hk1 hS => ?_)
  obtain ⟨q2, hP1, hK1, hD1⟩ := hB
  rw [ht] at hP1
  obtain ⟨hP, hD⟩ := xjoin (W := [(a2, .inl (cT 2, 1, .inr (.inl f46))), (a0, .inr (0, [v11, v12, .ref b13, .ref a4, .ref b14, .ref a3, v15, .int 1])), (a3, .inr (2, [v47, .int 0, .int 0])), (a4, .inl (cT 3, 8, .inr (.inr (.inr (.inr f50))))), (a5, .inr (2, [.ref a6, .int 1, v52])), (a6, .inl (cT 2, 4096, .inr (.inl f53))), (a1, .inr (5, [.int 2, .ref a10, .int 1, v19, .int 0, v21, v22, .int 0, .int 1, .int 0, v26, v27, .int 0, v29, v30, .ref a9, .int 4, .int 4, .int 0, .int 100, v36, v37, .int 0, .int 1000000000, .ref a7, .ref a8, v40, v41, v42, v43, .int 1, v45])), (a7, .inl (cT 5, 8, .inr (.inr (.inr (.inr f55))))), (a8, .inl (cT 1, 8, .inl f57)), (a9, .inl (cT 0, 4096, .inl f59)), (a10, .inl (cT 4, 1024, .inr (.inr (.inr (.inr (va_up f64 0 (some q2))))))), (q2, .inr (6, [.int 0, .long 0, .int 0, .int 0, .int 0, .int 1]))]) hP hD [0, 2, 3, 4, 5] [1, 6, 7, 8, 9, 10] 6 rfl rfl (by decide) (by decide) hk1 hFc hP1 hD1
  generalize H1 = H at hP hS ⊢
  refine lv_aload_n hx hb dL_law_637 rfl (lv_at hl 3 rfl) ?_
  obtain ⟨hPc, hDc, hFc⟩ := xcut (wc := [(a1, .inr (5, [.int 2, .ref a10, .int 1, v19, .int 0, v21, v22, .int 0, .int 1, .int 0, v26, v27, .int 0, v29, v30, .ref a9, .int 4, .int 4, .int 0, .int 100, v36, v37, .int 0, .int 1000000000, .ref a7, .ref a8, v40, v41, v42, v43, .int 1, v45]))]) hP hD hS hA [6] rfl rfl (by decide)
  refine va_calli (va_runV (C := "ValueBenchModel") (As := []) (rest := []) ⟨hx, hb, hml, hown, htx⟩ (cM_thrown_2 l hl9 D cT aK aV H.size a1 (.ref a10) (.int 1) v19 (.int 0) v21 v22 (.int 0) (.int 1) (.int 0) v26 v27 (.int 0) v29 v30 (.ref a9) (.int 4) (.int 4) (.int 0) (.int 100) v36 v37 (.int 0) (.int 1000000000) (.ref a7) (.ref a8) v40 v41 v42 v43 (.int 1) v45) ⟨callB_of 0 htx (xw_goodC kw_5_187) rfl rfl rfl (htx _ kw_1_5) (htx _ kw_5_184) ⟨by decide, by decide, by decide +kernel⟩ ⟨Nat.le_of_ble_eq_true rfl, Nat.le_of_ble_eq_true rfl⟩, (htx _ kw_5_185), (htx _ kw_5_186)⟩ ⟨xPre_blind, va_recv hK hP (ci := 5) rfl (q0 := 6) rfl, (fun U hU hW => ⟨rfl, xPre_of hZ hS hFc hPc hDc hK U hU hW⟩)⟩ rfl rfl hl.1 rfl (lv_room (Nat.le_of_ble_eq_true rfl)) dL_law_638 ⟨Nat.le_of_ble_eq_true rfl, Nat.le_of_ble_eq_true rfl⟩) hS (fun q _ h => hFc q h) hFc (fun r3 u9 t H1 locs ht hvm hr9 hB hz1 hk1 hS => ?_)
  obtain ⟨hP1, hK1, hD1⟩ := hB
  rw [ht] at hP1
  obtain ⟨hP, hD⟩ := xjoin (W := [(a2, .inl (cT 2, 1, .inr (.inl f46))), (a0, .inr (0, [v11, v12, .ref b13, .ref a4, .ref b14, .ref a3, v15, .int 1])), (a3, .inr (2, [v47, .int 0, .int 0])), (a4, .inl (cT 3, 8, .inr (.inr (.inr (.inr f50))))), (a5, .inr (2, [.ref a6, .int 1, v52])), (a6, .inl (cT 2, 4096, .inr (.inl f53))), (a7, .inl (cT 5, 8, .inr (.inr (.inr (.inr f55))))), (a8, .inl (cT 1, 8, .inl f57)), (a9, .inl (cT 0, 4096, .inl f59)), (a10, .inl (cT 4, 1024, .inr (.inr (.inr (.inr (va_up f64 0 (some q2))))))), (q2, .inr (6, [.int 0, .long 0, .int 0, .int 0, .int 0, .int 1])), (a1, .inr (5, [.int 2, .ref a10, .int 1, v19, .int 0, v21, v22, .int 0, .int 1, .int 0, v26, v27, .int 0, v29, v30, .ref a9, .int 4, .int 4, .int 0, .int 100, v36, v37, .int 0, .int 1000000000, .ref a7, .ref a8, v40, v41, v42, v43, .int 1, v45]))]) hP hD [6] [0, 1, 2, 3, 4, 5, 7, 8, 9, 10, 11] 11 rfl rfl (by decide) (by decide) hk1 hFc hP1 hD1
  generalize H1 = H at hP hS ⊢
  rw [hr9]
  refine W.eq (g2 := F0 m 641 ls [.int 2]) rfl ?_
  refine lv_iload hx hb dL_law_641 (lv_at hl 0 rfl) ?_
  refine lv_icmp_eq (tgt := 648) hx hb dL_law_643 (by decide) (fun _ => ?_) (fun h => ((by revert h; decide : False)).elim)
  refine lv_goto (tgt := 906) hx hb dL_law_648 (by decide) ?_
  refine lv_iinc (v := 6) (lv' := [(4, .int 6), (5, .int 2), (3, .ref a2), (2, .ref a1), (1, .ref a0), (0, .ref b)]) hx hb dL_law_906 hl (k := 1) rfl (by decide) (by decide) rfl (fun ls hl => ?_)
  refine lv_goto (tgt := 23) hx hb dL_law_909 (by decide) ?_
  refine lv_iload hx hb dL_law_23 (lv_at hl 0 rfl) ?_
  refine lv_aload_n hx hb dL_law_25 rfl (lv_at hl 5 rfl) ?_
  refine va_slen hx hb hXs hbl hbA hS dL_law_26 ?_
  refine W.eq (g2 := F0 m 27 ls [.int 6, .int 6]) rfl ?_
  refine lv_bipush (v := 6) hx hb dL_law_27 (by decide) ?_
  refine lv_isub hx hb dL_law_29 ?_
  refine W.eq (g2 := F0 m 30 ls [.int 0, .int 6]) rfl ?_
  refine lv_icmp_gt (tgt := 912) hx hb dL_law_30 (by decide) (fun _ => ?_) (fun h => ((by revert h; decide : False)).elim)
  refine lv_iconst (v := 1) hx hb dL_law_912 (by decide) ?_
  exact va_forget (fun q h => hA2 _ (hS.2.2 q h)) (W.widen (k := 600002) (n := 7302232) (Nat.le_of_ble_eq_true rfl) (Nat.le_of_ble_eq_true rfl) (lw_ret hx hb hr hlocks dL_law_913))
set_option maxHeartbeats 400000000 in
set_option maxRecDepth 100000 in
theorem lf_one10_p0 {p : Program} {e : Env} {s : State} {m : MethodId} {below : List Frame} {meth : Method} {c : Code} (l : Launch) (hl9 : l.stackTraces = false) (D : va_G) (cT : Nat → ClassId) (aK aV : Nat → Nat) {A : Nat → Prop} {b : Nat} {xs : Nat → Int32} (C : xLw p s m meth c b D cT aK aV A) {H : Heap} {locs : List Loc} {ls : Array Slot} (a0 : Nat) (a1 : Nat) (a2 : Nat) (a3 : Nat) (a4 : Nat) (a5 : Nat) (a6 : Nat) (a7 : Nat) (a8 : Nat) (a9 : Nat) (a10 : Nat) (v11 : Value) (v12 : Value) (b13 : Nat) (b14 : Nat) (v15 : Value) (v16 : Value) (v17 : Value) (v18 : Value) (v19 : Value) (v20 : Value) (v21 : Value) (v22 : Value) (v23 : Value) (v24 : Value) (v25 : Value) (v26 : Value) (v27 : Value) (v28 : Value) (v29 : Value) (v30 : Value) (v31 : Value) (v32 : Value) (v33 : Value) (v34 : Value) (v35 : Value) (v36 : Value) (v37 : Value) (v38 : Value) (v39 : Value) (v40 : Value) (v41 : Value) (v42 : Value) (v43 : Value) (v44 : Value) (v45 : Value) (f46 : Nat → Int64) (v47 : Value) (v48 : Value) (v49 : Value) (f50 : Nat → Option Nat) (v52 : Value) (f53 : Nat → Int64) (f55 : Nat → Option Nat) (f57 : Nat → Int32) (f59 : Nat → Int32) (f64 : Nat → Option Nat) (h51 : f50 (xs 3).toNatClampNeg = some a5) (h54 : f53 0 = 0) (h56 : f55 (xs 3).toNatClampNeg = some a9) (h58 : f57 (xs 3).toNatClampNeg = 4) (h60 : f59 0 = 110) (h61 : f59 1 = 117) (h62 : f59 2 = 108) (h63 : f59 3 = 108) (h65 : f64 0 = none) (hto1 : ¬ (xs 1) < 0) (hto2 : ¬ 7 < (xs 1)) (hto3 : (xs 1) ≤ 7) (hto4 : vp_in (xs 1) 8) (hf : xs 2 = 10) (ha1 : ¬ (xs 3) < 0) (ha2 : ¬ 7 < (xs 3)) (ha3 : (xs 3) ≤ 7) (ha4 : vp_in (xs 3) 8) (hXs : va_X b 6 xs s s.heap) (hP : va_P D xcl [(a0, .inr (0, [v11, v12, .ref b13, .ref a4, .ref b14, .ref a3, v15, v16])), (a1, .inr (5, [v17, .ref a10, v18, v19, v20, v21, v22, v23, v24, v25, v26, v27, v28, v29, v30, v31, v32, v33, v34, v35, v36, v37, v38, v39, .ref a7, .ref a8, v40, v41, v42, v43, v44, v45])), (a2, .inl (cT 2, 1, .inr (.inl f46))), (a3, .inr (2, [v47, v48, v49])), (a4, .inl (cT 3, 8, .inr (.inr (.inr (.inr f50))))), (a5, .inr (2, [.ref a6, .int 1, v52])), (a6, .inl (cT 2, 4096, .inr (.inl f53))), (a7, .inl (cT 5, 8, .inr (.inr (.inr (.inr f55))))), (a8, .inl (cT 1, 8, .inl f57)), (a9, .inl (cT 0, 4096, .inl f59)), (a10, .inl (cT 4, 1024, .inr (.inr (.inr (.inr f64)))))] H) (hD : va_D A [(a0, .inr (0, [v11, v12, .ref b13, .ref a4, .ref b14, .ref a3, v15, v16])), (a1, .inr (5, [v17, .ref a10, v18, v19, v20, v21, v22, v23, v24, v25, v26, v27, v28, v29, v30, v31, v32, v33, v34, v35, v36, v37, v38, v39, .ref a7, .ref a8, v40, v41, v42, v43, v44, v45])), (a2, .inl (cT 2, 1, .inr (.inl f46))), (a3, .inr (2, [v47, v48, v49])), (a4, .inl (cT 3, 8, .inr (.inr (.inr (.inr f50))))), (a5, .inr (2, [.ref a6, .int 1, v52])), (a6, .inl (cT 2, 4096, .inr (.inl f53))), (a7, .inl (cT 5, 8, .inr (.inr (.inr (.inr f55))))), (a8, .inl (cT 1, 8, .inl f57)), (a9, .inl (cT 0, 4096, .inl f59)), (a10, .inl (cT 4, 1024, .inr (.inr (.inr (.inr f64)))))]) (hS : va_S A s.heap H locs) (hl : lv_has ls 8 [(4, .int 0), (3, .ref a2), (2, .ref a1), (1, .ref a0), (0, .ref b)]) : W p l e room_1 s m #[Value.ref b] below meth c H locs 54 107242 (lw_Z below #[Value.ref b] s) (F0 m 591 ls []) := by
  obtain ⟨hx, hb, hr, hml, hown, htx, hbl, hbA, hlocks, hK, hZ, hA, hA2⟩ := C
  refine lv_aload_n hx hb dL_law_591 rfl (lv_at hl 3 rfl) ?_
  refine lv_aload_n hx hb dL_law_592 rfl (lv_at hl 4 rfl) ?_
  refine lv_iload hx hb dL_law_593 (lv_at hl 0 rfl) ?_
  refine lv_iconst (v := 1) hx hb dL_law_595 (by decide) ?_
  refine lv_iadd hx hb dL_law_596 ?_
  refine W.eq (g2 := F0 m 597 ls [.int 1, .ref b, .ref a0]) rfl ?_
  refine va_sld hx hb hXs hbl hbA hS (i := 1) (show ¬ ((1 : Int32) < 0 ∨ 6 ≤ (1 : Int32).toNatClampNeg) by decide) dL_law_597 ?_
  refine W.eq (g2 := F0 m 598 ls [.int (xs 1), .ref a0]) rfl ?_
  refine lv_aload_n hx hb dL_law_598 rfl (lv_at hl 4 rfl) ?_
  refine lv_iload hx hb dL_law_599 (lv_at hl 0 rfl) ?_
  refine lv_iconst (v := 2) hx hb dL_law_601 (by decide) ?_
  refine lv_iadd hx hb dL_law_602 ?_
  refine W.eq (g2 := F0 m 603 ls [.int 2, .ref b, .int (xs 1), .ref a0]) rfl ?_
  refine va_sld hx hb hXs hbl hbA hS (i := 2) (show ¬ ((2 : Int32) < 0 ∨ 6 ≤ (2 : Int32).toNatClampNeg) by decide) dL_law_603 ?_
  refine W.eq (g2 := F0 m 604 ls [.int (xs 2), .int (xs 1), .ref a0]) rfl ?_
  rw [hf]
  refine W.eq (g2 := F0 m 604 ls [.int 10, .int (xs 1), .ref a0]) rfl ?_
  refine lv_aload_n hx hb dL_law_604 rfl (lv_at hl 4 rfl) ?_
  refine lv_iload hx hb dL_law_605 (lv_at hl 0 rfl) ?_
  refine lv_iconst (v := 3) hx hb dL_law_607 (by decide) ?_
  refine lv_iadd hx hb dL_law_608 ?_
  refine W.eq (g2 := F0 m 609 ls [.int 3, .ref b, .int 10, .int (xs 1), .ref a0]) rfl ?_
  refine va_sld hx hb hXs hbl hbA hS (i := 3) (show ¬ ((3 : Int32) < 0 ∨ 6 ≤ (3 : Int32).toNatClampNeg) by decide) dL_law_609 ?_
  refine W.eq (g2 := F0 m 610 ls [.int (xs 3), .int 10, .int (xs 1), .ref a0]) rfl ?_
  obtain ⟨hPc, hDc, hFc⟩ := xcut (wc := [(a0, .inr (0, [v11, v12, .ref b13, .ref a4, .ref b14, .ref a3, v15, v16])), (a3, .inr (2, [v47, v48, v49])), (a4, .inl (cT 3, 8, .inr (.inr (.inr (.inr f50))))), (a5, .inr (2, [.ref a6, .int 1, v52])), (a6, .inl (cT 2, 4096, .inr (.inl f53)))]) hP hD hS hA [0, 3, 4, 5, 6] rfl rfl (by decide)
  refine va_calli (vx_runSW (As := [.ref a0, .int (xs 1), .int 10, .int (xs 3)]) (rest := []) ⟨hx, hb, hml, hown, htx⟩ (cL_one_16 l hl9 D cT aK aV H.size a0 a3 a4 a5 a6 (xs 1) (xs 3) v11 v12 b13 b14 v15 v16 v47 v48 v49 f50 v52 f53 hto1 hto2 hto3 hto4 ha1 ha2 ha3 ha4 (by first | rfl | exact h51 | exact h54 | exact h56 | exact h58 | exact h60 | exact h61 | exact h62 | exact h63 | exact h65) (by first | rfl | exact h51 | exact h54 | exact h56 | exact h58 | exact h60 | exact h61 | exact h62 | exact h63 | exact h65)) (xcSW 4 htx (xw_goodC kw_4_21) rfl rfl rfl (htx _ kw_1_0) (htx _ kw_4_19) ⟨by decide, by decide, by decide +kernel⟩ ⟨Nat.le_of_ble_eq_true rfl, Nat.le_of_ble_eq_true rfl⟩ (htx _ kw_4_20)) ⟨xPre_blind, (fun U hU hW => ⟨rfl, xPre_of hZ hS hFc hPc hDc hK U hU hW⟩)⟩ rfl rfl hl.1 rfl (lv_room (Nat.le_of_ble_eq_true rfl)) dL_law_610 ⟨Nat.le_of_ble_eq_true rfl, Nat.le_of_ble_eq_true rfl⟩) hS (fun q _ h => hFc q h) hFc (fun r1 u9 t H1 locs ht hvm hr9 hB hz1 hk1 hS => ?_)
  obtain ⟨hP1, hK1, hD1⟩ := hB
  rw [ht] at hP1
  obtain ⟨hP, hD⟩ := xjoin (W := [(a1, .inr (5, [v17, .ref a10, v18, v19, v20, v21, v22, v23, v24, v25, v26, v27, v28, v29, v30, v31, v32, v33, v34, v35, v36, v37, v38, v39, .ref a7, .ref a8, v40, v41, v42, v43, v44, v45])), (a2, .inl (cT 2, 1, .inr (.inl f46))), (a7, .inl (cT 5, 8, .inr (.inr (.inr (.inr f55))))), (a8, .inl (cT 1, 8, .inl f57)), (a9, .inl (cT 0, 4096, .inl f59)), (a10, .inl (cT 4, 1024, .inr (.inr (.inr (.inr f64))))), (a0, .inr (0, [v11, v12, .ref b13, .ref a4, .ref b14, .ref a3, v15, .int 1])), (a3, .inr (2, [v47, .int 0, .int 0])), (a4, .inl (cT 3, 8, .inr (.inr (.inr (.inr f50))))), (a5, .inr (2, [.ref a6, .int 1, v52])), (a6, .inl (cT 2, 4096, .inr (.inl f53)))]) hP hD [0, 3, 4, 5, 6] [1, 2, 7, 8, 9, 10] 6 rfl rfl (by decide) (by decide) hk1 hFc hP1 hD1
  generalize H1 = H at hP hS ⊢
  rw [hr9]
  refine W.eq (g2 := F0 m 613 ls [.int 2]) rfl ?_
  refine lv_istore (lv' := [(5, .int 2), (4, .int 0), (3, .ref a2), (2, .ref a1), (1, .ref a0), (0, .ref b)]) hx hb dL_law_613 hl (by decide) rfl (fun ls hl => ?_)
  refine lv_aload_n hx hb dL_law_615 rfl (lv_at hl 3 rfl) ?_
  refine lv_aload_n hx hb dL_law_616 rfl (lv_at hl 5 rfl) ?_
  refine lv_iload hx hb dL_law_617 (lv_at hl 1 rfl) ?_
  refine lv_iconst (v := 1) hx hb dL_law_619 (by decide) ?_
  refine lv_iadd hx hb dL_law_620 ?_
  refine W.eq (g2 := F0 m 621 ls [.int 1, .ref b, .ref a1]) rfl ?_
  refine va_sld hx hb hXs hbl hbA hS (i := 1) (show ¬ ((1 : Int32) < 0 ∨ 6 ≤ (1 : Int32).toNatClampNeg) by decide) dL_law_621 ?_
  refine W.eq (g2 := F0 m 622 ls [.int (xs 1), .ref a1]) rfl ?_
  refine lv_aload_n hx hb dL_law_622 rfl (lv_at hl 5 rfl) ?_
  refine lv_iload hx hb dL_law_623 (lv_at hl 1 rfl) ?_
  refine lv_iconst (v := 2) hx hb dL_law_625 (by decide) ?_
  refine lv_iadd hx hb dL_law_626 ?_
  refine W.eq (g2 := F0 m 627 ls [.int 2, .ref b, .int (xs 1), .ref a1]) rfl ?_
  refine va_sld hx hb hXs hbl hbA hS (i := 2) (show ¬ ((2 : Int32) < 0 ∨ 6 ≤ (2 : Int32).toNatClampNeg) by decide) dL_law_627 ?_
  refine W.eq (g2 := F0 m 628 ls [.int (xs 2), .int (xs 1), .ref a1]) rfl ?_
  rw [hf]
  refine W.eq (g2 := F0 m 628 ls [.int 10, .int (xs 1), .ref a1]) rfl ?_
  refine lv_aload_n hx hb dL_law_628 rfl (lv_at hl 5 rfl) ?_
  refine lv_iload hx hb dL_law_629 (lv_at hl 1 rfl) ?_
  refine lv_iconst (v := 3) hx hb dL_law_631 (by decide) ?_
  refine lv_iadd hx hb dL_law_632 ?_
  refine W.eq (g2 := F0 m 633 ls [.int 3, .ref b, .int 10, .int (xs 1), .ref a1]) rfl ?_
  refine va_sld hx hb hXs hbl hbA hS (i := 3) (show ¬ ((3 : Int32) < 0 ∨ 6 ≤ (3 : Int32).toNatClampNeg) by decide) dL_law_633 ?_
  refine W.eq (g2 := F0 m 634 ls [.int (xs 3), .int 10, .int (xs 1), .ref a1]) rfl ?_
  obtain ⟨hPc, hDc, hFc⟩ := xcut (wc := [(a1, .inr (5, [v17, .ref a10, v18, v19, v20, v21, v22, v23, v24, v25, v26, v27, v28, v29, v30, v31, v32, v33, v34, v35, v36, v37, v38, v39, .ref a7, .ref a8, v40, v41, v42, v43, v44, v45])), (a7, .inl (cT 5, 8, .inr (.inr (.inr (.inr f55))))), (a8, .inl (cT 1, 8, .inl f57)), (a9, .inl (cT 0, 4096, .inl f59)), (a10, .inl (cT 4, 1024, .inr (.inr (.inr (.inr f64)))))]) hP hD hS hA [0, 2, 3, 4, 5] rfl rfl (by decide)
  refine va_callv (va_runV (C := "ValueBenchModel") (As := [.int (xs 1), .int 10, .int (xs 3)]) (rest := []) ⟨hx, hb, hml, hown, htx⟩ (cM_one0_21 l hl9 D cT aK aV H.size a1 a7 a8 a9 a10 (xs 1) (xs 3) v17 v18 v19 v20 v21 v22 v23 v24 v25 v26 v27 v28 v29 v30 v31 v32 v33 v34 v35 v36 v37 v38 v39 v40 v41 v42 v43 v44 v45 f55 f57 f59 f64 hto1 hto2 hto3 hto4 ha1 ha2 ha3 ha4 (by first | rfl | exact h51 | exact h54 | exact h56 | exact h58 | exact h60 | exact h61 | exact h62 | exact h63 | exact h65) (by first | rfl | exact h51 | exact h54 | exact h56 | exact h58 | exact h60 | exact h61 | exact h62 | exact h63 | exact h65) (by first | rfl | exact h51 | exact h54 | exact h56 | exact h58 | exact h60 | exact h61 | exact h62 | exact h63 | exact h65) (by first | rfl | exact h51 | exact h54 | exact h56 | exact h58 | exact h60 | exact h61 | exact h62 | exact h63 | exact h65) (by first | rfl | exact h51 | exact h54 | exact h56 | exact h58 | exact h60 | exact h61 | exact h62 | exact h63 | exact h65) (by first | rfl | exact h51 | exact h54 | exact h56 | exact h58 | exact h60 | exact h61 | exact h62 | exact h63 | exact h65) (by first | rfl | exact h51 | exact h54 | exact h56 | exact h58 | exact h60 | exact h61 | exact h62 | exact h63 | exact h65)) ⟨callB_of 3 htx (xw_goodC kw_7_123) rfl rfl rfl (htx _ kw_1_5) (htx _ kw_7_120) ⟨by decide, by decide, by decide +kernel⟩ ⟨Nat.le_of_ble_eq_true rfl, Nat.le_of_ble_eq_true rfl⟩, (htx _ kw_7_121), (htx _ kw_7_122)⟩ ⟨xPre_blind, va_recv hK hP (ci := 5) rfl (q0 := 0) rfl, (fun U hU hW => ⟨rfl, xPre_of hZ hS hFc hPc hDc hK U hU hW⟩)⟩ rfl rfl hl.1 rfl (lv_room (Nat.le_of_ble_eq_true rfl)) dL_law_634 ⟨Nat.le_of_ble_eq_true rfl, Nat.le_of_ble_eq_true rfl⟩) hS (fun q _ h => hFc q h) hFc (fun u9 t H1 locs ht hvm hr9 hB hz1 hk1 hS => ?_)
  obtain ⟨q2, hP1, hK1, hD1⟩ := hB
  rw [ht] at hP1
  obtain ⟨hP, hD⟩ := xjoin (W := [(a2, .inl (cT 2, 1, .inr (.inl f46))), (a0, .inr (0, [v11, v12, .ref b13, .ref a4, .ref b14, .ref a3, v15, .int 1])), (a3, .inr (2, [v47, .int 0, .int 0])), (a4, .inl (cT 3, 8, .inr (.inr (.inr (.inr f50))))), (a5, .inr (2, [.ref a6, .int 1, v52])), (a6, .inl (cT 2, 4096, .inr (.inl f53))), (a1, .inr (5, [.int 2, .ref a10, .int 1, v19, .int 0, v21, v22, .int 0, .int 1, .int 0, v26, v27, .int 0, v29, v30, .ref a9, .int 4, .int 4, .int 0, .int 100, v36, v37, .int 0, .int 1000000000, .ref a7, .ref a8, v40, v41, v42, v43, .int 1, v45])), (a7, .inl (cT 5, 8, .inr (.inr (.inr (.inr f55))))), (a8, .inl (cT 1, 8, .inl f57)), (a9, .inl (cT 0, 4096, .inl f59)), (a10, .inl (cT 4, 1024, .inr (.inr (.inr (.inr (va_up f64 0 (some q2))))))), (q2, .inr (6, [.int 0, .long 0, .int 0, .int 0, .int 0, .int 1]))]) hP hD [0, 2, 3, 4, 5] [1, 6, 7, 8, 9, 10] 6 rfl rfl (by decide) (by decide) hk1 hFc hP1 hD1
  generalize H1 = H at hP hS ⊢
  refine lv_aload_n hx hb dL_law_637 rfl (lv_at hl 3 rfl) ?_
  obtain ⟨hPc, hDc, hFc⟩ := xcut (wc := [(a1, .inr (5, [.int 2, .ref a10, .int 1, v19, .int 0, v21, v22, .int 0, .int 1, .int 0, v26, v27, .int 0, v29, v30, .ref a9, .int 4, .int 4, .int 0, .int 100, v36, v37, .int 0, .int 1000000000, .ref a7, .ref a8, v40, v41, v42, v43, .int 1, v45]))]) hP hD hS hA [6] rfl rfl (by decide)
  refine va_calli (va_runV (C := "ValueBenchModel") (As := []) (rest := []) ⟨hx, hb, hml, hown, htx⟩ (cM_thrown_2 l hl9 D cT aK aV H.size a1 (.ref a10) (.int 1) v19 (.int 0) v21 v22 (.int 0) (.int 1) (.int 0) v26 v27 (.int 0) v29 v30 (.ref a9) (.int 4) (.int 4) (.int 0) (.int 100) v36 v37 (.int 0) (.int 1000000000) (.ref a7) (.ref a8) v40 v41 v42 v43 (.int 1) v45) ⟨callB_of 0 htx (xw_goodC kw_5_187) rfl rfl rfl (htx _ kw_1_5) (htx _ kw_5_184) ⟨by decide, by decide, by decide +kernel⟩ ⟨Nat.le_of_ble_eq_true rfl, Nat.le_of_ble_eq_true rfl⟩, (htx _ kw_5_185), (htx _ kw_5_186)⟩ ⟨xPre_blind, va_recv hK hP (ci := 5) rfl (q0 := 6) rfl, (fun U hU hW => ⟨rfl, xPre_of hZ hS hFc hPc hDc hK U hU hW⟩)⟩ rfl rfl hl.1 rfl (lv_room (Nat.le_of_ble_eq_true rfl)) dL_law_638 ⟨Nat.le_of_ble_eq_true rfl, Nat.le_of_ble_eq_true rfl⟩) hS (fun q _ h => hFc q h) hFc (fun r3 u9 t H1 locs ht hvm hr9 hB hz1 hk1 hS => ?_)
  obtain ⟨hP1, hK1, hD1⟩ := hB
  rw [ht] at hP1
  obtain ⟨hP, hD⟩ := xjoin (W := [(a2, .inl (cT 2, 1, .inr (.inl f46))), (a0, .inr (0, [v11, v12, .ref b13, .ref a4, .ref b14, .ref a3, v15, .int 1])), (a3, .inr (2, [v47, .int 0, .int 0])), (a4, .inl (cT 3, 8, .inr (.inr (.inr (.inr f50))))), (a5, .inr (2, [.ref a6, .int 1, v52])), (a6, .inl (cT 2, 4096, .inr (.inl f53))), (a7, .inl (cT 5, 8, .inr (.inr (.inr (.inr f55))))), (a8, .inl (cT 1, 8, .inl f57)), (a9, .inl (cT 0, 4096, .inl f59)), (a10, .inl (cT 4, 1024, .inr (.inr (.inr (.inr (va_up f64 0 (some q2))))))), (q2, .inr (6, [.int 0, .long 0, .int 0, .int 0, .int 0, .int 1])), (a1, .inr (5, [.int 2, .ref a10, .int 1, v19, .int 0, v21, v22, .int 0, .int 1, .int 0, v26, v27, .int 0, v29, v30, .ref a9, .int 4, .int 4, .int 0, .int 100, v36, v37, .int 0, .int 1000000000, .ref a7, .ref a8, v40, v41, v42, v43, .int 1, v45]))]) hP hD [6] [0, 1, 2, 3, 4, 5, 7, 8, 9, 10, 11] 11 rfl rfl (by decide) (by decide) hk1 hFc hP1 hD1
  generalize H1 = H at hP hS ⊢
  rw [hr9]
  refine W.eq (g2 := F0 m 641 ls [.int 2]) rfl ?_
  refine lv_iload hx hb dL_law_641 (lv_at hl 0 rfl) ?_
  refine lv_icmp_eq (tgt := 648) hx hb dL_law_643 (by decide) (fun _ => ?_) (fun h => ((by revert h; decide : False)).elim)
  refine lv_goto (tgt := 906) hx hb dL_law_648 (by decide) ?_
  refine lv_iinc (v := 6) (lv' := [(4, .int 6), (5, .int 2), (3, .ref a2), (2, .ref a1), (1, .ref a0), (0, .ref b)]) hx hb dL_law_906 hl (k := 1) rfl (by decide) (by decide) rfl (fun ls hl => ?_)
  refine lv_goto (tgt := 23) hx hb dL_law_909 (by decide) ?_
  refine lv_iload hx hb dL_law_23 (lv_at hl 0 rfl) ?_
  refine lv_aload_n hx hb dL_law_25 rfl (lv_at hl 5 rfl) ?_
  refine va_slen hx hb hXs hbl hbA hS dL_law_26 ?_
  refine W.eq (g2 := F0 m 27 ls [.int 6, .int 6]) rfl ?_
  refine lv_bipush (v := 6) hx hb dL_law_27 (by decide) ?_
  refine lv_isub hx hb dL_law_29 ?_
  refine W.eq (g2 := F0 m 30 ls [.int 0, .int 6]) rfl ?_
  refine lv_icmp_gt (tgt := 912) hx hb dL_law_30 (by decide) (fun _ => ?_) (fun h => ((by revert h; decide : False)).elim)
  refine lv_iconst (v := 1) hx hb dL_law_912 (by decide) ?_
  exact va_forget (fun q h => hA2 _ (hS.2.2 q h)) (W.widen (k := 600002) (n := 7302232) (Nat.le_of_ble_eq_true rfl) (Nat.le_of_ble_eq_true rfl) (lw_ret hx hb hr hlocks dL_law_913))
