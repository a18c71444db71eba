set_option maxHeartbeats 400000000 in
set_option maxRecDepth 100000 in
theorem lf_binary2_p4 {p : Program} {e : Env} {s : State} {m : MethodId} {below : List Frame} {meth : Method} {c : Code} (l : Launch) (hl9 : l.stackTraces = false) (D : va_G) (cT : Nat → ClassId) (aK aV : Nat → Nat) {A : Nat → Prop} {b : Nat} {xs : Nat → Int32} (C : xLw p s m meth c b D cT aK aV A) {H : Heap} {locs : List Loc} {ls : Array Slot} (a0 : Nat) (a1 : Nat) (a2 : Nat) (a3 : Nat) (a4 : Nat) (a5 : Nat) (a6 : Nat) (a7 : Nat) (a8 : Nat) (a9 : Nat) (a10 : Nat) (v11 : Value) (v12 : Value) (v13 : Value) (v14 : Value) (v15 : Value) (v16 : Value) (v17 : Value) (v18 : Value) (v19 : Value) (v20 : Value) (v21 : Value) (v22 : Value) (v23 : Value) (v24 : Value) (v25 : Value) (v26 : Value) (v27 : Value) (v28 : Value) (v29 : Value) (v30 : Value) (v31 : Value) (v32 : Value) (v33 : Value) (v34 : Value) (v35 : Value) (v36 : Value) (v37 : Value) (v38 : Value) (v39 : Value) (v40 : Value) (v41 : Value) (v42 : Value) (v43 : Value) (v44 : Value) (v45 : Value) (f46 : Nat → Int64) (v47 : Value) (v48 : Value) (v49 : Value) (f50 : Nat → Option Nat) (v53 : Value) (f54 : Nat → Int64) (f56 : Nat → Option Nat) (f59 : Nat → Int32) (f62 : Nat → Int32) (f67 : Nat → Option Nat) (h51 : f50 (xs 3).toNatClampNeg = some a5) (h52 : f50 (xs 4).toNatClampNeg = some a5) (h55 : f54 0 = 0) (h57 : f56 (xs 3).toNatClampNeg = some a9) (h58 : f56 (xs 4).toNatClampNeg = some a9) (h60 : f59 (xs 3).toNatClampNeg = 4) (h61 : f59 (xs 4).toNatClampNeg = 4) (h63 : f62 0 = 110) (h64 : f62 1 = 117) (h65 : f62 2 = 108) (h66 : f62 3 = 108) (h68 : f67 0 = none) (h69 : f67 1 = none) (hto1 : ¬ (xs 1) < 0) (hto2 : ¬ 7 < (xs 1)) (hto3 : (xs 1) ≤ 7) (hto4 : vp_in (xs 1) 8) (hf : xs 2 = 2) (ha1 : ¬ (xs 3) < 0) (ha2 : ¬ 7 < (xs 3)) (ha3 : (xs 3) ≤ 7) (ha4 : vp_in (xs 3) 8) (hb1 : ¬ (xs 4) < 0) (hb2 : ¬ 7 < (xs 4)) (hb3 : (xs 4) ≤ 7) (hb4 : vp_in (xs 4) 8) (hXs : va_X b 6 xs s s.heap) (hP : va_P D xcl [(a0, .inr (0, [v11, v12, v13, .ref a4, v14, .ref a3, v15, v16])), (a1, .inr (5, [v17, .ref a10, v18, v19, v20, v21, v22, v23, v24, v25, v26, v27, v28, v29, v30, v31, v32, v33, v34, v35, v36, v37, v38, v39, .ref a7, .ref a8, v40, v41, v42, v43, v44, v45])), (a2, .inl (cT 2, 1, .inr (.inl f46))), (a3, .inr (2, [v47, v48, v49])), (a4, .inl (cT 3, 8, .inr (.inr (.inr (.inr f50))))), (a5, .inr (2, [.ref a6, .int 1, v53])), (a6, .inl (cT 2, 4096, .inr (.inl f54))), (a7, .inl (cT 5, 8, .inr (.inr (.inr (.inr f56))))), (a8, .inl (cT 1, 8, .inl f59)), (a9, .inl (cT 0, 4096, .inl f62)), (a10, .inl (cT 4, 1024, .inr (.inr (.inr (.inr f67)))))] H) (hD : va_D A [(a0, .inr (0, [v11, v12, v13, .ref a4, v14, .ref a3, v15, v16])), (a1, .inr (5, [v17, .ref a10, v18, v19, v20, v21, v22, v23, v24, v25, v26, v27, v28, v29, v30, v31, v32, v33, v34, v35, v36, v37, v38, v39, .ref a7, .ref a8, v40, v41, v42, v43, v44, v45])), (a2, .inl (cT 2, 1, .inr (.inl f46))), (a3, .inr (2, [v47, v48, v49])), (a4, .inl (cT 3, 8, .inr (.inr (.inr (.inr f50))))), (a5, .inr (2, [.ref a6, .int 1, v53])), (a6, .inl (cT 2, 4096, .inr (.inl f54))), (a7, .inl (cT 5, 8, .inr (.inr (.inr (.inr f56))))), (a8, .inl (cT 1, 8, .inl f59)), (a9, .inl (cT 0, 4096, .inl f62)), (a10, .inl (cT 4, 1024, .inr (.inr (.inr (.inr f67)))))]) (hS : va_S A s.heap H locs) (hl : lv_has ls 8 [(4, .int 0), (3, .ref a2), (2, .ref a1), (1, .ref a0), (0, .ref b)]) : W p l e room_1 s m #[Value.ref b] below meth c H locs 54 107242 (lw_Z below #[Value.ref b] s) (F0 m 376 ls []) := by
  obtain ⟨hx, hb, hr, hml, hown, htx, hbl, hbA, hlocks, hK, hZ, hA, hA2⟩ := C
  refine lv_aload_n hx hb dL_law_376 rfl (lv_at hl 3 rfl) ?_
  refine lv_aload_n hx hb dL_law_377 rfl (lv_at hl 4 rfl) ?_
  refine lv_iload hx hb dL_law_378 (lv_at hl 0 rfl) ?_
  refine lv_iconst (v := 1) hx hb dL_law_380 (by decide) ?_
  refine lv_iadd hx hb dL_law_381 ?_
  refine W.eq (g2 := F0 m 382 ls [.int 1, .ref b, .ref a0]) rfl ?_
  refine va_sld hx hb hXs hbl hbA hS (i := 1) (show ¬ ((1 : Int32) < 0 ∨ 6 ≤ (1 : Int32).toNatClampNeg) by decide) dL_law_382 ?_
  refine W.eq (g2 := F0 m 383 ls [.int (xs 1), .ref a0]) rfl ?_
  refine lv_aload_n hx hb dL_law_383 rfl (lv_at hl 4 rfl) ?_
  refine lv_iload hx hb dL_law_384 (lv_at hl 0 rfl) ?_
  refine lv_iconst (v := 2) hx hb dL_law_386 (by decide) ?_
  refine lv_iadd hx hb dL_law_387 ?_
  refine W.eq (g2 := F0 m 388 ls [.int 2, .ref b, .int (xs 1), .ref a0]) rfl ?_
  refine va_sld hx hb hXs hbl hbA hS (i := 2) (show ¬ ((2 : Int32) < 0 ∨ 6 ≤ (2 : Int32).toNatClampNeg) by decide) dL_law_388 ?_
  refine W.eq (g2 := F0 m 389 ls [.int (xs 2), .int (xs 1), .ref a0]) rfl ?_
  rw [hf]
  refine W.eq (g2 := F0 m 389 ls [.int 2, .int (xs 1), .ref a0]) rfl ?_
  refine lv_aload_n hx hb dL_law_389 rfl (lv_at hl 4 rfl) ?_
  refine lv_iload hx hb dL_law_390 (lv_at hl 0 rfl) ?_
  refine lv_iconst (v := 3) hx hb dL_law_392 (by decide) ?_
  refine lv_iadd hx hb dL_law_393 ?_
  refine W.eq (g2 := F0 m 394 ls [.int 3, .ref b, .int 2, .int (xs 1), .ref a0]) rfl ?_
  refine va_sld hx hb hXs hbl hbA hS (i := 3) (show ¬ ((3 : Int32) < 0 ∨ 6 ≤ (3 : Int32).toNatClampNeg) by decide) dL_law_394 ?_
  refine W.eq (g2 := F0 m 395 ls [.int (xs 3), .int 2, .int (xs 1), .ref a0]) rfl ?_
  refine lv_aload_n hx hb dL_law_395 rfl (lv_at hl 4 rfl) ?_
  refine lv_iload hx hb dL_law_396 (lv_at hl 0 rfl) ?_
  refine lv_iconst (v := 4) hx hb dL_law_398 (by decide) ?_
  refine lv_iadd hx hb dL_law_399 ?_
  refine W.eq (g2 := F0 m 400 ls [.int 4, .ref b, .int (xs 3), .int 2, .int (xs 1), .ref a0]) rfl ?_
  refine va_sld hx hb hXs hbl hbA hS (i := 4) (show ¬ ((4 : Int32) < 0 ∨ 6 ≤ (4 : Int32).toNatClampNeg) by decide) dL_law_400 ?_
  refine W.eq (g2 := F0 m 401 ls [.int (xs 4), .int (xs 3), .int 2, .int (xs 1), .ref a0]) rfl ?_
  obtain ⟨hPc, hDc, hFc⟩ := xcut (wc := [(a0, .inr (0, [v11, v12, v13, .ref a4, v14, .ref a3, v15, v16])), (a3, .inr (2, [v47, v48, v49])), (a4, .inl (cT 3, 8, .inr (.inr (.inr (.inr f50))))), (a5, .inr (2, [.ref a6, .int 1, v53])), (a6, .inl (cT 2, 4096, .inr (.inl f54)))]) hP hD hS hA [0, 3, 4, 5, 6] rfl rfl (by decide)
  refine va_calli (vx_runSW (As := [.ref a0, .int (xs 1), .int 2, .int (xs 3), .int (xs 4)]) (rest := []) ⟨hx, hb, hml, hown, htx⟩ (cL_binary_12 l hl9 D cT aK aV H.size a0 a3 a4 a5 a6 (xs 1) (xs 3) (xs 4) v11 v12 v13 v14 v15 v16 v47 v48 v49 f50 v53 f54 hto1 hto2 hto3 hto4 ha1 ha2 ha3 ha4 hb1 hb2 hb3 hb4 (by first | rfl | exact h51 | exact h52 | exact h55 | exact h57 | exact h58 | exact h60 | exact h61 | exact h63 | exact h64 | exact h65 | exact h66 | exact h68 | exact h69) (by first | rfl | exact h51 | exact h52 | exact h55 | exact h57 | exact h58 | exact h60 | exact h61 | exact h63 | exact h64 | exact h65 | exact h66 | exact h68 | exact h69) (by first | rfl | exact h51 | exact h52 | exact h55 | exact h57 | exact h58 | exact h60 | exact h61 | exact h63 | exact h64 | exact h65 | exact h66 | exact h68 | exact h69)) (xcSW 5 htx (xw_goodC kw_3_97) rfl rfl rfl (htx _ kw_1_0) (htx _ kw_3_95) ⟨by decide, by decide, by decide +kernel⟩ ⟨Nat.le_of_ble_eq_true rfl, Nat.le_of_ble_eq_true rfl⟩ (htx _ kw_3_96)) ⟨xPre_blind, (fun U hU hW => ⟨rfl, xPre_of hZ hS hFc hPc hDc hK U hU hW⟩)⟩ rfl rfl hl.1 rfl (lv_room (Nat.le_of_ble_eq_true rfl)) dL_law_401 ⟨Nat.le_of_ble_eq_true rfl, Nat.le_of_ble_eq_true rfl⟩) hS (fun q _ h => hFc q h) hFc (fun r1 u9 t H1 locs ht hvm hr9 hB hz1 hk1 hS => ?_)
  obtain ⟨hP1, hK1, hD1⟩ := hB
  rw [ht] at hP1
  obtain ⟨hP, hD⟩ := xjoin (W := [(a1, .inr (5, [v17, .ref a10, v18, v19, v20, v21, v22, v23, v24, v25, v26, v27, v28, v29, v30, v31, v32, v33, v34, v35, v36, v37, v38, v39, .ref a7, .ref a8, v40, v41, v42, v43, v44, v45])), (a2, .inl (cT 2, 1, .inr (.inl f46))), (a7, .inl (cT 5, 8, .inr (.inr (.inr (.inr f56))))), (a8, .inl (cT 1, 8, .inl f59)), (a9, .inl (cT 0, 4096, .inl f62)), (a10, .inl (cT 4, 1024, .inr (.inr (.inr (.inr f67))))), (a0, .inr (0, [v11, v12, v13, .ref a4, v14, .ref a3, v15, .int 1])), (a3, .inr (2, [v47, .int 0, .int 0])), (a4, .inl (cT 3, 8, .inr (.inr (.inr (.inr f50))))), (a5, .inr (2, [.ref a6, .int 1, v53])), (a6, .inl (cT 2, 4096, .inr (.inl f54)))]) hP hD [0, 3, 4, 5, 6] [1, 2, 7, 8, 9, 10] 6 rfl rfl (by decide) (by decide) hk1 hFc hP1 hD1
  generalize H1 = H at hP hS ⊢
  rw [hr9]
  refine W.eq (g2 := F0 m 404 ls [.int 2]) rfl ?_
  refine lv_istore (lv' := [(5, .int 2), (4, .int 0), (3, .ref a2), (2, .ref a1), (1, .ref a0), (0, .ref b)]) hx hb dL_law_404 hl (by decide) rfl (fun ls hl => ?_)
  refine lv_aload_n hx hb dL_law_406 rfl (lv_at hl 3 rfl) ?_
  refine lv_aload_n hx hb dL_law_407 rfl (lv_at hl 5 rfl) ?_
  refine lv_iload hx hb dL_law_408 (lv_at hl 1 rfl) ?_
  refine lv_iconst (v := 1) hx hb dL_law_410 (by decide) ?_
  refine lv_iadd hx hb dL_law_411 ?_
  refine W.eq (g2 := F0 m 412 ls [.int 1, .ref b, .ref a1]) rfl ?_
  refine va_sld hx hb hXs hbl hbA hS (i := 1) (show ¬ ((1 : Int32) < 0 ∨ 6 ≤ (1 : Int32).toNatClampNeg) by decide) dL_law_412 ?_
  refine W.eq (g2 := F0 m 413 ls [.int (xs 1), .ref a1]) rfl ?_
  refine lv_aload_n hx hb dL_law_413 rfl (lv_at hl 5 rfl) ?_
  refine lv_iload hx hb dL_law_414 (lv_at hl 1 rfl) ?_
  refine lv_iconst (v := 2) hx hb dL_law_416 (by decide) ?_
  refine lv_iadd hx hb dL_law_417 ?_
  refine W.eq (g2 := F0 m 418 ls [.int 2, .ref b, .int (xs 1), .ref a1]) rfl ?_
  refine va_sld hx hb hXs hbl hbA hS (i := 2) (show ¬ ((2 : Int32) < 0 ∨ 6 ≤ (2 : Int32).toNatClampNeg) by decide) dL_law_418 ?_
  refine W.eq (g2 := F0 m 419 ls [.int (xs 2), .int (xs 1), .ref a1]) rfl ?_
  rw [hf]
  refine W.eq (g2 := F0 m 419 ls [.int 2, .int (xs 1), .ref a1]) rfl ?_
  refine lv_aload_n hx hb dL_law_419 rfl (lv_at hl 5 rfl) ?_
  refine lv_iload hx hb dL_law_420 (lv_at hl 1 rfl) ?_
  refine lv_iconst (v := 3) hx hb dL_law_422 (by decide) ?_
  refine lv_iadd hx hb dL_law_423 ?_
  refine W.eq (g2 := F0 m 424 ls [.int 3, .ref b, .int 2, .int (xs 1), .ref a1]) rfl ?_
  refine va_sld hx hb hXs hbl hbA hS (i := 3) (show ¬ ((3 : Int32) < 0 ∨ 6 ≤ (3 : Int32).toNatClampNeg) by decide) dL_law_424 ?_
  refine W.eq (g2 := F0 m 425 ls [.int (xs 3), .int 2, .int (xs 1), .ref a1]) rfl ?_
  refine lv_aload_n hx hb dL_law_425 rfl (lv_at hl 5 rfl) ?_
  refine lv_iload hx hb dL_law_426 (lv_at hl 1 rfl) ?_
  refine lv_iconst (v := 4) hx hb dL_law_428 (by decide) ?_
  refine lv_iadd hx hb dL_law_429 ?_
  refine W.eq (g2 := F0 m 430 ls [.int 4, .ref b, .int (xs 3), .int 2, .int (xs 1), .ref a1]) rfl ?_
  refine va_sld hx hb hXs hbl hbA hS (i := 4) (show ¬ ((4 : Int32) < 0 ∨ 6 ≤ (4 : Int32).toNatClampNeg) by decide) dL_law_430 ?_
  refine W.eq (g2 := F0 m 431 ls [.int (xs 4), .int (xs 3), .int 2, .int (xs 1), .ref a1]) rfl ?_
  obtain ⟨hPc, hDc, hFc⟩ := xcut (wc := [(a1, .inr (5, [v17, .ref a10, v18, v19, v20, v21, v22, v23, v24, v25, v26, v27, v28, v29, v30, v31, v32, v33, v34, v35, v36, v37, v38, v39, .ref a7, .ref a8, v40, v41, v42, v43, v44, v45])), (a7, .inl (cT 5, 8, .inr (.inr (.inr (.inr f56))))), (a8, .inl (cT 1, 8, .inl f59)), (a9, .inl (cT 0, 4096, .inl f62)), (a10, .inl (cT 4, 1024, .inr (.inr (.inr (.inr f67)))))]) hP hD hS hA [0, 2, 3, 4, 5] rfl rfl (by decide)
  refine va_callv (va_runV (C := "ValueBenchModel") (As := [.int (xs 1), .int 2, .int (xs 3), .int (xs 4)]) (rest := []) ⟨hx, hb, hml, hown, htx⟩ (cM_binary0_15 l hl9 D cT aK aV H.size a1 a7 a8 a9 a10 (xs 1) (xs 3) (xs 4) v17 v18 v19 v20 v21 v22 v23 v24 v25 v26 v27 v28 v29 v30 v31 v32 v33 v34 v35 v36 v37 v38 v39 v40 v41 v42 v43 v44 v45 f56 f59 f62 f67 hto1 hto2 hto3 hto4 ha1 ha2 ha3 ha4 hb1 hb2 hb3 hb4 (by first | rfl | exact h51 | exact h52 | exact h55 | exact h57 | exact h58 | exact h60 | exact h61 | exact h63 | exact h64 | exact h65 | exact h66 | exact h68 | exact h69) (by first | rfl | exact h51 | exact h52 | exact h55 | exact h57 | exact h58 | exact h60 | exact h61 | exact h63 | exact h64 | exact h65 | exact h66 | exact h68 | exact h69) (by first | rfl | exact h51 | exact h52 | exact h55 | exact h57 | exact h58 | exact h60 | exact h61 | exact h63 | exact h64 | exact h65 | exact h66 | exact h68 | exact h69) (by first | rfl | exact h51 | exact h52 | exact h55 | exact h57 | exact h58 | exact h60 | exact h61 | exact h63 | exact h64 | exact h65 | exact h66 | exact h68 | exact h69) (by first | rfl | exact h51 | exact h52 | exact h55 | exact h57 | exact h58 | exact h60 | exact h61 | exact h63 | exact h64 | exact h65 | exact h66 | exact h68 | exact h69) (by first | rfl | exact h51 | exact h52 | exact h55 | exact h57 | exact h58 | exact h60 | exact h61 | exact h63 | exact h64 | exact h65 | exact h66 | exact h68 | exact h69) (by first | rfl | exact h51 | exact h52 | exact h55 | exact h57 | exact h58 | exact h60 | exact h61 | exact h63 | exact h64 | exact h65 | exact h66 | exact h68 | exact h69) (by first | rfl | exact h51 | exact h52 | exact h55 | exact h57 | exact h58 | exact h60 | exact h61 | exact h63 | exact h64 | exact h65 | exact h66 | exact h68 | exact h69) (by first | rfl | exact h51 | exact h52 | exact h55 | exact h57 | exact h58 | exact h60 | exact h61 | exact h63 | exact h64 | exact h65 | exact h66 | exact h68 | exact h69) (by first | rfl | exact h51 | exact h52 | exact h55 | exact h57 | exact h58 | exact h60 | exact h61 | exact h63 | exact h64 | exact h65 | exact h66 | exact h68 | exact h69)) ⟨callB_of 4 htx (xw_goodC kw_6_191) rfl rfl rfl (htx _ kw_1_5) (htx _ kw_6_188) ⟨by decide, by decide, by decide +kernel⟩ ⟨Nat.le_of_ble_eq_true rfl, Nat.le_of_ble_eq_true rfl⟩, (htx _ kw_6_189), (htx _ kw_6_190)⟩ ⟨xPre_blind, va_recv hK hP (ci := 5) rfl (q0 := 0) rfl, (fun U hU hW => ⟨rfl, xPre_of hZ hS hFc hPc hDc hK U hU hW⟩)⟩ rfl rfl hl.1 rfl (lv_room (Nat.le_of_ble_eq_true rfl)) dL_law_431 ⟨Nat.le_of_ble_eq_true rfl, Nat.le_of_ble_eq_true rfl⟩) hS (fun q _ h => hFc q h) hFc (fun u9 t H1 locs ht hvm hr9 hB hz1 hk1 hS => ?_)
  obtain ⟨q2, q3, hP1, hK1, hD1⟩ := hB
  rw [ht] at hP1
  obtain ⟨hP, hD⟩ := xjoin (W := [(a2, .inl (cT 2, 1, .inr (.inl f46))), (a0, .inr (0, [v11, v12, v13, .ref a4, v14, .ref a3, v15, .int 1])), (a3, .inr (2, [v47, .int 0, .int 0])), (a4, .inl (cT 3, 8, .inr (.inr (.inr (.inr f50))))), (a5, .inr (2, [.ref a6, .int 1, v53])), (a6, .inl (cT 2, 4096, .inr (.inl f54))), (a1, .inr (5, [.int 2, .ref a10, .int 2, v19, .int 0, v21, v22, .int 0, .int 1, .int 0, v26, v27, .int 0, v29, v30, .ref a9, .int 4, .int 4, .int 0, .int 100, v36, v37, .int 0, .int 1000000000, .ref a7, .ref a8, v40, v41, v42, v43, .int 1, v45])), (a7, .inl (cT 5, 8, .inr (.inr (.inr (.inr f56))))), (a8, .inl (cT 1, 8, .inl f59)), (a9, .inl (cT 0, 4096, .inl f62)), (a10, .inl (cT 4, 1024, .inr (.inr (.inr (.inr (va_up (va_up f67 0 (some q2)) 1 (some q3))))))), (q2, .inr (6, [.int 0, .long 0, .int 0, .int 0, .int 0, .int 1])), (q3, .inr (6, [.int 0, .long 0, .int 0, .int 0, .int 0, .int 1]))]) hP hD [0, 2, 3, 4, 5] [1, 6, 7, 8, 9, 10] 6 rfl rfl (by decide) (by decide) hk1 hFc hP1 hD1
  generalize H1 = H at hP hS ⊢
  refine lv_aload_n hx hb dL_law_434 rfl (lv_at hl 3 rfl) ?_
  obtain ⟨hPc, hDc, hFc⟩ := xcut (wc := [(a1, .inr (5, [.int 2, .ref a10, .int 2, v19, .int 0, v21, v22, .int 0, .int 1, .int 0, v26, v27, .int 0, v29, v30, .ref a9, .int 4, .int 4, .int 0, .int 100, v36, v37, .int 0, .int 1000000000, .ref a7, .ref a8, v40, v41, v42, v43, .int 1, v45]))]) hP hD hS hA [6] rfl rfl (by decide)
  refine va_calli (va_runV (C := "ValueBenchModel") (As := []) (rest := []) ⟨hx, hb, hml, hown, htx⟩ (cM_thrown_2 l hl9 D cT aK aV H.size a1 (.ref a10) (.int 2) v19 (.int 0) v21 v22 (.int 0) (.int 1) (.int 0) v26 v27 (.int 0) v29 v30 (.ref a9) (.int 4) (.int 4) (.int 0) (.int 100) v36 v37 (.int 0) (.int 1000000000) (.ref a7) (.ref a8) v40 v41 v42 v43 (.int 1) v45) ⟨callB_of 0 htx (xw_goodC kw_5_187) rfl rfl rfl (htx _ kw_1_5) (htx _ kw_5_184) ⟨by decide, by decide, by decide +kernel⟩ ⟨Nat.le_of_ble_eq_true rfl, Nat.le_of_ble_eq_true rfl⟩, (htx _ kw_5_185), (htx _ kw_5_186)⟩ ⟨xPre_blind, va_recv hK hP (ci := 5) rfl (q0 := 6) rfl, (fun U hU hW => ⟨rfl, xPre_of hZ hS hFc hPc hDc hK U hU hW⟩)⟩ rfl rfl hl.1 rfl (lv_room (Nat.le_of_ble_eq_true rfl)) dL_law_435 ⟨Nat.le_of_ble_eq_true rfl, Nat.le_of_ble_eq_true rfl⟩) hS (fun q _ h => hFc q h) hFc (fun r4 u9 t H1 locs ht hvm hr9 hB hz1 hk1 hS => ?_)
  obtain ⟨hP1, hK1, hD1⟩ := hB
  rw [ht] at hP1
  obtain ⟨hP, hD⟩ := xjoin (W := [(a2, .inl (cT 2, 1, .inr (.inl f46))), (a0, .inr (0, [v11, v12, v13, .ref a4, v14, .ref a3, v15, .int 1])), (a3, .inr (2, [v47, .int 0, .int 0])), (a4, .inl (cT 3, 8, .inr (.inr (.inr (.inr f50))))), (a5, .inr (2, [.ref a6, .int 1, v53])), (a6, .inl (cT 2, 4096, .inr (.inl f54))), (a7, .inl (cT 5, 8, .inr (.inr (.inr (.inr f56))))), (a8, .inl (cT 1, 8, .inl f59)), (a9, .inl (cT 0, 4096, .inl f62)), (a10, .inl (cT 4, 1024, .inr (.inr (.inr (.inr (va_up (va_up f67 0 (some q2)) 1 (some q3))))))), (q2, .inr (6, [.int 0, .long 0, .int 0, .int 0, .int 0, .int 1])), (q3, .inr (6, [.int 0, .long 0, .int 0, .int 0, .int 0, .int 1])), (a1, .inr (5, [.int 2, .ref a10, .int 2, v19, .int 0, v21, v22, .int 0, .int 1, .int 0, v26, v27, .int 0, v29, v30, .ref a9, .int 4, .int 4, .int 0, .int 100, v36, v37, .int 0, .int 1000000000, .ref a7, .ref a8, v40, v41, v42, v43, .int 1, v45]))]) hP hD [6] [0, 1, 2, 3, 4, 5, 7, 8, 9, 10, 11, 12] 12 rfl rfl (by decide) (by decide) hk1 hFc hP1 hD1
  generalize H1 = H at hP hS ⊢
  rw [hr9]
  refine W.eq (g2 := F0 m 438 ls [.int 2]) rfl ?_
  refine lv_iload hx hb dL_law_438 (lv_at hl 0 rfl) ?_
  refine lv_icmp_eq (tgt := 445) hx hb dL_law_440 (by decide) (fun _ => ?_) (fun h => ((by revert h; decide : False)).elim)
  refine lv_goto (tgt := 906) hx hb dL_law_445 (by decide) ?_
  refine lv_iinc (v := 6) (lv' := [(4, .int 6), (5, .int 2), (3, .ref a2), (2, .ref a1), (1, .ref a0), (0, .ref b)]) hx hb dL_law_906 hl (k := 1) rfl (by decide) (by decide) rfl (fun ls hl => ?_)
  refine lv_goto (tgt := 23) hx hb dL_law_909 (by decide) ?_
  refine lv_iload hx hb dL_law_23 (lv_at hl 0 rfl) ?_
  refine lv_aload_n hx hb dL_law_25 rfl (lv_at hl 5 rfl) ?_
  refine va_slen hx hb hXs hbl hbA hS dL_law_26 ?_
  refine W.eq (g2 := F0 m 27 ls [.int 6, .int 6]) rfl ?_
  refine lv_bipush (v := 6) hx hb dL_law_27 (by decide) ?_
  refine lv_isub hx hb dL_law_29 ?_
  refine W.eq (g2 := F0 m 30 ls [.int 0, .int 6]) rfl ?_
  refine lv_icmp_gt (tgt := 912) hx hb dL_law_30 (by decide) (fun _ => ?_) (fun h => ((by revert h; decide : False)).elim)
  refine lv_iconst (v := 1) hx hb dL_law_912 (by decide) ?_
  exact va_forget (fun q h => hA2 _ (hS.2.2 q h)) (W.widen (k := 600002) (n := 7302232) (Nat.le_of_ble_eq_true rfl) (Nat.le_of_ble_eq_true rfl) (lw_ret hx hb hr hlocks dL_law_913))
set_option maxHeartbeats 400000000 in
set_option maxRecDepth 100000 in
theorem lf_binary2_p1 {p : Program} {e : Env} {s : State} {m : MethodId} {below : List Frame} {meth : Method} {c : Code} (l : Launch) (hl9 : l.stackTraces = false) (D : va_G) (cT : Nat → ClassId) (aK aV : Nat → Nat) {A : Nat → Prop} {b : Nat} {xs : Nat → Int32} (C : xLw p s m meth c b D cT aK aV A) {H : Heap} {locs : List Loc} {ls : Array Slot} (a0 : Nat) (a1 : Nat) (a2 : Nat) (a3 : Nat) (a4 : Nat) (a5 : Nat) (a6 : Nat) (a7 : Nat) (a8 : Nat) (a9 : Nat) (a10 : Nat) (v11 : Value) (v12 : Value) (v13 : Value) (v14 : Value) (v15 : Value) (v16 : Value) (v17 : Value) (v18 : Value) (v19 : Value) (v20 : Value) (v21 : Value) (v22 : Value) (v23 : Value) (v24 : Value) (v25 : Value) (v26 : Value) (v27 : Value) (v28 : Value) (v29 : Value) (v30 : Value) (v31 : Value) (v32 : Value) (v33 : Value) (v34 : Value) (v35 : Value) (v36 : Value) (v37 : Value) (v38 : Value) (v39 : Value) (v40 : Value) (v41 : Value) (v42 : Value) (v43 : Value) (v44 : Value) (v45 : Value) (f46 : Nat → Int64) (v47 : Value) (v48 : Value) (v49 : Value) (f50 : Nat → Option Nat) (v53 : Value) (f54 : Nat → Int64) (f56 : Nat → Option Nat) (f59 : Nat → Int32) (f62 : Nat → Int32) (f67 : Nat → Option Nat) (h51 : f50 (xs 3).toNatClampNeg = some a5) (h52 : f50 (xs 4).toNatClampNeg = some a5) (h55 : f54 0 = 0) (h57 : f56 (xs 3).toNatClampNeg = some a9) (h58 : f56 (xs 4).toNatClampNeg = some a9) (h60 : f59 (xs 3).toNatClampNeg = 4) (h61 : f59 (xs 4).toNatClampNeg = 4) (h63 : f62 0 = 110) (h64 : f62 1 = 117) (h65 : f62 2 = 108) (h66 : f62 3 = 108) (h68 : f67 0 = none) (h69 : f67 1 = none) (hto1 : ¬ (xs 1) < 0) (hto2 : ¬ 7 < (xs 1)) (hto3 : (xs 1) ≤ 7) (hto4 : vp_in (xs 1) 8) (hf : xs 2 = 2) (ha1 : ¬ (xs 3) < 0) (ha2 : ¬ 7 < (xs 3)) (ha3 : (xs 3) ≤ 7) (ha4 : vp_in (xs 3) 8) (hb1 : ¬ (xs 4) < 0) (hb2 : ¬ 7 < (xs 4)) (hb3 : (xs 4) ≤ 7) (hb4 : vp_in (xs 4) 8) (hXs : va_X b 6 xs s s.heap) (hP : va_P D xcl [(a0, .inr (0, [v11, v12, v13, .ref a4, v14, .ref a3, v15, v16])), (a1, .inr (5, [v17, .ref a10, v18, v19, v20, v21, v22, v23, v24, v25, v26, v27, v28, v29, v30, v31, v32, v33, v34, v35, v36, v37, v38, v39, .ref a7, .ref a8, v40, v41, v42, v43, v44, v45])), (a2, .inl (cT 2, 1, .inr (.inl f46))), (a3, .inr (2, [v47, v48, v49])), (a4, .inl (cT 3, 8, .inr (.inr (.inr (.inr f50))))), (a5, .inr (2, [.ref a6, .int 1, v53])), (a6, .inl (cT 2, 4096, .inr (.inl f54))), (a7, .inl (cT 5, 8, .inr (.inr (.inr (.inr f56))))), (a8, .inl (cT 1, 8, .inl f59)), (a9, .inl (cT 0, 4096, .inl f62)), (a10, .inl (cT 4, 1024, .inr (.inr (.inr (.inr f67)))))] H) (hD : va_D A [(a0, .inr (0, [v11, v12, v13, .ref a4, v14, .ref a3, v15, v16])), (a1, .inr (5, [v17, .ref a10, v18, v19, v20, v21, v22, v23, v24, v25, v26, v27, v28, v29, v30, v31, v32, v33, v34, v35, v36, v37, v38, v39, .ref a7, .ref a8, v40, v41, v42, v43, v44, v45])), (a2, .inl (cT 2, 1, .inr (.inl f46))), (a3, .inr (2, [v47, v48, v49])), (a4, .inl (cT 3, 8, .inr (.inr (.inr (.inr f50))))), (a5, .inr (2, [.ref a6, .int 1, v53])), (a6, .inl (cT 2, 4096, .inr (.inl f54))), (a7, .inl (cT 5, 8, .inr (.inr (.inr (.inr f56))))), (a8, .inl (cT 1, 8, .inl f59)), (a9, .inl (cT 0, 4096, .inl f62)), (a10, .inl (cT 4, 1024, .inr (.inr (.inr (.inr f67)))))]) (hS : va_S A s.heap H locs) (hl : lv_has ls 8 [(4, .int 0), (3, .ref a2), (2, .ref a1), (1, .ref a0), (0, .ref b)]) : W p l e room_1 s m #[Value.ref b] below meth c H locs 54 107242 (lw_Z below #[Value.ref b] s) (F0 m 376 ls []) := by
  obtain ⟨hx, hb, hr, hml, hown, htx, hbl, hbA, hlocks, hK, hZ, hA, hA2⟩ := C
  refine lv_aload_n hx hb dL_law_376 rfl (lv_at hl 3 rfl) ?_
  refine lv_aload_n hx hb dL_law_377 rfl (lv_at hl 4 rfl) ?_
  refine lv_iload hx hb dL_law_378 (lv_at hl 0 rfl) ?_
  refine lv_iconst (v := 1) hx hb dL_law_380 (by decide) ?_
  refine lv_iadd hx hb dL_law_381 ?_
  refine W.eq (g2 := F0 m 382 ls [.int 1, .ref b, .ref a0]) rfl ?_
  refine va_sld hx hb hXs hbl hbA hS (i := 1) (show ¬ ((1 : Int32) < 0 ∨ 6 ≤ (1 : Int32).toNatClampNeg) by decide) dL_law_382 ?_
  refine W.eq (g2 := F0 m 383 ls [.int (xs 1), .ref a0]) rfl ?_
  refine lv_aload_n hx hb dL_law_383 rfl (lv_at hl 4 rfl) ?_
  refine lv_iload hx hb dL_law_384 (lv_at hl 0 rfl) ?_
  refine lv_iconst (v := 2) hx hb dL_law_386 (by decide) ?_
  refine lv_iadd hx hb dL_law_387 ?_
  refine W.eq (g2 := F0 m 388 ls [.int 2, .ref b, .int (xs 1), .ref a0]) rfl ?_
  refine va_sld hx hb hXs hbl hbA hS (i := 2) (show ¬ ((2 : Int32) < 0 ∨ 6 ≤ (2 : Int32).toNatClampNeg) by decide) dL_law_388 ?_
  refine W.eq (g2 := F0 m 389 ls [.int (xs 2), .int (xs 1), .ref a0]) rfl ?_
  rw [hf]
  refine W.eq (g2 := F0 m 389 ls [.int 2, .int (xs 1), .ref a0]) rfl ?_
  refine lv_aload_n hx hb dL_law_389 rfl (lv_at hl 4 rfl) ?_
  refine lv_iload hx hb dL_law_390 (lv_at hl 0 rfl) ?_
  refine lv_iconst (v := 3) hx hb dL_law_392 (by decide) ?_
  refine lv_iadd hx hb dL_law_393 ?_
  refine W.eq (g2 := F0 m 394 ls [.int 3, .ref b, .int 2, .int (xs 1), .ref a0]) rfl ?_
  refine va_sld hx hb hXs hbl hbA hS (i := 3) (show ¬ ((3 : Int32) < 0 ∨ 6 ≤ (3 : Int32).toNatClampNeg) by decide) dL_law_394 ?_
  refine W.eq (g2 := F0 m 395 ls [.int (xs 3), .int 2, .int (xs 1), .ref a0]) rfl ?_
  refine lv_aload_n hx hb dL_law_395 rfl (lv_at hl 4 rfl) ?_
  refine lv_iload hx hb dL_law_396 (lv_at hl 0 rfl) ?_
  refine lv_iconst (v := 4) hx hb dL_law_398 (by decide) ?_
  refine lv_iadd hx hb dL_law_399 ?_
  refine W.eq (g2 := F0 m 400 ls [.int 4, .ref b, .int (xs 3), .int 2, .int (xs 1), .ref a0]) rfl ?_
  refine va_sld hx hb hXs hbl hbA hS (i := 4) (show ¬ ((4 : Int32) < 0 ∨ 6 ≤ (4 : Int32).toNatClampNeg) by decide) dL_law_400 ?_
  refine W.eq (g2 := F0 m 401 ls [.int (xs 4), .int (xs 3), .int 2, .int (xs 1), .ref a0]) rfl ?_
  obtain ⟨hPc, hDc, hFc⟩ := xcut (wc := [(a0, .inr (0, [v11, v12, v13, .ref a4, v14, .ref a3, v15, v16])), (a3, .inr (2, [v47, v48, v49])), (a4, .inl (cT 3, 8, .inr (.inr (.inr (.inr f50))))), (a5, .inr (2, [.ref a6, .int 1, v53])), (a6, .inl (cT 2, 4096, .inr (.inl f54)))]) hP hD hS hA [0, 3, 4, 5, 6] rfl rfl (by decide)
  refine va_calli (vx_runSW (As := [.ref a0, .int (xs 1), .int 2, .int (xs 3), .int (xs 4)]) (rest := []) ⟨hx, hb, hml, hown, htx⟩ (cL_binary_12 l hl9 D cT aK aV H.size a0 a3 a4 a5 a6 (xs 1) (xs 3) (xs 4) v11 v12 v13 v14 v15 v16 v47 v48 v49 f50 v53 f54 hto1 hto2 hto3 hto4 ha1 ha2 ha3 ha4 hb1 hb2 hb3 hb4 (by first | rfl | exact h51 | exact h52 | exact h55 | exact h57 | exact h58 | exact h60 | exact h61 | exact h63 | exact h64 | exact h65 | exact h66 | exact h68 | exact h69) (by first | rfl | exact h51 | exact h52 | exact h55 | exact h57 | exact h58 | exact h60 | exact h61 | exact h63 | exact h64 | exact h65 | exact h66 | exact h68 | exact h69) (by first | rfl | exact h51 | exact h52 | exact h55 | exact h57 | exact h58 | exact h60 | exact h61 | exact h63 | exact h64 | exact h65 | exact h66 | exact h68 | exact h69)) (xcSW 5 htx (xw_goodC kw_3_97) rfl rfl rfl (htx _ kw_1_0) (htx _ kw_3_95) ⟨by decide, by decide, by decide +kernel⟩ ⟨Nat.le_of_ble_eq_true rfl, Nat.le_of_ble_eq_true rfl⟩ (htx _ kw_3_96)) ⟨xPre_blind, (fun U hU hW => ⟨rfl, xPre_of hZ hS hFc hPc hDc hK U hU hW⟩)⟩ rfl rfl hl.1 rfl (lv_room (Nat.le_of_ble_eq_true rfl)) dL_law_401 ⟨Nat.le_of_ble_eq_true rfl, Nat.le_of_ble_eq_true rfl⟩) hS (fun q _ h => hFc q h) hFc (fun r1 u9 t H1 locs ht hvm hr9 hB hz1 hk1 hS => ?_)
  obtain ⟨hP1, hK1, hD1⟩ := hB
  rw [ht] at hP1
  obtain ⟨hP, hD⟩ := xjoin (W := [(a1, .inr (5, [v17, .ref a10, v18, v19, v20, v21, v22, v23, v24, v25, v26, v27, v28, v29, v30, v31, v32, v33, v34, v35, v36, v37, v38, v39, .ref a7, .ref a8, v40, v41, v42, v43, v44, v45])), (a2, .inl (cT 2, 1, .inr (.inl f46))), (a7, .inl (cT 5, 8, .inr (.inr (.inr (.inr f56))))), (a8, .inl (cT 1, 8, .inl f59)), (a9, .inl (cT 0, 4096, .inl f62)), (a10, .inl (cT 4, 1024, .inr (.inr (.inr (.inr f67))))), (a0, .inr (0, [v11, v12, v13, .ref a4, v14, .ref a3, v15, .int 1])), (a3, .inr (2, [v47, .int 0, .int 0])), (a4, .inl (cT 3, 8, .inr (.inr (.inr (.inr f50))))), (a5, .inr (2, [.ref a6, .int 1, v53])), (a6, .inl (cT 2, 4096, .inr (.inl f54)))]) hP hD [0, 3, 4, 5, 6] [1, 2, 7, 8, 9, 10] 6 rfl rfl (by decide) (by decide) hk1 hFc hP1 hD1
  generalize H1 = H at hP hS ⊢
  rw [hr9]
  refine W.eq (g2 := F0 m 404 ls [.int 2]) rfl ?_
  refine lv_istore (lv' := [(5, .int 2), (4, .int 0), (3, .ref a2), (2, .ref a1), (1, .ref a0), (0, .ref b)]) hx hb dL_law_404 hl (by decide) rfl (fun ls hl => ?_)
  refine lv_aload_n hx hb dL_law_406 rfl (lv_at hl 3 rfl) ?_
  refine lv_aload_n hx hb dL_law_407 rfl (lv_at hl 5 rfl) ?_
  refine lv_iload hx hb dL_law_408 (lv_at hl 1 rfl) ?_
  refine lv_iconst (v := 1) hx hb dL_law_410 (by decide) ?_
  refine lv_iadd hx hb dL_law_411 ?_
  refine W.eq (g2 := F0 m 412 ls [.int 1, .ref b, .ref a1]) rfl ?_
  refine va_sld hx hb hXs hbl hbA hS (i := 1) (show ¬ ((1 : Int32) < 0 ∨ 6 ≤ (1 : Int32).toNatClampNeg) by decide) dL_law_412 ?_
  refine W.eq (g2 := F0 m 413 ls [.int (xs 1), .ref a1]) rfl ?_
  refine lv_aload_n hx hb dL_law_413 rfl (lv_at hl 5 rfl) ?_
  refine lv_iload hx hb dL_law_414 (lv_at hl 1 rfl) ?_
  refine lv_iconst (v := 2) hx hb dL_law_416 (by decide) ?_
  refine lv_iadd hx hb dL_law_417 ?_
  refine W.eq (g2 := F0 m 418 ls [.int 2, .ref b, .int (xs 1), .ref a1]) rfl ?_
  refine va_sld hx hb hXs hbl hbA hS (i := 2) (show ¬ ((2 : Int32) < 0 ∨ 6 ≤ (2 : Int32).toNatClampNeg) by decide) dL_law_418 ?_
  refine W.eq (g2 := F0 m 419 ls [.int (xs 2), .int (xs 1), .ref a1]) rfl ?_
  rw [hf]
  refine W.eq (g2 := F0 m 419 ls [.int 2, .int (xs 1), .ref a1]) rfl ?_
  refine lv_aload_n hx hb dL_law_419 rfl (lv_at hl 5 rfl) ?_
  refine lv_iload hx hb dL_law_420 (lv_at hl 1 rfl) ?_
  refine lv_iconst (v := 3) hx hb dL_law_422 (by decide) ?_
  refine lv_iadd hx hb dL_law_423 ?_
  refine W.eq (g2 := F0 m 424 ls [.int 3, .ref b, .int 2, .int (xs 1), .ref a1]) rfl ?_
  refine va_sld hx hb hXs hbl hbA hS (i := 3) (show ¬ ((3 : Int32) < 0 ∨ 6 ≤ (3 : Int32).toNatClampNeg) by decide) dL_law_424 ?_
  refine W.eq (g2 := F0 m 425 ls [.int (xs 3), .int 2, .int (xs 1), .ref a1]) rfl ?_
  refine lv_aload_n hx hb dL_law_425 rfl (lv_at hl 5 rfl) ?_
  refine lv_iload hx hb dL_law_426 (lv_at hl 1 rfl) ?_
  refine lv_iconst (v := 4) hx hb dL_law_428 (by decide) ?_
  refine lv_iadd hx hb dL_law_429 ?_
  refine W.eq (g2 := F0 m 430 ls [.int 4, .ref b, .int (xs 3), .int 2, .int (xs 1), .ref a1]) rfl ?_
  refine va_sld hx hb hXs hbl hbA hS (i := 4) (show ¬ ((4 : Int32) < 0 ∨ 6 ≤ (4 : Int32).toNatClampNeg) by decide) dL_law_430 ?_
  refine W.eq (g2 := F0 m 431 ls [.int (xs 4), .int (xs 3), .int 2, .int (xs 1), .ref a1]) rfl ?_
  obtain ⟨hPc, hDc, hFc⟩ := xcut (wc := [(a1, .inr (5, [v17, .ref a10, v18, v19, v20, v21, v22, v23, v24, v25, v26, v27, v28, v29, v30, v31, v32, v33, v34, v35, v36, v37, v38, v39, .ref a7, .ref a8, v40, v41, v42, v43, v44, v45])), (a7, .inl (cT 5, 8, .inr (.inr (.inr (.inr f56))))), (a8, .inl (cT 1, 8, .inl f59)), (a9, .inl (cT 0, 4096, .inl f62)), (a10, .inl (cT 4, 1024, .inr (.inr (.inr (.inr f67)))))]) hP hD hS hA [0, 2, 3, 4, 5] rfl rfl (by decide)
  refine va_callv (va_runV (C := "ValueBenchModel") (As := [.int (xs 1), .int 2, .int (xs 3), .int (xs 4)]) (rest := []) ⟨hx, hb, hml, hown, htx⟩ (cM_binary0_15 l hl9 D cT aK aV H.size a1 a7 a8 a9 a10 (xs 1) (xs 3) (xs 4) v17 v18 v19 v20 v21 v22 v23 v24 v25 v26 v27 v28 v29 v30 v31 v32 v33 v34 v35 v36 v37 v38 v39 v40 v41 v42 v43 v44 v45 f56 f59 f62 f67 hto1 hto2 hto3 hto4 ha1 ha2 ha3 ha4 hb1 hb2 hb3 hb4 (by first | rfl | exact h51 | exact h52 | exact h55 | exact h57 | exact h58 | exact h60 | exact h61 | exact h63 | exact h64 | exact h65 | exact h66 | exact h68 | exact h69) (by first | rfl | exact h51 | exact h52 | exact h55 | exact h57 | exact h58 | exact h60 | exact h61 | exact h63 | exact h64 | exact h65 | exact h66 | exact h68 | exact h69) (by first | rfl | exact h51 | exact h52 | exact h55 | exact h57 | exact h58 | exact h60 | exact h61 | exact h63 | exact h64 | exact h65 | exact h66 | exact h68 | exact h69) (by first | rfl | exact h51 | exact h52 | exact h55 | exact h57 | exact h58 | exact h60 | exact h61 | exact h63 | exact h64 | exact h65 | exact h66 | exact h68 | exact h69) (by first | rfl | exact h51 | exact h52 | exact h55 | exact h57 | exact h58 | exact h60 | exact h61 | exact h63 | exact h64 | exact h65 | exact h66 | exact h68 | exact h69) (by first | rfl | exact h51 | exact h52 | exact h55 | exact h57 | exact h58 | exact h60 | exact h61 | exact h63 | exact h64 | exact h65 | exact h66 | exact h68 | exact h69) (by first | rfl | exact h51 | exact h52 | exact h55 | exact h57 | exact h58 | exact h60 | exact h61 | exact h63 | exact h64 | exact h65 | exact h66 | exact h68 | exact h69) (by first | rfl | exact h51 | exact h52 | exact h55 | exact h57 | exact h58 | exact h60 | exact h61 | exact h63 | exact h64 | exact h65 | exact h66 | exact h68 | exact h69) (by first | rfl | exact h51 | exact h52 | exact h55 | exact h57 | exact h58 | exact h60 | exact h61 | exact h63 | exact h64 | exact h65 | exact h66 | exact h68 | exact h69) (by first | rfl | exact h51 | exact h52 | exact h55 | exact h57 | exact h58 | exact h60 | exact h61 | exact h63 | exact h64 | exact h65 | exact h66 | exact h68 | exact h69)) ⟨callB_of 4 htx (xw_goodC kw_6_191) rfl rfl rfl (htx _ kw_1_5) (htx _ kw_6_188) ⟨by decide, by decide, by decide +kernel⟩ ⟨Nat.le_of_ble_eq_true rfl, Nat.le_of_ble_eq_true rfl⟩, (htx _ kw_6_189), (htx _ kw_6_190)⟩ ⟨xPre_blind, va_recv hK hP (ci := 5) rfl (q0 := 0) rfl, (fun U hU hW => ⟨rfl, xPre_of hZ hS hFc hPc hDc hK U hU hW⟩)⟩ rfl rfl hl.1 rfl (lv_room (Nat.le_of_ble_eq_true rfl)) dL_law_431 ⟨Nat.le_of_ble_eq_true rfl, Nat.le_of_ble_eq_true rfl⟩) hS (fun q _ h => hFc q h) hFc (fun u9 t H1 locs ht hvm hr9 hB hz1 hk1 hS => ?_)
  obtain ⟨q2, q3, hP1, hK1, hD1⟩ := hB
  rw [ht] at hP1
  obtain ⟨hP, hD⟩ := xjoin (W := [(a2, .inl (cT 2, 1, .inr (.inl f46))), (a0, .inr (0, [v11, v12, v13, .ref a4, v14, .ref a3, v15, .int 1])), (a3, .inr (2, [v47, .int 0, .int 0])), (a4, .inl (cT 3, 8, .inr (.inr (.inr (.inr f50))))), (a5, .inr (2, [.ref a6, .int 1, v53])), (a6, .inl (cT 2, 4096, .inr (.inl f54))), (a1, .inr (5, [.int 2, .ref a10, .int 2, v19, .int 0, v21, v22, .int 0, .int 1, .int 0, v26, v27, .int 0, v29, v30, .ref a9, .int 4, .int 4, .int 0, .int 100, v36, v37, .int 0, .int 1000000000, .ref a7, .ref a8, v40, v41, v42, v43, .int 1, v45])), (a7, .inl (cT 5, 8, .inr (.inr (.inr (.inr f56))))), (a8, .inl (cT 1, 8, .inl f59)), (a9, .inl (cT 0, 4096, .inl f62)), (a10, .inl (cT 4, 1024, .inr (.inr (.inr (.inr (va_up (va_up f67 0 (some q2)) 1 (some q3))))))), (q2, .inr (6, [.int 0, .long 0, .int 0, .int 0, .int 0, .int 1])), (q3, .inr (6, [.int 0, .long 0, .int 0, .int 0, .int 0, .int 1]))]) hP hD [0, 2, 3, 4, 5] [1, 6, 7, 8, 9, 10] 6 rfl rfl (by decide) (by decide) hk1 hFc hP1 hD1
  generalize H1 = H at hP hS ⊢
  refine lv_aload_n hx hb dL_law_434 rfl (lv_at hl 3 rfl) ?_
  obtain ⟨hPc, hDc, hFc⟩ := xcut (wc := [(a1, .inr (5, [.int 2, .ref a10, .int 2, v19, .int 0, v21, v22, .int 0, .int 1, .int 0, v26, v27, .int 0, v29, v30, .ref a9, .int 4, .int 4, .int 0, .int 100, v36, v37, .int 0, .int 1000000000, .ref a7, .ref a8, v40, v41, v42, v43, .int 1, v45]))]) hP hD hS hA [6] rfl rfl (by decide)
  refine va_calli (va_runV (C := "ValueBenchModel") (As := []) (rest := []) ⟨hx, hb, hml, hown, htx⟩ (cM_thrown_2 l hl9 D cT aK aV H.size a1 (.ref a10) (.int 2) v19 (.int 0) v21 v22 (.int 0) (.int 1) (.int 0) v26 v27 (.int 0) v29 v30 (.ref a9) (.int 4) (.int 4) (.int 0) (.int 100) v36 v37 (.int 0) (.int 1000000000) (.ref a7) (.ref a8) v40 v41 v42 v43 (.int 1) v45) ⟨callB_of 0 htx (xw_goodC kw_5_187) rfl rfl rfl (htx _ kw_1_5) (htx _ kw_5_184) ⟨by decide, by decide, by decide +kernel⟩ ⟨Nat.le_of_ble_eq_true rfl, Nat.le_of_ble_eq_true rfl⟩, (htx _ kw_5_185), (htx _ kw_5_186)⟩ ⟨xPre_blind, va_recv hK hP (ci := 5) rfl (q0 := 6) rfl, (fun U hU hW => ⟨rfl, xPre_of hZ hS hFc hPc hDc hK U hU hW⟩)⟩ rfl rfl hl.1 rfl (lv_room (Nat.le_of_ble_eq_true rfl)) dL_law_435 ⟨Nat.le_of_ble_eq_true rfl, Nat.le_of_ble_eq_true rfl⟩) hS (fun q _ h => hFc q h) hFc (fun r4 u9 t H1 locs ht hvm hr9 hB hz1 hk1 hS => ?_)
  obtain ⟨hP1, hK1, hD1⟩ := hB
  rw [ht] at hP1
  obtain ⟨hP, hD⟩ := xjoin (W := [(a2, .inl (cT 2, 1, .inr (.inl f46))), (a0, .inr (0, [v11, v12, v13, .ref a4, v14, .ref a3, v15, .int 1])), (a3, .inr (2, [v47, .int 0, .int 0])), (a4, .inl (cT 3, 8, .inr (.inr (.inr (.inr f50))))), (a5, .inr (2, [.ref a6, .int 1, v53])), (a6, .inl (cT 2, 4096, .inr (.inl f54))), (a7, .inl (cT 5, 8, .inr (.inr (.inr (.inr f56))))), (a8, .inl (cT 1, 8, .inl f59)), (a9, .inl (cT 0, 4096, .inl f62)), (a10, .inl (cT 4, 1024, .inr (.inr (.inr (.inr (va_up (va_up f67 0 (some q2)) 1 (some q3))))))), (q2, .inr (6, [.int 0, .long 0, .int 0, .int 0, .int 0, .int 1])), (q3, .inr (6, [.int 0, .long 0, .int 0, .int 0, .int 0, .int 1])), (a1, .inr (5, [.int 2, .ref a10, .int 2, v19, .int 0, v21, v22, .int 0, .int 1, .int 0, v26, v27, .int 0, v29, v30, .ref a9, .int 4, .int 4, .int 0, .int 100, v36, v37, .int 0, .int 1000000000, .ref a7, .ref a8, v40, v41, v42, v43, .int 1, v45]))]) hP hD [6] [0, 1, 2, 3, 4, 5, 7, 8, 9, 10, 11, 12] 12 rfl rfl (by decide) (by decide) hk1 hFc hP1 hD1
  generalize H1 = H at hP hS ⊢
  rw [hr9]
  refine W.eq (g2 := F0 m 438 ls [.int 2]) rfl ?_
  refine lv_iload hx hb dL_law_438 (lv_at hl 0 rfl) ?_
  refine lv_icmp_eq (tgt := 445) hx hb dL_law_440 (by decide) (fun _ => ?_) (fun h => ((by revert h; decide : False)).elim)
  refine lv_goto (tgt := 906) hx hb dL_law_445 (by decide) ?_
  refine lv_iinc (v := 6) (lv' := [(4, .int 6), (5, .int 2), (3, .ref a2), (2, .ref a1), (1, .ref a0), (0, .ref b)]) hx hb dL_law_906 hl (k := 1) rfl (by decide) (by decide) rfl (fun ls hl => ?_)
  refine lv_goto (tgt := 23) hx hb dL_law_909 (by decide) ?_
  refine lv_iload hx hb dL_law_23 (lv_at hl 0 rfl) ?_
  refine lv_aload_n hx hb dL_law_25 rfl (lv_at hl 5 rfl) ?_
  refine va_slen hx hb hXs hbl hbA hS dL_law_26 ?_
  refine W.eq (g2 := F0 m 27 ls [.int 6, .int 6]) rfl ?_
  refine lv_bipush (v := 6) hx hb dL_law_27 (by decide) ?_
  refine lv_isub hx hb dL_law_29 ?_
  refine W.eq (g2 := F0 m 30 ls [.int 0, .int 6]) rfl ?_
  refine lv_icmp_gt (tgt := 912) hx hb dL_law_30 (by decide) (fun _ => ?_) (fun h => ((by revert h; decide : False)).elim)
  refine lv_iconst (v := 1) hx hb dL_law_912 (by decide) ?_
  exact va_forget (fun q h => hA2 _ (hS.2.2 q h)) (W.widen (k := 600002) (n := 7302232) (Nat.le_of_ble_eq_true rfl) (Nat.le_of_ble_eq_true rfl) (lw_ret hx hb hr hlocks dL_law_913))
set_option maxHeartbeats 400000000 in
set_option maxRecDepth 100000 in
theorem lf_binary2_p2 {p : Program} {e : Env} {s : State} {m : MethodId} {below : List Frame} {meth : Method} {c : Code} (l : Launch) (hl9 : l.stackTraces = false) (D : va_G) (cT : Nat → ClassId) (aK aV : Nat → Nat) {A : Nat → Prop} {b : Nat} {xs : Nat → Int32} (C : xLw p s m meth c b D cT aK aV A) {H : Heap} {locs : List Loc} {ls : Array Slot} (a0 : Nat) (a1 : Nat) (a2 : Nat) (a3 : Nat) (a4 : Nat) (a5 : Nat) (a6 : Nat) (a7 : Nat) (a8 : Nat) (a9 : Nat) (a10 : Nat) (a11 : Nat) (v12 : Value) (v13 : Value) (v14 : Value) (v15 : Value) (v16 : Value) (v17 : Value) (v18 : Value) (v19 : Value) (v20 : Value) (v21 : Value) (v22 : Value) (v23 : Value) (v24 : Value) (v25 : Value) (v26 : Value) (v27 : Value) (v28 : Value) (v29 : Value) (v30 : Value) (v31 : Value) (v32 : Value) (v33 : Value) (v34 : Value) (v35 : Value) (v36 : Value) (v37 : Value) (v38 : Value) (v39 : Value) (v40 : Value) (v41 : Value) (v42 : Value) (v43 : Value) (v44 : Value) (v45 : Value) (v46 : Value) (f47 : Nat → Int64) (v48 : Value) (v49 : Value) (v50 : Value) (f51 : Nat → Option Nat) (b53 : Nat) (v55 : Value) (f56 : Nat → Int64) (f58 : Nat → Option Nat) (f61 : Nat → Int32) (f64 : Nat → Int32) (f69 : Nat → Option Nat) (f72 : Nat → Int32) (h52 : f51 (xs 3).toNatClampNeg = some a5) (h54 : f51 (xs 4).toNatClampNeg = some b53) (h57 : f56 0 = 0) (h59 : f58 (xs 3).toNatClampNeg = some a9) (h60 : f58 (xs 4).toNatClampNeg = some a11) (h62 : f61 (xs 3).toNatClampNeg = 4) (h63 : f61 (xs 4).toNatClampNeg = 4) (h65 : f64 0 = 110) (h66 : f64 1 = 117) (h67 : f64 2 = 108) (h68 : f64 3 = 108) (h70 : f69 0 = none) (h71 : f69 1 = none) (h73 : f72 0 = 110) (h74 : f72 1 = 117) (h75 : f72 2 = 108) (h76 : f72 3 = 108) (hto1 : ¬ (xs 1) < 0) (hto2 : ¬ 7 < (xs 1)) (hto3 : (xs 1) ≤ 7) (hto4 : vp_in (xs 1) 8) (hf : xs 2 = 2) (ha1 : ¬ (xs 3) < 0) (ha2 : ¬ 7 < (xs 3)) (ha3 : (xs 3) ≤ 7) (ha4 : vp_in (xs 3) 8) (hb1 : ¬ (xs 4) < 0) (hb2 : ¬ 7 < (xs 4)) (hb3 : (xs 4) ≤ 7) (hb4 : vp_in (xs 4) 8) (hXs : va_X b 6 xs s s.heap) (hP : va_P D xcl [(a0, .inr (0, [v12, v13, v14, .ref a4, v15, .ref a3, v16, v17])), (a1, .inr (5, [v18, .ref a10, v19, v20, v21, v22, v23, v24, v25, v26, v27, v28, v29, v30, v31, v32, v33, v34, v35, v36, v37, v38, v39, v40, .ref a7, .ref a8, v41, v42, v43, v44, v45, v46])), (a2, .inl (cT 2, 1, .inr (.inl f47))), (a3, .inr (2, [v48, v49, v50])), (a4, .inl (cT 3, 8, .inr (.inr (.inr (.inr f51))))), (a5, .inr (2, [.ref a6, .int 1, v55])), (a6, .inl (cT 2, 4096, .inr (.inl f56))), (a7, .inl (cT 5, 8, .inr (.inr (.inr (.inr f58))))), (a8, .inl (cT 1, 8, .inl f61)), (a9, .inl (cT 0, 4096, .inl f64)), (a10, .inl (cT 4, 1024, .inr (.inr (.inr (.inr f69))))), (a11, .inl (cT 0, 4096, .inl f72))] H) (hD : va_D A [(a0, .inr (0, [v12, v13, v14, .ref a4, v15, .ref a3, v16, v17])), (a1, .inr (5, [v18, .ref a10, v19, v20, v21, v22, v23, v24, v25, v26, v27, v28, v29, v30, v31, v32, v33, v34, v35, v36, v37, v38, v39, v40, .ref a7, .ref a8, v41, v42, v43, v44, v45, v46])), (a2, .inl (cT 2, 1, .inr (.inl f47))), (a3, .inr (2, [v48, v49, v50])), (a4, .inl (cT 3, 8, .inr (.inr (.inr (.inr f51))))), (a5, .inr (2, [.ref a6, .int 1, v55])), (a6, .inl (cT 2, 4096, .inr (.inl f56))), (a7, .inl (cT 5, 8, .inr (.inr (.inr (.inr f58))))), (a8, .inl (cT 1, 8, .inl f61)), (a9, .inl (cT 0, 4096, .inl f64)), (a10, .inl (cT 4, 1024, .inr (.inr (.inr (.inr f69))))), (a11, .inl (cT 0, 4096, .inl f72))]) (hS : va_S A s.heap H locs) (hl : lv_has ls 8 [(4, .int 0), (3, .ref a2), (2, .ref a1), (1, .ref a0), (0, .ref b)]) : W p l e room_1 s m #[Value.ref b] below meth c H locs 54 107242 (lw_Z below #[Value.ref b] s) (F0 m 376 ls []) := by
  obtain ⟨hx, hb, hr, hml, hown, htx, hbl, hbA, hlocks, hK, hZ, hA, hA2⟩ := C
  refine lv_aload_n hx hb dL_law_376 rfl (lv_at hl 3 rfl) ?_
  refine lv_aload_n hx hb dL_law_377 rfl (lv_at hl 4 rfl) ?_
  refine lv_iload hx hb dL_law_378 (lv_at hl 0 rfl) ?_
  refine lv_iconst (v := 1) hx hb dL_law_380 (by decide) ?_
  refine lv_iadd hx hb dL_law_381 ?_
  refine W.eq (g2 := F0 m 382 ls [.int 1, .ref b, .ref a0]) rfl ?_
  refine va_sld hx hb hXs hbl hbA hS (i := 1) (show ¬ ((1 : Int32) < 0 ∨ 6 ≤ (1 : Int32).toNatClampNeg) by decide) dL_law_382 ?_
  refine W.eq (g2 := F0 m 383 ls [.int (xs 1), .ref a0]) rfl ?_
  refine lv_aload_n hx hb dL_law_383 rfl (lv_at hl 4 rfl) ?_
  refine lv_iload hx hb dL_law_384 (lv_at hl 0 rfl) ?_
  refine lv_iconst (v := 2) hx hb dL_law_386 (by decide) ?_
  refine lv_iadd hx hb dL_law_387 ?_
  refine W.eq (g2 := F0 m 388 ls [.int 2, .ref b, .int (xs 1), .ref a0]) rfl ?_
  refine va_sld hx hb hXs hbl hbA hS (i := 2) (show ¬ ((2 : Int32) < 0 ∨ 6 ≤ (2 : Int32).toNatClampNeg) by decide) dL_law_388 ?_
  refine W.eq (g2 := F0 m 389 ls [.int (xs 2), .int (xs 1), .ref a0]) rfl ?_
  rw [hf]
  refine W.eq (g2 := F0 m 389 ls [.int 2, .int (xs 1), .ref a0]) rfl ?_
  refine lv_aload_n hx hb dL_law_389 rfl (lv_at hl 4 rfl) ?_
  refine lv_iload hx hb dL_law_390 (lv_at hl 0 rfl) ?_
  refine lv_iconst (v := 3) hx hb dL_law_392 (by decide) ?_
  refine lv_iadd hx hb dL_law_393 ?_
  refine W.eq (g2 := F0 m 394 ls [.int 3, .ref b, .int 2, .int (xs 1), .ref a0]) rfl ?_
  refine va_sld hx hb hXs hbl hbA hS (i := 3) (show ¬ ((3 : Int32) < 0 ∨ 6 ≤ (3 : Int32).toNatClampNeg) by decide) dL_law_394 ?_
  refine W.eq (g2 := F0 m 395 ls [.int (xs 3), .int 2, .int (xs 1), .ref a0]) rfl ?_
  refine lv_aload_n hx hb dL_law_395 rfl (lv_at hl 4 rfl) ?_
  refine lv_iload hx hb dL_law_396 (lv_at hl 0 rfl) ?_
  refine lv_iconst (v := 4) hx hb dL_law_398 (by decide) ?_
  refine lv_iadd hx hb dL_law_399 ?_
  refine W.eq (g2 := F0 m 400 ls [.int 4, .ref b, .int (xs 3), .int 2, .int (xs 1), .ref a0]) rfl ?_
  refine va_sld hx hb hXs hbl hbA hS (i := 4) (show ¬ ((4 : Int32) < 0 ∨ 6 ≤ (4 : Int32).toNatClampNeg) by decide) dL_law_400 ?_
  refine W.eq (g2 := F0 m 401 ls [.int (xs 4), .int (xs 3), .int 2, .int (xs 1), .ref a0]) rfl ?_
  obtain ⟨hPc, hDc, hFc⟩ := xcut (wc := [(a0, .inr (0, [v12, v13, v14, .ref a4, v15, .ref a3, v16, v17])), (a3, .inr (2, [v48, v49, v50])), (a4, .inl (cT 3, 8, .inr (.inr (.inr (.inr f51))))), (a5, .inr (2, [.ref a6, .int 1, v55])), (a6, .inl (cT 2, 4096, .inr (.inl f56)))]) hP hD hS hA [0, 3, 4, 5, 6] rfl rfl (by decide)
  refine va_calli (vx_runSW (As := [.ref a0, .int (xs 1), .int 2, .int (xs 3), .int (xs 4)]) (rest := []) ⟨hx, hb, hml, hown, htx⟩ (cL_binary_13 l hl9 D cT aK aV H.size a0 a3 a4 a5 a6 (xs 1) (xs 3) (xs 4) v12 v13 v14 v15 v16 v17 v48 v49 v50 f51 b53 v55 f56 hto1 hto2 hto3 hto4 ha1 ha2 ha3 ha4 hb1 hb2 hb3 hb4 (by first | rfl | exact h52 | exact h54 | exact h57 | exact h59 | exact h60 | exact h62 | exact h63 | exact h65 | exact h66 | exact h67 | exact h68 | exact h70 | exact h71 | exact h73 | exact h74 | exact h75 | exact h76) (by first | rfl | exact h52 | exact h54 | exact h57 | exact h59 | exact h60 | exact h62 | exact h63 | exact h65 | exact h66 | exact h67 | exact h68 | exact h70 | exact h71 | exact h73 | exact h74 | exact h75 | exact h76) (by first | rfl | exact h52 | exact h54 | exact h57 | exact h59 | exact h60 | exact h62 | exact h63 | exact h65 | exact h66 | exact h67 | exact h68 | exact h70 | exact h71 | exact h73 | exact h74 | exact h75 | exact h76)) (xcSW 5 htx (xw_goodC kw_3_97) rfl rfl rfl (htx _ kw_1_0) (htx _ kw_3_95) ⟨by decide, by decide, by decide +kernel⟩ ⟨Nat.le_of_ble_eq_true rfl, Nat.le_of_ble_eq_true rfl⟩ (htx _ kw_3_96)) ⟨xPre_blind, (fun U hU hW => ⟨rfl, xPre_of hZ hS hFc hPc hDc hK U hU hW⟩)⟩ rfl rfl hl.1 rfl (lv_room (Nat.le_of_ble_eq_true rfl)) dL_law_401 ⟨Nat.le_of_ble_eq_true rfl, Nat.le_of_ble_eq_true rfl⟩) hS (fun q _ h => hFc q h) hFc (fun r1 u9 t H1 locs ht hvm hr9 hB hz1 hk1 hS => ?_)
  obtain ⟨hP1, hK1, hD1⟩ := hB
  rw [ht] at hP1
  obtain ⟨hP, hD⟩ := xjoin (W := [(a1, .inr (5, [v18, .ref a10, v19, v20, v21, v22, v23, v24, v25, v26, v27, v28, v29, v30, v31, v32, v33, v34, v35, v36, v37, v38, v39, v40, .ref a7, .ref a8, v41, v42, v43, v44, v45, v46])), (a2, .inl (cT 2, 1, .inr (.inl f47))), (a7, .inl (cT 5, 8, .inr (.inr (.inr (.inr f58))))), (a8, .inl (cT 1, 8, .inl f61)), (a9, .inl (cT 0, 4096, .inl f64)), (a10, .inl (cT 4, 1024, .inr (.inr (.inr (.inr f69))))), (a11, .inl (cT 0, 4096, .inl f72)), (a0, .inr (0, [v12, v13, v14, .ref a4, v15, .ref a3, v16, .int 1])), (a3, .inr (2, [v48, .int 0, .int 0])), (a4, .inl (cT 3, 8, .inr (.inr (.inr (.inr f51))))), (a5, .inr (2, [.ref a6, .int 1, v55])), (a6, .inl (cT 2, 4096, .inr (.inl f56)))]) hP hD [0, 3, 4, 5, 6] [1, 2, 7, 8, 9, 10, 11] 7 rfl rfl (by decide) (by decide) hk1 hFc hP1 hD1
  generalize H1 = H at hP hS ⊢
  rw [hr9]
  refine W.eq (g2 := F0 m 404 ls [.int 2]) rfl ?_
  refine lv_istore (lv' := [(5, .int 2), (4, .int 0), (3, .ref a2), (2, .ref a1), (1, .ref a0), (0, .ref b)]) hx hb dL_law_404 hl (by decide) rfl (fun ls hl => ?_)
  refine lv_aload_n hx hb dL_law_406 rfl (lv_at hl 3 rfl) ?_
  refine lv_aload_n hx hb dL_law_407 rfl (lv_at hl 5 rfl) ?_
  refine lv_iload hx hb dL_law_408 (lv_at hl 1 rfl) ?_
  refine lv_iconst (v := 1) hx hb dL_law_410 (by decide) ?_
  refine lv_iadd hx hb dL_law_411 ?_
  refine W.eq (g2 := F0 m 412 ls [.int 1, .ref b, .ref a1]) rfl ?_
  refine va_sld hx hb hXs hbl hbA hS (i := 1) (show ¬ ((1 : Int32) < 0 ∨ 6 ≤ (1 : Int32).toNatClampNeg) by decide) dL_law_412 ?_
  refine W.eq (g2 := F0 m 413 ls [.int (xs 1), .ref a1]) rfl ?_
  refine lv_aload_n hx hb dL_law_413 rfl (lv_at hl 5 rfl) ?_
  refine lv_iload hx hb dL_law_414 (lv_at hl 1 rfl) ?_
  refine lv_iconst (v := 2) hx hb dL_law_416 (by decide) ?_
  refine lv_iadd hx hb dL_law_417 ?_
  refine W.eq (g2 := F0 m 418 ls [.int 2, .ref b, .int (xs 1), .ref a1]) rfl ?_
  refine va_sld hx hb hXs hbl hbA hS (i := 2) (show ¬ ((2 : Int32) < 0 ∨ 6 ≤ (2 : Int32).toNatClampNeg) by decide) dL_law_418 ?_
  refine W.eq (g2 := F0 m 419 ls [.int (xs 2), .int (xs 1), .ref a1]) rfl ?_
  rw [hf]
  refine W.eq (g2 := F0 m 419 ls [.int 2, .int (xs 1), .ref a1]) rfl ?_
  refine lv_aload_n hx hb dL_law_419 rfl (lv_at hl 5 rfl) ?_
  refine lv_iload hx hb dL_law_420 (lv_at hl 1 rfl) ?_
  refine lv_iconst (v := 3) hx hb dL_law_422 (by decide) ?_
  refine lv_iadd hx hb dL_law_423 ?_
  refine W.eq (g2 := F0 m 424 ls [.int 3, .ref b, .int 2, .int (xs 1), .ref a1]) rfl ?_
  refine va_sld hx hb hXs hbl hbA hS (i := 3) (show ¬ ((3 : Int32) < 0 ∨ 6 ≤ (3 : Int32).toNatClampNeg) by decide) dL_law_424 ?_
  refine W.eq (g2 := F0 m 425 ls [.int (xs 3), .int 2, .int (xs 1), .ref a1]) rfl ?_
  refine lv_aload_n hx hb dL_law_425 rfl (lv_at hl 5 rfl) ?_
  refine lv_iload hx hb dL_law_426 (lv_at hl 1 rfl) ?_
  refine lv_iconst (v := 4) hx hb dL_law_428 (by decide) ?_
  refine lv_iadd hx hb dL_law_429 ?_
  refine W.eq (g2 := F0 m 430 ls [.int 4, .ref b, .int (xs 3), .int 2, .int (xs 1), .ref a1]) rfl ?_
  refine va_sld hx hb hXs hbl hbA hS (i := 4) (show ¬ ((4 : Int32) < 0 ∨ 6 ≤ (4 : Int32).toNatClampNeg) by decide) dL_law_430 ?_
  refine W.eq (g2 := F0 m 431 ls [.int (xs 4), .int (xs 3), .int 2, .int (xs 1), .ref a1]) rfl ?_
  obtain ⟨hPc, hDc, hFc⟩ := xcut (wc := [(a1, .inr (5, [v18, .ref a10, v19, v20, v21, v22, v23, v24, v25, v26, v27, v28, v29, v30, v31, v32, v33, v34, v35, v36, v37, v38, v39, v40, .ref a7, .ref a8, v41, v42, v43, v44, v45, v46])), (a7, .inl (cT 5, 8, .inr (.inr (.inr (.inr f58))))), (a8, .inl (cT 1, 8, .inl f61)), (a9, .inl (cT 0, 4096, .inl f64)), (a10, .inl (cT 4, 1024, .inr (.inr (.inr (.inr f69))))), (a11, .inl (cT 0, 4096, .inl f72))]) hP hD hS hA [0, 2, 3, 4, 5, 6] rfl rfl (by decide)
  refine va_callv (va_runV (C := "ValueBenchModel") (As := [.int (xs 1), .int 2, .int (xs 3), .int (xs 4)]) (rest := []) ⟨hx, hb, hml, hown, htx⟩ (cM_binary0_16 l hl9 D cT aK aV H.size a1 a7 a8 a9 a10 a11 (xs 1) (xs 3) (xs 4) v18 v19 v20 v21 v22 v23 v24 v25 v26 v27 v28 v29 v30 v31 v32 v33 v34 v35 v36 v37 v38 v39 v40 v41 v42 v43 v44 v45 v46 f58 f61 f64 f69 f72 hto1 hto2 hto3 hto4 ha1 ha2 ha3 ha4 hb1 hb2 hb3 hb4 (by first | rfl | exact h52 | exact h54 | exact h57 | exact h59 | exact h60 | exact h62 | exact h63 | exact h65 | exact h66 | exact h67 | exact h68 | exact h70 | exact h71 | exact h73 | exact h74 | exact h75 | exact h76) (by first | rfl | exact h52 | exact h54 | exact h57 | exact h59 | exact h60 | exact h62 | exact h63 | exact h65 | exact h66 | exact h67 | exact h68 | exact h70 | exact h71 | exact h73 | exact h74 | exact h75 | exact h76) (by first | rfl | exact h52 | exact h54 | exact h57 | exact h59 | exact h60 | exact h62 | exact h63 | exact h65 | exact h66 | exact h67 | exact h68 | exact h70 | exact h71 | exact h73 | exact h74 | exact h75 | exact h76) (by first | rfl | exact h52 | exact h54 | exact h57 | exact h59 | exact h60 | exact h62 | exact h63 | exact h65 | exact h66 | exact h67 | exact h68 | exact h70 | exact h71 | exact h73 | exact h74 | exact h75 | exact h76) (by first | rfl | exact h52 | exact h54 | exact h57 | exact h59 | exact h60 | exact h62 | exact h63 | exact h65 | exact h66 | exact h67 | exact h68 | exact h70 | exact h71 | exact h73 | exact h74 | exact h75 | exact h76) (by first | rfl | exact h52 | exact h54 | exact h57 | exact h59 | exact h60 | exact h62 | exact h63 | exact h65 | exact h66 | exact h67 | exact h68 | exact h70 | exact h71 | exact h73 | exact h74 | exact h75 | exact h76) (by first | rfl | exact h52 | exact h54 | exact h57 | exact h59 | exact h60 | exact h62 | exact h63 | exact h65 | exact h66 | exact h67 | exact h68 | exact h70 | exact h71 | exact h73 | exact h74 | exact h75 | exact h76) (by first | rfl | exact h52 | exact h54 | exact h57 | exact h59 | exact h60 | exact h62 | exact h63 | exact h65 | exact h66 | exact h67 | exact h68 | exact h70 | exact h71 | exact h73 | exact h74 | exact h75 | exact h76) (by first | rfl | exact h52 | exact h54 | exact h57 | exact h59 | exact h60 | exact h62 | exact h63 | exact h65 | exact h66 | exact h67 | exact h68 | exact h70 | exact h71 | exact h73 | exact h74 | exact h75 | exact h76) (by first | rfl | exact h52 | exact h54 | exact h57 | exact h59 | exact h60 | exact h62 | exact h63 | exact h65 | exact h66 | exact h67 | exact h68 | exact h70 | exact h71 | exact h73 | exact h74 | exact h75 | exact h76) (by first | rfl | exact h52 | exact h54 | exact h57 | exact h59 | exact h60 | exact h62 | exact h63 | exact h65 | exact h66 | exact h67 | exact h68 | exact h70 | exact h71 | exact h73 | exact h74 | exact h75 | exact h76) (by first | rfl | exact h52 | exact h54 | exact h57 | exact h59 | exact h60 | exact h62 | exact h63 | exact h65 | exact h66 | exact h67 | exact h68 | exact h70 | exact h71 | exact h73 | exact h74 | exact h75 | exact h76) (by first | rfl | exact h52 | exact h54 | exact h57 | exact h59 | exact h60 | exact h62 | exact h63 | exact h65 | exact h66 | exact h67 | exact h68 | exact h70 | exact h71 | exact h73 | exact h74 | exact h75 | exact h76) (by first | rfl | exact h52 | exact h54 | exact h57 | exact h59 | exact h60 | exact h62 | exact h63 | exact h65 | exact h66 | exact h67 | exact h68 | exact h70 | exact h71 | exact h73 | exact h74 | exact h75 | exact h76)) ⟨callB_of 4 htx (xw_goodC kw_6_191) rfl rfl rfl (htx _ kw_1_5) (htx _ kw_6_188) ⟨by decide, by decide, by decide +kernel⟩ ⟨Nat.le_of_ble_eq_true rfl, Nat.le_of_ble_eq_true rfl⟩, (htx _ kw_6_189), (htx _ kw_6_190)⟩ ⟨xPre_blind, va_recv hK hP (ci := 5) rfl (q0 := 0) rfl, (fun U hU hW => ⟨rfl, xPre_of hZ hS hFc hPc hDc hK U hU hW⟩)⟩ rfl rfl hl.1 rfl (lv_room (Nat.le_of_ble_eq_true rfl)) dL_law_431 ⟨Nat.le_of_ble_eq_true rfl, Nat.le_of_ble_eq_true rfl⟩) hS (fun q _ h => hFc q h) hFc (fun u9 t H1 locs ht hvm hr9 hB hz1 hk1 hS => ?_)
  obtain ⟨q2, q3, hP1, hK1, hD1⟩ := hB
  rw [ht] at hP1
  obtain ⟨hP, hD⟩ := xjoin (W := [(a2, .inl (cT 2, 1, .inr (.inl f47))), (a0, .inr (0, [v12, v13, v14, .ref a4, v15, .ref a3, v16, .int 1])), (a3, .inr (2, [v48, .int 0, .int 0])), (a4, .inl (cT 3, 8, .inr (.inr (.inr (.inr f51))))), (a5, .inr (2, [.ref a6, .int 1, v55])), (a6, .inl (cT 2, 4096, .inr (.inl f56))), (a1, .inr (5, [.int 2, .ref a10, .int 2, v20, .int 0, v22, v23, .int 0, .int 1, .int 0, v27, v28, .int 0, v30, v31, .ref a11, .int 4, .int 4, .int 0, .int 100, v37, v38, .int 0, .int 1000000000, .ref a7, .ref a8, v41, v42, v43, v44, .int 1, v46])), (a7, .inl (cT 5, 8, .inr (.inr (.inr (.inr f58))))), (a8, .inl (cT 1, 8, .inl f61)), (a9, .inl (cT 0, 4096, .inl f64)), (a10, .inl (cT 4, 1024, .inr (.inr (.inr (.inr (va_up (va_up f69 0 (some q2)) 1 (some q3))))))), (a11, .inl (cT 0, 4096, .inl f72)), (q2, .inr (6, [.int 0, .long 0, .int 0, .int 0, .int 0, .int 1])), (q3, .inr (6, [.int 0, .long 0, .int 0, .int 0, .int 0, .int 1]))]) hP hD [0, 2, 3, 4, 5, 6] [1, 7, 8, 9, 10, 11] 6 rfl rfl (by decide) (by decide) hk1 hFc hP1 hD1
  generalize H1 = H at hP hS ⊢
  refine lv_aload_n hx hb dL_law_434 rfl (lv_at hl 3 rfl) ?_
  obtain ⟨hPc, hDc, hFc⟩ := xcut (wc := [(a1, .inr (5, [.int 2, .ref a10, .int 2, v20, .int 0, v22, v23, .int 0, .int 1, .int 0, v27, v28, .int 0, v30, v31, .ref a11, .int 4, .int 4, .int 0, .int 100, v37, v38, .int 0, .int 1000000000, .ref a7, .ref a8, v41, v42, v43, v44, .int 1, v46]))]) hP hD hS hA [6] rfl rfl (by decide)
  refine va_calli (va_runV (C := "ValueBenchModel") (As := []) (rest := []) ⟨hx, hb, hml, hown, htx⟩ (cM_thrown_2 l hl9 D cT aK aV H.size a1 (.ref a10) (.int 2) v20 (.int 0) v22 v23 (.int 0) (.int 1) (.int 0) v27 v28 (.int 0) v30 v31 (.ref a11) (.int 4) (.int 4) (.int 0) (.int 100) v37 v38 (.int 0) (.int 1000000000) (.ref a7) (.ref a8) v41 v42 v43 v44 (.int 1) v46) ⟨callB_of 0 htx (xw_goodC kw_5_187) rfl rfl rfl (htx _ kw_1_5) (htx _ kw_5_184) ⟨by decide, by decide, by decide +kernel⟩ ⟨Nat.le_of_ble_eq_true rfl, Nat.le_of_ble_eq_true rfl⟩, (htx _ kw_5_185), (htx _ kw_5_186)⟩ ⟨xPre_blind, va_recv hK hP (ci := 5) rfl (q0 := 6) rfl, (fun U hU hW => ⟨rfl, xPre_of hZ hS hFc hPc hDc hK U hU hW⟩)⟩ rfl rfl hl.1 rfl (lv_room (Nat.le_of_ble_eq_true rfl)) dL_law_435 ⟨Nat.le_of_ble_eq_true rfl, Nat.le_of_ble_eq_true rfl⟩) hS (fun q _ h => hFc q h) hFc (fun r4 u9 t H1 locs ht hvm hr9 hB hz1 hk1 hS => ?_)
  obtain ⟨hP1, hK1, hD1⟩ := hB
  rw [ht] at hP1
  obtain ⟨hP, hD⟩ := xjoin (W := [(a2, .inl (cT 2, 1, .inr (.inl f47))), (a0, .inr (0, [v12, v13, v14, .ref a4, v15, .ref a3, v16, .int 1])), (a3, .inr (2, [v48, .int 0, .int 0])), (a4, .inl (cT 3, 8, .inr (.inr (.inr (.inr f51))))), (a5, .inr (2, [.ref a6, .int 1, v55])), (a6, .inl (cT 2, 4096, .inr (.inl f56))), (a7, .inl (cT 5, 8, .inr (.inr (.inr (.inr f58))))), (a8, .inl (cT 1, 8, .inl f61)), (a9, .inl (cT 0, 4096, .inl f64)), (a10, .inl (cT 4, 1024, .inr (.inr (.inr (.inr (va_up (va_up f69 0 (some q2)) 1 (some q3))))))), (a11, .inl (cT 0, 4096, .inl f72)), (q2, .inr (6, [.int 0, .long 0, .int 0, .int 0, .int 0, .int 1])), (q3, .inr (6, [.int 0, .long 0, .int 0, .int 0, .int 0, .int 1])), (a1, .inr (5, [.int 2, .ref a10, .int 2, v20, .int 0, v22, v23, .int 0, .int 1, .int 0, v27, v28, .int 0, v30, v31, .ref a11, .int 4, .int 4, .int 0, .int 100, v37, v38, .int 0, .int 1000000000, .ref a7, .ref a8, v41, v42, v43, v44, .int 1, v46]))]) hP hD [6] [0, 1, 2, 3, 4, 5, 7, 8, 9, 10, 11, 12, 13] 13 rfl rfl (by decide) (by decide) hk1 hFc hP1 hD1
  generalize H1 = H at hP hS ⊢
  rw [hr9]
  refine W.eq (g2 := F0 m 438 ls [.int 2]) rfl ?_
  refine lv_iload hx hb dL_law_438 (lv_at hl 0 rfl) ?_
  refine lv_icmp_eq (tgt := 445) hx hb dL_law_440 (by decide) (fun _ => ?_) (fun h => ((by revert h; decide : False)).elim)
  refine lv_goto (tgt := 906) hx hb dL_law_445 (by decide) ?_
  refine lv_iinc (v := 6) (lv' := [(4, .int 6), (5, .int 2), (3, .ref a2), (2, .ref a1), (1, .ref a0), (0, .ref b)]) hx hb dL_law_906 hl (k := 1) rfl (by decide) (by decide) rfl (fun ls hl => ?_)
  refine lv_goto (tgt := 23) hx hb dL_law_909 (by decide) ?_
  refine lv_iload hx hb dL_law_23 (lv_at hl 0 rfl) ?_
  refine lv_aload_n hx hb dL_law_25 rfl (lv_at hl 5 rfl) ?_
  refine va_slen hx hb hXs hbl hbA hS dL_law_26 ?_
  refine W.eq (g2 := F0 m 27 ls [.int 6, .int 6]) rfl ?_
  refine lv_bipush (v := 6) hx hb dL_law_27 (by decide) ?_
  refine lv_isub hx hb dL_law_29 ?_
  refine W.eq (g2 := F0 m 30 ls [.int 0, .int 6]) rfl ?_
  refine lv_icmp_gt (tgt := 912) hx hb dL_law_30 (by decide) (fun _ => ?_) (fun h => ((by revert h; decide : False)).elim)
  refine lv_iconst (v := 1) hx hb dL_law_912 (by decide) ?_
  exact va_forget (fun q h => hA2 _ (hS.2.2 q h)) (W.widen (k := 600002) (n := 7302232) (Nat.le_of_ble_eq_true rfl) (Nat.le_of_ble_eq_true rfl) (lw_ret hx hb hr hlocks dL_law_913))
set_option maxHeartbeats 400000000 in
set_option maxRecDepth 100000 in
theorem lf_binary2_p3 {p : Program} {e : Env} {s : State} {m : MethodId} {below : List Frame} {meth : Method} {c : Code} (l : Launch) (hl9 : l.stackTraces = false) (D : va_G) (cT : Nat → ClassId) (aK aV : Nat → Nat) {A : Nat → Prop} {b : Nat} {xs : Nat → Int32} (C : xLw p s m meth c b D cT aK aV A) {H : Heap} {locs : List Loc} {ls : Array Slot} (a0 : Nat) (a1 : Nat) (a2 : Nat) (a3 : Nat) (a4 : Nat) (a5 : Nat) (a6 : Nat) (a7 : Nat) (a8 : Nat) (a9 : Nat) (a10 : Nat) (a11 : Nat) (v12 : Value) (v13 : Value) (v14 : Value) (v15 : Value) (v16 : Value) (v17 : Value) (v18 : Value) (v19 : Value) (v20 : Value) (v21 : Value) (v22 : Value) (v23 : Value) (v24 : Value) (v25 : Value) (v26 : Value) (v27 : Value) (v28 : Value) (v29 : Value) (v30 : Value) (v31 : Value) (v32 : Value) (v33 : Value) (v34 : Value) (v35 : Value) (v36 : Value) (v37 : Value) (v38 : Value) (v39 : Value) (v40 : Value) (v41 : Value) (v42 : Value) (v43 : Value) (v44 : Value) (v45 : Value) (v46 : Value) (f47 : Nat → Int64) (v48 : Value) (v49 : Value) (v50 : Value) (f51 : Nat → Option Nat) (b53 : Nat) (v55 : Value) (f56 : Nat → Int64) (f58 : Nat → Option Nat) (f61 : Nat → Int32) (f64 : Nat → Int32) (f69 : Nat → Option Nat) (f72 : Nat → Int32) (h52 : f51 (xs 3).toNatClampNeg = some a5) (h54 : f51 (xs 4).toNatClampNeg = some b53) (h57 : f56 0 = 0) (h59 : f58 (xs 3).toNatClampNeg = some a9) (h60 : f58 (xs 4).toNatClampNeg = some a11) (h62 : f61 (xs 3).toNatClampNeg = 4) (h63 : f61 (xs 4).toNatClampNeg = 4) (h65 : f64 0 = 110) (h66 : f64 1 = 117) (h67 : f64 2 = 108) (h68 : f64 3 = 108) (h70 : f69 0 = none) (h71 : f69 1 = none) (h73 : f72 0 = 110) (h74 : f72 1 = 117) (h75 : f72 2 = 108) (h76 : f72 3 = 108) (hto1 : ¬ (xs 1) < 0) (hto2 : ¬ 7 < (xs 1)) (hto3 : (xs 1) ≤ 7) (hto4 : vp_in (xs 1) 8) (hf : xs 2 = 2) (ha1 : ¬ (xs 3) < 0) (ha2 : ¬ 7 < (xs 3)) (ha3 : (xs 3) ≤ 7) (ha4 : vp_in (xs 3) 8) (hb1 : ¬ (xs 4) < 0) (hb2 : ¬ 7 < (xs 4)) (hb3 : (xs 4) ≤ 7) (hb4 : vp_in (xs 4) 8) (hXs : va_X b 6 xs s s.heap) (hP : va_P D xcl [(a0, .inr (0, [v12, v13, v14, .ref a4, v15, .ref a3, v16, v17])), (a1, .inr (5, [v18, .ref a10, v19, v20, v21, v22, v23, v24, v25, v26, v27, v28, v29, v30, v31, v32, v33, v34, v35, v36, v37, v38, v39, v40, .ref a7, .ref a8, v41, v42, v43, v44, v45, v46])), (a2, .inl (cT 2, 1, .inr (.inl f47))), (a3, .inr (2, [v48, v49, v50])), (a4, .inl (cT 3, 8, .inr (.inr (.inr (.inr f51))))), (a5, .inr (2, [.ref a6, .int 1, v55])), (a6, .inl (cT 2, 4096, .inr (.inl f56))), (a7, .inl (cT 5, 8, .inr (.inr (.inr (.inr f58))))), (a8, .inl (cT 1, 8, .inl f61)), (a9, .inl (cT 0, 4096, .inl f64)), (a10, .inl (cT 4, 1024, .inr (.inr (.inr (.inr f69))))), (a11, .inl (cT 0, 4096, .inl f72))] H) (hD : va_D A [(a0, .inr (0, [v12, v13, v14, .ref a4, v15, .ref a3, v16, v17])), (a1, .inr (5, [v18, .ref a10, v19, v20, v21, v22, v23, v24, v25, v26, v27, v28, v29, v30, v31, v32, v33, v34, v35, v36, v37, v38, v39, v40, .ref a7, .ref a8, v41, v42, v43, v44, v45, v46])), (a2, .inl (cT 2, 1, .inr (.inl f47))), (a3, .inr (2, [v48, v49, v50])), (a4, .inl (cT 3, 8, .inr (.inr (.inr (.inr f51))))), (a5, .inr (2, [.ref a6, .int 1, v55])), (a6, .inl (cT 2, 4096, .inr (.inl f56))), (a7, .inl (cT 5, 8, .inr (.inr (.inr (.inr f58))))), (a8, .inl (cT 1, 8, .inl f61)), (a9, .inl (cT 0, 4096, .inl f64)), (a10, .inl (cT 4, 1024, .inr (.inr (.inr (.inr f69))))), (a11, .inl (cT 0, 4096, .inl f72))]) (hS : va_S A s.heap H locs) (hl : lv_has ls 8 [(4, .int 0), (3, .ref a2), (2, .ref a1), (1, .ref a0), (0, .ref b)]) : W p l e room_1 s m #[Value.ref b] below meth c H locs 54 107242 (lw_Z below #[Value.ref b] s) (F0 m 376 ls []) := by
  obtain ⟨hx, hb, hr, hml, hown, htx, hbl, hbA, hlocks, hK, hZ, hA, hA2⟩ := C
  refine lv_aload_n hx hb dL_law_376 rfl (lv_at hl 3 rfl) ?_
  refine lv_aload_n hx hb dL_law_377 rfl (lv_at hl 4 rfl) ?_
  refine lv_iload hx hb dL_law_378 (lv_at hl 0 rfl) ?_
  refine lv_iconst (v := 1) hx hb dL_law_380 (by decide) ?_
  refine lv_iadd hx hb dL_law_381 ?_
  refine W.eq (g2 := F0 m 382 ls [.int 1, .ref b, .ref a0]) rfl ?_
  refine va_sld hx hb hXs hbl hbA hS (i := 1) (show ¬ ((1 : Int32) < 0 ∨ 6 ≤ (1 : Int32).toNatClampNeg) by decide) dL_law_382 ?_
  refine W.eq (g2 := F0 m 383 ls [.int (xs 1), .ref a0]) rfl ?_
  refine lv_aload_n hx hb dL_law_383 rfl (lv_at hl 4 rfl) ?_
  refine lv_iload hx hb dL_law_384 (lv_at hl 0 rfl) ?_
  refine lv_iconst (v := 2) hx hb dL_law_386 (by decide) ?_
  refine lv_iadd hx hb dL_law_387 ?_
  refine W.eq (g2 := F0 m 388 ls [.int 2, .ref b, .int (xs 1), .ref a0]) rfl ?_
  refine va_sld hx hb hXs hbl hbA hS (i := 2) (show ¬ ((2 : Int32) < 0 ∨ 6 ≤ (2 : Int32).toNatClampNeg) by decide) dL_law_388 ?_
  refine W.eq (g2 := F0 m 389 ls [.int (xs 2), .int (xs 1), .ref a0]) rfl ?_
  rw [hf]
  refine W.eq (g2 := F0 m 389 ls [.int 2, .int (xs 1), .ref a0]) rfl ?_
  refine lv_aload_n hx hb dL_law_389 rfl (lv_at hl 4 rfl) ?_
  refine lv_iload hx hb dL_law_390 (lv_at hl 0 rfl) ?_
  refine lv_iconst (v := 3) hx hb dL_law_392 (by decide) ?_
  refine lv_iadd hx hb dL_law_393 ?_
  refine W.eq (g2 := F0 m 394 ls [.int 3, .ref b, .int 2, .int (xs 1), .ref a0]) rfl ?_
  refine va_sld hx hb hXs hbl hbA hS (i := 3) (show ¬ ((3 : Int32) < 0 ∨ 6 ≤ (3 : Int32).toNatClampNeg) by decide) dL_law_394 ?_
  refine W.eq (g2 := F0 m 395 ls [.int (xs 3), .int 2, .int (xs 1), .ref a0]) rfl ?_
  refine lv_aload_n hx hb dL_law_395 rfl (lv_at hl 4 rfl) ?_
  refine lv_iload hx hb dL_law_396 (lv_at hl 0 rfl) ?_
  refine lv_iconst (v := 4) hx hb dL_law_398 (by decide) ?_
  refine lv_iadd hx hb dL_law_399 ?_
  refine W.eq (g2 := F0 m 400 ls [.int 4, .ref b, .int (xs 3), .int 2, .int (xs 1), .ref a0]) rfl ?_
  refine va_sld hx hb hXs hbl hbA hS (i := 4) (show ¬ ((4 : Int32) < 0 ∨ 6 ≤ (4 : Int32).toNatClampNeg) by decide) dL_law_400 ?_
  refine W.eq (g2 := F0 m 401 ls [.int (xs 4), .int (xs 3), .int 2, .int (xs 1), .ref a0]) rfl ?_
  obtain ⟨hPc, hDc, hFc⟩ := xcut (wc := [(a0, .inr (0, [v12, v13, v14, .ref a4, v15, .ref a3, v16, v17])), (a3, .inr (2, [v48, v49, v50])), (a4, .inl (cT 3, 8, .inr (.inr (.inr (.inr f51))))), (a5, .inr (2, [.ref a6, .int 1, v55])), (a6, .inl (cT 2, 4096, .inr (.inl f56)))]) hP hD hS hA [0, 3, 4, 5, 6] rfl rfl (by decide)
  refine va_calli (vx_runSW (As := [.ref a0, .int (xs 1), .int 2, .int (xs 3), .int (xs 4)]) (rest := []) ⟨hx, hb, hml, hown, htx⟩ (cL_binary_13 l hl9 D cT aK aV H.size a0 a3 a4 a5 a6 (xs 1) (xs 3) (xs 4) v12 v13 v14 v15 v16 v17 v48 v49 v50 f51 b53 v55 f56 hto1 hto2 hto3 hto4 ha1 ha2 ha3 ha4 hb1 hb2 hb3 hb4 (by first | rfl | exact h52 | exact h54 | exact h57 | exact h59 | exact h60 | exact h62 | exact h63 | exact h65 | exact h66 | exact h67 | exact h68 | exact h70 | exact h71 | exact h73 | exact h74 | exact h75 | exact h76) (by first | rfl | exact h52 | exact h54 | exact h57 | exact h59 | exact h60 | exact h62 | exact h63 | exact h65 | exact h66 | exact h67 | exact h68 | exact h70 | exact h71 | exact h73 | exact h74 | exact h75 | exact h76) (by first | rfl | exact h52 | exact h54 | exact h57 | exact h59 | exact h60 | exact h62 | exact h63 | exact h65 | exact h66 | exact h67 | exact h68 | exact h70 | exact h71 | exact h73 | exact h74 | exact h75 | exact h76)) (xcSW 5 htx (xw_goodC kw_3_97) rfl rfl rfl (htx _ kw_1_0) (htx _ kw_3_95) ⟨by decide, by decide, by decide +kernel⟩ ⟨Nat.le_of_ble_eq_true rfl, Nat.le_of_ble_eq_true rfl⟩ (htx _ kw_3_96)) ⟨xPre_blind, (fun U hU hW => ⟨rfl, xPre_of hZ hS hFc hPc hDc hK U hU hW⟩)⟩ rfl rfl hl.1 rfl (lv_room (Nat.le_of_ble_eq_true rfl)) dL_law_401 ⟨Nat.le_of_ble_eq_true rfl, Nat.le_of_ble_eq_true rfl⟩) hS (fun q _ h => hFc q h) hFc (fun r1 u9 t H1 locs ht hvm hr9 hB hz1 hk1 hS => ?_)
  obtain ⟨hP1, hK1, hD1⟩ := hB
  rw [ht] at hP1
  obtain ⟨hP, hD⟩ := xjoin (W := [(a1, .inr (5, [v18, .ref a10, v19, v20, v21, v22, v23, v24, v25, v26, v27, v28, v29, v30, v31, v32, v33, v34, v35, v36, v37, v38, v39, v40, .ref a7, .ref a8, v41, v42, v43, v44, v45, v46])), (a2, .inl (cT 2, 1, .inr (.inl f47))), (a7, .inl (cT 5, 8, .inr (.inr (.inr (.inr f58))))), (a8, .inl (cT 1, 8, .inl f61)), (a9, .inl (cT 0, 4096, .inl f64)), (a10, .inl (cT 4, 1024, .inr (.inr (.inr (.inr f69))))), (a11, .inl (cT 0, 4096, .inl f72)), (a0, .inr (0, [v12, v13, v14, .ref a4, v15, .ref a3, v16, .int 1])), (a3, .inr (2, [v48, .int 0, .int 0])), (a4, .inl (cT 3, 8, .inr (.inr (.inr (.inr f51))))), (a5, .inr (2, [.ref a6, .int 1, v55])), (a6, .inl (cT 2, 4096, .inr (.inl f56)))]) hP hD [0, 3, 4, 5, 6] [1, 2, 7, 8, 9, 10, 11] 7 rfl rfl (by decide) (by decide) hk1 hFc hP1 hD1
  generalize H1 = H at hP hS ⊢
  rw [hr9]
  refine W.eq (g2 := F0 m 404 ls [.int 2]) rfl ?_
  refine lv_istore (lv' := [(5, .int 2), (4, .int 0), (3, .ref a2), (2, .ref a1), (1, .ref a0), (0, .ref b)]) hx hb dL_law_404 hl (by decide) rfl (fun ls hl => ?_)
  refine lv_aload_n hx hb dL_law_406 rfl (lv_at hl 3 rfl) ?_
  refine lv_aload_n hx hb dL_law_407 rfl (lv_at hl 5 rfl) ?_
  refine lv_iload hx hb dL_law_408 (lv_at hl 1 rfl) ?_
  refine lv_iconst (v := 1) hx hb dL_law_410 (by decide) ?_
  refine lv_iadd hx hb dL_law_411 ?_
  refine W.eq (g2 := F0 m 412 ls [.int 1, .ref b, .ref a1]) rfl ?_
  refine va_sld hx hb hXs hbl hbA hS (i := 1) (show ¬ ((1 : Int32) < 0 ∨ 6 ≤ (1 : Int32).toNatClampNeg) by decide) dL_law_412 ?_
  refine W.eq (g2 := F0 m 413 ls [.int (xs 1), .ref a1]) rfl ?_
  refine lv_aload_n hx hb dL_law_413 rfl (lv_at hl 5 rfl) ?_
  refine lv_iload hx hb dL_law_414 (lv_at hl 1 rfl) ?_
  refine lv_iconst (v := 2) hx hb dL_law_416 (by decide) ?_
  refine lv_iadd hx hb dL_law_417 ?_
  refine W.eq (g2 := F0 m 418 ls [.int 2, .ref b, .int (xs 1), .ref a1]) rfl ?_
  refine va_sld hx hb hXs hbl hbA hS (i := 2) (show ¬ ((2 : Int32) < 0 ∨ 6 ≤ (2 : Int32).toNatClampNeg) by decide) dL_law_418 ?_
  refine W.eq (g2 := F0 m 419 ls [.int (xs 2), .int (xs 1), .ref a1]) rfl ?_
  rw [hf]
  refine W.eq (g2 := F0 m 419 ls [.int 2, .int (xs 1), .ref a1]) rfl ?_
  refine lv_aload_n hx hb dL_law_419 rfl (lv_at hl 5 rfl) ?_
  refine lv_iload hx hb dL_law_420 (lv_at hl 1 rfl) ?_
  refine lv_iconst (v := 3) hx hb dL_law_422 (by decide) ?_
  refine lv_iadd hx hb dL_law_423 ?_
  refine W.eq (g2 := F0 m 424 ls [.int 3, .ref b, .int 2, .int (xs 1), .ref a1]) rfl ?_
  refine va_sld hx hb hXs hbl hbA hS (i := 3) (show ¬ ((3 : Int32) < 0 ∨ 6 ≤ (3 : Int32).toNatClampNeg) by decide) dL_law_424 ?_
  refine W.eq (g2 := F0 m 425 ls [.int (xs 3), .int 2, .int (xs 1), .ref a1]) rfl ?_
  refine lv_aload_n hx hb dL_law_425 rfl (lv_at hl 5 rfl) ?_
  refine lv_iload hx hb dL_law_426 (lv_at hl 1 rfl) ?_
  refine lv_iconst (v := 4) hx hb dL_law_428 (by decide) ?_
  refine lv_iadd hx hb dL_law_429 ?_
  refine W.eq (g2 := F0 m 430 ls [.int 4, .ref b, .int (xs 3), .int 2, .int (xs 1), .ref a1]) rfl ?_
  refine va_sld hx hb hXs hbl hbA hS (i := 4) (show ¬ ((4 : Int32) < 0 ∨ 6 ≤ (4 : Int32).toNatClampNeg) by decide) dL_law_430 ?_
  refine W.eq (g2 := F0 m 431 ls [.int (xs 4), .int (xs 3), .int 2, .int (xs 1), .ref a1]) rfl ?_
  obtain ⟨hPc, hDc, hFc⟩ := xcut (wc := [(a1, .inr (5, [v18, .ref a10, v19, v20, v21, v22, v23, v24, v25, v26, v27, v28, v29, v30, v31, v32, v33, v34, v35, v36, v37, v38, v39, v40, .ref a7, .ref a8, v41, v42, v43, v44, v45, v46])), (a7, .inl (cT 5, 8, .inr (.inr (.inr (.inr f58))))), (a8, .inl (cT 1, 8, .inl f61)), (a9, .inl (cT 0, 4096, .inl f64)), (a10, .inl (cT 4, 1024, .inr (.inr (.inr (.inr f69))))), (a11, .inl (cT 0, 4096, .inl f72))]) hP hD hS hA [0, 2, 3, 4, 5, 6] rfl rfl (by decide)
  refine va_callv (va_runV (C := "ValueBenchModel") (As := [.int (xs 1), .int 2, .int (xs 3), .int (xs 4)]) (rest := []) ⟨hx, hb, hml, hown, htx⟩ (cM_binary0_16 l hl9 D cT aK aV H.size a1 a7 a8 a9 a10 a11 (xs 1) (xs 3) (xs 4) v18 v19 v20 v21 v22 v23 v24 v25 v26 v27 v28 v29 v30 v31 v32 v33 v34 v35 v36 v37 v38 v39 v40 v41 v42 v43 v44 v45 v46 f58 f61 f64 f69 f72 hto1 hto2 hto3 hto4 ha1 ha2 ha3 ha4 hb1 hb2 hb3 hb4 (by first | rfl | exact h52 | exact h54 | exact h57 | exact h59 | exact h60 | exact h62 | exact h63 | exact h65 | exact h66 | exact h67 | exact h68 | exact h70 | exact h71 | exact h73 | exact h74 | exact h75 | exact h76) (by first | rfl | exact h52 | exact h54 | exact h57 | exact h59 | exact h60 | exact h62 | exact h63 | exact h65 | exact h66 | exact h67 | exact h68 | exact h70 | exact h71 | exact h73 | exact h74 | exact h75 | exact h76) (by first | rfl | exact h52 | exact h54 | exact h57 | exact h59 | exact h60 | exact h62 | exact h63 | exact h65 | exact h66 | exact h67 | exact h68 | exact h70 | exact h71 | exact h73 | exact h74 | exact h75 | exact h76) (by first | rfl | exact h52 | exact h54 | exact h57 | exact h59 | exact h60 | exact h62 | exact h63 | exact h65 | exact h66 | exact h67 | exact h68 | exact h70 | exact h71 | exact h73 | exact h74 | exact h75 | exact h76) (by first | rfl | exact h52 | exact h54 | exact h57 | exact h59 | exact h60 | exact h62 | exact h63 | exact h65 | exact h66 | exact h67 | exact h68 | exact h70 | exact h71 | exact h73 | exact h74 | exact h75 | exact h76) (by first | rfl | exact h52 | exact h54 | exact h57 | exact h59 | exact h60 | exact h62 | exact h63 | exact h65 | exact h66 | exact h67 | exact h68 | exact h70 | exact h71 | exact h73 | exact h74 | exact h75 | exact h76) (by first | rfl | exact h52 | exact h54 | exact h57 | exact h59 | exact h60 | exact h62 | exact h63 | exact h65 | exact h66 | exact h67 | exact h68 | exact h70 | exact h71 | exact h73 | exact h74 | exact h75 | exact h76) (by first | rfl | exact h52 | exact h54 | exact h57 | exact h59 | exact h60 | exact h62 | exact h63 | exact h65 | exact h66 | exact h67 | exact h68 | exact h70 | exact h71 | exact h73 | exact h74 | exact h75 | exact h76) (by first | rfl | exact h52 | exact h54 | exact h57 | exact h59 | exact h60 | exact h62 | exact h63 | exact h65 | exact h66 | exact h67 | exact h68 | exact h70 | exact h71 | exact h73 | exact h74 | exact h75 | exact h76) (by first | rfl | exact h52 | exact h54 | exact h57 | exact h59 | exact h60 | exact h62 | exact h63 | exact h65 | exact h66 | exact h67 | exact h68 | exact h70 | exact h71 | exact h73 | exact h74 | exact h75 | exact h76) (by first | rfl | exact h52 | exact h54 | exact h57 | exact h59 | exact h60 | exact h62 | exact h63 | exact h65 | exact h66 | exact h67 | exact h68 | exact h70 | exact h71 | exact h73 | exact h74 | exact h75 | exact h76) (by first | rfl | exact h52 | exact h54 | exact h57 | exact h59 | exact h60 | exact h62 | exact h63 | exact h65 | exact h66 | exact h67 | exact h68 | exact h70 | exact h71 | exact h73 | exact h74 | exact h75 | exact h76) (by first | rfl | exact h52 | exact h54 | exact h57 | exact h59 | exact h60 | exact h62 | exact h63 | exact h65 | exact h66 | exact h67 | exact h68 | exact h70 | exact h71 | exact h73 | exact h74 | exact h75 | exact h76) (by first | rfl | exact h52 | exact h54 | exact h57 | exact h59 | exact h60 | exact h62 | exact h63 | exact h65 | exact h66 | exact h67 | exact h68 | exact h70 | exact h71 | exact h73 | exact h74 | exact h75 | exact h76)) ⟨callB_of 4 htx (xw_goodC kw_6_191) rfl rfl rfl (htx _ kw_1_5) (htx _ kw_6_188) ⟨by decide, by decide, by decide +kernel⟩ ⟨Nat.le_of_ble_eq_true rfl, Nat.le_of_ble_eq_true rfl⟩, (htx _ kw_6_189), (htx _ kw_6_190)⟩ ⟨xPre_blind, va_recv hK hP (ci := 5) rfl (q0 := 0) rfl, (fun U hU hW => ⟨rfl, xPre_of hZ hS hFc hPc hDc hK U hU hW⟩)⟩ rfl rfl hl.1 rfl (lv_room (Nat.le_of_ble_eq_true rfl)) dL_law_431 ⟨Nat.le_of_ble_eq_true rfl, Nat.le_of_ble_eq_true rfl⟩) hS (fun q _ h => hFc q h) hFc (fun u9 t H1 locs ht hvm hr9 hB hz1 hk1 hS => ?_)
  obtain ⟨q2, q3, hP1, hK1, hD1⟩ := hB
  rw [ht] at hP1
  obtain ⟨hP, hD⟩ := xjoin (W := [(a2, .inl (cT 2, 1, .inr (.inl f47))), (a0, .inr (0, [v12, v13, v14, .ref a4, v15, .ref a3, v16, .int 1])), (a3, .inr (2, [v48, .int 0, .int 0])), (a4, .inl (cT 3, 8, .inr (.inr (.inr (.inr f51))))), (a5, .inr (2, [.ref a6, .int 1, v55])), (a6, .inl (cT 2, 4096, .inr (.inl f56))), (a1, .inr (5, [.int 2, .ref a10, .int 2, v20, .int 0, v22, v23, .int 0, .int 1, .int 0, v27, v28, .int 0, v30, v31, .ref a11, .int 4, .int 4, .int 0, .int 100, v37, v38, .int 0, .int 1000000000, .ref a7, .ref a8, v41, v42, v43, v44, .int 1, v46])), (a7, .inl (cT 5, 8, .inr (.inr (.inr (.inr f58))))), (a8, .inl (cT 1, 8, .inl f61)), (a9, .inl (cT 0, 4096, .inl f64)), (a10, .inl (cT 4, 1024, .inr (.inr (.inr (.inr (va_up (va_up f69 0 (some q2)) 1 (some q3))))))), (a11, .inl (cT 0, 4096, .inl f72)), (q2, .inr (6, [.int 0, .long 0, .int 0, .int 0, .int 0, .int 1])), (q3, .inr (6, [.int 0, .long 0, .int 0, .int 0, .int 0, .int 1]))]) hP hD [0, 2, 3, 4, 5, 6] [1, 7, 8, 9, 10, 11] 6 rfl rfl (by decide) (by decide) hk1 hFc hP1 hD1
  generalize H1 = H at hP hS ⊢
  refine lv_aload_n hx hb dL_law_434 rfl (lv_at hl 3 rfl) ?_
  obtain ⟨hPc, hDc, hFc⟩ := xcut (wc := [(a1, .inr (5, [.int 2, .ref a10, .int 2, v20, .int 0, v22, v23, .int 0, .int 1, .int 0, v27, v28, .int 0, v30, v31, .ref a11, .int 4, .int 4, .int 0, .int 100, v37, v38, .int 0, .int 1000000000, .ref a7, .ref a8, v41, v42, v43, v44, .int 1, v46]))]) hP hD hS hA [6] rfl rfl (by decide)
  refine va_calli (va_runV (C := "ValueBenchModel") (As := []) (rest := []) ⟨hx, hb, hml, hown, htx⟩ (cM_thrown_2 l hl9 D cT aK aV H.size a1 (.ref a10) (.int 2) v20 (.int 0) v22 v23 (.int 0) (.int 1) (.int 0) v27 v28 (.int 0) v30 v31 (.ref a11) (.int 4) (.int 4) (.int 0) (.int 100) v37 v38 (.int 0) (.int 1000000000) (.ref a7) (.ref a8) v41 v42 v43 v44 (.int 1) v46) ⟨callB_of 0 htx (xw_goodC kw_5_187) rfl rfl rfl (htx _ kw_1_5) (htx _ kw_5_184) ⟨by decide, by decide, by decide +kernel⟩ ⟨Nat.le_of_ble_eq_true rfl, Nat.le_of_ble_eq_true rfl⟩, (htx _ kw_5_185), (htx _ kw_5_186)⟩ ⟨xPre_blind, va_recv hK hP (ci := 5) rfl (q0 := 6) rfl, (fun U hU hW => ⟨rfl, xPre_of hZ hS hFc hPc hDc hK U hU hW⟩)⟩ rfl rfl hl.1 rfl (lv_room (Nat.le_of_ble_eq_true rfl)) dL_law_435 ⟨Nat.le_of_ble_eq_true rfl, Nat.le_of_ble_eq_true rfl⟩) hS (fun q _ h => hFc q h) hFc (fun r4 u9 t H1 locs ht hvm hr9 hB hz1 hk1 hS => ?_)
  obtain ⟨hP1, hK1, hD1⟩ := hB
  rw [ht] at hP1
  obtain ⟨hP, hD⟩ := xjoin (W := [(a2, .inl (cT 2, 1, .inr (.inl f47))), (a0, .inr (0, [v12, v13, v14, .ref a4, v15, .ref a3, v16, .int 1])), (a3, .inr (2, [v48, .int 0, .int 0])), (a4, .inl (cT 3, 8, .inr (.inr (.inr (.inr f51))))), (a5, .inr (2, [.ref a6, .int 1, v55])), (a6, .inl (cT 2, 4096, .inr (.inl f56))), (a7, .inl (cT 5, 8, .inr (.inr (.inr (.inr f58))))), (a8, .inl (cT 1, 8, .inl f61)), (a9, .inl (cT 0, 4096, .inl f64)), (a10, .inl (cT 4, 1024, .inr (.inr (.inr (.inr (va_up (va_up f69 0 (some q2)) 1 (some q3))))))), (a11, .inl (cT 0, 4096, .inl f72)), (q2, .inr (6, [.int 0, .long 0, .int 0, .int 0, .int 0, .int 1])), (q3, .inr (6, [.int 0, .long 0, .int 0, .int 0, .int 0, .int 1])), (a1, .inr (5, [.int 2, .ref a10, .int 2, v20, .int 0, v22, v23, .int 0, .int 1, .int 0, v27, v28, .int 0, v30, v31, .ref a11, .int 4, .int 4, .int 0, .int 100, v37, v38, .int 0, .int 1000000000, .ref a7, .ref a8, v41, v42, v43, v44, .int 1, v46]))]) hP hD [6] [0, 1, 2, 3, 4, 5, 7, 8, 9, 10, 11, 12, 13] 13 rfl rfl (by decide) (by decide) hk1 hFc hP1 hD1
  generalize H1 = H at hP hS ⊢
  rw [hr9]
  refine W.eq (g2 := F0 m 438 ls [.int 2]) rfl ?_
  refine lv_iload hx hb dL_law_438 (lv_at hl 0 rfl) ?_
  refine lv_icmp_eq (tgt := 445) hx hb dL_law_440 (by decide) (fun _ => ?_) (fun h => ((by revert h; decide : False)).elim)
  refine lv_goto (tgt := 906) hx hb dL_law_445 (by decide) ?_
  refine lv_iinc (v := 6) (lv' := [(4, .int 6), (5, .int 2), (3, .ref a2), (2, .ref a1), (1, .ref a0), (0, .ref b)]) hx hb dL_law_906 hl (k := 1) rfl (by decide) (by decide) rfl (fun ls hl => ?_)
  refine lv_goto (tgt := 23) hx hb dL_law_909 (by decide) ?_
  refine lv_iload hx hb dL_law_23 (lv_at hl 0 rfl) ?_
  refine lv_aload_n hx hb dL_law_25 rfl (lv_at hl 5 rfl) ?_
  refine va_slen hx hb hXs hbl hbA hS dL_law_26 ?_
  refine W.eq (g2 := F0 m 27 ls [.int 6, .int 6]) rfl ?_
  refine lv_bipush (v := 6) hx hb dL_law_27 (by decide) ?_
  refine lv_isub hx hb dL_law_29 ?_
  refine W.eq (g2 := F0 m 30 ls [.int 0, .int 6]) rfl ?_
  refine lv_icmp_gt (tgt := 912) hx hb dL_law_30 (by decide) (fun _ => ?_) (fun h => ((by revert h; decide : False)).elim)
  refine lv_iconst (v := 1) hx hb dL_law_912 (by decide) ?_
  exact va_forget (fun q h => hA2 _ (hS.2.2 q h)) (W.widen (k := 600002) (n := 7302232) (Nat.le_of_ble_eq_true rfl) (Nat.le_of_ble_eq_true rfl) (lw_ret hx hb hr hlocks dL_law_913))
set_option maxHeartbeats 400000000 in
set_option maxRecDepth 100000 in
theorem lf_binary2_p0 {p : Program} {e : Env} {s : State} {m : MethodId} {below : List Frame} {meth : Method} {c : Code} (l : Launch) (hl9 : l.stackTraces = false) (D : va_G) (cT : Nat → ClassId) (aK aV : Nat → Nat) {A : Nat → Prop} {b : Nat} {xs : Nat → Int32} (C : xLw p s m meth c b D cT aK aV A) {H : Heap} {locs : List Loc} {ls : Array Slot} (a0 : Nat) (a1 : Nat) (a2 : Nat) (a3 : Nat) (a4 : Nat) (a5 : Nat) (a6 : Nat) (a7 : Nat) (a8 : Nat) (a9 : Nat) (a10 : Nat) (a11 : Nat) (v12 : Value) (v13 : Value) (v14 : Value) (v15 : Value) (v16 : Value) (v17 : Value) (v18 : Value) (v19 : Value) (v20 : Value) (v21 : Value) (v22 : Value) (v23 : Value) (v24 : Value) (v25 : Value) (v26 : Value) (v27 : Value) (v28 : Value) (v29 : Value) (v30 : Value) (v31 : Value) (v32 : Value) (v33 : Value) (v34 : Value) (v35 : Value) (v36 : Value) (v37 : Value) (v38 : Value) (v39 : Value) (v40 : Value) (v41 : Value) (v42 : Value) (v43 : Value) (v44 : Value) (v45 : Value) (v46 : Value) (f47 : Nat → Int64) (v48 : Value) (v49 : Value) (v50 : Value) (f51 : Nat → Option Nat) (b53 : Nat) (v55 : Value) (f56 : Nat → Int64) (f58 : Nat → Option Nat) (f61 : Nat → Int32) (f64 : Nat → Int32) (f69 : Nat → Option Nat) (f72 : Nat → Int32) (h52 : f51 (xs 3).toNatClampNeg = some a5) (h54 : f51 (xs 4).toNatClampNeg = some b53) (h57 : f56 0 = 0) (h59 : f58 (xs 3).toNatClampNeg = some a9) (h60 : f58 (xs 4).toNatClampNeg = some a11) (h62 : f61 (xs 3).toNatClampNeg = 4) (h63 : f61 (xs 4).toNatClampNeg = 4) (h65 : f64 0 = 110) (h66 : f64 1 = 117) (h67 : f64 2 = 108) (h68 : f64 3 = 108) (h70 : f69 0 = none) (h71 : f69 1 = none) (h73 : f72 0 = 110) (h74 : f72 1 = 117) (h75 : f72 2 = 108) (h76 : f72 3 = 108) (hto1 : ¬ (xs 1) < 0) (hto2 : ¬ 7 < (xs 1)) (hto3 : (xs 1) ≤ 7) (hto4 : vp_in (xs 1) 8) (hf : xs 2 = 2) (ha1 : ¬ (xs 3) < 0) (ha2 : ¬ 7 < (xs 3)) (ha3 : (xs 3) ≤ 7) (ha4 : vp_in (xs 3) 8) (hb1 : ¬ (xs 4) < 0) (hb2 : ¬ 7 < (xs 4)) (hb3 : (xs 4) ≤ 7) (hb4 : vp_in (xs 4) 8) (hXs : va_X b 6 xs s s.heap) (hP : va_P D xcl [(a0, .inr (0, [v12, v13, v14, .ref a4, v15, .ref a3, v16, v17])), (a1, .inr (5, [v18, .ref a10, v19, v20, v21, v22, v23, v24, v25, v26, v27, v28, v29, v30, v31, v32, v33, v34, v35, v36, v37, v38, v39, v40, .ref a7, .ref a8, v41, v42, v43, v44, v45, v46])), (a2, .inl (cT 2, 1, .inr (.inl f47))), (a3, .inr (2, [v48, v49, v50])), (a4, .inl (cT 3, 8, .inr (.inr (.inr (.inr f51))))), (a5, .inr (2, [.ref a6, .int 1, v55])), (a6, .inl (cT 2, 4096, .inr (.inl f56))), (a7, .inl (cT 5, 8, .inr (.inr (.inr (.inr f58))))), (a8, .inl (cT 1, 8, .inl f61)), (a9, .inl (cT 0, 4096, .inl f64)), (a10, .inl (cT 4, 1024, .inr (.inr (.inr (.inr f69))))), (a11, .inl (cT 0, 4096, .inl f72))] H) (hD : va_D A [(a0, .inr (0, [v12, v13, v14, .ref a4, v15, .ref a3, v16, v17])), (a1, .inr (5, [v18, .ref a10, v19, v20, v21, v22, v23, v24, v25, v26, v27, v28, v29, v30, v31, v32, v33, v34, v35, v36, v37, v38, v39, v40, .ref a7, .ref a8, v41, v42, v43, v44, v45, v46])), (a2, .inl (cT 2, 1, .inr (.inl f47))), (a3, .inr (2, [v48, v49, v50])), (a4, .inl (cT 3, 8, .inr (.inr (.inr (.inr f51))))), (a5, .inr (2, [.ref a6, .int 1, v55])), (a6, .inl (cT 2, 4096, .inr (.inl f56))), (a7, .inl (cT 5, 8, .inr (.inr (.inr (.inr f58))))), (a8, .inl (cT 1, 8, .inl f61)), (a9, .inl (cT 0, 4096, .inl f64)), (a10, .inl (cT 4, 1024, .inr (.inr (.inr (.inr f69))))), (a11, .inl (cT 0, 4096, .inl f72))]) (hS : va_S A s.heap H locs) (hl : lv_has ls 8 [(4, .int 0), (3, .ref a2), (2, .ref a1), (1, .ref a0), (0, .ref b)]) : W p l e room_1 s m #[Value.ref b] below meth c H locs 54 107242 (lw_Z below #[Value.ref b] s) (F0 m 376 ls []) := by
  obtain ⟨hx, hb, hr, hml, hown, htx, hbl, hbA, hlocks, hK, hZ, hA, hA2⟩ := C
  refine lv_aload_n hx hb dL_law_376 rfl (lv_at hl 3 rfl) ?_
  refine lv_aload_n hx hb dL_law_377 rfl (lv_at hl 4 rfl) ?_
  refine lv_iload hx hb dL_law_378 (lv_at hl 0 rfl) ?_
  refine lv_iconst (v := 1) hx hb dL_law_380 (by decide) ?_
  refine lv_iadd hx hb dL_law_381 ?_
  refine W.eq (g2 := F0 m 382 ls [.int 1, .ref b, .ref a0]) rfl ?_
  refine va_sld hx hb hXs hbl hbA hS (i := 1) (show ¬ ((1 : Int32) < 0 ∨ 6 ≤ (1 : Int32).toNatClampNeg) by decide) dL_law_382 ?_
  refine W.eq (g2 := F0 m 383 ls [.int (xs 1), .ref a0]) rfl ?_
  refine lv_aload_n hx hb dL_law_383 rfl (lv_at hl 4 rfl) ?_
  refine lv_iload hx hb dL_law_384 (lv_at hl 0 rfl) ?_
  refine lv_iconst (v := 2) hx hb dL_law_386 (by decide) ?_
  refine lv_iadd hx hb dL_law_387 ?_
  refine W.eq (g2 := F0 m 388 ls [.int 2, .ref b, .int (xs 1), .ref a0]) rfl ?_
  refine va_sld hx hb hXs hbl hbA hS (i := 2) (show ¬ ((2 : Int32) < 0 ∨ 6 ≤ (2 : Int32).toNatClampNeg) by decide) dL_law_388 ?_
  refine W.eq (g2 := F0 m 389 ls [.int (xs 2), .int (xs 1), .ref a0]) rfl ?_
  rw [hf]
  refine W.eq (g2 := F0 m 389 ls [.int 2, .int (xs 1), .ref a0]) rfl ?_
  refine lv_aload_n hx hb dL_law_389 rfl (lv_at hl 4 rfl) ?_
  refine lv_iload hx hb dL_law_390 (lv_at hl 0 rfl) ?_
  refine lv_iconst (v := 3) hx hb dL_law_392 (by decide) ?_
  refine lv_iadd hx hb dL_law_393 ?_
  refine W.eq (g2 := F0 m 394 ls [.int 3, .ref b, .int 2, .int (xs 1), .ref a0]) rfl ?_
  refine va_sld hx hb hXs hbl hbA hS (i := 3) (show ¬ ((3 : Int32) < 0 ∨ 6 ≤ (3 : Int32).toNatClampNeg) by decide) dL_law_394 ?_
  refine W.eq (g2 := F0 m 395 ls [.int (xs 3), .int 2, .int (xs 1), .ref a0]) rfl ?_
  refine lv_aload_n hx hb dL_law_395 rfl (lv_at hl 4 rfl) ?_
  refine lv_iload hx hb dL_law_396 (lv_at hl 0 rfl) ?_
  refine lv_iconst (v := 4) hx hb dL_law_398 (by decide) ?_
  refine lv_iadd hx hb dL_law_399 ?_
  refine W.eq (g2 := F0 m 400 ls [.int 4, .ref b, .int (xs 3), .int 2, .int (xs 1), .ref a0]) rfl ?_
  refine va_sld hx hb hXs hbl hbA hS (i := 4) (show ¬ ((4 : Int32) < 0 ∨ 6 ≤ (4 : Int32).toNatClampNeg) by decide) dL_law_400 ?_
  refine W.eq (g2 := F0 m 401 ls [.int (xs 4), .int (xs 3), .int 2, .int (xs 1), .ref a0]) rfl ?_
  obtain ⟨hPc, hDc, hFc⟩ := xcut (wc := [(a0, .inr (0, [v12, v13, v14, .ref a4, v15, .ref a3, v16, v17])), (a3, .inr (2, [v48, v49, v50])), (a4, .inl (cT 3, 8, .inr (.inr (.inr (.inr f51))))), (a5, .inr (2, [.ref a6, .int 1, v55])), (a6, .inl (cT 2, 4096, .inr (.inl f56)))]) hP hD hS hA [0, 3, 4, 5, 6] rfl rfl (by decide)
  refine va_calli (vx_runSW (As := [.ref a0, .int (xs 1), .int 2, .int (xs 3), .int (xs 4)]) (rest := []) ⟨hx, hb, hml, hown, htx⟩ (cL_binary_13 l hl9 D cT aK aV H.size a0 a3 a4 a5 a6 (xs 1) (xs 3) (xs 4) v12 v13 v14 v15 v16 v17 v48 v49 v50 f51 b53 v55 f56 hto1 hto2 hto3 hto4 ha1 ha2 ha3 ha4 hb1 hb2 hb3 hb4 (by first | rfl | exact h52 | exact h54 | exact h57 | exact h59 | exact h60 | exact h62 | exact h63 | exact h65 | exact h66 | exact h67 | exact h68 | exact h70 | exact h71 | exact h73 | exact h74 | exact h75 | exact h76) (by first | rfl | exact h52 | exact h54 | exact h57 | exact h59 | exact h60 | exact h62 | exact h63 | exact h65 | exact h66 | exact h67 | exact h68 | exact h70 | exact h71 | exact h73 | exact h74 | exact h75 | exact h76) (by first | rfl | exact h52 | exact h54 | exact h57 | exact h59 | exact h60 | exact h62 | exact h63 | exact h65 | exact h66 | exact h67 | exact h68 | exact h70 | exact h71 | exact h73 | exact h74 | exact h75 | exact h76)) (xcSW 5 htx (xw_goodC kw_3_97) rfl rfl rfl (htx _ kw_1_0) (htx _ kw_3_95) ⟨by decide, by decide, by decide +kernel⟩ ⟨Nat.le_of_ble_eq_true rfl, Nat.le_of_ble_eq_true rfl⟩ (htx _ kw_3_96)) ⟨xPre_blind, (fun U hU hW => ⟨rfl, xPre_of hZ hS hFc hPc hDc hK U hU hW⟩)⟩ rfl rfl hl.1 rfl (lv_room (Nat.le_of_ble_eq_true rfl)) dL_law_401 ⟨Nat.le_of_ble_eq_true rfl, Nat.le_of_ble_eq_true rfl⟩) hS (fun q _ h => hFc q h) hFc (fun r1 u9 t H1 locs ht hvm hr9 hB hz1 hk1 hS => ?_)
  obtain ⟨hP1, hK1, hD1⟩ := hB
  rw [ht] at hP1
  obtain ⟨hP, hD⟩ := xjoin (W := [(a1, .inr (5, [v18, .ref a10, v19, v20, v21, v22, v23, v24, v25, v26, v27, v28, v29, v30, v31, v32, v33, v34, v35, v36, v37, v38, v39, v40, .ref a7, .ref a8, v41, v42, v43, v44, v45, v46])), (a2, .inl (cT 2, 1, .inr (.inl f47))), (a7, .inl (cT 5, 8, .inr (.inr (.inr (.inr f58))))), (a8, .inl (cT 1, 8, .inl f61)), (a9, .inl (cT 0, 4096, .inl f64)), (a10, .inl (cT 4, 1024, .inr (.inr (.inr (.inr f69))))), (a11, .inl (cT 0, 4096, .inl f72)), (a0, .inr (0, [v12, v13, v14, .ref a4, v15, .ref a3, v16, .int 1])), (a3, .inr (2, [v48, .int 0, .int 0])), (a4, .inl (cT 3, 8, .inr (.inr (.inr (.inr f51))))), (a5, .inr (2, [.ref a6, .int 1, v55])), (a6, .inl (cT 2, 4096, .inr (.inl f56)))]) hP hD [0, 3, 4, 5, 6] [1, 2, 7, 8, 9, 10, 11] 7 rfl rfl (by decide) (by decide) hk1 hFc hP1 hD1
  generalize H1 = H at hP hS ⊢
  rw [hr9]
  refine W.eq (g2 := F0 m 404 ls [.int 2]) rfl ?_
  refine lv_istore (lv' := [(5, .int 2), (4, .int 0), (3, .ref a2), (2, .ref a1), (1, .ref a0), (0, .ref b)]) hx hb dL_law_404 hl (by decide) rfl (fun ls hl => ?_)
  refine lv_aload_n hx hb dL_law_406 rfl (lv_at hl 3 rfl) ?_
  refine lv_aload_n hx hb dL_law_407 rfl (lv_at hl 5 rfl) ?_
  refine lv_iload hx hb dL_law_408 (lv_at hl 1 rfl) ?_
  refine lv_iconst (v := 1) hx hb dL_law_410 (by decide) ?_
  refine lv_iadd hx hb dL_law_411 ?_
  refine W.eq (g2 := F0 m 412 ls [.int 1, .ref b, .ref a1]) rfl ?_
  refine va_sld hx hb hXs hbl hbA hS (i := 1) (show ¬ ((1 : Int32) < 0 ∨ 6 ≤ (1 : Int32).toNatClampNeg) by decide) dL_law_412 ?_
  refine W.eq (g2 := F0 m 413 ls [.int (xs 1), .ref a1]) rfl ?_
  refine lv_aload_n hx hb dL_law_413 rfl (lv_at hl 5 rfl) ?_
  refine lv_iload hx hb dL_law_414 (lv_at hl 1 rfl) ?_
  refine lv_iconst (v := 2) hx hb dL_law_416 (by decide) ?_
  refine lv_iadd hx hb dL_law_417 ?_
  refine W.eq (g2 := F0 m 418 ls [.int 2, .ref b, .int (xs 1), .ref a1]) rfl ?_
  refine va_sld hx hb hXs hbl hbA hS (i := 2) (show ¬ ((2 : Int32) < 0 ∨ 6 ≤ (2 : Int32).toNatClampNeg) by decide) dL_law_418 ?_
  refine W.eq (g2 := F0 m 419 ls [.int (xs 2), .int (xs 1), .ref a1]) rfl ?_
  rw [hf]
  refine W.eq (g2 := F0 m 419 ls [.int 2, .int (xs 1), .ref a1]) rfl ?_
  refine lv_aload_n hx hb dL_law_419 rfl (lv_at hl 5 rfl) ?_
  refine lv_iload hx hb dL_law_420 (lv_at hl 1 rfl) ?_
  refine lv_iconst (v := 3) hx hb dL_law_422 (by decide) ?_
  refine lv_iadd hx hb dL_law_423 ?_
  refine W.eq (g2 := F0 m 424 ls [.int 3, .ref b, .int 2, .int (xs 1), .ref a1]) rfl ?_
  refine va_sld hx hb hXs hbl hbA hS (i := 3) (show ¬ ((3 : Int32) < 0 ∨ 6 ≤ (3 : Int32).toNatClampNeg) by decide) dL_law_424 ?_
  refine W.eq (g2 := F0 m 425 ls [.int (xs 3), .int 2, .int (xs 1), .ref a1]) rfl ?_
  refine lv_aload_n hx hb dL_law_425 rfl (lv_at hl 5 rfl) ?_
  refine lv_iload hx hb dL_law_426 (lv_at hl 1 rfl) ?_
  refine lv_iconst (v := 4) hx hb dL_law_428 (by decide) ?_
  refine lv_iadd hx hb dL_law_429 ?_
  refine W.eq (g2 := F0 m 430 ls [.int 4, .ref b, .int (xs 3), .int 2, .int (xs 1), .ref a1]) rfl ?_
  refine va_sld hx hb hXs hbl hbA hS (i := 4) (show ¬ ((4 : Int32) < 0 ∨ 6 ≤ (4 : Int32).toNatClampNeg) by decide) dL_law_430 ?_
  refine W.eq (g2 := F0 m 431 ls [.int (xs 4), .int (xs 3), .int 2, .int (xs 1), .ref a1]) rfl ?_
  obtain ⟨hPc, hDc, hFc⟩ := xcut (wc := [(a1, .inr (5, [v18, .ref a10, v19, v20, v21, v22, v23, v24, v25, v26, v27, v28, v29, v30, v31, v32, v33, v34, v35, v36, v37, v38, v39, v40, .ref a7, .ref a8, v41, v42, v43, v44, v45, v46])), (a7, .inl (cT 5, 8, .inr (.inr (.inr (.inr f58))))), (a8, .inl (cT 1, 8, .inl f61)), (a9, .inl (cT 0, 4096, .inl f64)), (a10, .inl (cT 4, 1024, .inr (.inr (.inr (.inr f69))))), (a11, .inl (cT 0, 4096, .inl f72))]) hP hD hS hA [0, 2, 3, 4, 5, 6] rfl rfl (by decide)
  refine va_callv (va_runV (C := "ValueBenchModel") (As := [.int (xs 1), .int 2, .int (xs 3), .int (xs 4)]) (rest := []) ⟨hx, hb, hml, hown, htx⟩ (cM_binary0_16 l hl9 D cT aK aV H.size a1 a7 a8 a9 a10 a11 (xs 1) (xs 3) (xs 4) v18 v19 v20 v21 v22 v23 v24 v25 v26 v27 v28 v29 v30 v31 v32 v33 v34 v35 v36 v37 v38 v39 v40 v41 v42 v43 v44 v45 v46 f58 f61 f64 f69 f72 hto1 hto2 hto3 hto4 ha1 ha2 ha3 ha4 hb1 hb2 hb3 hb4 (by first | rfl | exact h52 | exact h54 | exact h57 | exact h59 | exact h60 | exact h62 | exact h63 | exact h65 | exact h66 | exact h67 | exact h68 | exact h70 | exact h71 | exact h73 | exact h74 | exact h75 | exact h76) (by first | rfl | exact h52 | exact h54 | exact h57 | exact h59 | exact h60 | exact h62 | exact h63 | exact h65 | exact h66 | exact h67 | exact h68 | exact h70 | exact h71 | exact h73 | exact h74 | exact h75 | exact h76) (by first | rfl | exact h52 | exact h54 | exact h57 | exact h59 | exact h60 | exact h62 | exact h63 | exact h65 | exact h66 | exact h67 | exact h68 | exact h70 | exact h71 | exact h73 | exact h74 | exact h75 | exact h76) (by first | rfl | exact h52 | exact h54 | exact h57 | exact h59 | exact h60 | exact h62 | exact h63 | exact h65 | exact h66 | exact h67 | exact h68 | exact h70 | exact h71 | exact h73 | exact h74 | exact h75 | exact h76) (by first | rfl | exact h52 | exact h54 | exact h57 | exact h59 | exact h60 | exact h62 | exact h63 | exact h65 | exact h66 | exact h67 | exact h68 | exact h70 | exact h71 | exact h73 | exact h74 | exact h75 | exact h76) (by first | rfl | exact h52 | exact h54 | exact h57 | exact h59 | exact h60 | exact h62 | exact h63 | exact h65 | exact h66 | exact h67 | exact h68 | exact h70 | exact h71 | exact h73 | exact h74 | exact h75 | exact h76) (by first | rfl | exact h52 | exact h54 | exact h57 | exact h59 | exact h60 | exact h62 | exact h63 | exact h65 | exact h66 | exact h67 | exact h68 | exact h70 | exact h71 | exact h73 | exact h74 | exact h75 | exact h76) (by first | rfl | exact h52 | exact h54 | exact h57 | exact h59 | exact h60 | exact h62 | exact h63 | exact h65 | exact h66 | exact h67 | exact h68 | exact h70 | exact h71 | exact h73 | exact h74 | exact h75 | exact h76) (by first | rfl | exact h52 | exact h54 | exact h57 | exact h59 | exact h60 | exact h62 | exact h63 | exact h65 | exact h66 | exact h67 | exact h68 | exact h70 | exact h71 | exact h73 | exact h74 | exact h75 | exact h76) (by first | rfl | exact h52 | exact h54 | exact h57 | exact h59 | exact h60 | exact h62 | exact h63 | exact h65 | exact h66 | exact h67 | exact h68 | exact h70 | exact h71 | exact h73 | exact h74 | exact h75 | exact h76) (by first | rfl | exact h52 | exact h54 | exact h57 | exact h59 | exact h60 | exact h62 | exact h63 | exact h65 | exact h66 | exact h67 | exact h68 | exact h70 | exact h71 | exact h73 | exact h74 | exact h75 | exact h76) (by first | rfl | exact h52 | exact h54 | exact h57 | exact h59 | exact h60 | exact h62 | exact h63 | exact h65 | exact h66 | exact h67 | exact h68 | exact h70 | exact h71 | exact h73 | exact h74 | exact h75 | exact h76) (by first | rfl | exact h52 | exact h54 | exact h57 | exact h59 | exact h60 | exact h62 | exact h63 | exact h65 | exact h66 | exact h67 | exact h68 | exact h70 | exact h71 | exact h73 | exact h74 | exact h75 | exact h76) (by first | rfl | exact h52 | exact h54 | exact h57 | exact h59 | exact h60 | exact h62 | exact h63 | exact h65 | exact h66 | exact h67 | exact h68 | exact h70 | exact h71 | exact h73 | exact h74 | exact h75 | exact h76)) ⟨callB_of 4 htx (xw_goodC kw_6_191) rfl rfl rfl (htx _ kw_1_5) (htx _ kw_6_188) ⟨by decide, by decide, by decide +kernel⟩ ⟨Nat.le_of_ble_eq_true rfl, Nat.le_of_ble_eq_true rfl⟩, (htx _ kw_6_189), (htx _ kw_6_190)⟩ ⟨xPre_blind, va_recv hK hP (ci := 5) rfl (q0 := 0) rfl, (fun U hU hW => ⟨rfl, xPre_of hZ hS hFc hPc hDc hK U hU hW⟩)⟩ rfl rfl hl.1 rfl (lv_room (Nat.le_of_ble_eq_true rfl)) dL_law_431 ⟨Nat.le_of_ble_eq_true rfl, Nat.le_of_ble_eq_true rfl⟩) hS (fun q _ h => hFc q h) hFc (fun u9 t H1 locs ht hvm hr9 hB hz1 hk1 hS => ?_)
  obtain ⟨q2, q3, hP1, hK1, hD1⟩ := hB
  rw [ht] at hP1
  obtain ⟨hP, hD⟩ := xjoin (W := [(a2, .inl (cT 2, 1, .inr (.inl f47))), (a0, .inr (0, [v12, v13, v14, .ref a4, v15, .ref a3, v16, .int 1])), (a3, .inr (2, [v48, .int 0, .int 0])), (a4, .inl (cT 3, 8, .inr (.inr (.inr (.inr f51))))), (a5, .inr (2, [.ref a6, .int 1, v55])), (a6, .inl (cT 2, 4096, .inr (.inl f56))), (a1, .inr (5, [.int 2, .ref a10, .int 2, v20, .int 0, v22, v23, .int 0, .int 1, .int 0, v27, v28, .int 0, v30, v31, .ref a11, .int 4, .int 4, .int 0, .int 100, v37, v38, .int 0, .int 1000000000, .ref a7, .ref a8, v41, v42, v43, v44, .int 1, v46])), (a7, .inl (cT 5, 8, .inr (.inr (.inr (.inr f58))))), (a8, .inl (cT 1, 8, .inl f61)), (a9, .inl (cT 0, 4096, .inl f64)), (a10, .inl (cT 4, 1024, .inr (.inr (.inr (.inr (va_up (va_up f69 0 (some q2)) 1 (some q3))))))), (a11, .inl (cT 0, 4096, .inl f72)), (q2, .inr (6, [.int 0, .long 0, .int 0, .int 0, .int 0, .int 1])), (q3, .inr (6, [.int 0, .long 0, .int 0, .int 0, .int 0, .int 1]))]) hP hD [0, 2, 3, 4, 5, 6] [1, 7, 8, 9, 10, 11] 6 rfl rfl (by decide) (by decide) hk1 hFc hP1 hD1
  generalize H1 = H at hP hS ⊢
  refine lv_aload_n hx hb dL_law_434 rfl (lv_at hl 3 rfl) ?_
  obtain ⟨hPc, hDc, hFc⟩ := xcut (wc := [(a1, .inr (5, [.int 2, .ref a10, .int 2, v20, .int 0, v22, v23, .int 0, .int 1, .int 0, v27, v28, .int 0, v30, v31, .ref a11, .int 4, .int 4, .int 0, .int 100, v37, v38, .int 0, .int 1000000000, .ref a7, .ref a8, v41, v42, v43, v44, .int 1, v46]))]) hP hD hS hA [6] rfl rfl (by decide)
  refine va_calli (va_runV (C := "ValueBenchModel") (As := []) (rest := []) ⟨hx, hb, hml, hown, htx⟩ (cM_thrown_2 l hl9 D cT aK aV H.size a1 (.ref a10) (.int 2) v20 (.int 0) v22 v23 (.int 0) (.int 1) (.int 0) v27 v28 (.int 0) v30 v31 (.ref a11) (.int 4) (.int 4) (.int 0) (.int 100) v37 v38 (.int 0) (.int 1000000000) (.ref a7) (.ref a8) v41 v42 v43 v44 (.int 1) v46) ⟨callB_of 0 htx (xw_goodC kw_5_187) rfl rfl rfl (htx _ kw_1_5) (htx _ kw_5_184) ⟨by decide, by decide, by decide +kernel⟩ ⟨Nat.le_of_ble_eq_true rfl, Nat.le_of_ble_eq_true rfl⟩, (htx _ kw_5_185), (htx _ kw_5_186)⟩ ⟨xPre_blind, va_recv hK hP (ci := 5) rfl (q0 := 6) rfl, (fun U hU hW => ⟨rfl, xPre_of hZ hS hFc hPc hDc hK U hU hW⟩)⟩ rfl rfl hl.1 rfl (lv_room (Nat.le_of_ble_eq_true rfl)) dL_law_435 ⟨Nat.le_of_ble_eq_true rfl, Nat.le_of_ble_eq_true rfl⟩) hS (fun q _ h => hFc q h) hFc (fun r4 u9 t H1 locs ht hvm hr9 hB hz1 hk1 hS => ?_)
  obtain ⟨hP1, hK1, hD1⟩ := hB
  rw [ht] at hP1
  obtain ⟨hP, hD⟩ := xjoin (W := [(a2, .inl (cT 2, 1, .inr (.inl f47))), (a0, .inr (0, [v12, v13, v14, .ref a4, v15, .ref a3, v16, .int 1])), (a3, .inr (2, [v48, .int 0, .int 0])), (a4, .inl (cT 3, 8, .inr (.inr (.inr (.inr f51))))), (a5, .inr (2, [.ref a6, .int 1, v55])), (a6, .inl (cT 2, 4096, .inr (.inl f56))), (a7, .inl (cT 5, 8, .inr (.inr (.inr (.inr f58))))), (a8, .inl (cT 1, 8, .inl f61)), (a9, .inl (cT 0, 4096, .inl f64)), (a10, .inl (cT 4, 1024, .inr (.inr (.inr (.inr (va_up (va_up f69 0 (some q2)) 1 (some q3))))))), (a11, .inl (cT 0, 4096, .inl f72)), (q2, .inr (6, [.int 0, .long 0, .int 0, .int 0, .int 0, .int 1])), (q3, .inr (6, [.int 0, .long 0, .int 0, .int 0, .int 0, .int 1])), (a1, .inr (5, [.int 2, .ref a10, .int 2, v20, .int 0, v22, v23, .int 0, .int 1, .int 0, v27, v28, .int 0, v30, v31, .ref a11, .int 4, .int 4, .int 0, .int 100, v37, v38, .int 0, .int 1000000000, .ref a7, .ref a8, v41, v42, v43, v44, .int 1, v46]))]) hP hD [6] [0, 1, 2, 3, 4, 5, 7, 8, 9, 10, 11, 12, 13] 13 rfl rfl (by decide) (by decide) hk1 hFc hP1 hD1
  generalize H1 = H at hP hS ⊢
  rw [hr9]
  refine W.eq (g2 := F0 m 438 ls [.int 2]) rfl ?_
  refine lv_iload hx hb dL_law_438 (lv_at hl 0 rfl) ?_
  refine lv_icmp_eq (tgt := 445) hx hb dL_law_440 (by decide) (fun _ => ?_) (fun h => ((by revert h; decide : False)).elim)
  refine lv_goto (tgt := 906) hx hb dL_law_445 (by decide) ?_
  refine lv_iinc (v := 6) (lv' := [(4, .int 6), (5, .int 2), (3, .ref a2), (2, .ref a1), (1, .ref a0), (0, .ref b)]) hx hb dL_law_906 hl (k := 1) rfl (by decide) (by decide) rfl (fun ls hl => ?_)
  refine lv_goto (tgt := 23) hx hb dL_law_909 (by decide) ?_
  refine lv_iload hx hb dL_law_23 (lv_at hl 0 rfl) ?_
  refine lv_aload_n hx hb dL_law_25 rfl (lv_at hl 5 rfl) ?_
  refine va_slen hx hb hXs hbl hbA hS dL_law_26 ?_
  refine W.eq (g2 := F0 m 27 ls [.int 6, .int 6]) rfl ?_
  refine lv_bipush (v := 6) hx hb dL_law_27 (by decide) ?_
  refine lv_isub hx hb dL_law_29 ?_
  refine W.eq (g2 := F0 m 30 ls [.int 0, .int 6]) rfl ?_
  refine lv_icmp_gt (tgt := 912) hx hb dL_law_30 (by decide) (fun _ => ?_) (fun h => ((by revert h; decide : False)).elim)
  refine lv_iconst (v := 1) hx hb dL_law_912 (by decide) ?_
  exact va_forget (fun q h => hA2 _ (hS.2.2 q h)) (W.widen (k := 600002) (n := 7302232) (Nat.le_of_ble_eq_true rfl) (Nat.le_of_ble_eq_true rfl) (lw_ret hx hb hr hlocks dL_law_913))
set_option maxHeartbeats 400000000 in
set_option maxRecDepth 100000 in
theorem lf_binary3_p4 {p : Program} {e : Env} {s : State} {m : MethodId} {below : List Frame} {meth : Method} {c : Code} (l : Launch) (hl9 : l.stackTraces = false) (D : va_G) (cT : Nat → ClassId) (aK aV : Nat → Nat) {A : Nat → Prop} {b : Nat} {xs : Nat → Int32} (C : xLw p s m meth c b D cT aK aV A) {H : Heap} {locs : List Loc} {ls : Array Slot} (a0 : Nat) (a1 : Nat) (a2 : Nat) (a3 : Nat) (a4 : Nat) (a5 : Nat) (a6 : Nat) (a7 : Nat) (a8 : Nat) (a9 : Nat) (a10 : Nat) (v11 : Value) (v12 : Value) (v13 : Value) (v14 : Value) (v15 : Value) (v16 : Value) (v17 : Value) (v18 : Value) (v19 : Value) (v20 : Value) (v21 : Value) (v22 : Value) (v23 : Value) (v24 : Value) (v25 : Value) (v26 : Value) (v27 : Value) (v28 : Value) (v29 : Value) (v30 : Value) (v31 : Value) (v32 : Value) (v33 : Value) (v34 : Value) (v35 : Value) (v36 : Value) (v37 : Value) (v38 : Value) (v39 : Value) (v40 : Value) (v41 : Value) (v42 : Value) (v43 : Value) (v44 : Value) (v45 : Value) (f46 : Nat → Int64) (v47 : Value) (v48 : Value) (v49 : Value) (f50 : Nat → Option Nat) (v53 : Value) (f54 : Nat → Int64) (f56 : Nat → Option Nat) (f59 : Nat → Int32) (f62 : Nat → Int32) (f67 : Nat → Option Nat) (h51 : f50 (xs 3).toNatClampNeg = some a5) (h52 : f50 (xs 4).toNatClampNeg = some a5) (h55 : f54 0 = 0) (h57 : f56 (xs 3).toNatClampNeg = some a9) (h58 : f56 (xs 4).toNatClampNeg = some a9) (h60 : f59 (xs 3).toNatClampNeg = 4) (h61 : f59 (xs 4).toNatClampNeg = 4) (h63 : f62 0 = 110) (h64 : f62 1 = 117) (h65 : f62 2 = 108) (h66 : f62 3 = 108) (h68 : f67 0 = none) (h69 : f67 1 = none) (hto1 : ¬ (xs 1) < 0) (hto2 : ¬ 7 < (xs 1)) (hto3 : (xs 1) ≤ 7) (hto4 : vp_in (xs 1) 8) (hf : xs 2 = 3) (ha1 : ¬ (xs 3) < 0) (ha2 : ¬ 7 < (xs 3)) (ha3 : (xs 3) ≤ 7) (ha4 : vp_in (xs 3) 8) (hb1 : ¬ (xs 4) < 0) (hb2 : ¬ 7 < (xs 4)) (hb3 : (xs 4) ≤ 7) (hb4 : vp_in (xs 4) 8) (hXs : va_X b 6 xs s s.heap) (hP : va_P D xcl [(a0, .inr (0, [v11, v12, v13, .ref a4, v14, .ref a3, v15, v16])), (a1, .inr (5, [v17, .ref a10, v18, v19, v20, v21, v22, v23, v24, v25, v26, v27, v28, v29, v30, v31, v32, v33, v34, v35, v36, v37, v38, v39, .ref a7, .ref a8, v40, v41, v42, v43, v44, v45])), (a2, .inl (cT 2, 1, .inr (.inl f46))), (a3, .inr (2, [v47, v48, v49])), (a4, .inl (cT 3, 8, .inr (.inr (.inr (.inr f50))))), (a5, .inr (2, [.ref a6, .int 1, v53])), (a6, .inl (cT 2, 4096, .inr (.inl f54))), (a7, .inl (cT 5, 8, .inr (.inr (.inr (.inr f56))))), (a8, .inl (cT 1, 8, .inl f59)), (a9, .inl (cT 0, 4096, .inl f62)), (a10, .inl (cT 4, 1024, .inr (.inr (.inr (.inr f67)))))] H) (hD : va_D A [(a0, .inr (0, [v11, v12, v13, .ref a4, v14, .ref a3, v15, v16])), (a1, .inr (5, [v17, .ref a10, v18, v19, v20, v21, v22, v23, v24, v25, v26, v27, v28, v29, v30, v31, v32, v33, v34, v35, v36, v37, v38, v39, .ref a7, .ref a8, v40, v41, v42, v43, v44, v45])), (a2, .inl (cT 2, 1, .inr (.inl f46))), (a3, .inr (2, [v47, v48, v49])), (a4, .inl (cT 3, 8, .inr (.inr (.inr (.inr f50))))), (a5, .inr (2, [.ref a6, .int 1, v53])), (a6, .inl (cT 2, 4096, .inr (.inl f54))), (a7, .inl (cT 5, 8, .inr (.inr (.inr (.inr f56))))), (a8, .inl (cT 1, 8, .inl f59)), (a9, .inl (cT 0, 4096, .inl f62)), (a10, .inl (cT 4, 1024, .inr (.inr (.inr (.inr f67)))))]) (hS : va_S A s.heap H locs) (hl : lv_has ls 8 [(4, .int 0), (3, .ref a2), (2, .ref a1), (1, .ref a0), (0, .ref b)]) : W p l e room_1 s m #[Value.ref b] below meth c H locs 54 107242 (lw_Z below #[Value.ref b] s) (F0 m 376 ls []) := by
  obtain ⟨hx, hb, hr, hml, hown, htx, hbl, hbA, hlocks, hK, hZ, hA, hA2⟩ := C
  refine lv_aload_n hx hb dL_law_376 rfl (lv_at hl 3 rfl) ?_
  refine lv_aload_n hx hb dL_law_377 rfl (lv_at hl 4 rfl) ?_
  refine lv_iload hx hb dL_law_378 (lv_at hl 0 rfl) ?_
  refine lv_iconst (v := 1) hx hb dL_law_380 (by decide) ?_
  refine lv_iadd hx hb dL_law_381 ?_
  refine W.eq (g2 := F0 m 382 ls [.int 1, .ref b, .ref a0]) rfl ?_
  refine va_sld hx hb hXs hbl hbA hS (i := 1) (show ¬ ((1 : Int32) < 0 ∨ 6 ≤ (1 : Int32).toNatClampNeg) by decide) dL_law_382 ?_
  refine W.eq (g2 := F0 m 383 ls [.int (xs 1), .ref a0]) rfl ?_
  refine lv_aload_n hx hb dL_law_383 rfl (lv_at hl 4 rfl) ?_
  refine lv_iload hx hb dL_law_384 (lv_at hl 0 rfl) ?_
  refine lv_iconst (v := 2) hx hb dL_law_386 (by decide) ?_
  refine lv_iadd hx hb dL_law_387 ?_
  refine W.eq (g2 := F0 m 388 ls [.int 2, .ref b, .int (xs 1), .ref a0]) rfl ?_
  refine va_sld hx hb hXs hbl hbA hS (i := 2) (show ¬ ((2 : Int32) < 0 ∨ 6 ≤ (2 : Int32).toNatClampNeg) by decide) dL_law_388 ?_
  refine W.eq (g2 := F0 m 389 ls [.int (xs 2), .int (xs 1), .ref a0]) rfl ?_
  rw [hf]
  refine W.eq (g2 := F0 m 389 ls [.int 3, .int (xs 1), .ref a0]) rfl ?_
  refine lv_aload_n hx hb dL_law_389 rfl (lv_at hl 4 rfl) ?_
  refine lv_iload hx hb dL_law_390 (lv_at hl 0 rfl) ?_
  refine lv_iconst (v := 3) hx hb dL_law_392 (by decide) ?_
  refine lv_iadd hx hb dL_law_393 ?_
  refine W.eq (g2 := F0 m 394 ls [.int 3, .ref b, .int 3, .int (xs 1), .ref a0]) rfl ?_
  refine va_sld hx hb hXs hbl hbA hS (i := 3) (show ¬ ((3 : Int32) < 0 ∨ 6 ≤ (3 : Int32).toNatClampNeg) by decide) dL_law_394 ?_
  refine W.eq (g2 := F0 m 395 ls [.int (xs 3), .int 3, .int (xs 1), .ref a0]) rfl ?_
  refine lv_aload_n hx hb dL_law_395 rfl (lv_at hl 4 rfl) ?_
  refine lv_iload hx hb dL_law_396 (lv_at hl 0 rfl) ?_
  refine lv_iconst (v := 4) hx hb dL_law_398 (by decide) ?_
  refine lv_iadd hx hb dL_law_399 ?_
  refine W.eq (g2 := F0 m 400 ls [.int 4, .ref b, .int (xs 3), .int 3, .int (xs 1), .ref a0]) rfl ?_
  refine va_sld hx hb hXs hbl hbA hS (i := 4) (show ¬ ((4 : Int32) < 0 ∨ 6 ≤ (4 : Int32).toNatClampNeg) by decide) dL_law_400 ?_
  refine W.eq (g2 := F0 m 401 ls [.int (xs 4), .int (xs 3), .int 3, .int (xs 1), .ref a0]) rfl ?_
  obtain ⟨hPc, hDc, hFc⟩ := xcut (wc := [(a0, .inr (0, [v11, v12, v13, .ref a4, v14, .ref a3, v15, v16])), (a3, .inr (2, [v47, v48, v49])), (a4, .inl (cT 3, 8, .inr (.inr (.inr (.inr f50))))), (a5, .inr (2, [.ref a6, .int 1, v53])), (a6, .inl (cT 2, 4096, .inr (.inl f54)))]) hP hD hS hA [0, 3, 4, 5, 6] rfl rfl (by decide)
  refine va_calli (vx_runSW (As := [.ref a0, .int (xs 1), .int 3, .int (xs 3), .int (xs 4)]) (rest := []) ⟨hx, hb, hml, hown, htx⟩ (cL_binary_14 l hl9 D cT aK aV H.size a0 a3 a4 a5 a6 (xs 1) (xs 3) (xs 4) v11 v12 v13 v14 v15 v16 v47 v48 v49 f50 v53 f54 hto1 hto2 hto3 hto4 ha1 ha2 ha3 ha4 hb1 hb2 hb3 hb4 (by first | rfl | exact h51 | exact h52 | exact h55 | exact h57 | exact h58 | exact h60 | exact h61 | exact h63 | exact h64 | exact h65 | exact h66 | exact h68 | exact h69) (by first | rfl | exact h51 | exact h52 | exact h55 | exact h57 | exact h58 | exact h60 | exact h61 | exact h63 | exact h64 | exact h65 | exact h66 | exact h68 | exact h69) (by first | rfl | exact h51 | exact h52 | exact h55 | exact h57 | exact h58 | exact h60 | exact h61 | exact h63 | exact h64 | exact h65 | exact h66 | exact h68 | exact h69)) (xcSW 5 htx (xw_goodC kw_3_97) rfl rfl rfl (htx _ kw_1_0) (htx _ kw_3_95) ⟨by decide, by decide, by decide +kernel⟩ ⟨Nat.le_of_ble_eq_true rfl, Nat.le_of_ble_eq_true rfl⟩ (htx _ kw_3_96)) ⟨xPre_blind, (fun U hU hW => ⟨rfl, xPre_of hZ hS hFc hPc hDc hK U hU hW⟩)⟩ rfl rfl hl.1 rfl (lv_room (Nat.le_of_ble_eq_true rfl)) dL_law_401 ⟨Nat.le_of_ble_eq_true rfl, Nat.le_of_ble_eq_true rfl⟩) hS (fun q _ h => hFc q h) hFc (fun r1 u9 t H1 locs ht hvm hr9 hB hz1 hk1 hS => ?_)
  obtain ⟨hP1, hK1, hD1⟩ := hB
  rw [ht] at hP1
  obtain ⟨hP, hD⟩ := xjoin (W := [(a1, .inr (5, [v17, .ref a10, v18, v19, v20, v21, v22, v23, v24, v25, v26, v27, v28, v29, v30, v31, v32, v33, v34, v35, v36, v37, v38, v39, .ref a7, .ref a8, v40, v41, v42, v43, v44, v45])), (a2, .inl (cT 2, 1, .inr (.inl f46))), (a7, .inl (cT 5, 8, .inr (.inr (.inr (.inr f56))))), (a8, .inl (cT 1, 8, .inl f59)), (a9, .inl (cT 0, 4096, .inl f62)), (a10, .inl (cT 4, 1024, .inr (.inr (.inr (.inr f67))))), (a0, .inr (0, [v11, v12, v13, .ref a4, v14, .ref a3, v15, .int 1])), (a3, .inr (2, [v47, .int 0, .int 0])), (a4, .inl (cT 3, 8, .inr (.inr (.inr (.inr f50))))), (a5, .inr (2, [.ref a6, .int 1, v53])), (a6, .inl (cT 2, 4096, .inr (.inl f54)))]) hP hD [0, 3, 4, 5, 6] [1, 2, 7, 8, 9, 10] 6 rfl rfl (by decide) (by decide) hk1 hFc hP1 hD1
  generalize H1 = H at hP hS ⊢
  rw [hr9]
  refine W.eq (g2 := F0 m 404 ls [.int 2]) rfl ?_
  refine lv_istore (lv' := [(5, .int 2), (4, .int 0), (3, .ref a2), (2, .ref a1), (1, .ref a0), (0, .ref b)]) hx hb dL_law_404 hl (by decide) rfl (fun ls hl => ?_)
  refine lv_aload_n hx hb dL_law_406 rfl (lv_at hl 3 rfl) ?_
  refine lv_aload_n hx hb dL_law_407 rfl (lv_at hl 5 rfl) ?_
  refine lv_iload hx hb dL_law_408 (lv_at hl 1 rfl) ?_
  refine lv_iconst (v := 1) hx hb dL_law_410 (by decide) ?_
  refine lv_iadd hx hb dL_law_411 ?_
  refine W.eq (g2 := F0 m 412 ls [.int 1, .ref b, .ref a1]) rfl ?_
  refine va_sld hx hb hXs hbl hbA hS (i := 1) (show ¬ ((1 : Int32) < 0 ∨ 6 ≤ (1 : Int32).toNatClampNeg) by decide) dL_law_412 ?_
  refine W.eq (g2 := F0 m 413 ls [.int (xs 1), .ref a1]) rfl ?_
  refine lv_aload_n hx hb dL_law_413 rfl (lv_at hl 5 rfl) ?_
  refine lv_iload hx hb dL_law_414 (lv_at hl 1 rfl) ?_
  refine lv_iconst (v := 2) hx hb dL_law_416 (by decide) ?_
  refine lv_iadd hx hb dL_law_417 ?_
  refine W.eq (g2 := F0 m 418 ls [.int 2, .ref b, .int (xs 1), .ref a1]) rfl ?_
  refine va_sld hx hb hXs hbl hbA hS (i := 2) (show ¬ ((2 : Int32) < 0 ∨ 6 ≤ (2 : Int32).toNatClampNeg) by decide) dL_law_418 ?_
  refine W.eq (g2 := F0 m 419 ls [.int (xs 2), .int (xs 1), .ref a1]) rfl ?_
  rw [hf]
  refine W.eq (g2 := F0 m 419 ls [.int 3, .int (xs 1), .ref a1]) rfl ?_
  refine lv_aload_n hx hb dL_law_419 rfl (lv_at hl 5 rfl) ?_
  refine lv_iload hx hb dL_law_420 (lv_at hl 1 rfl) ?_
  refine lv_iconst (v := 3) hx hb dL_law_422 (by decide) ?_
  refine lv_iadd hx hb dL_law_423 ?_
  refine W.eq (g2 := F0 m 424 ls [.int 3, .ref b, .int 3, .int (xs 1), .ref a1]) rfl ?_
  refine va_sld hx hb hXs hbl hbA hS (i := 3) (show ¬ ((3 : Int32) < 0 ∨ 6 ≤ (3 : Int32).toNatClampNeg) by decide) dL_law_424 ?_
  refine W.eq (g2 := F0 m 425 ls [.int (xs 3), .int 3, .int (xs 1), .ref a1]) rfl ?_
  refine lv_aload_n hx hb dL_law_425 rfl (lv_at hl 5 rfl) ?_
  refine lv_iload hx hb dL_law_426 (lv_at hl 1 rfl) ?_
  refine lv_iconst (v := 4) hx hb dL_law_428 (by decide) ?_
  refine lv_iadd hx hb dL_law_429 ?_
  refine W.eq (g2 := F0 m 430 ls [.int 4, .ref b, .int (xs 3), .int 3, .int (xs 1), .ref a1]) rfl ?_
  refine va_sld hx hb hXs hbl hbA hS (i := 4) (show ¬ ((4 : Int32) < 0 ∨ 6 ≤ (4 : Int32).toNatClampNeg) by decide) dL_law_430 ?_
  refine W.eq (g2 := F0 m 431 ls [.int (xs 4), .int (xs 3), .int 3, .int (xs 1), .ref a1]) rfl ?_
  obtain ⟨hPc, hDc, hFc⟩ := xcut (wc := [(a1, .inr (5, [v17, .ref a10, v18, v19, v20, v21, v22, v23, v24, v25, v26, v27, v28, v29, v30, v31, v32, v33, v34, v35, v36, v37, v38, v39, .ref a7, .ref a8, v40, v41, v42, v43, v44, v45])), (a7, .inl (cT 5, 8, .inr (.inr (.inr (.inr f56))))), (a8, .inl (cT 1, 8, .inl f59)), (a9, .inl (cT 0, 4096, .inl f62)), (a10, .inl (cT 4, 1024, .inr (.inr (.inr (.inr f67)))))]) hP hD hS hA [0, 2, 3, 4, 5] rfl rfl (by decide)
  refine va_callv (va_runV (C := "ValueBenchModel") (As := [.int (xs 1), .int 3, .int (xs 3), .int (xs 4)]) (rest := []) ⟨hx, hb, hml, hown, htx⟩ (cM_binary0_17 l hl9 D cT aK aV H.size a1 a7 a8 a9 a10 (xs 1) (xs 3) (xs 4) v17 v18 v19 v20 v21 v22 v23 v24 v25 v26 v27 v28 v29 v30 v31 v32 v33 v34 v35 v36 v37 v38 v39 v40 v41 v42 v43 v44 v45 f56 f59 f62 f67 hto1 hto2 hto3 hto4 ha1 ha2 ha3 ha4 hb1 hb2 hb3 hb4 (by first | rfl | exact h51 | exact h52 | exact h55 | exact h57 | exact h58 | exact h60 | exact h61 | exact h63 | exact h64 | exact h65 | exact h66 | exact h68 | exact h69) (by first | rfl | exact h51 | exact h52 | exact h55 | exact h57 | exact h58 | exact h60 | exact h61 | exact h63 | exact h64 | exact h65 | exact h66 | exact h68 | exact h69) (by first | rfl | exact h51 | exact h52 | exact h55 | exact h57 | exact h58 | exact h60 | exact h61 | exact h63 | exact h64 | exact h65 | exact h66 | exact h68 | exact h69) (by first | rfl | exact h51 | exact h52 | exact h55 | exact h57 | exact h58 | exact h60 | exact h61 | exact h63 | exact h64 | exact h65 | exact h66 | exact h68 | exact h69) (by first | rfl | exact h51 | exact h52 | exact h55 | exact h57 | exact h58 | exact h60 | exact h61 | exact h63 | exact h64 | exact h65 | exact h66 | exact h68 | exact h69) (by first | rfl | exact h51 | exact h52 | exact h55 | exact h57 | exact h58 | exact h60 | exact h61 | exact h63 | exact h64 | exact h65 | exact h66 | exact h68 | exact h69) (by first | rfl | exact h51 | exact h52 | exact h55 | exact h57 | exact h58 | exact h60 | exact h61 | exact h63 | exact h64 | exact h65 | exact h66 | exact h68 | exact h69) (by first | rfl | exact h51 | exact h52 | exact h55 | exact h57 | exact h58 | exact h60 | exact h61 | exact h63 | exact h64 | exact h65 | exact h66 | exact h68 | exact h69) (by first | rfl | exact h51 | exact h52 | exact h55 | exact h57 | exact h58 | exact h60 | exact h61 | exact h63 | exact h64 | exact h65 | exact h66 | exact h68 | exact h69) (by first | rfl | exact h51 | exact h52 | exact h55 | exact h57 | exact h58 | exact h60 | exact h61 | exact h63 | exact h64 | exact h65 | exact h66 | exact h68 | exact h69)) ⟨callB_of 4 htx (xw_goodC kw_6_191) rfl rfl rfl (htx _ kw_1_5) (htx _ kw_6_188) ⟨by decide, by decide, by decide +kernel⟩ ⟨Nat.le_of_ble_eq_true rfl, Nat.le_of_ble_eq_true rfl⟩, (htx _ kw_6_189), (htx _ kw_6_190)⟩ ⟨xPre_blind, va_recv hK hP (ci := 5) rfl (q0 := 0) rfl, (fun U hU hW => ⟨rfl, xPre_of hZ hS hFc hPc hDc hK U hU hW⟩)⟩ rfl rfl hl.1 rfl (lv_room (Nat.le_of_ble_eq_true rfl)) dL_law_431 ⟨Nat.le_of_ble_eq_true rfl, Nat.le_of_ble_eq_true rfl⟩) hS (fun q _ h => hFc q h) hFc (fun u9 t H1 locs ht hvm hr9 hB hz1 hk1 hS => ?_)
  obtain ⟨q2, q3, hP1, hK1, hD1⟩ := hB
  rw [ht] at hP1
  obtain ⟨hP, hD⟩ := xjoin (W := [(a2, .inl (cT 2, 1, .inr (.inl f46))), (a0, .inr (0, [v11, v12, v13, .ref a4, v14, .ref a3, v15, .int 1])), (a3, .inr (2, [v47, .int 0, .int 0])), (a4, .inl (cT 3, 8, .inr (.inr (.inr (.inr f50))))), (a5, .inr (2, [.ref a6, .int 1, v53])), (a6, .inl (cT 2, 4096, .inr (.inl f54))), (a1, .inr (5, [.int 2, .ref a10, .int 2, v19, .int 0, v21, v22, .int 0, .int 1, .int 0, v26, v27, .int 0, v29, v30, .ref a9, .int 4, .int 4, .int 0, .int 100, v36, v37, .int 0, .int 1000000000, .ref a7, .ref a8, v40, v41, v42, v43, .int 1, v45])), (a7, .inl (cT 5, 8, .inr (.inr (.inr (.inr f56))))), (a8, .inl (cT 1, 8, .inl f59)), (a9, .inl (cT 0, 4096, .inl f62)), (a10, .inl (cT 4, 1024, .inr (.inr (.inr (.inr (va_up (va_up f67 0 (some q2)) 1 (some q3))))))), (q2, .inr (6, [.int 0, .long 0, .int 0, .int 0, .int 0, .int 1])), (q3, .inr (6, [.int 0, .long 0, .int 0, .int 0, .int 0, .int 1]))]) hP hD [0, 2, 3, 4, 5] [1, 6, 7, 8, 9, 10] 6 rfl rfl (by decide) (by decide) hk1 hFc hP1 hD1
  generalize H1 = H at hP hS ⊢
  refine lv_aload_n hx hb dL_law_434 rfl (lv_at hl 3 rfl) ?_
  obtain ⟨hPc, hDc, hFc⟩ := xcut (wc := [(a1, .inr (5, [.int 2, .ref a10, .int 2, v19, .int 0, v21, v22, .int 0, .int 1, .int 0, v26, v27, .int 0, v29, v30, .ref a9, .int 4, .int 4, .int 0, .int 100, v36, v37, .int 0, .int 1000000000, .ref a7, .ref a8, v40, v41, v42, v43, .int 1, v45]))]) hP hD hS hA [6] rfl rfl (by decide)
  refine va_calli (va_runV (C := "ValueBenchModel") (As := []) (rest := []) ⟨hx, hb, hml, hown, htx⟩ (cM_thrown_2 l hl9 D cT aK aV H.size a1 (.ref a10) (.int 2) v19 (.int 0) v21 v22 (.int 0) (.int 1) (.int 0) v26 v27 (.int 0) v29 v30 (.ref a9) (.int 4) (.int 4) (.int 0) (.int 100) v36 v37 (.int 0) (.int 1000000000) (.ref a7) (.ref a8) v40 v41 v42 v43 (.int 1) v45) ⟨callB_of 0 htx (xw_goodC kw_5_187) rfl rfl rfl (htx _ kw_1_5) (htx _ kw_5_184) ⟨by decide, by decide, by decide +kernel⟩ ⟨Nat.le_of_ble_eq_true rfl, Nat.le_of_ble_eq_true rfl⟩, (htx _ kw_5_185), (htx _ kw_5_186)⟩ ⟨xPre_blind, va_recv hK hP (ci := 5) rfl (q0 := 6) rfl, (fun U hU hW => ⟨rfl, xPre_of hZ hS hFc hPc hDc hK U hU hW⟩)⟩ rfl rfl hl.1 rfl (lv_room (Nat.le_of_ble_eq_true rfl)) dL_law_435 ⟨Nat.le_of_ble_eq_true rfl, Nat.le_of_ble_eq_true rfl⟩) hS (fun q _ h => hFc q h) hFc (fun r4 u9 t H1 locs ht hvm hr9 hB hz1 hk1 hS => ?_)
  obtain ⟨hP1, hK1, hD1⟩ := hB
  rw [ht] at hP1
  obtain ⟨hP, hD⟩ := xjoin (W := [(a2, .inl (cT 2, 1, .inr (.inl f46))), (a0, .inr (0, [v11, v12, v13, .ref a4, v14, .ref a3, v15, .int 1])), (a3, .inr (2, [v47, .int 0, .int 0])), (a4, .inl (cT 3, 8, .inr (.inr (.inr (.inr f50))))), (a5, .inr (2, [.ref a6, .int 1, v53])), (a6, .inl (cT 2, 4096, .inr (.inl f54))), (a7, .inl (cT 5, 8, .inr (.inr (.inr (.inr f56))))), (a8, .inl (cT 1, 8, .inl f59)), (a9, .inl (cT 0, 4096, .inl f62)), (a10, .inl (cT 4, 1024, .inr (.inr (.inr (.inr (va_up (va_up f67 0 (some q2)) 1 (some q3))))))), (q2, .inr (6, [.int 0, .long 0, .int 0, .int 0, .int 0, .int 1])), (q3, .inr (6, [.int 0, .long 0, .int 0, .int 0, .int 0, .int 1])), (a1, .inr (5, [.int 2, .ref a10, .int 2, v19, .int 0, v21, v22, .int 0, .int 1, .int 0, v26, v27, .int 0, v29, v30, .ref a9, .int 4, .int 4, .int 0, .int 100, v36, v37, .int 0, .int 1000000000, .ref a7, .ref a8, v40, v41, v42, v43, .int 1, v45]))]) hP hD [6] [0, 1, 2, 3, 4, 5, 7, 8, 9, 10, 11, 12] 12 rfl rfl (by decide) (by decide) hk1 hFc hP1 hD1
  generalize H1 = H at hP hS ⊢
  rw [hr9]
  refine W.eq (g2 := F0 m 438 ls [.int 2]) rfl ?_
  refine lv_iload hx hb dL_law_438 (lv_at hl 0 rfl) ?_
  refine lv_icmp_eq (tgt := 445) hx hb dL_law_440 (by decide) (fun _ => ?_) (fun h => ((by revert h; decide : False)).elim)
  refine lv_goto (tgt := 906) hx hb dL_law_445 (by decide) ?_
  refine lv_iinc (v := 6) (lv' := [(4, .int 6), (5, .int 2), (3, .ref a2), (2, .ref a1), (1, .ref a0), (0, .ref b)]) hx hb dL_law_906 hl (k := 1) rfl (by decide) (by decide) rfl (fun ls hl => ?_)
  refine lv_goto (tgt := 23) hx hb dL_law_909 (by decide) ?_
  refine lv_iload hx hb dL_law_23 (lv_at hl 0 rfl) ?_
  refine lv_aload_n hx hb dL_law_25 rfl (lv_at hl 5 rfl) ?_
  refine va_slen hx hb hXs hbl hbA hS dL_law_26 ?_
  refine W.eq (g2 := F0 m 27 ls [.int 6, .int 6]) rfl ?_
  refine lv_bipush (v := 6) hx hb dL_law_27 (by decide) ?_
  refine lv_isub hx hb dL_law_29 ?_
  refine W.eq (g2 := F0 m 30 ls [.int 0, .int 6]) rfl ?_
  refine lv_icmp_gt (tgt := 912) hx hb dL_law_30 (by decide) (fun _ => ?_) (fun h => ((by revert h; decide : False)).elim)
  refine lv_iconst (v := 1) hx hb dL_law_912 (by decide) ?_
  exact va_forget (fun q h => hA2 _ (hS.2.2 q h)) (W.widen (k := 600002) (n := 7302232) (Nat.le_of_ble_eq_true rfl) (Nat.le_of_ble_eq_true rfl) (lw_ret hx hb hr hlocks dL_law_913))
set_option maxHeartbeats 400000000 in
set_option maxRecDepth 100000 in
theorem lf_binary3_p1 {p : Program} {e : Env} {s : State} {m : MethodId} {below : List Frame} {meth : Method} {c : Code} (l : Launch) (hl9 : l.stackTraces = false) (D : va_G) (cT : Nat → ClassId) (aK aV : Nat → Nat) {A : Nat → Prop} {b : Nat} {xs : Nat → Int32} (C : xLw p s m meth c b D cT aK aV A) {H : Heap} {locs : List Loc} {ls : Array Slot} (a0 : Nat) (a1 : Nat) (a2 : Nat) (a3 : Nat) (a4 : Nat) (a5 : Nat) (a6 : Nat) (a7 : Nat) (a8 : Nat) (a9 : Nat) (a10 : Nat) (v11 : Value) (v12 : Value) (v13 : Value) (v14 : Value) (v15 : Value) (v16 : Value) (v17 : Value) (v18 : Value) (v19 : Value) (v20 : Value) (v21 : Value) (v22 : Value) (v23 : Value) (v24 : Value) (v25 : Value) (v26 : Value) (v27 : Value) (v28 : Value) (v29 : Value) (v30 : Value) (v31 : Value) (v32 : Value) (v33 : Value) (v34 : Value) (v35 : Value) (v36 : Value) (v37 : Value) (v38 : Value) (v39 : Value) (v40 : Value) (v41 : Value) (v42 : Value) (v43 : Value) (v44 : Value) (v45 : Value) (f46 : Nat → Int64) (v47 : Value) (v48 : Value) (v49 : Value) (f50 : Nat → Option Nat) (v53 : Value) (f54 : Nat → Int64) (f56 : Nat → Option Nat) (f59 : Nat → Int32) (f62 : Nat → Int32) (f67 : Nat → Option Nat) (h51 : f50 (xs 3).toNatClampNeg = some a5) (h52 : f50 (xs 4).toNatClampNeg = some a5) (h55 : f54 0 = 0) (h57 : f56 (xs 3).toNatClampNeg = some a9) (h58 : f56 (xs 4).toNatClampNeg = some a9) (h60 : f59 (xs 3).toNatClampNeg = 4) (h61 : f59 (xs 4).toNatClampNeg = 4) (h63 : f62 0 = 110) (h64 : f62 1 = 117) (h65 : f62 2 = 108) (h66 : f62 3 = 108) (h68 : f67 0 = none) (h69 : f67 1 = none) (hto1 : ¬ (xs 1) < 0) (hto2 : ¬ 7 < (xs 1)) (hto3 : (xs 1) ≤ 7) (hto4 : vp_in (xs 1) 8) (hf : xs 2 = 3) (ha1 : ¬ (xs 3) < 0) (ha2 : ¬ 7 < (xs 3)) (ha3 : (xs 3) ≤ 7) (ha4 : vp_in (xs 3) 8) (hb1 : ¬ (xs 4) < 0) (hb2 : ¬ 7 < (xs 4)) (hb3 : (xs 4) ≤ 7) (hb4 : vp_in (xs 4) 8) (hXs : va_X b 6 xs s s.heap) (hP : va_P D xcl [(a0, .inr (0, [v11, v12, v13, .ref a4, v14, .ref a3, v15, v16])), (a1, .inr (5, [v17, .ref a10, v18, v19, v20, v21, v22, v23, v24, v25, v26, v27, v28, v29, v30, v31, v32, v33, v34, v35, v36, v37, v38, v39, .ref a7, .ref a8, v40, v41, v42, v43, v44, v45])), (a2, .inl (cT 2, 1, .inr (.inl f46))), (a3, .inr (2, [v47, v48, v49])), (a4, .inl (cT 3, 8, .inr (.inr (.inr (.inr f50))))), (a5, .inr (2, [.ref a6, .int 1, v53])), (a6, .inl (cT 2, 4096, .inr (.inl f54))), (a7, .inl (cT 5, 8, .inr (.inr (.inr (.inr f56))))), (a8, .inl (cT 1, 8, .inl f59)), (a9, .inl (cT 0, 4096, .inl f62)), (a10, .inl (cT 4, 1024, .inr (.inr (.inr (.inr f67)))))] H) (hD : va_D A [(a0, .inr (0, [v11, v12, v13, .ref a4, v14, .ref a3, v15, v16])), (a1, .inr (5, [v17, .ref a10, v18, v19, v20, v21, v22, v23, v24, v25, v26, v27, v28, v29, v30, v31, v32, v33, v34, v35, v36, v37, v38, v39, .ref a7, .ref a8, v40, v41, v42, v43, v44, v45])), (a2, .inl (cT 2, 1, .inr (.inl f46))), (a3, .inr (2, [v47, v48, v49])), (a4, .inl (cT 3, 8, .inr (.inr (.inr (.inr f50))))), (a5, .inr (2, [.ref a6, .int 1, v53])), (a6, .inl (cT 2, 4096, .inr (.inl f54))), (a7, .inl (cT 5, 8, .inr (.inr (.inr (.inr f56))))), (a8, .inl (cT 1, 8, .inl f59)), (a9, .inl (cT 0, 4096, .inl f62)), (a10, .inl (cT 4, 1024, .inr (.inr (.inr (.inr f67)))))]) (hS : va_S A s.heap H locs) (hl : lv_has ls 8 [(4, .int 0), (3, .ref a2), (2, .ref a1), (1, .ref a0), (0, .ref b)]) : W p l e room_1 s m #[Value.ref b] below meth c H locs 54 107242 (lw_Z below #[Value.ref b] s) (F0 m 376 ls []) := by
  obtain ⟨hx, hb, hr, hml, hown, htx, hbl, hbA, hlocks, hK, hZ, hA, hA2⟩ := C
  refine lv_aload_n hx hb dL_law_376 rfl (lv_at hl 3 rfl) ?_
  refine lv_aload_n hx hb dL_law_377 rfl (lv_at hl 4 rfl) ?_
  refine lv_iload hx hb dL_law_378 (lv_at hl 0 rfl) ?_
  refine lv_iconst (v := 1) hx hb dL_law_380 (by decide) ?_
  refine lv_iadd hx hb dL_law_381 ?_
  refine W.eq (g2 := F0 m 382 ls [.int 1, .ref b, .ref a0]) rfl ?_
  refine va_sld hx hb hXs hbl hbA hS (i := 1) (show ¬ ((1 : Int32) < 0 ∨ 6 ≤ (1 : Int32).toNatClampNeg) by decide) dL_law_382 ?_
  refine W.eq (g2 := F0 m 383 ls [.int (xs 1), .ref a0]) rfl ?_
  refine lv_aload_n hx hb dL_law_383 rfl (lv_at hl 4 rfl) ?_
  refine lv_iload hx hb dL_law_384 (lv_at hl 0 rfl) ?_
  refine lv_iconst (v := 2) hx hb dL_law_386 (by decide) ?_
  refine lv_iadd hx hb dL_law_387 ?_
  refine W.eq (g2 := F0 m 388 ls [.int 2, .ref b, .int (xs 1), .ref a0]) rfl ?_
  refine va_sld hx hb hXs hbl hbA hS (i := 2) (show ¬ ((2 : Int32) < 0 ∨ 6 ≤ (2 : Int32).toNatClampNeg) by decide) dL_law_388 ?_
  refine W.eq (g2 := F0 m 389 ls [.int (xs 2), .int (xs 1), .ref a0]) rfl ?_
  rw [hf]
  refine W.eq (g2 := F0 m 389 ls [.int 3, .int (xs 1), .ref a0]) rfl ?_
  refine lv_aload_n hx hb dL_law_389 rfl (lv_at hl 4 rfl) ?_
  refine lv_iload hx hb dL_law_390 (lv_at hl 0 rfl) ?_
  refine lv_iconst (v := 3) hx hb dL_law_392 (by decide) ?_
  refine lv_iadd hx hb dL_law_393 ?_
  refine W.eq (g2 := F0 m 394 ls [.int 3, .ref b, .int 3, .int (xs 1), .ref a0]) rfl ?_
  refine va_sld hx hb hXs hbl hbA hS (i := 3) (show ¬ ((3 : Int32) < 0 ∨ 6 ≤ (3 : Int32).toNatClampNeg) by decide) dL_law_394 ?_
  refine W.eq (g2 := F0 m 395 ls [.int (xs 3), .int 3, .int (xs 1), .ref a0]) rfl ?_
  refine lv_aload_n hx hb dL_law_395 rfl (lv_at hl 4 rfl) ?_
  refine lv_iload hx hb dL_law_396 (lv_at hl 0 rfl) ?_
  refine lv_iconst (v := 4) hx hb dL_law_398 (by decide) ?_
  refine lv_iadd hx hb dL_law_399 ?_
  refine W.eq (g2 := F0 m 400 ls [.int 4, .ref b, .int (xs 3), .int 3, .int (xs 1), .ref a0]) rfl ?_
  refine va_sld hx hb hXs hbl hbA hS (i := 4) (show ¬ ((4 : Int32) < 0 ∨ 6 ≤ (4 : Int32).toNatClampNeg) by decide) dL_law_400 ?_
  refine W.eq (g2 := F0 m 401 ls [.int (xs 4), .int (xs 3), .int 3, .int (xs 1), .ref a0]) rfl ?_
  obtain ⟨hPc, hDc, hFc⟩ := xcut (wc := [(a0, .inr (0, [v11, v12, v13, .ref a4, v14, .ref a3, v15, v16])), (a3, .inr (2, [v47, v48, v49])), (a4, .inl (cT 3, 8, .inr (.inr (.inr (.inr f50))))), (a5, .inr (2, [.ref a6, .int 1, v53])), (a6, .inl (cT 2, 4096, .inr (.inl f54)))]) hP hD hS hA [0, 3, 4, 5, 6] rfl rfl (by decide)
  refine va_calli (vx_runSW (As := [.ref a0, .int (xs 1), .int 3, .int (xs 3), .int (xs 4)]) (rest := []) ⟨hx, hb, hml, hown, htx⟩ (cL_binary_14 l hl9 D cT aK aV H.size a0 a3 a4 a5 a6 (xs 1) (xs 3) (xs 4) v11 v12 v13 v14 v15 v16 v47 v48 v49 f50 v53 f54 hto1 hto2 hto3 hto4 ha1 ha2 ha3 ha4 hb1 hb2 hb3 hb4 (by first | rfl | exact h51 | exact h52 | exact h55 | exact h57 | exact h58 | exact h60 | exact h61 | exact h63 | exact h64 | exact h65 | exact h66 | exact h68 | exact h69) (by first | rfl | exact h51 | exact h52 | exact h55 | exact h57 | exact h58 | exact h60 | exact h61 | exact h63 | exact h64 | exact h65 | exact h66 | exact h68 | exact h69) (by first | rfl | exact h51 | exact h52 | exact h55 | exact h57 | exact h58 | exact h60 | exact h61 | exact h63 | exact h64 | exact h65 | exact h66 | exact h68 | exact h69)) (xcSW 5 htx (xw_goodC kw_3_97) rfl rfl rfl (htx _ kw_1_0) (htx _ kw_3_95) ⟨by decide, by decide, by decide +kernel⟩ ⟨Nat.le_of_ble_eq_true rfl, Nat.le_of_ble_eq_true rfl⟩ (htx _ kw_3_96)) ⟨xPre_blind, (fun U hU hW => ⟨rfl, xPre_of hZ hS hFc hPc hDc hK U hU hW⟩)⟩ rfl rfl hl.1 rfl (lv_room (Nat.le_of_ble_eq_true rfl)) dL_law_401 ⟨Nat.le_of_ble_eq_true rfl, Nat.le_of_ble_eq_true rfl⟩) hS (fun q _ h => hFc q h) hFc (fun r1 u9 t H1 locs ht hvm hr9 hB hz1 hk1 hS => ?_)
  obtain ⟨hP1, hK1, hD1⟩ := hB
  rw [ht] at hP1
  obtain ⟨hP, hD⟩ := xjoin (W := [(a1, .inr (5, [v17, .ref a10, v18, v19, v20, v21, v22, v23, v24, v25, v26, v27, v28, v29, v30, v31, v32, v33, v34, v35, v36, v37, v38, v39, .ref a7, .ref a8, v40, v41, v42, v43, v44, v45])), (a2, .inl (cT 2, 1, .inr (.inl f46))), (a7, .inl (cT 5, 8, .inr (.inr (.inr (.inr f56))))), (a8, .inl (cT 1, 8, .inl f59)), (a9, .inl (cT 0, 4096, .inl f62)), (a10, .inl (cT 4, 1024, .inr (.inr (.inr (.inr f67))))), (a0, .inr (0, [v11, v12, v13, .ref a4, v14, .ref a3, v15, .int 1])), (a3, .inr (2, [v47, .int 0, .int 0])), (a4, .inl (cT 3, 8, .inr (.inr (.inr (.inr f50))))), (a5, .inr (2, [.ref a6, .int 1, v53])), (a6, .inl (cT 2, 4096, .inr (.inl f54)))]) hP hD [0, 3, 4, 5, 6] [1, 2, 7, 8, 9, 10] 6 rfl rfl (by decide) (by decide) hk1 hFc hP1 hD1
  generalize H1 = H at hP hS ⊢
  rw [hr9]
  refine W.eq (g2 := F0 m 404 ls [.int 2]) rfl ?_
  refine lv_istore (lv' := [(5, .int 2), (4, .int 0), (3, .ref a2), (2, .ref a1), (1, .ref a0), (0, .ref b)]) hx hb dL_law_404 hl (by decide) rfl (fun ls hl => ?_)
  refine lv_aload_n hx hb dL_law_406 rfl (lv_at hl 3 rfl) ?_
  refine lv_aload_n hx hb dL_law_407 rfl (lv_at hl 5 rfl) ?_
  refine lv_iload hx hb dL_law_408 (lv_at hl 1 rfl) ?_
  refine lv_iconst (v := 1) hx hb dL_law_410 (by decide) ?_
  refine lv_iadd hx hb dL_law_411 ?_
  refine W.eq (g2 := F0 m 412 ls [.int 1, .ref b, .ref a1]) rfl ?_
  refine va_sld hx hb hXs hbl hbA hS (i := 1) (show ¬ ((1 : Int32) < 0 ∨ 6 ≤ (1 : Int32).toNatClampNeg) by decide) dL_law_412 ?_
  refine W.eq (g2 := F0 m 413 ls [.int (xs 1), .ref a1]) rfl ?_
  refine lv_aload_n hx hb dL_law_413 rfl (lv_at hl 5 rfl) ?_
  refine lv_iload hx hb dL_law_414 (lv_at hl 1 rfl) ?_
  refine lv_iconst (v := 2) hx hb dL_law_416 (by decide) ?_
  refine lv_iadd hx hb dL_law_417 ?_
  refine W.eq (g2 := F0 m 418 ls [.int 2, .ref b, .int (xs 1), .ref a1]) rfl ?_
  refine va_sld hx hb hXs hbl hbA hS (i := 2) (show ¬ ((2 : Int32) < 0 ∨ 6 ≤ (2 : Int32).toNatClampNeg) by decide) dL_law_418 ?_
  refine W.eq (g2 := F0 m 419 ls [.int (xs 2), .int (xs 1), .ref a1]) rfl ?_
  rw [hf]
  refine W.eq (g2 := F0 m 419 ls [.int 3, .int (xs 1), .ref a1]) rfl ?_
  refine lv_aload_n hx hb dL_law_419 rfl (lv_at hl 5 rfl) ?_
  refine lv_iload hx hb dL_law_420 (lv_at hl 1 rfl) ?_
  refine lv_iconst (v := 3) hx hb dL_law_422 (by decide) ?_
  refine lv_iadd hx hb dL_law_423 ?_
  refine W.eq (g2 := F0 m 424 ls [.int 3, .ref b, .int 3, .int (xs 1), .ref a1]) rfl ?_
  refine va_sld hx hb hXs hbl hbA hS (i := 3) (show ¬ ((3 : Int32) < 0 ∨ 6 ≤ (3 : Int32).toNatClampNeg) by decide) dL_law_424 ?_
  refine W.eq (g2 := F0 m 425 ls [.int (xs 3), .int 3, .int (xs 1), .ref a1]) rfl ?_
  refine lv_aload_n hx hb dL_law_425 rfl (lv_at hl 5 rfl) ?_
  refine lv_iload hx hb dL_law_426 (lv_at hl 1 rfl) ?_
  refine lv_iconst (v := 4) hx hb dL_law_428 (by decide) ?_
  refine lv_iadd hx hb dL_law_429 ?_
  refine W.eq (g2 := F0 m 430 ls [.int 4, .ref b, .int (xs 3), .int 3, .int (xs 1), .ref a1]) rfl ?_
  refine va_sld hx hb hXs hbl hbA hS (i := 4) (show ¬ ((4 : Int32) < 0 ∨ 6 ≤ (4 : Int32).toNatClampNeg) by decide) dL_law_430 ?_
  refine W.eq (g2 := F0 m 431 ls [.int (xs 4), .int (xs 3), .int 3, .int (xs 1), .ref a1]) rfl ?_
  obtain ⟨hPc, hDc, hFc⟩ := xcut (wc := [(a1, .inr (5, [v17, .ref a10, v18, v19, v20, v21, v22, v23, v24, v25, v26, v27, v28, v29, v30, v31, v32, v33, v34, v35, v36, v37, v38, v39, .ref a7, .ref a8, v40, v41, v42, v43, v44, v45])), (a7, .inl (cT 5, 8, .inr (.inr (.inr (.inr f56))))), (a8, .inl (cT 1, 8, .inl f59)), (a9, .inl (cT 0, 4096, .inl f62)), (a10, .inl (cT 4, 1024, .inr (.inr (.inr (.inr f67)))))]) hP hD hS hA [0, 2, 3, 4, 5] rfl rfl (by decide)
  refine va_callv (va_runV (C := "ValueBenchModel") (As := [.int (xs 1), .int 3, .int (xs 3), .int (xs 4)]) (rest := []) ⟨hx, hb, hml, hown, htx⟩ (cM_binary0_17 l hl9 D cT aK aV H.size a1 a7 a8 a9 a10 (xs 1) (xs 3) (xs 4) v17 v18 v19 v20 v21 v22 v23 v24 v25 v26 v27 v28 v29 v30 v31 v32 v33 v34 v35 v36 v37 v38 v39 v40 v41 v42 v43 v44 v45 f56 f59 f62 f67 hto1 hto2 hto3 hto4 ha1 ha2 ha3 ha4 hb1 hb2 hb3 hb4 (by first | rfl | exact h51 | exact h52 | exact h55 | exact h57 | exact h58 | exact h60 | exact h61 | exact h63 | exact h64 | exact h65 | exact h66 | exact h68 | exact h69) (by first | rfl | exact h51 | exact h52 | exact h55 | exact h57 | exact h58 | exact h60 | exact h61 | exact h63 | exact h64 | exact h65 | exact h66 | exact h68 | exact h69) (by first | rfl | exact h51 | exact h52 | exact h55 | exact h57 | exact h58 | exact h60 | exact h61 | exact h63 | exact h64 | exact h65 | exact h66 | exact h68 | exact h69) (by first | rfl | exact h51 | exact h52 | exact h55 | exact h57 | exact h58 | exact h60 | exact h61 | exact h63 | exact h64 | exact h65 | exact h66 | exact h68 | exact h69) (by first | rfl | exact h51 | exact h52 | exact h55 | exact h57 | exact h58 | exact h60 | exact h61 | exact h63 | exact h64 | exact h65 | exact h66 | exact h68 | exact h69) (by first | rfl | exact h51 | exact h52 | exact h55 | exact h57 | exact h58 | exact h60 | exact h61 | exact h63 | exact h64 | exact h65 | exact h66 | exact h68 | exact h69) (by first | rfl | exact h51 | exact h52 | exact h55 | exact h57 | exact h58 | exact h60 | exact h61 | exact h63 | exact h64 | exact h65 | exact h66 | exact h68 | exact h69) (by first | rfl | exact h51 | exact h52 | exact h55 | exact h57 | exact h58 | exact h60 | exact h61 | exact h63 | exact h64 | exact h65 | exact h66 | exact h68 | exact h69) (by first | rfl | exact h51 | exact h52 | exact h55 | exact h57 | exact h58 | exact h60 | exact h61 | exact h63 | exact h64 | exact h65 | exact h66 | exact h68 | exact h69) (by first | rfl | exact h51 | exact h52 | exact h55 | exact h57 | exact h58 | exact h60 | exact h61 | exact h63 | exact h64 | exact h65 | exact h66 | exact h68 | exact h69)) ⟨callB_of 4 htx (xw_goodC kw_6_191) rfl rfl rfl (htx _ kw_1_5) (htx _ kw_6_188) ⟨by decide, by decide, by decide +kernel⟩ ⟨Nat.le_of_ble_eq_true rfl, Nat.le_of_ble_eq_true rfl⟩, (htx _ kw_6_189), (htx _ kw_6_190)⟩ ⟨xPre_blind, va_recv hK hP (ci := 5) rfl (q0 := 0) rfl, (fun U hU hW => ⟨rfl, xPre_of hZ hS hFc hPc hDc hK U hU hW⟩)⟩ rfl rfl hl.1 rfl (lv_room (Nat.le_of_ble_eq_true rfl)) dL_law_431 ⟨Nat.le_of_ble_eq_true rfl, Nat.le_of_ble_eq_true rfl⟩) hS (fun q _ h => hFc q h) hFc (fun u9 t H1 locs ht hvm hr9 hB hz1 hk1 hS => ?_)
  obtain ⟨q2, q3, hP1, hK1, hD1⟩ := hB
  rw [ht] at hP1
  obtain ⟨hP, hD⟩ := xjoin (W := [(a2, .inl (cT 2, 1, .inr (.inl f46))), (a0, .inr (0, [v11, v12, v13, .ref a4, v14, .ref a3, v15, .int 1])), (a3, .inr (2, [v47, .int 0, .int 0])), (a4, .inl (cT 3, 8, .inr (.inr (.inr (.inr f50))))), (a5, .inr (2, [.ref a6, .int 1, v53])), (a6, .inl (cT 2, 4096, .inr (.inl f54))), (a1, .inr (5, [.int 2, .ref a10, .int 2, v19, .int 0, v21, v22, .int 0, .int 1, .int 0, v26, v27, .int 0, v29, v30, .ref a9, .int 4, .int 4, .int 0, .int 100, v36, v37, .int 0, .int 1000000000, .ref a7, .ref a8, v40, v41, v42, v43, .int 1, v45])), (a7, .inl (cT 5, 8, .inr (.inr (.inr (.inr f56))))), (a8, .inl (cT 1, 8, .inl f59)), (a9, .inl (cT 0, 4096, .inl f62)), (a10, .inl (cT 4, 1024, .inr (.inr (.inr (.inr (va_up (va_up f67 0 (some q2)) 1 (some q3))))))), (q2, .inr (6, [.int 0, .long 0, .int 0, .int 0, .int 0, .int 1])), (q3, .inr (6, [.int 0, .long 0, .int 0, .int 0, .int 0, .int 1]))]) hP hD [0, 2, 3, 4, 5] [1, 6, 7, 8, 9, 10] 6 rfl rfl (by decide) (by decide) hk1 hFc hP1 hD1
  generalize H1 = H at hP hS ⊢
  refine lv_aload_n hx hb dL_law_434 rfl (lv_at hl 3 rfl) ?_
  obtain ⟨hPc, hDc, hFc⟩ := xcut (wc := [(a1, .inr (5, [.int 2, .ref a10, .int 2, v19, .int 0, v21, v22, .int 0, .int 1, .int 0, v26, v27, .int 0, v29, v30, .ref a9, .int 4, .int 4, .int 0, .int 100, v36, v37, .int 0, .int 1000000000, .ref a7, .ref a8, v40, v41, v42, v43, .int 1, v45]))]) hP hD hS hA [6] rfl rfl (by decide)
  refine va_calli (va_runV (C := "ValueBenchModel") (As := []) (rest := []) ⟨hx, hb, hml, hown, htx⟩ (cM_thrown_2 l hl9 D cT aK aV H.size a1 (.ref a10) (.int 2) v19 (.int 0) v21 v22 (.int 0) (.int 1) (.int 0) v26 v27 (.int 0) v29 v30 (.ref a9) (.int 4) (.int 4) (.int 0) (.int 100) v36 v37 (.int 0) (.int 1000000000) (.ref a7) (.ref a8) v40 v41 v42 v43 (.int 1) v45) ⟨callB_of 0 htx (xw_goodC kw_5_187) rfl rfl rfl (htx _ kw_1_5) (htx _ kw_5_184) ⟨by decide, by decide, by decide +kernel⟩ ⟨Nat.le_of_ble_eq_true rfl, Nat.le_of_ble_eq_true rfl⟩, (htx _ kw_5_185), (htx _ kw_5_186)⟩ ⟨xPre_blind, va_recv hK hP (ci := 5) rfl (q0 := 6) rfl, (fun U hU hW => ⟨rfl, xPre_of hZ hS hFc hPc hDc hK U hU hW⟩)⟩ rfl rfl hl.1 rfl (lv_room (Nat.le_of_ble_eq_true rfl)) dL_law_435 ⟨Nat.le_of_ble_eq_true rfl, Nat.le_of_ble_eq_true rfl⟩) hS (fun q _ h => hFc q h) hFc (fun r4 u9 t H1 locs ht hvm hr9 hB hz1 hk1 hS => ?_)
  obtain ⟨hP1, hK1, hD1⟩ := hB
  rw [ht] at hP1
  obtain ⟨hP, hD⟩ := xjoin (W := [(a2, .inl (cT 2, 1, .inr (.inl f46))), (a0, .inr (0, [v11, v12, v13, .ref a4, v14, .ref a3, v15, .int 1])), (a3, .inr (2, [v47, .int 0, .int 0])), (a4, .inl (cT 3, 8, .inr (.inr (.inr (.inr f50))))), (a5, .inr (2, [.ref a6, .int 1, v53])), (a6, .inl (cT 2, 4096, .inr (.inl f54))), (a7, .inl (cT 5, 8, .inr (.inr (.inr (.inr f56))))), (a8, .inl (cT 1, 8, .inl f59)), (a9, .inl (cT 0, 4096, .inl f62)), (a10, .inl (cT 4, 1024, .inr (.inr (.inr (.inr (va_up (va_up f67 0 (some q2)) 1 (some q3))))))), (q2, .inr (6, [.int 0, .long 0, .int 0, .int 0, .int 0, .int 1])), (q3, .inr (6, [.int 0, .long 0, .int 0, .int 0, .int 0, .int 1])), (a1, .inr (5, [.int 2, .ref a10, .int 2, v19, .int 0, v21, v22, .int 0, .int 1, .int 0, v26, v27, .int 0, v29, v30, .ref a9, .int 4, .int 4, .int 0, .int 100, v36, v37, .int 0, .int 1000000000, .ref a7, .ref a8, v40, v41, v42, v43, .int 1, v45]))]) hP hD [6] [0, 1, 2, 3, 4, 5, 7, 8, 9, 10, 11, 12] 12 rfl rfl (by decide) (by decide) hk1 hFc hP1 hD1
  generalize H1 = H at hP hS ⊢
  rw [hr9]
  refine W.eq (g2 := F0 m 438 ls [.int 2]) rfl ?_
  refine lv_iload hx hb dL_law_438 (lv_at hl 0 rfl) ?_
  refine lv_icmp_eq (tgt := 445) hx hb dL_law_440 (by decide) (fun _ => ?_) (fun h => ((by revert h; decide : False)).elim)
  refine lv_goto (tgt := 906) hx hb dL_law_445 (by decide) ?_
  refine lv_iinc (v := 6) (lv' := [(4, .int 6), (5, .int 2), (3, .ref a2), (2, .ref a1), (1, .ref a0), (0, .ref b)]) hx hb dL_law_906 hl (k := 1) rfl (by decide) (by decide) rfl (fun ls hl => ?_)
  refine lv_goto (tgt := 23) hx hb dL_law_909 (by decide) ?_
  refine lv_iload hx hb dL_law_23 (lv_at hl 0 rfl) ?_
  refine lv_aload_n hx hb dL_law_25 rfl (lv_at hl 5 rfl) ?_
  refine va_slen hx hb hXs hbl hbA hS dL_law_26 ?_
  refine W.eq (g2 := F0 m 27 ls [.int 6, .int 6]) rfl ?_
  refine lv_bipush (v := 6) hx hb dL_law_27 (by decide) ?_
  refine lv_isub hx hb dL_law_29 ?_
  refine W.eq (g2 := F0 m 30 ls [.int 0, .int 6]) rfl ?_
  refine lv_icmp_gt (tgt := 912) hx hb dL_law_30 (by decide) (fun _ => ?_) (fun h => ((by revert h; decide : False)).elim)
  refine lv_iconst (v := 1) hx hb dL_law_912 (by decide) ?_
  exact va_forget (fun q h => hA2 _ (hS.2.2 q h)) (W.widen (k := 600002) (n := 7302232) (Nat.le_of_ble_eq_true rfl) (Nat.le_of_ble_eq_true rfl) (lw_ret hx hb hr hlocks dL_law_913))
set_option maxHeartbeats 400000000 in
set_option maxRecDepth 100000 in
theorem lf_binary3_p2 {p : Program} {e : Env} {s : State} {m : MethodId} {below : List Frame} {meth : Method} {c : Code} (l : Launch) (hl9 : l.stackTraces = false) (D : va_G) (cT : Nat → ClassId) (aK aV : Nat → Nat) {A : Nat → Prop} {b : Nat} {xs : Nat → Int32} (C : xLw p s m meth c b D cT aK aV A) {H : Heap} {locs : List Loc} {ls : Array Slot} (a0 : Nat) (a1 : Nat) (a2 : Nat) (a3 : Nat) (a4 : Nat) (a5 : Nat) (a6 : Nat) (a7 : Nat) (a8 : Nat) (a9 : Nat) (a10 : Nat) (a11 : Nat) (v12 : Value) (v13 : Value) (v14 : Value) (v15 : Value) (v16 : Value) (v17 : Value) (v18 : Value) (v19 : Value) (v20 : Value) (v21 : Value) (v22 : Value) (v23 : Value) (v24 : Value) (v25 : Value) (v26 : Value) (v27 : Value) (v28 : Value) (v29 : Value) (v30 : Value) (v31 : Value) (v32 : Value) (v33 : Value) (v34 : Value) (v35 : Value) (v36 : Value) (v37 : Value) (v38 : Value) (v39 : Value) (v40 : Value) (v41 : Value) (v42 : Value) (v43 : Value) (v44 : Value) (v45 : Value) (v46 : Value) (f47 : Nat → Int64) (v48 : Value) (v49 : Value) (v50 : Value) (f51 : Nat → Option Nat) (b53 : Nat) (v55 : Value) (f56 : Nat → Int64) (f58 : Nat → Option Nat) (f61 : Nat → Int32) (f64 : Nat → Int32) (f69 : Nat → Option Nat) (f72 : Nat → Int32) (h52 : f51 (xs 3).toNatClampNeg = some a5) (h54 : f51 (xs 4).toNatClampNeg = some b53) (h57 : f56 0 = 0) (h59 : f58 (xs 3).toNatClampNeg = some a9) (h60 : f58 (xs 4).toNatClampNeg = some a11) (h62 : f61 (xs 3).toNatClampNeg = 4) (h63 : f61 (xs 4).toNatClampNeg = 4) (h65 : f64 0 = 110) (h66 : f64 1 = 117) (h67 : f64 2 = 108) (h68 : f64 3 = 108) (h70 : f69 0 = none) (h71 : f69 1 = none) (h73 : f72 0 = 110) (h74 : f72 1 = 117) (h75 : f72 2 = 108) (h76 : f72 3 = 108) (hto1 : ¬ (xs 1) < 0) (hto2 : ¬ 7 < (xs 1)) (hto3 : (xs 1) ≤ 7) (hto4 : vp_in (xs 1) 8) (hf : xs 2 = 3) (ha1 : ¬ (xs 3) < 0) (ha2 : ¬ 7 < (xs 3)) (ha3 : (xs 3) ≤ 7) (ha4 : vp_in (xs 3) 8) (hb1 : ¬ (xs 4) < 0) (hb2 : ¬ 7 < (xs 4)) (hb3 : (xs 4) ≤ 7) (hb4 : vp_in (xs 4) 8) (hXs : va_X b 6 xs s s.heap) (hP : va_P D xcl [(a0, .inr (0, [v12, v13, v14, .ref a4, v15, .ref a3, v16, v17])), (a1, .inr (5, [v18, .ref a10, v19, v20, v21, v22, v23, v24, v25, v26, v27, v28, v29, v30, v31, v32, v33, v34, v35, v36, v37, v38, v39, v40, .ref a7, .ref a8, v41, v42, v43, v44, v45, v46])), (a2, .inl (cT 2, 1, .inr (.inl f47))), (a3, .inr (2, [v48, v49, v50])), (a4, .inl (cT 3, 8, .inr (.inr (.inr (.inr f51))))), (a5, .inr (2, [.ref a6, .int 1, v55])), (a6, .inl (cT 2, 4096, .inr (.inl f56))), (a7, .inl (cT 5, 8, .inr (.inr (.inr (.inr f58))))), (a8, .inl (cT 1, 8, .inl f61)), (a9, .inl (cT 0, 4096, .inl f64)), (a10, .inl (cT 4, 1024, .inr (.inr (.inr (.inr f69))))), (a11, .inl (cT 0, 4096, .inl f72))] H) (hD : va_D A [(a0, .inr (0, [v12, v13, v14, .ref a4, v15, .ref a3, v16, v17])), (a1, .inr (5, [v18, .ref a10, v19, v20, v21, v22, v23, v24, v25, v26, v27, v28, v29, v30, v31, v32, v33, v34, v35, v36, v37, v38, v39, v40, .ref a7, .ref a8, v41, v42, v43, v44, v45, v46])), (a2, .inl (cT 2, 1, .inr (.inl f47))), (a3, .inr (2, [v48, v49, v50])), (a4, .inl (cT 3, 8, .inr (.inr (.inr (.inr f51))))), (a5, .inr (2, [.ref a6, .int 1, v55])), (a6, .inl (cT 2, 4096, .inr (.inl f56))), (a7, .inl (cT 5, 8, .inr (.inr (.inr (.inr f58))))), (a8, .inl (cT 1, 8, .inl f61)), (a9, .inl (cT 0, 4096, .inl f64)), (a10, .inl (cT 4, 1024, .inr (.inr (.inr (.inr f69))))), (a11, .inl (cT 0, 4096, .inl f72))]) (hS : va_S A s.heap H locs) (hl : lv_has ls 8 [(4, .int 0), (3, .ref a2), (2, .ref a1), (1, .ref a0), (0, .ref b)]) : W p l e room_1 s m #[Value.ref b] below meth c H locs 54 107242 (lw_Z below #[Value.ref b] s) (F0 m 376 ls []) := by
  obtain ⟨hx, hb, hr, hml, hown, htx, hbl, hbA, hlocks, hK, hZ, hA, hA2⟩ := C
  refine lv_aload_n hx hb dL_law_376 rfl (lv_at hl 3 rfl) ?_
  refine lv_aload_n hx hb dL_law_377 rfl (lv_at hl 4 rfl) ?_
  refine lv_iload hx hb dL_law_378 (lv_at hl 0 rfl) ?_
  refine lv_iconst (v := 1) hx hb dL_law_380 (by decide) ?_
  refine lv_iadd hx hb dL_law_381 ?_
  refine W.eq (g2 := F0 m 382 ls [.int 1, .ref b, .ref a0]) rfl ?_
  refine va_sld hx hb hXs hbl hbA hS (i := 1) (show ¬ ((1 : Int32) < 0 ∨ 6 ≤ (1 : Int32).toNatClampNeg) by decide) dL_law_382 ?_
  refine W.eq (g2 := F0 m 383 ls [.int (xs 1), .ref a0]) rfl ?_
  refine lv_aload_n hx hb dL_law_383 rfl (lv_at hl 4 rfl) ?_
  refine lv_iload hx hb dL_law_384 (lv_at hl 0 rfl) ?_
  refine lv_iconst (v := 2) hx hb dL_law_386 (by decide) ?_
  refine lv_iadd hx hb dL_law_387 ?_
  refine W.eq (g2 := F0 m 388 ls [.int 2, .ref b, .int (xs 1), .ref a0]) rfl ?_
  refine va_sld hx hb hXs hbl hbA hS (i := 2) (show ¬ ((2 : Int32) < 0 ∨ 6 ≤ (2 : Int32).toNatClampNeg) by decide) dL_law_388 ?_
  refine W.eq (g2 := F0 m 389 ls [.int (xs 2), .int (xs 1), .ref a0]) rfl ?_
  rw [hf]
  refine W.eq (g2 := F0 m 389 ls [.int 3, .int (xs 1), .ref a0]) rfl ?_
  refine lv_aload_n hx hb dL_law_389 rfl (lv_at hl 4 rfl) ?_
  refine lv_iload hx hb dL_law_390 (lv_at hl 0 rfl) ?_
  refine lv_iconst (v := 3) hx hb dL_law_392 (by decide) ?_
  refine lv_iadd hx hb dL_law_393 ?_
  refine W.eq (g2 := F0 m 394 ls [.int 3, .ref b, .int 3, .int (xs 1), .ref a0]) rfl ?_
  refine va_sld hx hb hXs hbl hbA hS (i := 3) (show ¬ ((3 : Int32) < 0 ∨ 6 ≤ (3 : Int32).toNatClampNeg) by decide) dL_law_394 ?_
  refine W.eq (g2 := F0 m 395 ls [.int (xs 3), .int 3, .int (xs 1), .ref a0]) rfl ?_
  refine lv_aload_n hx hb dL_law_395 rfl (lv_at hl 4 rfl) ?_
  refine lv_iload hx hb dL_law_396 (lv_at hl 0 rfl) ?_
  refine lv_iconst (v := 4) hx hb dL_law_398 (by decide) ?_
  refine lv_iadd hx hb dL_law_399 ?_
  refine W.eq (g2 := F0 m 400 ls [.int 4, .ref b, .int (xs 3), .int 3, .int (xs 1), .ref a0]) rfl ?_
  refine va_sld hx hb hXs hbl hbA hS (i := 4) (show ¬ ((4 : Int32) < 0 ∨ 6 ≤ (4 : Int32).toNatClampNeg) by decide) dL_law_400 ?_
  refine W.eq (g2 := F0 m 401 ls [.int (xs 4), .int (xs 3), .int 3, .int (xs 1), .ref a0]) rfl ?_
  obtain ⟨hPc, hDc, hFc⟩ := xcut (wc := [(a0, .inr (0, [v12, v13, v14, .ref a4, v15, .ref a3, v16, v17])), (a3, .inr (2, [v48, v49, v50])), (a4, .inl (cT 3, 8, .inr (.inr (.inr (.inr f51))))), (a5, .inr (2, [.ref a6, .int 1, v55])), (a6, .inl (cT 2, 4096, .inr (.inl f56)))]) hP hD hS hA [0, 3, 4, 5, 6] rfl rfl (by decide)
  refine va_calli (vx_runSW (As := [.ref a0, .int (xs 1), .int 3, .int (xs 3), .int (xs 4)]) (rest := []) ⟨hx, hb, hml, hown, htx⟩ (cL_binary_15 l hl9 D cT aK aV H.size a0 a3 a4 a5 a6 (xs 1) (xs 3) (xs 4) v12 v13 v14 v15 v16 v17 v48 v49 v50 f51 b53 v55 f56 hto1 hto2 hto3 hto4 ha1 ha2 ha3 ha4 hb1 hb2 hb3 hb4 (by first | rfl | exact h52 | exact h54 | exact h57 | exact h59 | exact h60 | exact h62 | exact h63 | exact h65 | exact h66 | exact h67 | exact h68 | exact h70 | exact h71 | exact h73 | exact h74 | exact h75 | exact h76) (by first | rfl | exact h52 | exact h54 | exact h57 | exact h59 | exact h60 | exact h62 | exact h63 | exact h65 | exact h66 | exact h67 | exact h68 | exact h70 | exact h71 | exact h73 | exact h74 | exact h75 | exact h76) (by first | rfl | exact h52 | exact h54 | exact h57 | exact h59 | exact h60 | exact h62 | exact h63 | exact h65 | exact h66 | exact h67 | exact h68 | exact h70 | exact h71 | exact h73 | exact h74 | exact h75 | exact h76)) (xcSW 5 htx (xw_goodC kw_3_97) rfl rfl rfl (htx _ kw_1_0) (htx _ kw_3_95) ⟨by decide, by decide, by decide +kernel⟩ ⟨Nat.le_of_ble_eq_true rfl, Nat.le_of_ble_eq_true rfl⟩ (htx _ kw_3_96)) ⟨xPre_blind, (fun U hU hW => ⟨rfl, xPre_of hZ hS hFc hPc hDc hK U hU hW⟩)⟩ rfl rfl hl.1 rfl (lv_room (Nat.le_of_ble_eq_true rfl)) dL_law_401 ⟨Nat.le_of_ble_eq_true rfl, Nat.le_of_ble_eq_true rfl⟩) hS (fun q _ h => hFc q h) hFc (fun r1 u9 t H1 locs ht hvm hr9 hB hz1 hk1 hS => ?_)
  obtain ⟨hP1, hK1, hD1⟩ := hB
  rw [ht] at hP1
  obtain ⟨hP, hD⟩ := xjoin (W := [(a1, .inr (5, [v18, .ref a10, v19, v20, v21, v22, v23, v24, v25, v26, v27, v28, v29, v30, v31, v32, v33, v34, v35, v36, v37, v38, v39, v40, .ref a7, .ref a8, v41, v42, v43, v44, v45, v46])), (a2, .inl (cT 2, 1, .inr (.inl f47))), (a7, .inl (cT 5, 8, .inr (.inr (.inr (.inr f58))))), (a8, .inl (cT 1, 8, .inl f61)), (a9, .inl (cT 0, 4096, .inl f64)), (a10, .inl (cT 4, 1024, .inr (.inr (.inr (.inr f69))))), (a11, .inl (cT 0, 4096, .inl f72)), (a0, .inr (0, [v12, v13, v14, .ref a4, v15, .ref a3, v16, .int 1])), (a3, .inr (2, [v48, .int 0, .int 0])), (a4, .inl (cT 3, 8, .inr (.inr (.inr (.inr f51))))), (a5, .inr (2, [.ref a6, .int 1, v55])), (a6, .inl (cT 2, 4096, .inr (.inl f56)))]) hP hD [0, 3, 4, 5, 6] [1, 2, 7, 8, 9, 10, 11] 7 rfl rfl (by decide) (by decide) hk1 hFc hP1 hD1
  generalize H1 = H at hP hS ⊢
  rw [hr9]
  refine W.eq (g2 := F0 m 404 ls [.int 2]) rfl ?_
  refine lv_istore (lv' := [(5, .int 2), (4, .int 0), (3, .ref a2), (2, .ref a1), (1, .ref a0), (0, .ref b)]) hx hb dL_law_404 hl (by decide) rfl (fun ls hl => ?_)
  refine lv_aload_n hx hb dL_law_406 rfl (lv_at hl 3 rfl) ?_
  refine lv_aload_n hx hb dL_law_407 rfl (lv_at hl 5 rfl) ?_
  refine lv_iload hx hb dL_law_408 (lv_at hl 1 rfl) ?_
  refine lv_iconst (v := 1) hx hb dL_law_410 (by decide) ?_
  refine lv_iadd hx hb dL_law_411 ?_
  refine W.eq (g2 := F0 m 412 ls [.int 1, .ref b, .ref a1]) rfl ?_
  refine va_sld hx hb hXs hbl hbA hS (i := 1) (show ¬ ((1 : Int32) < 0 ∨ 6 ≤ (1 : Int32).toNatClampNeg) by decide) dL_law_412 ?_
  refine W.eq (g2 := F0 m 413 ls [.int (xs 1), .ref a1]) rfl ?_
  refine lv_aload_n hx hb dL_law_413 rfl (lv_at hl 5 rfl) ?_
  refine lv_iload hx hb dL_law_414 (lv_at hl 1 rfl) ?_
  refine lv_iconst (v := 2) hx hb dL_law_416 (by decide) ?_
  refine lv_iadd hx hb dL_law_417 ?_
  refine W.eq (g2 := F0 m 418 ls [.int 2, .ref b, .int (xs 1), .ref a1]) rfl ?_
  refine va_sld hx hb hXs hbl hbA hS (i := 2) (show ¬ ((2 : Int32) < 0 ∨ 6 ≤ (2 : Int32).toNatClampNeg) by decide) dL_law_418 ?_
  refine W.eq (g2 := F0 m 419 ls [.int (xs 2), .int (xs 1), .ref a1]) rfl ?_
  rw [hf]
  refine W.eq (g2 := F0 m 419 ls [.int 3, .int (xs 1), .ref a1]) rfl ?_
  refine lv_aload_n hx hb dL_law_419 rfl (lv_at hl 5 rfl) ?_
  refine lv_iload hx hb dL_law_420 (lv_at hl 1 rfl) ?_
  refine lv_iconst (v := 3) hx hb dL_law_422 (by decide) ?_
  refine lv_iadd hx hb dL_law_423 ?_
  refine W.eq (g2 := F0 m 424 ls [.int 3, .ref b, .int 3, .int (xs 1), .ref a1]) rfl ?_
  refine va_sld hx hb hXs hbl hbA hS (i := 3) (show ¬ ((3 : Int32) < 0 ∨ 6 ≤ (3 : Int32).toNatClampNeg) by decide) dL_law_424 ?_
  refine W.eq (g2 := F0 m 425 ls [.int (xs 3), .int 3, .int (xs 1), .ref a1]) rfl ?_
  refine lv_aload_n hx hb dL_law_425 rfl (lv_at hl 5 rfl) ?_
  refine lv_iload hx hb dL_law_426 (lv_at hl 1 rfl) ?_
  refine lv_iconst (v := 4) hx hb dL_law_428 (by decide) ?_
  refine lv_iadd hx hb dL_law_429 ?_
  refine W.eq (g2 := F0 m 430 ls [.int 4, .ref b, .int (xs 3), .int 3, .int (xs 1), .ref a1]) rfl ?_
  refine va_sld hx hb hXs hbl hbA hS (i := 4) (show ¬ ((4 : Int32) < 0 ∨ 6 ≤ (4 : Int32).toNatClampNeg) by decide) dL_law_430 ?_
  refine W.eq (g2 := F0 m 431 ls [.int (xs 4), .int (xs 3), .int 3, .int (xs 1), .ref a1]) rfl ?_
  obtain ⟨hPc, hDc, hFc⟩ := xcut (wc := [(a1, .inr (5, [v18, .ref a10, v19, v20, v21, v22, v23, v24, v25, v26, v27, v28, v29, v30, v31, v32, v33, v34, v35, v36, v37, v38, v39, v40, .ref a7, .ref a8, v41, v42, v43, v44, v45, v46])), (a7, .inl (cT 5, 8, .inr (.inr (.inr (.inr f58))))), (a8, .inl (cT 1, 8, .inl f61)), (a9, .inl (cT 0, 4096, .inl f64)), (a10, .inl (cT 4, 1024, .inr (.inr (.inr (.inr f69))))), (a11, .inl (cT 0, 4096, .inl f72))]) hP hD hS hA [0, 2, 3, 4, 5, 6] rfl rfl (by decide)
  refine va_callv (va_runV (C := "ValueBenchModel") (As := [.int (xs 1), .int 3, .int (xs 3), .int (xs 4)]) (rest := []) ⟨hx, hb, hml, hown, htx⟩ (cM_binary0_18 l hl9 D cT aK aV H.size a1 a7 a8 a9 a10 a11 (xs 1) (xs 3) (xs 4) v18 v19 v20 v21 v22 v23 v24 v25 v26 v27 v28 v29 v30 v31 v32 v33 v34 v35 v36 v37 v38 v39 v40 v41 v42 v43 v44 v45 v46 f58 f61 f64 f69 f72 hto1 hto2 hto3 hto4 ha1 ha2 ha3 ha4 hb1 hb2 hb3 hb4 (by first | rfl | exact h52 | exact h54 | exact h57 | exact h59 | exact h60 | exact h62 | exact h63 | exact h65 | exact h66 | exact h67 | exact h68 | exact h70 | exact h71 | exact h73 | exact h74 | exact h75 | exact h76) (by first | rfl | exact h52 | exact h54 | exact h57 | exact h59 | exact h60 | exact h62 | exact h63 | exact h65 | exact h66 | exact h67 | exact h68 | exact h70 | exact h71 | exact h73 | exact h74 | exact h75 | exact h76) (by first | rfl | exact h52 | exact h54 | exact h57 | exact h59 | exact h60 | exact h62 | exact h63 | exact h65 | exact h66 | exact h67 | exact h68 | exact h70 | exact h71 | exact h73 | exact h74 | exact h75 | exact h76) (by first | rfl | exact h52 | exact h54 | exact h57 | exact h59 | exact h60 | exact h62 | exact h63 | exact h65 | exact h66 | exact h67 | exact h68 | exact h70 | exact h71 | exact h73 | exact h74 | exact h75 | exact h76) (by first | rfl | exact h52 | exact h54 | exact h57 | exact h59 | exact h60 | exact h62 | exact h63 | exact h65 | exact h66 | exact h67 | exact h68 | exact h70 | exact h71 | exact h73 | exact h74 | exact h75 | exact h76) (by first | rfl | exact h52 | exact h54 | exact h57 | exact h59 | exact h60 | exact h62 | exact h63 | exact h65 | exact h66 | exact h67 | exact h68 | exact h70 | exact h71 | exact h73 | exact h74 | exact h75 | exact h76) (by first | rfl | exact h52 | exact h54 | exact h57 | exact h59 | exact h60 | exact h62 | exact h63 | exact h65 | exact h66 | exact h67 | exact h68 | exact h70 | exact h71 | exact h73 | exact h74 | exact h75 | exact h76) (by first | rfl | exact h52 | exact h54 | exact h57 | exact h59 | exact h60 | exact h62 | exact h63 | exact h65 | exact h66 | exact h67 | exact h68 | exact h70 | exact h71 | exact h73 | exact h74 | exact h75 | exact h76) (by first | rfl | exact h52 | exact h54 | exact h57 | exact h59 | exact h60 | exact h62 | exact h63 | exact h65 | exact h66 | exact h67 | exact h68 | exact h70 | exact h71 | exact h73 | exact h74 | exact h75 | exact h76) (by first | rfl | exact h52 | exact h54 | exact h57 | exact h59 | exact h60 | exact h62 | exact h63 | exact h65 | exact h66 | exact h67 | exact h68 | exact h70 | exact h71 | exact h73 | exact h74 | exact h75 | exact h76) (by first | rfl | exact h52 | exact h54 | exact h57 | exact h59 | exact h60 | exact h62 | exact h63 | exact h65 | exact h66 | exact h67 | exact h68 | exact h70 | exact h71 | exact h73 | exact h74 | exact h75 | exact h76) (by first | rfl | exact h52 | exact h54 | exact h57 | exact h59 | exact h60 | exact h62 | exact h63 | exact h65 | exact h66 | exact h67 | exact h68 | exact h70 | exact h71 | exact h73 | exact h74 | exact h75 | exact h76) (by first | rfl | exact h52 | exact h54 | exact h57 | exact h59 | exact h60 | exact h62 | exact h63 | exact h65 | exact h66 | exact h67 | exact h68 | exact h70 | exact h71 | exact h73 | exact h74 | exact h75 | exact h76) (by first | rfl | exact h52 | exact h54 | exact h57 | exact h59 | exact h60 | exact h62 | exact h63 | exact h65 | exact h66 | exact h67 | exact h68 | exact h70 | exact h71 | exact h73 | exact h74 | exact h75 | exact h76)) ⟨callB_of 4 htx (xw_goodC kw_6_191) rfl rfl rfl (htx _ kw_1_5) (htx _ kw_6_188) ⟨by decide, by decide, by decide +kernel⟩ ⟨Nat.le_of_ble_eq_true rfl, Nat.le_of_ble_eq_true rfl⟩, (htx _ kw_6_189), (htx _ kw_6_190)⟩ ⟨xPre_blind, va_recv hK hP (ci := 5) rfl (q0 := 0) rfl, (fun U hU hW => ⟨rfl, xPre_of hZ hS hFc hPc hDc hK U hU hW⟩)⟩ rfl rfl hl.1 rfl (lv_room (Nat.le_of_ble_eq_true rfl)) dL_law_431 ⟨Nat.le_of_ble_eq_true rfl, Nat.le_of_ble_eq_true rfl⟩) hS (fun q _ h => hFc q h) hFc (fun u9 t H1 locs ht hvm hr9 hB hz1 hk1 hS => ?_)
  obtain ⟨q2, q3, hP1, hK1, hD1⟩ := hB
  rw [ht] at hP1
  obtain ⟨hP, hD⟩ := xjoin (W := [(a2, .inl (cT 2, 1, .inr (.inl f47))), (a0, .inr (0, [v12, v13, v14, .ref a4, v15, .ref a3, v16, .int 1])), (a3, .inr (2, [v48, .int 0, .int 0])), (a4, .inl (cT 3, 8, .inr (.inr (.inr (.inr f51))))), (a5, .inr (2, [.ref a6, .int 1, v55])), (a6, .inl (cT 2, 4096, .inr (.inl f56))), (a1, .inr (5, [.int 2, .ref a10, .int 2, v20, .int 0, v22, v23, .int 0, .int 1, .int 0, v27, v28, .int 0, v30, v31, .ref a11, .int 4, .int 4, .int 0, .int 100, v37, v38, .int 0, .int 1000000000, .ref a7, .ref a8, v41, v42, v43, v44, .int 1, v46])), (a7, .inl (cT 5, 8, .inr (.inr (.inr (.inr f58))))), (a8, .inl (cT 1, 8, .inl f61)), (a9, .inl (cT 0, 4096, .inl f64)), (a10, .inl (cT 4, 1024, .inr (.inr (.inr (.inr (va_up (va_up f69 0 (some q2)) 1 (some q3))))))), (a11, .inl (cT 0, 4096, .inl f72)), (q2, .inr (6, [.int 0, .long 0, .int 0, .int 0, .int 0, .int 1])), (q3, .inr (6, [.int 0, .long 0, .int 0, .int 0, .int 0, .int 1]))]) hP hD [0, 2, 3, 4, 5, 6] [1, 7, 8, 9, 10, 11] 6 rfl rfl (by decide) (by decide) hk1 hFc hP1 hD1
  generalize H1 = H at hP hS ⊢
  refine lv_aload_n hx hb dL_law_434 rfl (lv_at hl 3 rfl) ?_
  obtain ⟨hPc, hDc, hFc⟩ := xcut (wc := [(a1, .inr (5, [.int 2, .ref a10, .int 2, v20, .int 0, v22, v23, .int 0, .int 1, .int 0, v27, v28, .int 0, v30, v31, .ref a11, .int 4, .int 4, .int 0, .int 100, v37, v38, .int 0, .int 1000000000, .ref a7, .ref a8, v41, v42, v43, v44, .int 1, v46]))]) hP hD hS hA [6] rfl rfl (by decide)
  refine va_calli (va_runV (C := "ValueBenchModel") (As := []) (rest := []) ⟨hx, hb, hml, hown, htx⟩ (cM_thrown_2 l hl9 D cT aK aV H.size a1 (.ref a10) (.int 2) v20 (.int 0) v22 v23 (.int 0) (.int 1) (.int 0) v27 v28 (.int 0) v30 v31 (.ref a11) (.int 4) (.int 4) (.int 0) (.int 100) v37 v38 (.int 0) (.int 1000000000) (.ref a7) (.ref a8) v41 v42 v43 v44 (.int 1) v46) ⟨callB_of 0 htx (xw_goodC kw_5_187) rfl rfl rfl (htx _ kw_1_5) (htx _ kw_5_184) ⟨by decide, by decide, by decide +kernel⟩ ⟨Nat.le_of_ble_eq_true rfl, Nat.le_of_ble_eq_true rfl⟩, (htx _ kw_5_185), (htx _ kw_5_186)⟩ ⟨xPre_blind, va_recv hK hP (ci := 5) rfl (q0 := 6) rfl, (fun U hU hW => ⟨rfl, xPre_of hZ hS hFc hPc hDc hK U hU hW⟩)⟩ rfl rfl hl.1 rfl (lv_room (Nat.le_of_ble_eq_true rfl)) dL_law_435 ⟨Nat.le_of_ble_eq_true rfl, Nat.le_of_ble_eq_true rfl⟩) hS (fun q _ h => hFc q h) hFc (fun r4 u9 t H1 locs ht hvm hr9 hB hz1 hk1 hS => ?_)
  obtain ⟨hP1, hK1, hD1⟩ := hB
  rw [ht] at hP1
  obtain ⟨hP, hD⟩ := xjoin (W := [(a2, .inl (cT 2, 1, .inr (.inl f47))), (a0, .inr (0, [v12, v13, v14, .ref a4, v15, .ref a3, v16, .int 1])), (a3, .inr (2, [v48, .int 0, .int 0])), (a4, .inl (cT 3, 8, .inr (.inr (.inr (.inr f51))))), (a5, .inr (2, [.ref a6, .int 1, v55])), (a6, .inl (cT 2, 4096, .inr (.inl f56))), (a7, .inl (cT 5, 8, .inr (.inr (.inr (.inr f58))))), (a8, .inl (cT 1, 8, .inl f61)), (a9, .inl (cT 0, 4096, .inl f64)), (a10, .inl (cT 4, 1024, .inr (.inr (.inr (.inr (va_up (va_up f69 0 (some q2)) 1 (some q3))))))), (a11, .inl (cT 0, 4096, .inl f72)), (q2, .inr (6, [.int 0, .long 0, .int 0, .int 0, .int 0, .int 1])), (q3, .inr (6, [.int 0, .long 0, .int 0, .int 0, .int 0, .int 1])), (a1, .inr (5, [.int 2, .ref a10, .int 2, v20, .int 0, v22, v23, .int 0, .int 1, .int 0, v27, v28, .int 0, v30, v31, .ref a11, .int 4, .int 4, .int 0, .int 100, v37, v38, .int 0, .int 1000000000, .ref a7, .ref a8, v41, v42, v43, v44, .int 1, v46]))]) hP hD [6] [0, 1, 2, 3, 4, 5, 7, 8, 9, 10, 11, 12, 13] 13 rfl rfl (by decide) (by decide) hk1 hFc hP1 hD1
  generalize H1 = H at hP hS ⊢
  rw [hr9]
  refine W.eq (g2 := F0 m 438 ls [.int 2]) rfl ?_
  refine lv_iload hx hb dL_law_438 (lv_at hl 0 rfl) ?_
  refine lv_icmp_eq (tgt := 445) hx hb dL_law_440 (by decide) (fun _ => ?_) (fun h => ((by revert h; decide : False)).elim)
  refine lv_goto (tgt := 906) hx hb dL_law_445 (by decide) ?_
  refine lv_iinc (v := 6) (lv' := [(4, .int 6), (5, .int 2), (3, .ref a2), (2, .ref a1), (1, .ref a0), (0, .ref b)]) hx hb dL_law_906 hl (k := 1) rfl (by decide) (by decide) rfl (fun ls hl => ?_)
  refine lv_goto (tgt := 23) hx hb dL_law_909 (by decide) ?_
  refine lv_iload hx hb dL_law_23 (lv_at hl 0 rfl) ?_
  refine lv_aload_n hx hb dL_law_25 rfl (lv_at hl 5 rfl) ?_
  refine va_slen hx hb hXs hbl hbA hS dL_law_26 ?_
  refine W.eq (g2 := F0 m 27 ls [.int 6, .int 6]) rfl ?_
  refine lv_bipush (v := 6) hx hb dL_law_27 (by decide) ?_
  refine lv_isub hx hb dL_law_29 ?_
  refine W.eq (g2 := F0 m 30 ls [.int 0, .int 6]) rfl ?_
  refine lv_icmp_gt (tgt := 912) hx hb dL_law_30 (by decide) (fun _ => ?_) (fun h => ((by revert h; decide : False)).elim)
  refine lv_iconst (v := 1) hx hb dL_law_912 (by decide) ?_
  exact va_forget (fun q h => hA2 _ (hS.2.2 q h)) (W.widen (k := 600002) (n := 7302232) (Nat.le_of_ble_eq_true rfl) (Nat.le_of_ble_eq_true rfl) (lw_ret hx hb hr hlocks dL_law_913))
set_option maxHeartbeats 400000000 in
set_option maxRecDepth 100000 in
theorem lf_binary3_p3 {p : Program} {e : Env} {s : State} {m : MethodId} {below : List Frame} {meth : Method} {c : Code} (l : Launch) (hl9 : l.stackTraces = false) (D : va_G) (cT : Nat → ClassId) (aK aV : Nat → Nat) {A : Nat → Prop} {b : Nat} {xs : Nat → Int32} (C : xLw p s m meth c b D cT aK aV A) {H : Heap} {locs : List Loc} {ls : Array Slot} (a0 : Nat) (a1 : Nat) (a2 : Nat) (a3 : Nat) (a4 : Nat) (a5 : Nat) (a6 : Nat) (a7 : Nat) (a8 : Nat) (a9 : Nat) (a10 : Nat) (a11 : Nat) (v12 : Value) (v13 : Value) (v14 : Value) (v15 : Value) (v16 : Value) (v17 : Value) (v18 : Value) (v19 : Value) (v20 : Value) (v21 : Value) (v22 : Value) (v23 : Value) (v24 : Value) (v25 : Value) (v26 : Value) (v27 : Value) (v28 : Value) (v29 : Value) (v30 : Value) (v31 : Value) (v32 : Value) (v33 : Value) (v34 : Value) (v35 : Value) (v36 : Value) (v37 : Value) (v38 : Value) (v39 : Value) (v40 : Value) (v41 : Value) (v42 : Value) (v43 : Value) (v44 : Value) (v45 : Value) (v46 : Value) (f47 : Nat → Int64) (v48 : Value) (v49 : Value) (v50 : Value) (f51 : Nat → Option Nat) (b53 : Nat) (v55 : Value) (f56 : Nat → Int64) (f58 : Nat → Option Nat) (f61 : Nat → Int32) (f64 : Nat → Int32) (f69 : Nat → Option Nat) (f72 : Nat → Int32) (h52 : f51 (xs 3).toNatClampNeg = some a5) (h54 : f51 (xs 4).toNatClampNeg = some b53) (h57 : f56 0 = 0) (h59 : f58 (xs 3).toNatClampNeg = some a9) (h60 : f58 (xs 4).toNatClampNeg = some a11) (h62 : f61 (xs 3).toNatClampNeg = 4) (h63 : f61 (xs 4).toNatClampNeg = 4) (h65 : f64 0 = 110) (h66 : f64 1 = 117) (h67 : f64 2 = 108) (h68 : f64 3 = 108) (h70 : f69 0 = none) (h71 : f69 1 = none) (h73 : f72 0 = 110) (h74 : f72 1 = 117) (h75 : f72 2 = 108) (h76 : f72 3 = 108) (hto1 : ¬ (xs 1) < 0) (hto2 : ¬ 7 < (xs 1)) (hto3 : (xs 1) ≤ 7) (hto4 : vp_in (xs 1) 8) (hf : xs 2 = 3) (ha1 : ¬ (xs 3) < 0) (ha2 : ¬ 7 < (xs 3)) (ha3 : (xs 3) ≤ 7) (ha4 : vp_in (xs 3) 8) (hb1 : ¬ (xs 4) < 0) (hb2 : ¬ 7 < (xs 4)) (hb3 : (xs 4) ≤ 7) (hb4 : vp_in (xs 4) 8) (hXs : va_X b 6 xs s s.heap) (hP : va_P D xcl [(a0, .inr (0, [v12, v13, v14, .ref a4, v15, .ref a3, v16, v17])), (a1, .inr (5, [v18, .ref a10, v19, v20, v21, v22, v23, v24, v25, v26, v27, v28, v29, v30, v31, v32, v33, v34, v35, v36, v37, v38, v39, v40, .ref a7, .ref a8, v41, v42, v43, v44, v45, v46])), (a2, .inl (cT 2, 1, .inr (.inl f47))), (a3, .inr (2, [v48, v49, v50])), (a4, .inl (cT 3, 8, .inr (.inr (.inr (.inr f51))))), (a5, .inr (2, [.ref a6, .int 1, v55])), (a6, .inl (cT 2, 4096, .inr (.inl f56))), (a7, .inl (cT 5, 8, .inr (.inr (.inr (.inr f58))))), (a8, .inl (cT 1, 8, .inl f61)), (a9, .inl (cT 0, 4096, .inl f64)), (a10, .inl (cT 4, 1024, .inr (.inr (.inr (.inr f69))))), (a11, .inl (cT 0, 4096, .inl f72))] H) (hD : va_D A [(a0, .inr (0, [v12, v13, v14, .ref a4, v15, .ref a3, v16, v17])), (a1, .inr (5, [v18, .ref a10, v19, v20, v21, v22, v23, v24, v25, v26, v27, v28, v29, v30, v31, v32, v33, v34, v35, v36, v37, v38, v39, v40, .ref a7, .ref a8, v41, v42, v43, v44, v45, v46])), (a2, .inl (cT 2, 1, .inr (.inl f47))), (a3, .inr (2, [v48, v49, v50])), (a4, .inl (cT 3, 8, .inr (.inr (.inr (.inr f51))))), (a5, .inr (2, [.ref a6, .int 1, v55])), (a6, .inl (cT 2, 4096, .inr (.inl f56))), (a7, .inl (cT 5, 8, .inr (.inr (.inr (.inr f58))))), (a8, .inl (cT 1, 8, .inl f61)), (a9, .inl (cT 0, 4096, .inl f64)), (a10, .inl (cT 4, 1024, .inr (.inr (.inr (.inr f69))))), (a11, .inl (cT 0, 4096, .inl f72))]) (hS : va_S A s.heap H locs) (hl : lv_has ls 8 [(4, .int 0), (3, .ref a2), (2, .ref a1), (1, .ref a0), (0, .ref b)]) : W p l e room_1 s m #[Value.ref b] below meth c H locs 54 107242 (lw_Z below #[Value.ref b] s) (F0 m 376 ls []) := by
  obtain ⟨hx, hb, hr, hml, hown, htx, hbl, hbA, hlocks, hK, hZ, hA, hA2⟩ := C
  refine lv_aload_n hx hb dL_law_376 rfl (lv_at hl 3 rfl) ?_
  refine lv_aload_n hx hb dL_law_377 rfl (lv_at hl 4 rfl) ?_
  refine lv_iload hx hb dL_law_378 (lv_at hl 0 rfl) ?_
  refine lv_iconst (v := 1) hx hb dL_law_380 (by decide) ?_
  refine lv_iadd hx hb dL_law_381 ?_
  refine W.eq (g2 := F0 m 382 ls [.int 1, .ref b, .ref a0]) rfl ?_
  refine va_sld hx hb hXs hbl hbA hS (i := 1) (show ¬ ((1 : Int32) < 0 ∨ 6 ≤ (1 : Int32).toNatClampNeg) by decide) dL_law_382 ?_
  refine W.eq (g2 := F0 m 383 ls [.int (xs 1), .ref a0]) rfl ?_
  refine lv_aload_n hx hb dL_law_383 rfl (lv_at hl 4 rfl) ?_
  refine lv_iload hx hb dL_law_384 (lv_at hl 0 rfl) ?_
  refine lv_iconst (v := 2) hx hb dL_law_386 (by decide) ?_
  refine lv_iadd hx hb dL_law_387 ?_
  refine W.eq (g2 := F0 m 388 ls [.int 2, .ref b, .int (xs 1), .ref a0]) rfl ?_
  refine va_sld hx hb hXs hbl hbA hS (i := 2) (show ¬ ((2 : Int32) < 0 ∨ 6 ≤ (2 : Int32).toNatClampNeg) by decide) dL_law_388 ?_
  refine W.eq (g2 := F0 m 389 ls [.int (xs 2), .int (xs 1), .ref a0]) rfl ?_
  rw [hf]
  refine W.eq (g2 := F0 m 389 ls [.int 3, .int (xs 1), .ref a0]) rfl ?_
  refine lv_aload_n hx hb dL_law_389 rfl (lv_at hl 4 rfl) ?_
  refine lv_iload hx hb dL_law_390 (lv_at hl 0 rfl) ?_
  refine lv_iconst (v := 3) hx hb dL_law_392 (by decide) ?_
  refine lv_iadd hx hb dL_law_393 ?_
  refine W.eq (g2 := F0 m 394 ls [.int 3, .ref b, .int 3, .int (xs 1), .ref a0]) rfl ?_
  refine va_sld hx hb hXs hbl hbA hS (i := 3) (show ¬ ((3 : Int32) < 0 ∨ 6 ≤ (3 : Int32).toNatClampNeg) by decide) dL_law_394 ?_
  refine W.eq (g2 := F0 m 395 ls [.int (xs 3), .int 3, .int (xs 1), .ref a0]) rfl ?_
  refine lv_aload_n hx hb dL_law_395 rfl (lv_at hl 4 rfl) ?_
  refine lv_iload hx hb dL_law_396 (lv_at hl 0 rfl) ?_
  refine lv_iconst (v := 4) hx hb dL_law_398 (by decide) ?_
  refine lv_iadd hx hb dL_law_399 ?_
  refine W.eq (g2 := F0 m 400 ls [.int 4, .ref b, .int (xs 3), .int 3, .int (xs 1), .ref a0]) rfl ?_
  refine va_sld hx hb hXs hbl hbA hS (i := 4) (show ¬ ((4 : Int32) < 0 ∨ 6 ≤ (4 : Int32).toNatClampNeg) by decide) dL_law_400 ?_
  refine W.eq (g2 := F0 m 401 ls [.int (xs 4), .int (xs 3), .int 3, .int (xs 1), .ref a0]) rfl ?_
  obtain ⟨hPc, hDc, hFc⟩ := xcut (wc := [(a0, .inr (0, [v12, v13, v14, .ref a4, v15, .ref a3, v16, v17])), (a3, .inr (2, [v48, v49, v50])), (a4, .inl (cT 3, 8, .inr (.inr (.inr (.inr f51))))), (a5, .inr (2, [.ref a6, .int 1, v55])), (a6, .inl (cT 2, 4096, .inr (.inl f56)))]) hP hD hS hA [0, 3, 4, 5, 6] rfl rfl (by decide)
  refine va_calli (vx_runSW (As := [.ref a0, .int (xs 1), .int 3, .int (xs 3), .int (xs 4)]) (rest := []) ⟨hx, hb, hml, hown, htx⟩ (cL_binary_15 l hl9 D cT aK aV H.size a0 a3 a4 a5 a6 (xs 1) (xs 3) (xs 4) v12 v13 v14 v15 v16 v17 v48 v49 v50 f51 b53 v55 f56 hto1 hto2 hto3 hto4 ha1 ha2 ha3 ha4 hb1 hb2 hb3 hb4 (by first | rfl | exact h52 | exact h54 | exact h57 | exact h59 | exact h60 | exact h62 | exact h63 | exact h65 | exact h66 | exact h67 | exact h68 | exact h70 | exact h71 | exact h73 | exact h74 | exact h75 | exact h76) (by first | rfl | exact h52 | exact h54 | exact h57 | exact h59 | exact h60 | exact h62 | exact h63 | exact h65 | exact h66 | exact h67 | exact h68 | exact h70 | exact h71 | exact h73 | exact h74 | exact h75 | exact h76) (by first | rfl | exact h52 | exact h54 | exact h57 | exact h59 | exact h60 | exact h62 | exact h63 | exact h65 | exact h66 | exact h67 | exact h68 | exact h70 | exact h71 | exact h73 | exact h74 | exact h75 | exact h76)) (xcSW 5 htx (xw_goodC kw_3_97) rfl rfl rfl (htx _ kw_1_0) (htx _ kw_3_95) ⟨by decide, by decide, by decide +kernel⟩ ⟨Nat.le_of_ble_eq_true rfl, Nat.le_of_ble_eq_true rfl⟩ (htx _ kw_3_96)) ⟨xPre_blind, (fun U hU hW => ⟨rfl, xPre_of hZ hS hFc hPc hDc hK U hU hW⟩)⟩ rfl rfl hl.1 rfl (lv_room (Nat.le_of_ble_eq_true rfl)) dL_law_401 ⟨Nat.le_of_ble_eq_true rfl, Nat.le_of_ble_eq_true rfl⟩) hS (fun q _ h => hFc q h) hFc (fun r1 u9 t H1 locs ht hvm hr9 hB hz1 hk1 hS => ?_)
  obtain ⟨hP1, hK1, hD1⟩ := hB
  rw [ht] at hP1
  obtain ⟨hP, hD⟩ := xjoin (W := [(a1, .inr (5, [v18, .ref a10, v19, v20, v21, v22, v23, v24, v25, v26, v27, v28, v29, v30, v31, v32, v33, v34, v35, v36, v37, v38, v39, v40, .ref a7, .ref a8, v41, v42, v43, v44, v45, v46])), (a2, .inl (cT 2, 1, .inr (.inl f47))), (a7, .inl (cT 5, 8, .inr (.inr (.inr (.inr f58))))), (a8, .inl (cT 1, 8, .inl f61)), (a9, .inl (cT 0, 4096, .inl f64)), (a10, .inl (cT 4, 1024, .inr (.inr (.inr (.inr f69))))), (a11, .inl (cT 0, 4096, .inl f72)), (a0, .inr (0, [v12, v13, v14, .ref a4, v15, .ref a3, v16, .int 1])), (a3, .inr (2, [v48, .int 0, .int 0])), (a4, .inl (cT 3, 8, .inr (.inr (.inr (.inr f51))))), (a5, .inr (2, [.ref a6, .int 1, v55])), (a6, .inl (cT 2, 4096, .inr (.inl f56)))]) hP hD [0, 3, 4, 5, 6] [1, 2, 7, 8, 9, 10, 11] 7 rfl rfl (by decide) (by decide) hk1 hFc hP1 hD1
  generalize H1 = H at hP hS ⊢
  rw [hr9]
  refine W.eq (g2 := F0 m 404 ls [.int 2]) rfl ?_
  refine lv_istore (lv' := [(5, .int 2), (4, .int 0), (3, .ref a2), (2, .ref a1), (1, .ref a0), (0, .ref b)]) hx hb dL_law_404 hl (by decide) rfl (fun ls hl => ?_)
  refine lv_aload_n hx hb dL_law_406 rfl (lv_at hl 3 rfl) ?_
  refine lv_aload_n hx hb dL_law_407 rfl (lv_at hl 5 rfl) ?_
  refine lv_iload hx hb dL_law_408 (lv_at hl 1 rfl) ?_
  refine lv_iconst (v := 1) hx hb dL_law_410 (by decide) ?_
  refine lv_iadd hx hb dL_law_411 ?_
  refine W.eq (g2 := F0 m 412 ls [.int 1, .ref b, .ref a1]) rfl ?_
  refine va_sld hx hb hXs hbl hbA hS (i := 1) (show ¬ ((1 : Int32) < 0 ∨ 6 ≤ (1 : Int32).toNatClampNeg) by decide) dL_law_412 ?_
  refine W.eq (g2 := F0 m 413 ls [.int (xs 1), .ref a1]) rfl ?_
  refine lv_aload_n hx hb dL_law_413 rfl (lv_at hl 5 rfl) ?_
  refine lv_iload hx hb dL_law_414 (lv_at hl 1 rfl) ?_
  refine lv_iconst (v := 2) hx hb dL_law_416 (by decide) ?_
  refine lv_iadd hx hb dL_law_417 ?_
  refine W.eq (g2 := F0 m 418 ls [.int 2, .ref b, .int (xs 1), .ref a1]) rfl ?_
  refine va_sld hx hb hXs hbl hbA hS (i := 2) (show ¬ ((2 : Int32) < 0 ∨ 6 ≤ (2 : Int32).toNatClampNeg) by decide) dL_law_418 ?_
  refine W.eq (g2 := F0 m 419 ls [.int (xs 2), .int (xs 1), .ref a1]) rfl ?_
  rw [hf]
  refine W.eq (g2 := F0 m 419 ls [.int 3, .int (xs 1), .ref a1]) rfl ?_
  refine lv_aload_n hx hb dL_law_419 rfl (lv_at hl 5 rfl) ?_
  refine lv_iload hx hb dL_law_420 (lv_at hl 1 rfl) ?_
  refine lv_iconst (v := 3) hx hb dL_law_422 (by decide) ?_
  refine lv_iadd hx hb dL_law_423 ?_
  refine W.eq (g2 := F0 m 424 ls [.int 3, .ref b, .int 3, .int (xs 1), .ref a1]) rfl ?_
  refine va_sld hx hb hXs hbl hbA hS (i := 3) (show ¬ ((3 : Int32) < 0 ∨ 6 ≤ (3 : Int32).toNatClampNeg) by decide) dL_law_424 ?_
  refine W.eq (g2 := F0 m 425 ls [.int (xs 3), .int 3, .int (xs 1), .ref a1]) rfl ?_
  refine lv_aload_n hx hb dL_law_425 rfl (lv_at hl 5 rfl) ?_
  refine lv_iload hx hb dL_law_426 (lv_at hl 1 rfl) ?_
  refine lv_iconst (v := 4) hx hb dL_law_428 (by decide) ?_
  refine lv_iadd hx hb dL_law_429 ?_
  refine W.eq (g2 := F0 m 430 ls [.int 4, .ref b, .int (xs 3), .int 3, .int (xs 1), .ref a1]) rfl ?_
  refine va_sld hx hb hXs hbl hbA hS (i := 4) (show ¬ ((4 : Int32) < 0 ∨ 6 ≤ (4 : Int32).toNatClampNeg) by decide) dL_law_430 ?_
  refine W.eq (g2 := F0 m 431 ls [.int (xs 4), .int (xs 3), .int 3, .int (xs 1), .ref a1]) rfl ?_
  obtain ⟨hPc, hDc, hFc⟩ := xcut (wc := [(a1, .inr (5, [v18, .ref a10, v19, v20, v21, v22, v23, v24, v25, v26, v27, v28, v29, v30, v31, v32, v33, v34, v35, v36, v37, v38, v39, v40, .ref a7, .ref a8, v41, v42, v43, v44, v45, v46])), (a7, .inl (cT 5, 8, .inr (.inr (.inr (.inr f58))))), (a8, .inl (cT 1, 8, .inl f61)), (a9, .inl (cT 0, 4096, .inl f64)), (a10, .inl (cT 4, 1024, .inr (.inr (.inr (.inr f69))))), (a11, .inl (cT 0, 4096, .inl f72))]) hP hD hS hA [0, 2, 3, 4, 5, 6] rfl rfl (by decide)
  refine va_callv (va_runV (C := "ValueBenchModel") (As := [.int (xs 1), .int 3, .int (xs 3), .int (xs 4)]) (rest := []) ⟨hx, hb, hml, hown, htx⟩ (cM_binary0_18 l hl9 D cT aK aV H.size a1 a7 a8 a9 a10 a11 (xs 1) (xs 3) (xs 4) v18 v19 v20 v21 v22 v23 v24 v25 v26 v27 v28 v29 v30 v31 v32 v33 v34 v35 v36 v37 v38 v39 v40 v41 v42 v43 v44 v45 v46 f58 f61 f64 f69 f72 hto1 hto2 hto3 hto4 ha1 ha2 ha3 ha4 hb1 hb2 hb3 hb4 (by first | rfl | exact h52 | exact h54 | exact h57 | exact h59 | exact h60 | exact h62 | exact h63 | exact h65 | exact h66 | exact h67 | exact h68 | exact h70 | exact h71 | exact h73 | exact h74 | exact h75 | exact h76) (by first | rfl | exact h52 | exact h54 | exact h57 | exact h59 | exact h60 | exact h62 | exact h63 | exact h65 | exact h66 | exact h67 | exact h68 | exact h70 | exact h71 | exact h73 | exact h74 | exact h75 | exact h76) (by first | rfl | exact h52 | exact h54 | exact h57 | exact h59 | exact h60 | exact h62 | exact h63 | exact h65 | exact h66 | exact h67 | exact h68 | exact h70 | exact h71 | exact h73 | exact h74 | exact h75 | exact h76) (by first | rfl | exact h52 | exact h54 | exact h57 | exact h59 | exact h60 | exact h62 | exact h63 | exact h65 | exact h66 | exact h67 | exact h68 | exact h70 | exact h71 | exact h73 | exact h74 | exact h75 | exact h76) (by first | rfl | exact h52 | exact h54 | exact h57 | exact h59 | exact h60 | exact h62 | exact h63 | exact h65 | exact h66 | exact h67 | exact h68 | exact h70 | exact h71 | exact h73 | exact h74 | exact h75 | exact h76) (by first | rfl | exact h52 | exact h54 | exact h57 | exact h59 | exact h60 | exact h62 | exact h63 | exact h65 | exact h66 | exact h67 | exact h68 | exact h70 | exact h71 | exact h73 | exact h74 | exact h75 | exact h76) (by first | rfl | exact h52 | exact h54 | exact h57 | exact h59 | exact h60 | exact h62 | exact h63 | exact h65 | exact h66 | exact h67 | exact h68 | exact h70 | exact h71 | exact h73 | exact h74 | exact h75 | exact h76) (by first | rfl | exact h52 | exact h54 | exact h57 | exact h59 | exact h60 | exact h62 | exact h63 | exact h65 | exact h66 | exact h67 | exact h68 | exact h70 | exact h71 | exact h73 | exact h74 | exact h75 | exact h76) (by first | rfl | exact h52 | exact h54 | exact h57 | exact h59 | exact h60 | exact h62 | exact h63 | exact h65 | exact h66 | exact h67 | exact h68 | exact h70 | exact h71 | exact h73 | exact h74 | exact h75 | exact h76) (by first | rfl | exact h52 | exact h54 | exact h57 | exact h59 | exact h60 | exact h62 | exact h63 | exact h65 | exact h66 | exact h67 | exact h68 | exact h70 | exact h71 | exact h73 | exact h74 | exact h75 | exact h76) (by first | rfl | exact h52 | exact h54 | exact h57 | exact h59 | exact h60 | exact h62 | exact h63 | exact h65 | exact h66 | exact h67 | exact h68 | exact h70 | exact h71 | exact h73 | exact h74 | exact h75 | exact h76) (by first | rfl | exact h52 | exact h54 | exact h57 | exact h59 | exact h60 | exact h62 | exact h63 | exact h65 | exact h66 | exact h67 | exact h68 | exact h70 | exact h71 | exact h73 | exact h74 | exact h75 | exact h76) (by first | rfl | exact h52 | exact h54 | exact h57 | exact h59 | exact h60 | exact h62 | exact h63 | exact h65 | exact h66 | exact h67 | exact h68 | exact h70 | exact h71 | exact h73 | exact h74 | exact h75 | exact h76) (by first | rfl | exact h52 | exact h54 | exact h57 | exact h59 | exact h60 | exact h62 | exact h63 | exact h65 | exact h66 | exact h67 | exact h68 | exact h70 | exact h71 | exact h73 | exact h74 | exact h75 | exact h76)) ⟨callB_of 4 htx (xw_goodC kw_6_191) rfl rfl rfl (htx _ kw_1_5) (htx _ kw_6_188) ⟨by decide, by decide, by decide +kernel⟩ ⟨Nat.le_of_ble_eq_true rfl, Nat.le_of_ble_eq_true rfl⟩, (htx _ kw_6_189), (htx _ kw_6_190)⟩ ⟨xPre_blind, va_recv hK hP (ci := 5) rfl (q0 := 0) rfl, (fun U hU hW => ⟨rfl, xPre_of hZ hS hFc hPc hDc hK U hU hW⟩)⟩ rfl rfl hl.1 rfl (lv_room (Nat.le_of_ble_eq_true rfl)) dL_law_431 ⟨Nat.le_of_ble_eq_true rfl, Nat.le_of_ble_eq_true rfl⟩) hS (fun q _ h => hFc q h) hFc (fun u9 t H1 locs ht hvm hr9 hB hz1 hk1 hS => ?_)
  obtain ⟨q2, q3, hP1, hK1, hD1⟩ := hB
  rw [ht] at hP1
  obtain ⟨hP, hD⟩ := xjoin (W := [(a2, .inl (cT 2, 1, .inr (.inl f47))), (a0, .inr (0, [v12, v13, v14, .ref a4, v15, .ref a3, v16, .int 1])), (a3, .inr (2, [v48, .int 0, .int 0])), (a4, .inl (cT 3, 8, .inr (.inr (.inr (.inr f51))))), (a5, .inr (2, [.ref a6, .int 1, v55])), (a6, .inl (cT 2, 4096, .inr (.inl f56))), (a1, .inr (5, [.int 2, .ref a10, .int 2, v20, .int 0, v22, v23, .int 0, .int 1, .int 0, v27, v28, .int 0, v30, v31, .ref a11, .int 4, .int 4, .int 0, .int 100, v37, v38, .int 0, .int 1000000000, .ref a7, .ref a8, v41, v42, v43, v44, .int 1, v46])), (a7, .inl (cT 5, 8, .inr (.inr (.inr (.inr f58))))), (a8, .inl (cT 1, 8, .inl f61)), (a9, .inl (cT 0, 4096, .inl f64)), (a10, .inl (cT 4, 1024, .inr (.inr (.inr (.inr (va_up (va_up f69 0 (some q2)) 1 (some q3))))))), (a11, .inl (cT 0, 4096, .inl f72)), (q2, .inr (6, [.int 0, .long 0, .int 0, .int 0, .int 0, .int 1])), (q3, .inr (6, [.int 0, .long 0, .int 0, .int 0, .int 0, .int 1]))]) hP hD [0, 2, 3, 4, 5, 6] [1, 7, 8, 9, 10, 11] 6 rfl rfl (by decide) (by decide) hk1 hFc hP1 hD1
  generalize H1 = H at hP hS ⊢
  refine lv_aload_n hx hb dL_law_434 rfl (lv_at hl 3 rfl) ?_
  obtain ⟨hPc, hDc, hFc⟩ := xcut (wc := [(a1, .inr (5, [.int 2, .ref a10, .int 2, v20, .int 0, v22, v23, .int 0, .int 1, .int 0, v27, v28, .int 0, v30, v31, .ref a11, .int 4, .int 4, .int 0, .int 100, v37, v38, .int 0, .int 1000000000, .ref a7, .ref a8, v41, v42, v43, v44, .int 1, v46]))]) hP hD hS hA [6] rfl rfl (by decide)
  refine va_calli (va_runV (C := "ValueBenchModel") (As := []) (rest := []) ⟨hx, hb, hml, hown, htx⟩ (cM_thrown_2 l hl9 D cT aK aV H.size a1 (.ref a10) (.int 2) v20 (.int 0) v22 v23 (.int 0) (.int 1) (.int 0) v27 v28 (.int 0) v30 v31 (.ref a11) (.int 4) (.int 4) (.int 0) (.int 100) v37 v38 (.int 0) (.int 1000000000) (.ref a7) (.ref a8) v41 v42 v43 v44 (.int 1) v46) ⟨callB_of 0 htx (xw_goodC kw_5_187) rfl rfl rfl (htx _ kw_1_5) (htx _ kw_5_184) ⟨by decide, by decide, by decide +kernel⟩ ⟨Nat.le_of_ble_eq_true rfl, Nat.le_of_ble_eq_true rfl⟩, (htx _ kw_5_185), (htx _ kw_5_186)⟩ ⟨xPre_blind, va_recv hK hP (ci := 5) rfl (q0 := 6) rfl, (fun U hU hW => ⟨rfl, xPre_of hZ hS hFc hPc hDc hK U hU hW⟩)⟩ rfl rfl hl.1 rfl (lv_room (Nat.le_of_ble_eq_true rfl)) dL_law_435 ⟨Nat.le_of_ble_eq_true rfl, Nat.le_of_ble_eq_true rfl⟩) hS (fun q _ h => hFc q h) hFc (fun r4 u9 t H1 locs ht hvm hr9 hB hz1 hk1 hS => ?_)
  obtain ⟨hP1, hK1, hD1⟩ := hB
  rw [ht] at hP1
  obtain ⟨hP, hD⟩ := xjoin (W := [(a2, .inl (cT 2, 1, .inr (.inl f47))), (a0, .inr (0, [v12, v13, v14, .ref a4, v15, .ref a3, v16, .int 1])), (a3, .inr (2, [v48, .int 0, .int 0])), (a4, .inl (cT 3, 8, .inr (.inr (.inr (.inr f51))))), (a5, .inr (2, [.ref a6, .int 1, v55])), (a6, .inl (cT 2, 4096, .inr (.inl f56))), (a7, .inl (cT 5, 8, .inr (.inr (.inr (.inr f58))))), (a8, .inl (cT 1, 8, .inl f61)), (a9, .inl (cT 0, 4096, .inl f64)), (a10, .inl (cT 4, 1024, .inr (.inr (.inr (.inr (va_up (va_up f69 0 (some q2)) 1 (some q3))))))), (a11, .inl (cT 0, 4096, .inl f72)), (q2, .inr (6, [.int 0, .long 0, .int 0, .int 0, .int 0, .int 1])), (q3, .inr (6, [.int 0, .long 0, .int 0, .int 0, .int 0, .int 1])), (a1, .inr (5, [.int 2, .ref a10, .int 2, v20, .int 0, v22, v23, .int 0, .int 1, .int 0, v27, v28, .int 0, v30, v31, .ref a11, .int 4, .int 4, .int 0, .int 100, v37, v38, .int 0, .int 1000000000, .ref a7, .ref a8, v41, v42, v43, v44, .int 1, v46]))]) hP hD [6] [0, 1, 2, 3, 4, 5, 7, 8, 9, 10, 11, 12, 13] 13 rfl rfl (by decide) (by decide) hk1 hFc hP1 hD1
  generalize H1 = H at hP hS ⊢
  rw [hr9]
  refine W.eq (g2 := F0 m 438 ls [.int 2]) rfl ?_
  refine lv_iload hx hb dL_law_438 (lv_at hl 0 rfl) ?_
  refine lv_icmp_eq (tgt := 445) hx hb dL_law_440 (by decide) (fun _ => ?_) (fun h => ((by revert h; decide : False)).elim)
  refine lv_goto (tgt := 906) hx hb dL_law_445 (by decide) ?_
  refine lv_iinc (v := 6) (lv' := [(4, .int 6), (5, .int 2), (3, .ref a2), (2, .ref a1), (1, .ref a0), (0, .ref b)]) hx hb dL_law_906 hl (k := 1) rfl (by decide) (by decide) rfl (fun ls hl => ?_)
  refine lv_goto (tgt := 23) hx hb dL_law_909 (by decide) ?_
  refine lv_iload hx hb dL_law_23 (lv_at hl 0 rfl) ?_
  refine lv_aload_n hx hb dL_law_25 rfl (lv_at hl 5 rfl) ?_
  refine va_slen hx hb hXs hbl hbA hS dL_law_26 ?_
  refine W.eq (g2 := F0 m 27 ls [.int 6, .int 6]) rfl ?_
  refine lv_bipush (v := 6) hx hb dL_law_27 (by decide) ?_
  refine lv_isub hx hb dL_law_29 ?_
  refine W.eq (g2 := F0 m 30 ls [.int 0, .int 6]) rfl ?_
  refine lv_icmp_gt (tgt := 912) hx hb dL_law_30 (by decide) (fun _ => ?_) (fun h => ((by revert h; decide : False)).elim)
  refine lv_iconst (v := 1) hx hb dL_law_912 (by decide) ?_
  exact va_forget (fun q h => hA2 _ (hS.2.2 q h)) (W.widen (k := 600002) (n := 7302232) (Nat.le_of_ble_eq_true rfl) (Nat.le_of_ble_eq_true rfl) (lw_ret hx hb hr hlocks dL_law_913))
set_option maxHeartbeats 400000000 in
set_option maxRecDepth 100000 in
theorem lf_binary3_p0 {p : Program} {e : Env} {s : State} {m : MethodId} {below : List Frame} {meth : Method} {c : Code} (l : Launch) (hl9 : l.stackTraces = false) (D : va_G) (cT : Nat → ClassId) (aK aV : Nat → Nat) {A : Nat → Prop} {b : Nat} {xs : Nat → Int32} (C : xLw p s m meth c b D cT aK aV A) {H : Heap} {locs : List Loc} {ls : Array Slot} (a0 : Nat) (a1 : Nat) (a2 : Nat) (a3 : Nat) (a4 : Nat) (a5 : Nat) (a6 : Nat) (a7 : Nat) (a8 : Nat) (a9 : Nat) (a10 : Nat) (a11 : Nat) (v12 : Value) (v13 : Value) (v14 : Value) (v15 : Value) (v16 : Value) (v17 : Value) (v18 : Value) (v19 : Value) (v20 : Value) (v21 : Value) (v22 : Value) (v23 : Value) (v24 : Value) (v25 : Value) (v26 : Value) (v27 : Value) (v28 : Value) (v29 : Value) (v30 : Value) (v31 : Value) (v32 : Value) (v33 : Value) (v34 : Value) (v35 : Value) (v36 : Value) (v37 : Value) (v38 : Value) (v39 : Value) (v40 : Value) (v41 : Value) (v42 : Value) (v43 : Value) (v44 : Value) (v45 : Value) (v46 : Value) (f47 : Nat → Int64) (v48 : Value) (v49 : Value) (v50 : Value) (f51 : Nat → Option Nat) (b53 : Nat) (v55 : Value) (f56 : Nat → Int64) (f58 : Nat → Option Nat) (f61 : Nat → Int32) (f64 : Nat → Int32) (f69 : Nat → Option Nat) (f72 : Nat → Int32) (h52 : f51 (xs 3).toNatClampNeg = some a5) (h54 : f51 (xs 4).toNatClampNeg = some b53) (h57 : f56 0 = 0) (h59 : f58 (xs 3).toNatClampNeg = some a9) (h60 : f58 (xs 4).toNatClampNeg = some a11) (h62 : f61 (xs 3).toNatClampNeg = 4) (h63 : f61 (xs 4).toNatClampNeg = 4) (h65 : f64 0 = 110) (h66 : f64 1 = 117) (h67 : f64 2 = 108) (h68 : f64 3 = 108) (h70 : f69 0 = none) (h71 : f69 1 = none) (h73 : f72 0 = 110) (h74 : f72 1 = 117) (h75 : f72 2 = 108) (h76 : f72 3 = 108) (hto1 : ¬ (xs 1) < 0) (hto2 : ¬ 7 < (xs 1)) (hto3 : (xs 1) ≤ 7) (hto4 : vp_in (xs 1) 8) (hf : xs 2 = 3) (ha1 : ¬ (xs 3) < 0) (ha2 : ¬ 7 < (xs 3)) (ha3 : (xs 3) ≤ 7) (ha4 : vp_in (xs 3) 8) (hb1 : ¬ (xs 4) < 0) (hb2 : ¬ 7 < (xs 4)) (hb3 : (xs 4) ≤ 7) (hb4 : vp_in (xs 4) 8) (hXs : va_X b 6 xs s s.heap) (hP : va_P D xcl [(a0, .inr (0, [v12, v13, v14, .ref a4, v15, .ref a3, v16, v17])), (a1, .inr (5, [v18, .ref a10, v19, v20, v21, v22, v23, v24, v25, v26, v27, v28, v29, v30, v31, v32, v33, v34, v35, v36, v37, v38, v39, v40, .ref a7, .ref a8, v41, v42, v43, v44, v45, v46])), (a2, .inl (cT 2, 1, .inr (.inl f47))), (a3, .inr (2, [v48, v49, v50])), (a4, .inl (cT 3, 8, .inr (.inr (.inr (.inr f51))))), (a5, .inr (2, [.ref a6, .int 1, v55])), (a6, .inl (cT 2, 4096, .inr (.inl f56))), (a7, .inl (cT 5, 8, .inr (.inr (.inr (.inr f58))))), (a8, .inl (cT 1, 8, .inl f61)), (a9, .inl (cT 0, 4096, .inl f64)), (a10, .inl (cT 4, 1024, .inr (.inr (.inr (.inr f69))))), (a11, .inl (cT 0, 4096, .inl f72))] H) (hD : va_D A [(a0, .inr (0, [v12, v13, v14, .ref a4, v15, .ref a3, v16, v17])), (a1, .inr (5, [v18, .ref a10, v19, v20, v21, v22, v23, v24, v25, v26, v27, v28, v29, v30, v31, v32, v33, v34, v35, v36, v37, v38, v39, v40, .ref a7, .ref a8, v41, v42, v43, v44, v45, v46])), (a2, .inl (cT 2, 1, .inr (.inl f47))), (a3, .inr (2, [v48, v49, v50])), (a4, .inl (cT 3, 8, .inr (.inr (.inr (.inr f51))))), (a5, .inr (2, [.ref a6, .int 1, v55])), (a6, .inl (cT 2, 4096, .inr (.inl f56))), (a7, .inl (cT 5, 8, .inr (.inr (.inr (.inr f58))))), (a8, .inl (cT 1, 8, .inl f61)), (a9, .inl (cT 0, 4096, .inl f64)), (a10, .inl (cT 4, 1024, .inr (.inr (.inr (.inr f69))))), (a11, .inl (cT 0, 4096, .inl f72))]) (hS : va_S A s.heap H locs) (hl : lv_has ls 8 [(4, .int 0), (3, .ref a2), (2, .ref a1), (1, .ref a0), (0, .ref b)]) : W p l e room_1 s m #[Value.ref b] below meth c H locs 54 107242 (lw_Z below #[Value.ref b] s) (F0 m 376 ls []) := by
  obtain ⟨hx, hb, hr, hml, hown, htx, hbl, hbA, hlocks, hK, hZ, hA, hA2⟩ := C
  refine lv_aload_n hx hb dL_law_376 rfl (lv_at hl 3 rfl) ?_
  refine lv_aload_n hx hb dL_law_377 rfl (lv_at hl 4 rfl) ?_
  refine lv_iload hx hb dL_law_378 (lv_at hl 0 rfl) ?_
  refine lv_iconst (v := 1) hx hb dL_law_380 (by decide) ?_
  refine lv_iadd hx hb dL_law_381 ?_
  refine W.eq (g2 := F0 m 382 ls [.int 1, .ref b, .ref a0]) rfl ?_
  refine va_sld hx hb hXs hbl hbA hS (i := 1) (show ¬ ((1 : Int32) < 0 ∨ 6 ≤ (1 : Int32).toNatClampNeg) by decide) dL_law_382 ?_
  refine W.eq (g2 := F0 m 383 ls [.int (xs 1), .ref a0]) rfl ?_
  refine lv_aload_n hx hb dL_law_383 rfl (lv_at hl 4 rfl) ?_
  refine lv_iload hx hb dL_law_384 (lv_at hl 0 rfl) ?_
  refine lv_iconst (v := 2) hx hb dL_law_386 (by decide) ?_
  refine lv_iadd hx hb dL_law_387 ?_
  refine W.eq (g2 := F0 m 388 ls [.int 2, .ref b, .int (xs 1), .ref a0]) rfl ?_
  refine va_sld hx hb hXs hbl hbA hS (i := 2) (show ¬ ((2 : Int32) < 0 ∨ 6 ≤ (2 : Int32).toNatClampNeg) by decide) dL_law_388 ?_
  refine W.eq (g2 := F0 m 389 ls [.int (xs 2), .int (xs 1), .ref a0]) rfl ?_
  rw [hf]
  refine W.eq (g2 := F0 m 389 ls [.int 3, .int (xs 1), .ref a0]) rfl ?_
  refine lv_aload_n hx hb dL_law_389 rfl (lv_at hl 4 rfl) ?_
  refine lv_iload hx hb dL_law_390 (lv_at hl 0 rfl) ?_
  refine lv_iconst (v := 3) hx hb dL_law_392 (by decide) ?_
  refine lv_iadd hx hb dL_law_393 ?_
  refine W.eq (g2 := F0 m 394 ls [.int 3, .ref b, .int 3, .int (xs 1), .ref a0]) rfl ?_
  refine va_sld hx hb hXs hbl hbA hS (i := 3) (show ¬ ((3 : Int32) < 0 ∨ 6 ≤ (3 : Int32).toNatClampNeg) by decide) dL_law_394 ?_
  refine W.eq (g2 := F0 m 395 ls [.int (xs 3), .int 3, .int (xs 1), .ref a0]) rfl ?_
  refine lv_aload_n hx hb dL_law_395 rfl (lv_at hl 4 rfl) ?_
  refine lv_iload hx hb dL_law_396 (lv_at hl 0 rfl) ?_
  refine lv_iconst (v := 4) hx hb dL_law_398 (by decide) ?_
  refine lv_iadd hx hb dL_law_399 ?_
  refine W.eq (g2 := F0 m 400 ls [.int 4, .ref b, .int (xs 3), .int 3, .int (xs 1), .ref a0]) rfl ?_
  refine va_sld hx hb hXs hbl hbA hS (i := 4) (show ¬ ((4 : Int32) < 0 ∨ 6 ≤ (4 : Int32).toNatClampNeg) by decide) dL_law_400 ?_
  refine W.eq (g2 := F0 m 401 ls [.int (xs 4), .int (xs 3), .int 3, .int (xs 1), .ref a0]) rfl ?_
  obtain ⟨hPc, hDc, hFc⟩ := xcut (wc := [(a0, .inr (0, [v12, v13, v14, .ref a4, v15, .ref a3, v16, v17])), (a3, .inr (2, [v48, v49, v50])), (a4, .inl (cT 3, 8, .inr (.inr (.inr (.inr f51))))), (a5, .inr (2, [.ref a6, .int 1, v55])), (a6, .inl (cT 2, 4096, .inr (.inl f56)))]) hP hD hS hA [0, 3, 4, 5, 6] rfl rfl (by decide)
  refine va_calli (vx_runSW (As := [.ref a0, .int (xs 1), .int 3, .int (xs 3), .int (xs 4)]) (rest := []) ⟨hx, hb, hml, hown, htx⟩ (cL_binary_15 l hl9 D cT aK aV H.size a0 a3 a4 a5 a6 (xs 1) (xs 3) (xs 4) v12 v13 v14 v15 v16 v17 v48 v49 v50 f51 b53 v55 f56 hto1 hto2 hto3 hto4 ha1 ha2 ha3 ha4 hb1 hb2 hb3 hb4 (by first | rfl | exact h52 | exact h54 | exact h57 | exact h59 | exact h60 | exact h62 | exact h63 | exact h65 | exact h66 | exact h67 | exact h68 | exact h70 | exact h71 | exact h73 | exact h74 | exact h75 | exact h76) (by first | rfl | exact h52 | exact h54 | exact h57 | exact h59 | exact h60 | exact h62 | exact h63 | exact h65 | exact h66 | exact h67 | exact h68 | exact h70 | exact h71 | exact h73 | exact h74 | exact h75 | exact h76) (by first | rfl | exact h52 | exact h54 | exact h57 | exact h59 | exact h60 | exact h62 | exact h63 | exact h65 | exact h66 | exact h67 | exact h68 | exact h70 | exact h71 | exact h73 | exact h74 | exact h75 | exact h76)) (xcSW 5 htx (xw_goodC kw_3_97) rfl rfl rfl (htx _ kw_1_0) (htx _ kw_3_95) ⟨by decide, by decide, by decide +kernel⟩ ⟨Nat.le_of_ble_eq_true rfl, Nat.le_of_ble_eq_true rfl⟩ (htx _ kw_3_96)) ⟨xPre_blind, (fun U hU hW => ⟨rfl, xPre_of hZ hS hFc hPc hDc hK U hU hW⟩)⟩ rfl rfl hl.1 rfl (lv_room (Nat.le_of_ble_eq_true rfl)) dL_law_401 ⟨Nat.le_of_ble_eq_true rfl, Nat.le_of_ble_eq_true rfl⟩) hS (fun q _ h => hFc q h) hFc (fun r1 u9 t H1 locs ht hvm hr9 hB hz1 hk1 hS => ?_)
  obtain ⟨hP1, hK1, hD1⟩ := hB
  rw [ht] at hP1
  obtain ⟨hP, hD⟩ := xjoin (W := [(a1, .inr (5, [v18, .ref a10, v19, v20, v21, v22, v23, v24, v25, v26, v27, v28, v29, v30, v31, v32, v33, v34, v35, v36, v37, v38, v39, v40, .ref a7, .ref a8, v41, v42, v43, v44, v45, v46])), (a2, .inl (cT 2, 1, .inr (.inl f47))), (a7, .inl (cT 5, 8, .inr (.inr (.inr (.inr f58))))), (a8, .inl (cT 1, 8, .inl f61)), (a9, .inl (cT 0, 4096, .inl f64)), (a10, .inl (cT 4, 1024, .inr (.inr (.inr (.inr f69))))), (a11, .inl (cT 0, 4096, .inl f72)), (a0, .inr (0, [v12, v13, v14, .ref a4, v15, .ref a3, v16, .int 1])), (a3, .inr (2, [v48, .int 0, .int 0])), (a4, .inl (cT 3, 8, .inr (.inr (.inr (.inr f51))))), (a5, .inr (2, [.ref a6, .int 1, v55])), (a6, .inl (cT 2, 4096, .inr (.inl f56)))]) hP hD [0, 3, 4, 5, 6] [1, 2, 7, 8, 9, 10, 11] 7 rfl rfl (by decide) (by decide) hk1 hFc hP1 hD1
  generalize H1 = H at hP hS ⊢
  rw [hr9]
  refine W.eq (g2 := F0 m 404 ls [.int 2]) rfl ?_
  refine lv_istore (lv' := [(5, .int 2), (4, .int 0), (3, .ref a2), (2, .ref a1), (1, .ref a0), (0, .ref b)]) hx hb dL_law_404 hl (by decide) rfl (fun ls hl => ?_)
  refine lv_aload_n hx hb dL_law_406 rfl (lv_at hl 3 rfl) ?_
  refine lv_aload_n hx hb dL_law_407 rfl (lv_at hl 5 rfl) ?_
  refine lv_iload hx hb dL_law_408 (lv_at hl 1 rfl) ?_
  refine lv_iconst (v := 1) hx hb dL_law_410 (by decide) ?_
  refine lv_iadd hx hb dL_law_411 ?_
  refine W.eq (g2 := F0 m 412 ls [.int 1, .ref b, .ref a1]) rfl ?_
  refine va_sld hx hb hXs hbl hbA hS (i := 1) (show ¬ ((1 : Int32) < 0 ∨ 6 ≤ (1 : Int32).toNatClampNeg) by decide) dL_law_412 ?_
  refine W.eq (g2 := F0 m 413 ls [.int (xs 1), .ref a1]) rfl ?_
  refine lv_aload_n hx hb dL_law_413 rfl (lv_at hl 5 rfl) ?_
  refine lv_iload hx hb dL_law_414 (lv_at hl 1 rfl) ?_
  refine lv_iconst (v := 2) hx hb dL_law_416 (by decide) ?_
  refine lv_iadd hx hb dL_law_417 ?_
  refine W.eq (g2 := F0 m 418 ls [.int 2, .ref b, .int (xs 1), .ref a1]) rfl ?_
  refine va_sld hx hb hXs hbl hbA hS (i := 2) (show ¬ ((2 : Int32) < 0 ∨ 6 ≤ (2 : Int32).toNatClampNeg) by decide) dL_law_418 ?_
  refine W.eq (g2 := F0 m 419 ls [.int (xs 2), .int (xs 1), .ref a1]) rfl ?_
  rw [hf]
  refine W.eq (g2 := F0 m 419 ls [.int 3, .int (xs 1), .ref a1]) rfl ?_
  refine lv_aload_n hx hb dL_law_419 rfl (lv_at hl 5 rfl) ?_
  refine lv_iload hx hb dL_law_420 (lv_at hl 1 rfl) ?_
  refine lv_iconst (v := 3) hx hb dL_law_422 (by decide) ?_
  refine lv_iadd hx hb dL_law_423 ?_
  refine W.eq (g2 := F0 m 424 ls [.int 3, .ref b, .int 3, .int (xs 1), .ref a1]) rfl ?_
  refine va_sld hx hb hXs hbl hbA hS (i := 3) (show ¬ ((3 : Int32) < 0 ∨ 6 ≤ (3 : Int32).toNatClampNeg) by decide) dL_law_424 ?_
  refine W.eq (g2 := F0 m 425 ls [.int (xs 3), .int 3, .int (xs 1), .ref a1]) rfl ?_
  refine lv_aload_n hx hb dL_law_425 rfl (lv_at hl 5 rfl) ?_
  refine lv_iload hx hb dL_law_426 (lv_at hl 1 rfl) ?_
  refine lv_iconst (v := 4) hx hb dL_law_428 (by decide) ?_
  refine lv_iadd hx hb dL_law_429 ?_
  refine W.eq (g2 := F0 m 430 ls [.int 4, .ref b, .int (xs 3), .int 3, .int (xs 1), .ref a1]) rfl ?_
  refine va_sld hx hb hXs hbl hbA hS (i := 4) (show ¬ ((4 : Int32) < 0 ∨ 6 ≤ (4 : Int32).toNatClampNeg) by decide) dL_law_430 ?_
  refine W.eq (g2 := F0 m 431 ls [.int (xs 4), .int (xs 3), .int 3, .int (xs 1), .ref a1]) rfl ?_
  obtain ⟨hPc, hDc, hFc⟩ := xcut (wc := [(a1, .inr (5, [v18, .ref a10, v19, v20, v21, v22, v23, v24, v25, v26, v27, v28, v29, v30, v31, v32, v33, v34, v35, v36, v37, v38, v39, v40, .ref a7, .ref a8, v41, v42, v43, v44, v45, v46])), (a7, .inl (cT 5, 8, .inr (.inr (.inr (.inr f58))))), (a8, .inl (cT 1, 8, .inl f61)), (a9, .inl (cT 0, 4096, .inl f64)), (a10, .inl (cT 4, 1024, .inr (.inr (.inr (.inr f69))))), (a11, .inl (cT 0, 4096, .inl f72))]) hP hD hS hA [0, 2, 3, 4, 5, 6] rfl rfl (by decide)
  refine va_callv (va_runV (C := "ValueBenchModel") (As := [.int (xs 1), .int 3, .int (xs 3), .int (xs 4)]) (rest := []) ⟨hx, hb, hml, hown, htx⟩ (cM_binary0_18 l hl9 D cT aK aV H.size a1 a7 a8 a9 a10 a11 (xs 1) (xs 3) (xs 4) v18 v19 v20 v21 v22 v23 v24 v25 v26 v27 v28 v29 v30 v31 v32 v33 v34 v35 v36 v37 v38 v39 v40 v41 v42 v43 v44 v45 v46 f58 f61 f64 f69 f72 hto1 hto2 hto3 hto4 ha1 ha2 ha3 ha4 hb1 hb2 hb3 hb4 (by first | rfl | exact h52 | exact h54 | exact h57 | exact h59 | exact h60 | exact h62 | exact h63 | exact h65 | exact h66 | exact h67 | exact h68 | exact h70 | exact h71 | exact h73 | exact h74 | exact h75 | exact h76) (by first | rfl | exact h52 | exact h54 | exact h57 | exact h59 | exact h60 | exact h62 | exact h63 | exact h65 | exact h66 | exact h67 | exact h68 | exact h70 | exact h71 | exact h73 | exact h74 | exact h75 | exact h76) (by first | rfl | exact h52 | exact h54 | exact h57 | exact h59 | exact h60 | exact h62 | exact h63 | exact h65 | exact h66 | exact h67 | exact h68 | exact h70 | exact h71 | exact h73 | exact h74 | exact h75 | exact h76) (by first | rfl | exact h52 | exact h54 | exact h57 | exact h59 | exact h60 | exact h62 | exact h63 | exact h65 | exact h66 | exact h67 | exact h68 | exact h70 | exact h71 | exact h73 | exact h74 | exact h75 | exact h76) (by first | rfl | exact h52 | exact h54 | exact h57 | exact h59 | exact h60 | exact h62 | exact h63 | exact h65 | exact h66 | exact h67 | exact h68 | exact h70 | exact h71 | exact h73 | exact h74 | exact h75 | exact h76) (by first | rfl | exact h52 | exact h54 | exact h57 | exact h59 | exact h60 | exact h62 | exact h63 | exact h65 | exact h66 | exact h67 | exact h68 | exact h70 | exact h71 | exact h73 | exact h74 | exact h75 | exact h76) (by first | rfl | exact h52 | exact h54 | exact h57 | exact h59 | exact h60 | exact h62 | exact h63 | exact h65 | exact h66 | exact h67 | exact h68 | exact h70 | exact h71 | exact h73 | exact h74 | exact h75 | exact h76) (by first | rfl | exact h52 | exact h54 | exact h57 | exact h59 | exact h60 | exact h62 | exact h63 | exact h65 | exact h66 | exact h67 | exact h68 | exact h70 | exact h71 | exact h73 | exact h74 | exact h75 | exact h76) (by first | rfl | exact h52 | exact h54 | exact h57 | exact h59 | exact h60 | exact h62 | exact h63 | exact h65 | exact h66 | exact h67 | exact h68 | exact h70 | exact h71 | exact h73 | exact h74 | exact h75 | exact h76) (by first | rfl | exact h52 | exact h54 | exact h57 | exact h59 | exact h60 | exact h62 | exact h63 | exact h65 | exact h66 | exact h67 | exact h68 | exact h70 | exact h71 | exact h73 | exact h74 | exact h75 | exact h76) (by first | rfl | exact h52 | exact h54 | exact h57 | exact h59 | exact h60 | exact h62 | exact h63 | exact h65 | exact h66 | exact h67 | exact h68 | exact h70 | exact h71 | exact h73 | exact h74 | exact h75 | exact h76) (by first | rfl | exact h52 | exact h54 | exact h57 | exact h59 | exact h60 | exact h62 | exact h63 | exact h65 | exact h66 | exact h67 | exact h68 | exact h70 | exact h71 | exact h73 | exact h74 | exact h75 | exact h76) (by first | rfl | exact h52 | exact h54 | exact h57 | exact h59 | exact h60 | exact h62 | exact h63 | exact h65 | exact h66 | exact h67 | exact h68 | exact h70 | exact h71 | exact h73 | exact h74 | exact h75 | exact h76) (by first | rfl | exact h52 | exact h54 | exact h57 | exact h59 | exact h60 | exact h62 | exact h63 | exact h65 | exact h66 | exact h67 | exact h68 | exact h70 | exact h71 | exact h73 | exact h74 | exact h75 | exact h76)) ⟨callB_of 4 htx (xw_goodC kw_6_191) rfl rfl rfl (htx _ kw_1_5) (htx _ kw_6_188) ⟨by decide, by decide, by decide +kernel⟩ ⟨Nat.le_of_ble_eq_true rfl, Nat.le_of_ble_eq_true rfl⟩, (htx _ kw_6_189), (htx _ kw_6_190)⟩ ⟨xPre_blind, va_recv hK hP (ci := 5) rfl (q0 := 0) rfl, (fun U hU hW => ⟨rfl, xPre_of hZ hS hFc hPc hDc hK U hU hW⟩)⟩ rfl rfl hl.1 rfl (lv_room (Nat.le_of_ble_eq_true rfl)) dL_law_431 ⟨Nat.le_of_ble_eq_true rfl, Nat.le_of_ble_eq_true rfl⟩) hS (fun q _ h => hFc q h) hFc (fun u9 t H1 locs ht hvm hr9 hB hz1 hk1 hS => ?_)
  obtain ⟨q2, q3, hP1, hK1, hD1⟩ := hB
  rw [ht] at hP1
  obtain ⟨hP, hD⟩ := xjoin (W := [(a2, .inl (cT 2, 1, .inr (.inl f47))), (a0, .inr (0, [v12, v13, v14, .ref a4, v15, .ref a3, v16, .int 1])), (a3, .inr (2, [v48, .int 0, .int 0])), (a4, .inl (cT 3, 8, .inr (.inr (.inr (.inr f51))))), (a5, .inr (2, [.ref a6, .int 1, v55])), (a6, .inl (cT 2, 4096, .inr (.inl f56))), (a1, .inr (5, [.int 2, .ref a10, .int 2, v20, .int 0, v22, v23, .int 0, .int 1, .int 0, v27, v28, .int 0, v30, v31, .ref a11, .int 4, .int 4, .int 0, .int 100, v37, v38, .int 0, .int 1000000000, .ref a7, .ref a8, v41, v42, v43, v44, .int 1, v46])), (a7, .inl (cT 5, 8, .inr (.inr (.inr (.inr f58))))), (a8, .inl (cT 1, 8, .inl f61)), (a9, .inl (cT 0, 4096, .inl f64)), (a10, .inl (cT 4, 1024, .inr (.inr (.inr (.inr (va_up (va_up f69 0 (some q2)) 1 (some q3))))))), (a11, .inl (cT 0, 4096, .inl f72)), (q2, .inr (6, [.int 0, .long 0, .int 0, .int 0, .int 0, .int 1])), (q3, .inr (6, [.int 0, .long 0, .int 0, .int 0, .int 0, .int 1]))]) hP hD [0, 2, 3, 4, 5, 6] [1, 7, 8, 9, 10, 11] 6 rfl rfl (by decide) (by decide) hk1 hFc hP1 hD1
  generalize H1 = H at hP hS ⊢
  refine lv_aload_n hx hb dL_law_434 rfl (lv_at hl 3 rfl) ?_
  obtain ⟨hPc, hDc, hFc⟩ := xcut (wc := [(a1, .inr (5, [.int 2, .ref a10, .int 2, v20, .int 0, v22, v23, .int 0, .int 1, .int 0, v27, v28, .int 0, v30, v31, .ref a11, .int 4, .int 4, .int 0, .int 100, v37, v38, .int 0, .int 1000000000, .ref a7, .ref a8, v41, v42, v43, v44, .int 1, v46]))]) hP hD hS hA [6] rfl rfl (by decide)
  refine va_calli (va_runV (C := "ValueBenchModel") (As := []) (rest := []) ⟨hx, hb, hml, hown, htx⟩ (cM_thrown_2 l hl9 D cT aK aV H.size a1 (.ref a10) (.int 2) v20 (.int 0) v22 v23 (.int 0) (.int 1) (.int 0) v27 v28 (.int 0) v30 v31 (.ref a11) (.int 4) (.int 4) (.int 0) (.int 100) v37 v38 (.int 0) (.int 1000000000) (.ref a7) (.ref a8) v41 v42 v43 v44 (.int 1) v46) ⟨callB_of 0 htx (xw_goodC kw_5_187) rfl rfl rfl (htx _ kw_1_5) (htx _ kw_5_184) ⟨by decide, by decide, by decide +kernel⟩ ⟨Nat.le_of_ble_eq_true rfl, Nat.le_of_ble_eq_true rfl⟩, (htx _ kw_5_185), (htx _ kw_5_186)⟩ ⟨xPre_blind, va_recv hK hP (ci := 5) rfl (q0 := 6) rfl, (fun U hU hW => ⟨rfl, xPre_of hZ hS hFc hPc hDc hK U hU hW⟩)⟩ rfl rfl hl.1 rfl (lv_room (Nat.le_of_ble_eq_true rfl)) dL_law_435 ⟨Nat.le_of_ble_eq_true rfl, Nat.le_of_ble_eq_true rfl⟩) hS (fun q _ h => hFc q h) hFc (fun r4 u9 t H1 locs ht hvm hr9 hB hz1 hk1 hS => ?_)
  obtain ⟨hP1, hK1, hD1⟩ := hB
  rw [ht] at hP1
  obtain ⟨hP, hD⟩ := xjoin (W := [(a2, .inl (cT 2, 1, .inr (.inl f47))), (a0, .inr (0, [v12, v13, v14, .ref a4, v15, .ref a3, v16, .int 1])), (a3, .inr (2, [v48, .int 0, .int 0])), (a4, .inl (cT 3, 8, .inr (.inr (.inr (.inr f51))))), (a5, .inr (2, [.ref a6, .int 1, v55])), (a6, .inl (cT 2, 4096, .inr (.inl f56))), (a7, .inl (cT 5, 8, .inr (.inr (.inr (.inr f58))))), (a8, .inl (cT 1, 8, .inl f61)), (a9, .inl (cT 0, 4096, .inl f64)), (a10, .inl (cT 4, 1024, .inr (.inr (.inr (.inr (va_up (va_up f69 0 (some q2)) 1 (some q3))))))), (a11, .inl (cT 0, 4096, .inl f72)), (q2, .inr (6, [.int 0, .long 0, .int 0, .int 0, .int 0, .int 1])), (q3, .inr (6, [.int 0, .long 0, .int 0, .int 0, .int 0, .int 1])), (a1, .inr (5, [.int 2, .ref a10, .int 2, v20, .int 0, v22, v23, .int 0, .int 1, .int 0, v27, v28, .int 0, v30, v31, .ref a11, .int 4, .int 4, .int 0, .int 100, v37, v38, .int 0, .int 1000000000, .ref a7, .ref a8, v41, v42, v43, v44, .int 1, v46]))]) hP hD [6] [0, 1, 2, 3, 4, 5, 7, 8, 9, 10, 11, 12, 13] 13 rfl rfl (by decide) (by decide) hk1 hFc hP1 hD1
  generalize H1 = H at hP hS ⊢
  rw [hr9]
  refine W.eq (g2 := F0 m 438 ls [.int 2]) rfl ?_
  refine lv_iload hx hb dL_law_438 (lv_at hl 0 rfl) ?_
  refine lv_icmp_eq (tgt := 445) hx hb dL_law_440 (by decide) (fun _ => ?_) (fun h => ((by revert h; decide : False)).elim)
  refine lv_goto (tgt := 906) hx hb dL_law_445 (by decide) ?_
  refine lv_iinc (v := 6) (lv' := [(4, .int 6), (5, .int 2), (3, .ref a2), (2, .ref a1), (1, .ref a0), (0, .ref b)]) hx hb dL_law_906 hl (k := 1) rfl (by decide) (by decide) rfl (fun ls hl => ?_)
  refine lv_goto (tgt := 23) hx hb dL_law_909 (by decide) ?_
  refine lv_iload hx hb dL_law_23 (lv_at hl 0 rfl) ?_
  refine lv_aload_n hx hb dL_law_25 rfl (lv_at hl 5 rfl) ?_
  refine va_slen hx hb hXs hbl hbA hS dL_law_26 ?_
  refine W.eq (g2 := F0 m 27 ls [.int 6, .int 6]) rfl ?_
  refine lv_bipush (v := 6) hx hb dL_law_27 (by decide) ?_
  refine lv_isub hx hb dL_law_29 ?_
  refine W.eq (g2 := F0 m 30 ls [.int 0, .int 6]) rfl ?_
  refine lv_icmp_gt (tgt := 912) hx hb dL_law_30 (by decide) (fun _ => ?_) (fun h => ((by revert h; decide : False)).elim)
  refine lv_iconst (v := 1) hx hb dL_law_912 (by decide) ?_
  exact va_forget (fun q h => hA2 _ (hS.2.2 q h)) (W.widen (k := 600002) (n := 7302232) (Nat.le_of_ble_eq_true rfl) (Nat.le_of_ble_eq_true rfl) (lw_ret hx hb hr hlocks dL_law_913))
set_option maxHeartbeats 400000000 in
set_option maxRecDepth 100000 in
theorem lf_binary4_p4 {p : Program} {e : Env} {s : State} {m : MethodId} {below : List Frame} {meth : Method} {c : Code} (l : Launch) (hl9 : l.stackTraces = false) (D : va_G) (cT : Nat → ClassId) (aK aV : Nat → Nat) {A : Nat → Prop} {b : Nat} {xs : Nat → Int32} (C : xLw p s m meth c b D cT aK aV A) {H : Heap} {locs : List Loc} {ls : Array Slot} (a0 : Nat) (a1 : Nat) (a2 : Nat) (a3 : Nat) (a4 : Nat) (a5 : Nat) (a6 : Nat) (a7 : Nat) (a8 : Nat) (a9 : Nat) (a10 : Nat) (v11 : Value) (v12 : Value) (v13 : Value) (v14 : Value) (v15 : Value) (v16 : Value) (v17 : Value) (v18 : Value) (v19 : Value) (v20 : Value) (v21 : Value) (v22 : Value) (v23 : Value) (v24 : Value) (v25 : Value) (v26 : Value) (v27 : Value) (v28 : Value) (v29 : Value) (v30 : Value) (v31 : Value) (v32 : Value) (v33 : Value) (v34 : Value) (v35 : Value) (v36 : Value) (v37 : Value) (v38 : Value) (v39 : Value) (v40 : Value) (v41 : Value) (v42 : Value) (v43 : Value) (v44 : Value) (v45 : Value) (f46 : Nat → Int64) (v47 : Value) (v48 : Value) (v49 : Value) (f50 : Nat → Option Nat) (v53 : Value) (f54 : Nat → Int64) (f56 : Nat → Option Nat) (f59 : Nat → Int32) (f62 : Nat → Int32) (f67 : Nat → Option Nat) (h51 : f50 (xs 3).toNatClampNeg = some a5) (h52 : f50 (xs 4).toNatClampNeg = some a5) (h55 : f54 0 = 0) (h57 : f56 (xs 3).toNatClampNeg = some a9) (h58 : f56 (xs 4).toNatClampNeg = some a9) (h60 : f59 (xs 3).toNatClampNeg = 4) (h61 : f59 (xs 4).toNatClampNeg = 4) (h63 : f62 0 = 110) (h64 : f62 1 = 117) (h65 : f62 2 = 108) (h66 : f62 3 = 108) (h68 : f67 0 = none) (h69 : f67 1 = none) (hto1 : ¬ (xs 1) < 0) (hto2 : ¬ 7 < (xs 1)) (hto3 : (xs 1) ≤ 7) (hto4 : vp_in (xs 1) 8) (hf : xs 2 = 4) (ha1 : ¬ (xs 3) < 0) (ha2 : ¬ 7 < (xs 3)) (ha3 : (xs 3) ≤ 7) (ha4 : vp_in (xs 3) 8) (hb1 : ¬ (xs 4) < 0) (hb2 : ¬ 7 < (xs 4)) (hb3 : (xs 4) ≤ 7) (hb4 : vp_in (xs 4) 8) (hXs : va_X b 6 xs s s.heap) (hP : va_P D xcl [(a0, .inr (0, [v11, v12, v13, .ref a4, v14, .ref a3, v15, v16])), (a1, .inr (5, [v17, .ref a10, v18, v19, v20, v21, v22, v23, v24, v25, v26, v27, v28, v29, v30, v31, v32, v33, v34, v35, v36, v37, v38, v39, .ref a7, .ref a8, v40, v41, v42, v43, v44, v45])), (a2, .inl (cT 2, 1, .inr (.inl f46))), (a3, .inr (2, [v47, v48, v49])), (a4, .inl (cT 3, 8, .inr (.inr (.inr (.inr f50))))), (a5, .inr (2, [.ref a6, .int 1, v53])), (a6, .inl (cT 2, 4096, .inr (.inl f54))), (a7, .inl (cT 5, 8, .inr (.inr (.inr (.inr f56))))), (a8, .inl (cT 1, 8, .inl f59)), (a9, .inl (cT 0, 4096, .inl f62)), (a10, .inl (cT 4, 1024, .inr (.inr (.inr (.inr f67)))))] H) (hD : va_D A [(a0, .inr (0, [v11, v12, v13, .ref a4, v14, .ref a3, v15, v16])), (a1, .inr (5, [v17, .ref a10, v18, v19, v20, v21, v22, v23, v24, v25, v26, v27, v28, v29, v30, v31, v32, v33, v34, v35, v36, v37, v38, v39, .ref a7, .ref a8, v40, v41, v42, v43, v44, v45])), (a2, .inl (cT 2, 1, .inr (.inl f46))), (a3, .inr (2, [v47, v48, v49])), (a4, .inl (cT 3, 8, .inr (.inr (.inr (.inr f50))))), (a5, .inr (2, [.ref a6, .int 1, v53])), (a6, .inl (cT 2, 4096, .inr (.inl f54))), (a7, .inl (cT 5, 8, .inr (.inr (.inr (.inr f56))))), (a8, .inl (cT 1, 8, .inl f59)), (a9, .inl (cT 0, 4096, .inl f62)), (a10, .inl (cT 4, 1024, .inr (.inr (.inr (.inr f67)))))]) (hS : va_S A s.heap H locs) (hl : lv_has ls 8 [(4, .int 0), (3, .ref a2), (2, .ref a1), (1, .ref a0), (0, .ref b)]) : W p l e room_1 s m #[Value.ref b] below meth c H locs 54 107242 (lw_Z below #[Value.ref b] s) (F0 m 376 ls []) := by
  obtain ⟨hx, hb, hr, hml, hown, htx, hbl, hbA, hlocks, hK, hZ, hA, hA2⟩ := C
  refine lv_aload_n hx hb dL_law_376 rfl (lv_at hl 3 rfl) ?_
  refine lv_aload_n hx hb dL_law_377 rfl (lv_at hl 4 rfl) ?_
  refine lv_iload hx hb dL_law_378 (lv_at hl 0 rfl) ?_
  refine lv_iconst (v := 1) hx hb dL_law_380 (by decide) ?_
  refine lv_iadd hx hb dL_law_381 ?_
  refine W.eq (g2 := F0 m 382 ls [.int 1, .ref b, .ref a0]) rfl ?_
  refine va_sld hx hb hXs hbl hbA hS (i := 1) (show ¬ ((1 : Int32) < 0 ∨ 6 ≤ (1 : Int32).toNatClampNeg) by decide) dL_law_382 ?_
  refine W.eq (g2 := F0 m 383 ls [.int (xs 1), .ref a0]) rfl ?_
  refine lv_aload_n hx hb dL_law_383 rfl (lv_at hl 4 rfl) ?_
  refine lv_iload hx hb dL_law_384 (lv_at hl 0 rfl) ?_
  refine lv_iconst (v := 2) hx hb dL_law_386 (by decide) ?_
  refine lv_iadd hx hb dL_law_387 ?_
  refine W.eq (g2 := F0 m 388 ls [.int 2, .ref b, .int (xs 1), .ref a0]) rfl ?_
  refine va_sld hx hb hXs hbl hbA hS (i := 2) (show ¬ ((2 : Int32) < 0 ∨ 6 ≤ (2 : Int32).toNatClampNeg) by decide) dL_law_388 ?_
  refine W.eq (g2 := F0 m 389 ls [.int (xs 2), .int (xs 1), .ref a0]) rfl ?_
  rw [hf]
  refine W.eq (g2 := F0 m 389 ls [.int 4, .int (xs 1), .ref a0]) rfl ?_
  refine lv_aload_n hx hb dL_law_389 rfl (lv_at hl 4 rfl) ?_
  refine lv_iload hx hb dL_law_390 (lv_at hl 0 rfl) ?_
  refine lv_iconst (v := 3) hx hb dL_law_392 (by decide) ?_
  refine lv_iadd hx hb dL_law_393 ?_
  refine W.eq (g2 := F0 m 394 ls [.int 3, .ref b, .int 4, .int (xs 1), .ref a0]) rfl ?_
  refine va_sld hx hb hXs hbl hbA hS (i := 3) (show ¬ ((3 : Int32) < 0 ∨ 6 ≤ (3 : Int32).toNatClampNeg) by decide) dL_law_394 ?_
  refine W.eq (g2 := F0 m 395 ls [.int (xs 3), .int 4, .int (xs 1), .ref a0]) rfl ?_
  refine lv_aload_n hx hb dL_law_395 rfl (lv_at hl 4 rfl) ?_
  refine lv_iload hx hb dL_law_396 (lv_at hl 0 rfl) ?_
  refine lv_iconst (v := 4) hx hb dL_law_398 (by decide) ?_
  refine lv_iadd hx hb dL_law_399 ?_
  refine W.eq (g2 := F0 m 400 ls [.int 4, .ref b, .int (xs 3), .int 4, .int (xs 1), .ref a0]) rfl ?_
  refine va_sld hx hb hXs hbl hbA hS (i := 4) (show ¬ ((4 : Int32) < 0 ∨ 6 ≤ (4 : Int32).toNatClampNeg) by decide) dL_law_400 ?_
  refine W.eq (g2 := F0 m 401 ls [.int (xs 4), .int (xs 3), .int 4, .int (xs 1), .ref a0]) rfl ?_
  obtain ⟨hPc, hDc, hFc⟩ := xcut (wc := [(a0, .inr (0, [v11, v12, v13, .ref a4, v14, .ref a3, v15, v16])), (a3, .inr (2, [v47, v48, v49])), (a4, .inl (cT 3, 8, .inr (.inr (.inr (.inr f50))))), (a5, .inr (2, [.ref a6, .int 1, v53])), (a6, .inl (cT 2, 4096, .inr (.inl f54)))]) hP hD hS hA [0, 3, 4, 5, 6] rfl rfl (by decide)
  refine va_calli (vx_runSW (As := [.ref a0, .int (xs 1), .int 4, .int (xs 3), .int (xs 4)]) (rest := []) ⟨hx, hb, hml, hown, htx⟩ (cL_binary_16 l hl9 D cT aK aV H.size a0 a3 a4 a5 a6 (xs 1) (xs 3) (xs 4) v11 v12 v13 v14 v15 v16 v47 v48 v49 f50 v53 f54 hto1 hto2 hto3 hto4 ha1 ha2 ha3 ha4 hb1 hb2 hb3 hb4 (by first | rfl | exact h51 | exact h52 | exact h55 | exact h57 | exact h58 | exact h60 | exact h61 | exact h63 | exact h64 | exact h65 | exact h66 | exact h68 | exact h69) (by first | rfl | exact h51 | exact h52 | exact h55 | exact h57 | exact h58 | exact h60 | exact h61 | exact h63 | exact h64 | exact h65 | exact h66 | exact h68 | exact h69) (by first | rfl | exact h51 | exact h52 | exact h55 | exact h57 | exact h58 | exact h60 | exact h61 | exact h63 | exact h64 | exact h65 | exact h66 | exact h68 | exact h69)) (xcSW 5 htx (xw_goodC kw_3_97) rfl rfl rfl (htx _ kw_1_0) (htx _ kw_3_95) ⟨by decide, by decide, by decide +kernel⟩ ⟨Nat.le_of_ble_eq_true rfl, Nat.le_of_ble_eq_true rfl⟩ (htx _ kw_3_96)) ⟨xPre_blind, (fun U hU hW => ⟨rfl, xPre_of hZ hS hFc hPc hDc hK U hU hW⟩)⟩ rfl rfl hl.1 rfl (lv_room (Nat.le_of_ble_eq_true rfl)) dL_law_401 ⟨Nat.le_of_ble_eq_true rfl, Nat.le_of_ble_eq_true rfl⟩) hS (fun q _ h => hFc q h) hFc (fun r1 u9 t H1 locs ht hvm hr9 hB hz1 hk1 hS => ?_)
  obtain ⟨hP1, hK1, hD1⟩ := hB
  rw [ht] at hP1
  obtain ⟨hP, hD⟩ := xjoin (W := [(a1, .inr (5, [v17, .ref a10, v18, v19, v20, v21, v22, v23, v24, v25, v26, v27, v28, v29, v30, v31, v32, v33, v34, v35, v36, v37, v38, v39, .ref a7, .ref a8, v40, v41, v42, v43, v44, v45])), (a2, .inl (cT 2, 1, .inr (.inl f46))), (a7, .inl (cT 5, 8, .inr (.inr (.inr (.inr f56))))), (a8, .inl (cT 1, 8, .inl f59)), (a9, .inl (cT 0, 4096, .inl f62)), (a10, .inl (cT 4, 1024, .inr (.inr (.inr (.inr f67))))), (a0, .inr (0, [v11, v12, v13, .ref a4, v14, .ref a3, v15, .int 1])), (a3, .inr (2, [v47, .int 0, .int 0])), (a4, .inl (cT 3, 8, .inr (.inr (.inr (.inr f50))))), (a5, .inr (2, [.ref a6, .int 1, v53])), (a6, .inl (cT 2, 4096, .inr (.inl f54)))]) hP hD [0, 3, 4, 5, 6] [1, 2, 7, 8, 9, 10] 6 rfl rfl (by decide) (by decide) hk1 hFc hP1 hD1
  generalize H1 = H at hP hS ⊢
  rw [hr9]
  refine W.eq (g2 := F0 m 404 ls [.int 2]) rfl ?_
  refine lv_istore (lv' := [(5, .int 2), (4, .int 0), (3, .ref a2), (2, .ref a1), (1, .ref a0), (0, .ref b)]) hx hb dL_law_404 hl (by decide) rfl (fun ls hl => ?_)
  refine lv_aload_n hx hb dL_law_406 rfl (lv_at hl 3 rfl) ?_
  refine lv_aload_n hx hb dL_law_407 rfl (lv_at hl 5 rfl) ?_
  refine lv_iload hx hb dL_law_408 (lv_at hl 1 rfl) ?_
  refine lv_iconst (v := 1) hx hb dL_law_410 (by decide) ?_
  refine lv_iadd hx hb dL_law_411 ?_
  refine W.eq (g2 := F0 m 412 ls [.int 1, .ref b, .ref a1]) rfl ?_
  refine va_sld hx hb hXs hbl hbA hS (i := 1) (show ¬ ((1 : Int32) < 0 ∨ 6 ≤ (1 : Int32).toNatClampNeg) by decide) dL_law_412 ?_
  refine W.eq (g2 := F0 m 413 ls [.int (xs 1), .ref a1]) rfl ?_
  refine lv_aload_n hx hb dL_law_413 rfl (lv_at hl 5 rfl) ?_
  refine lv_iload hx hb dL_law_414 (lv_at hl 1 rfl) ?_
  refine lv_iconst (v := 2) hx hb dL_law_416 (by decide) ?_
  refine lv_iadd hx hb dL_law_417 ?_
  refine W.eq (g2 := F0 m 418 ls [.int 2, .ref b, .int (xs 1), .ref a1]) rfl ?_
  refine va_sld hx hb hXs hbl hbA hS (i := 2) (show ¬ ((2 : Int32) < 0 ∨ 6 ≤ (2 : Int32).toNatClampNeg) by decide) dL_law_418 ?_
  refine W.eq (g2 := F0 m 419 ls [.int (xs 2), .int (xs 1), .ref a1]) rfl ?_
  rw [hf]
  refine W.eq (g2 := F0 m 419 ls [.int 4, .int (xs 1), .ref a1]) rfl ?_
  refine lv_aload_n hx hb dL_law_419 rfl (lv_at hl 5 rfl) ?_
  refine lv_iload hx hb dL_law_420 (lv_at hl 1 rfl) ?_
  refine lv_iconst (v := 3) hx hb dL_law_422 (by decide) ?_
  refine lv_iadd hx hb dL_law_423 ?_
  refine W.eq (g2 := F0 m 424 ls [.int 3, .ref b, .int 4, .int (xs 1), .ref a1]) rfl ?_
  refine va_sld hx hb hXs hbl hbA hS (i := 3) (show ¬ ((3 : Int32) < 0 ∨ 6 ≤ (3 : Int32).toNatClampNeg) by decide) dL_law_424 ?_
  refine W.eq (g2 := F0 m 425 ls [.int (xs 3), .int 4, .int (xs 1), .ref a1]) rfl ?_
  refine lv_aload_n hx hb dL_law_425 rfl (lv_at hl 5 rfl) ?_
  refine lv_iload hx hb dL_law_426 (lv_at hl 1 rfl) ?_
  refine lv_iconst (v := 4) hx hb dL_law_428 (by decide) ?_
  refine lv_iadd hx hb dL_law_429 ?_
  refine W.eq (g2 := F0 m 430 ls [.int 4, .ref b, .int (xs 3), .int 4, .int (xs 1), .ref a1]) rfl ?_
  refine va_sld hx hb hXs hbl hbA hS (i := 4) (show ¬ ((4 : Int32) < 0 ∨ 6 ≤ (4 : Int32).toNatClampNeg) by decide) dL_law_430 ?_
  refine W.eq (g2 := F0 m 431 ls [.int (xs 4), .int (xs 3), .int 4, .int (xs 1), .ref a1]) rfl ?_
  obtain ⟨hPc, hDc, hFc⟩ := xcut (wc := [(a1, .inr (5, [v17, .ref a10, v18, v19, v20, v21, v22, v23, v24, v25, v26, v27, v28, v29, v30, v31, v32, v33, v34, v35, v36, v37, v38, v39, .ref a7, .ref a8, v40, v41, v42, v43, v44, v45])), (a7, .inl (cT 5, 8, .inr (.inr (.inr (.inr f56))))), (a8, .inl (cT 1, 8, .inl f59)), (a9, .inl (cT 0, 4096, .inl f62)), (a10, .inl (cT 4, 1024, .inr (.inr (.inr (.inr f67)))))]) hP hD hS hA [0, 2, 3, 4, 5] rfl rfl (by decide)
  refine va_callv (va_runV (C := "ValueBenchModel") (As := [.int (xs 1), .int 4, .int (xs 3), .int (xs 4)]) (rest := []) ⟨hx, hb, hml, hown, htx⟩ (cM_binary0_19 l hl9 D cT aK aV H.size a1 a7 a8 a9 a10 (xs 1) (xs 3) (xs 4) v17 v18 v19 v20 v21 v22 v23 v24 v25 v26 v27 v28 v29 v30 v31 v32 v33 v34 v35 v36 v37 v38 v39 v40 v41 v42 v43 v44 v45 f56 f59 f62 f67 hto1 hto2 hto3 hto4 ha1 ha2 ha3 ha4 hb1 hb2 hb3 hb4 (by first | rfl | exact h51 | exact h52 | exact h55 | exact h57 | exact h58 | exact h60 | exact h61 | exact h63 | exact h64 | exact h65 | exact h66 | exact h68 | exact h69) (by first | rfl | exact h51 | exact h52 | exact h55 | exact h57 | exact h58 | exact h60 | exact h61 | exact h63 | exact h64 | exact h65 | exact h66 | exact h68 | exact h69) (by first | rfl | exact h51 | exact h52 | exact h55 | exact h57 | exact h58 | exact h60 | exact h61 | exact h63 | exact h64 | exact h65 | exact h66 | exact h68 | exact h69) (by first | rfl | exact h51 | exact h52 | exact h55 | exact h57 | exact h58 | exact h60 | exact h61 | exact h63 | exact h64 | exact h65 | exact h66 | exact h68 | exact h69) (by first | rfl | exact h51 | exact h52 | exact h55 | exact h57 | exact h58 | exact h60 | exact h61 | exact h63 | exact h64 | exact h65 | exact h66 | exact h68 | exact h69) (by first | rfl | exact h51 | exact h52 | exact h55 | exact h57 | exact h58 | exact h60 | exact h61 | exact h63 | exact h64 | exact h65 | exact h66 | exact h68 | exact h69) (by first | rfl | exact h51 | exact h52 | exact h55 | exact h57 | exact h58 | exact h60 | exact h61 | exact h63 | exact h64 | exact h65 | exact h66 | exact h68 | exact h69) (by first | rfl | exact h51 | exact h52 | exact h55 | exact h57 | exact h58 | exact h60 | exact h61 | exact h63 | exact h64 | exact h65 | exact h66 | exact h68 | exact h69) (by first | rfl | exact h51 | exact h52 | exact h55 | exact h57 | exact h58 | exact h60 | exact h61 | exact h63 | exact h64 | exact h65 | exact h66 | exact h68 | exact h69) (by first | rfl | exact h51 | exact h52 | exact h55 | exact h57 | exact h58 | exact h60 | exact h61 | exact h63 | exact h64 | exact h65 | exact h66 | exact h68 | exact h69)) ⟨callB_of 4 htx (xw_goodC kw_6_191) rfl rfl rfl (htx _ kw_1_5) (htx _ kw_6_188) ⟨by decide, by decide, by decide +kernel⟩ ⟨Nat.le_of_ble_eq_true rfl, Nat.le_of_ble_eq_true rfl⟩, (htx _ kw_6_189), (htx _ kw_6_190)⟩ ⟨xPre_blind, va_recv hK hP (ci := 5) rfl (q0 := 0) rfl, (fun U hU hW => ⟨rfl, xPre_of hZ hS hFc hPc hDc hK U hU hW⟩)⟩ rfl rfl hl.1 rfl (lv_room (Nat.le_of_ble_eq_true rfl)) dL_law_431 ⟨Nat.le_of_ble_eq_true rfl, Nat.le_of_ble_eq_true rfl⟩) hS (fun q _ h => hFc q h) hFc (fun u9 t H1 locs ht hvm hr9 hB hz1 hk1 hS => ?_)
  obtain ⟨q2, q3, hP1, hK1, hD1⟩ := hB
  rw [ht] at hP1
  obtain ⟨hP, hD⟩ := xjoin (W := [(a2, .inl (cT 2, 1, .inr (.inl f46))), (a0, .inr (0, [v11, v12, v13, .ref a4, v14, .ref a3, v15, .int 1])), (a3, .inr (2, [v47, .int 0, .int 0])), (a4, .inl (cT 3, 8, .inr (.inr (.inr (.inr f50))))), (a5, .inr (2, [.ref a6, .int 1, v53])), (a6, .inl (cT 2, 4096, .inr (.inl f54))), (a1, .inr (5, [.int 2, .ref a10, .int 2, v19, .int 0, v21, v22, .int 0, .int 1, .int 0, v26, v27, .int 0, v29, v30, .ref a9, .int 4, .int 4, .int 0, .int 100, v36, v37, .int 0, .int 1000000000, .ref a7, .ref a8, v40, v41, v42, v43, .int 1, v45])), (a7, .inl (cT 5, 8, .inr (.inr (.inr (.inr f56))))), (a8, .inl (cT 1, 8, .inl f59)), (a9, .inl (cT 0, 4096, .inl f62)), (a10, .inl (cT 4, 1024, .inr (.inr (.inr (.inr (va_up (va_up f67 0 (some q2)) 1 (some q3))))))), (q2, .inr (6, [.int 0, .long 0, .int 0, .int 0, .int 0, .int 1])), (q3, .inr (6, [.int 0, .long 0, .int 0, .int 0, .int 0, .int 1]))]) hP hD [0, 2, 3, 4, 5] [1, 6, 7, 8, 9, 10] 6 rfl rfl (by decide) (by decide) hk1 hFc hP1 hD1
  generalize H1 = H at hP hS ⊢
  refine lv_aload_n hx hb dL_law_434 rfl (lv_at hl 3 rfl) ?_
  obtain ⟨hPc, hDc, hFc⟩ := xcut (wc := [(a1, .inr (5, [.int 2, .ref a10, .int 2, v19, .int 0, v21, v22, .int 0, .int 1, .int 0, v26, v27, .int 0, v29, v30, .ref a9, .int 4, .int 4, .int 0, .int 100, v36, v37, .int 0, .int 1000000000, .ref a7, .ref a8, v40, v41, v42, v43, .int 1, v45]))]) hP hD hS hA [6] rfl rfl (by decide)
  refine va_calli (va_runV (C := "ValueBenchModel") (As := []) (rest := []) ⟨hx, hb, hml, hown, htx⟩ (cM_thrown_2 l hl9 D cT aK aV H.size a1 (.ref a10) (.int 2) v19 (.int 0) v21 v22 (.int 0) (.int 1) (.int 0) v26 v27 (.int 0) v29 v30 (.ref a9) (.int 4) (.int 4) (.int 0) (.int 100) v36 v37 (.int 0) (.int 1000000000) (.ref a7) (.ref a8) v40 v41 v42 v43 (.int 1) v45) ⟨callB_of 0 htx (xw_goodC kw_5_187) rfl rfl rfl (htx _ kw_1_5) (htx _ kw_5_184) ⟨by decide, by decide, by decide +kernel⟩ ⟨Nat.le_of_ble_eq_true rfl, Nat.le_of_ble_eq_true rfl⟩, (htx _ kw_5_185), (htx _ kw_5_186)⟩ ⟨xPre_blind, va_recv hK hP (ci := 5) rfl (q0 := 6) rfl, (fun U hU hW => ⟨rfl, xPre_of hZ hS hFc hPc hDc hK U hU hW⟩)⟩ rfl rfl hl.1 rfl (lv_room (Nat.le_of_ble_eq_true rfl)) dL_law_435 ⟨Nat.le_of_ble_eq_true rfl, Nat.le_of_ble_eq_true rfl⟩) hS (fun q _ h => hFc q h) hFc (fun r4 u9 t H1 locs ht hvm hr9 hB hz1 hk1 hS => ?_)
  obtain ⟨hP1, hK1, hD1⟩ := hB
  rw [ht] at hP1
  obtain ⟨hP, hD⟩ := xjoin (W := [(a2, .inl (cT 2, 1, .inr (.inl f46))), (a0, .inr (0, [v11, v12, v13, .ref a4, v14, .ref a3, v15, .int 1])), (a3, .inr (2, [v47, .int 0, .int 0])), (a4, .inl (cT 3, 8, .inr (.inr (.inr (.inr f50))))), (a5, .inr (2, [.ref a6, .int 1, v53])), (a6, .inl (cT 2, 4096, .inr (.inl f54))), (a7, .inl (cT 5, 8, .inr (.inr (.inr (.inr f56))))), (a8, .inl (cT 1, 8, .inl f59)), (a9, .inl (cT 0, 4096, .inl f62)), (a10, .inl (cT 4, 1024, .inr (.inr (.inr (.inr (va_up (va_up f67 0 (some q2)) 1 (some q3))))))), (q2, .inr (6, [.int 0, .long 0, .int 0, .int 0, .int 0, .int 1])), (q3, .inr (6, [.int 0, .long 0, .int 0, .int 0, .int 0, .int 1])), (a1, .inr (5, [.int 2, .ref a10, .int 2, v19, .int 0, v21, v22, .int 0, .int 1, .int 0, v26, v27, .int 0, v29, v30, .ref a9, .int 4, .int 4, .int 0, .int 100, v36, v37, .int 0, .int 1000000000, .ref a7, .ref a8, v40, v41, v42, v43, .int 1, v45]))]) hP hD [6] [0, 1, 2, 3, 4, 5, 7, 8, 9, 10, 11, 12] 12 rfl rfl (by decide) (by decide) hk1 hFc hP1 hD1
  generalize H1 = H at hP hS ⊢
  rw [hr9]
  refine W.eq (g2 := F0 m 438 ls [.int 2]) rfl ?_
  refine lv_iload hx hb dL_law_438 (lv_at hl 0 rfl) ?_
  refine lv_icmp_eq (tgt := 445) hx hb dL_law_440 (by decide) (fun _ => ?_) (fun h => ((by revert h; decide : False)).elim)
  refine lv_goto (tgt := 906) hx hb dL_law_445 (by decide) ?_
  refine lv_iinc (v := 6) (lv' := [(4, .int 6), (5, .int 2), (3, .ref a2), (2, .ref a1), (1, .ref a0), (0, .ref b)]) hx hb dL_law_906 hl (k := 1) rfl (by decide) (by decide) rfl (fun ls hl => ?_)
  refine lv_goto (tgt := 23) hx hb dL_law_909 (by decide) ?_
  refine lv_iload hx hb dL_law_23 (lv_at hl 0 rfl) ?_
  refine lv_aload_n hx hb dL_law_25 rfl (lv_at hl 5 rfl) ?_
  refine va_slen hx hb hXs hbl hbA hS dL_law_26 ?_
  refine W.eq (g2 := F0 m 27 ls [.int 6, .int 6]) rfl ?_
  refine lv_bipush (v := 6) hx hb dL_law_27 (by decide) ?_
  refine lv_isub hx hb dL_law_29 ?_
  refine W.eq (g2 := F0 m 30 ls [.int 0, .int 6]) rfl ?_
  refine lv_icmp_gt (tgt := 912) hx hb dL_law_30 (by decide) (fun _ => ?_) (fun h => ((by revert h; decide : False)).elim)
  refine lv_iconst (v := 1) hx hb dL_law_912 (by decide) ?_
  exact va_forget (fun q h => hA2 _ (hS.2.2 q h)) (W.widen (k := 600002) (n := 7302232) (Nat.le_of_ble_eq_true rfl) (Nat.le_of_ble_eq_true rfl) (lw_ret hx hb hr hlocks dL_law_913))
set_option maxHeartbeats 400000000 in
set_option maxRecDepth 100000 in
theorem lf_binary4_p1 {p : Program} {e : Env} {s : State} {m : MethodId} {below : List Frame} {meth : Method} {c : Code} (l : Launch) (hl9 : l.stackTraces = false) (D : va_G) (cT : Nat → ClassId) (aK aV : Nat → Nat) {A : Nat → Prop} {b : Nat} {xs : Nat → Int32} (C : xLw p s m meth c b D cT aK aV A) {H : Heap} {locs : List Loc} {ls : Array Slot} (a0 : Nat) (a1 : Nat) (a2 : Nat) (a3 : Nat) (a4 : Nat) (a5 : Nat) (a6 : Nat) (a7 : Nat) (a8 : Nat) (a9 : Nat) (a10 : Nat) (v11 : Value) (v12 : Value) (v13 : Value) (v14 : Value) (v15 : Value) (v16 : Value) (v17 : Value) (v18 : Value) (v19 : Value) (v20 : Value) (v21 : Value) (v22 : Value) (v23 : Value) (v24 : Value) (v25 : Value) (v26 : Value) (v27 : Value) (v28 : Value) (v29 : Value) (v30 : Value) (v31 : Value) (v32 : Value) (v33 : Value) (v34 : Value) (v35 : Value) (v36 : Value) (v37 : Value) (v38 : Value) (v39 : Value) (v40 : Value) (v41 : Value) (v42 : Value) (v43 : Value) (v44 : Value) (v45 : Value) (f46 : Nat → Int64) (v47 : Value) (v48 : Value) (v49 : Value) (f50 : Nat → Option Nat) (v53 : Value) (f54 : Nat → Int64) (f56 : Nat → Option Nat) (f59 : Nat → Int32) (f62 : Nat → Int32) (f67 : Nat → Option Nat) (h51 : f50 (xs 3).toNatClampNeg = some a5) (h52 : f50 (xs 4).toNatClampNeg = some a5) (h55 : f54 0 = 0) (h57 : f56 (xs 3).toNatClampNeg = some a9) (h58 : f56 (xs 4).toNatClampNeg = some a9) (h60 : f59 (xs 3).toNatClampNeg = 4) (h61 : f59 (xs 4).toNatClampNeg = 4) (h63 : f62 0 = 110) (h64 : f62 1 = 117) (h65 : f62 2 = 108) (h66 : f62 3 = 108) (h68 : f67 0 = none) (h69 : f67 1 = none) (hto1 : ¬ (xs 1) < 0) (hto2 : ¬ 7 < (xs 1)) (hto3 : (xs 1) ≤ 7) (hto4 : vp_in (xs 1) 8) (hf : xs 2 = 4) (ha1 : ¬ (xs 3) < 0) (ha2 : ¬ 7 < (xs 3)) (ha3 : (xs 3) ≤ 7) (ha4 : vp_in (xs 3) 8) (hb1 : ¬ (xs 4) < 0) (hb2 : ¬ 7 < (xs 4)) (hb3 : (xs 4) ≤ 7) (hb4 : vp_in (xs 4) 8) (hXs : va_X b 6 xs s s.heap) (hP : va_P D xcl [(a0, .inr (0, [v11, v12, v13, .ref a4, v14, .ref a3, v15, v16])), (a1, .inr (5, [v17, .ref a10, v18, v19, v20, v21, v22, v23, v24, v25, v26, v27, v28, v29, v30, v31, v32, v33, v34, v35, v36, v37, v38, v39, .ref a7, .ref a8, v40, v41, v42, v43, v44, v45])), (a2, .inl (cT 2, 1, .inr (.inl f46))), (a3, .inr (2, [v47, v48, v49])), (a4, .inl (cT 3, 8, .inr (.inr (.inr (.inr f50))))), (a5, .inr (2, [.ref a6, .int 1, v53])), (a6, .inl (cT 2, 4096, .inr (.inl f54))), (a7, .inl (cT 5, 8, .inr (.inr (.inr (.inr f56))))), (a8, .inl (cT 1, 8, .inl f59)), (a9, .inl (cT 0, 4096, .inl f62)), (a10, .inl (cT 4, 1024, .inr (.inr (.inr (.inr f67)))))] H) (hD : va_D A [(a0, .inr (0, [v11, v12, v13, .ref a4, v14, .ref a3, v15, v16])), (a1, .inr (5, [v17, .ref a10, v18, v19, v20, v21, v22, v23, v24, v25, v26, v27, v28, v29, v30, v31, v32, v33, v34, v35, v36, v37, v38, v39, .ref a7, .ref a8, v40, v41, v42, v43, v44, v45])), (a2, .inl (cT 2, 1, .inr (.inl f46))), (a3, .inr (2, [v47, v48, v49])), (a4, .inl (cT 3, 8, .inr (.inr (.inr (.inr f50))))), (a5, .inr (2, [.ref a6, .int 1, v53])), (a6, .inl (cT 2, 4096, .inr (.inl f54))), (a7, .inl (cT 5, 8, .inr (.inr (.inr (.inr f56))))), (a8, .inl (cT 1, 8, .inl f59)), (a9, .inl (cT 0, 4096, .inl f62)), (a10, .inl (cT 4, 1024, .inr (.inr (.inr (.inr f67)))))]) (hS : va_S A s.heap H locs) (hl : lv_has ls 8 [(4, .int 0), (3, .ref a2), (2, .ref a1), (1, .ref a0), (0, .ref b)]) : W p l e room_1 s m #[Value.ref b] below meth c H locs 54 107242 (lw_Z below #[Value.ref b] s) (F0 m 376 ls []) := by
  obtain ⟨hx, hb, hr, hml, hown, htx, hbl, hbA, hlocks, hK, hZ, hA, hA2⟩ := C
  refine lv_aload_n hx hb dL_law_376 rfl (lv_at hl 3 rfl) ?_
  refine lv_aload_n hx hb dL_law_377 rfl (lv_at hl 4 rfl) ?_
  refine lv_iload hx hb dL_law_378 (lv_at hl 0 rfl) ?_
  refine lv_iconst (v := 1) hx hb dL_law_380 (by decide) ?_
  refine lv_iadd hx hb dL_law_381 ?_
  refine W.eq (g2 := F0 m 382 ls [.int 1, .ref b, .ref a0]) rfl ?_
  refine va_sld hx hb hXs hbl hbA hS (i := 1) (show ¬ ((1 : Int32) < 0 ∨ 6 ≤ (1 : Int32).toNatClampNeg) by decide) dL_law_382 ?_
  refine W.eq (g2 := F0 m 383 ls [.int (xs 1), .ref a0]) rfl ?_
  refine lv_aload_n hx hb dL_law_383 rfl (lv_at hl 4 rfl) ?_
  refine lv_iload hx hb dL_law_384 (lv_at hl 0 rfl) ?_
  refine lv_iconst (v := 2) hx hb dL_law_386 (by decide) ?_
  refine lv_iadd hx hb dL_law_387 ?_
  refine W.eq (g2 := F0 m 388 ls [.int 2, .ref b, .int (xs 1), .ref a0]) rfl ?_
  refine va_sld hx hb hXs hbl hbA hS (i := 2) (show ¬ ((2 : Int32) < 0 ∨ 6 ≤ (2 : Int32).toNatClampNeg) by decide) dL_law_388 ?_
  refine W.eq (g2 := F0 m 389 ls [.int (xs 2), .int (xs 1), .ref a0]) rfl ?_
  rw [hf]
  refine W.eq (g2 := F0 m 389 ls [.int 4, .int (xs 1), .ref a0]) rfl ?_
  refine lv_aload_n hx hb dL_law_389 rfl (lv_at hl 4 rfl) ?_
  refine lv_iload hx hb dL_law_390 (lv_at hl 0 rfl) ?_
  refine lv_iconst (v := 3) hx hb dL_law_392 (by decide) ?_
  refine lv_iadd hx hb dL_law_393 ?_
  refine W.eq (g2 := F0 m 394 ls [.int 3, .ref b, .int 4, .int (xs 1), .ref a0]) rfl ?_
  refine va_sld hx hb hXs hbl hbA hS (i := 3) (show ¬ ((3 : Int32) < 0 ∨ 6 ≤ (3 : Int32).toNatClampNeg) by decide) dL_law_394 ?_
  refine W.eq (g2 := F0 m 395 ls [.int (xs 3), .int 4, .int (xs 1), .ref a0]) rfl ?_
  refine lv_aload_n hx hb dL_law_395 rfl (lv_at hl 4 rfl) ?_
  refine lv_iload hx hb dL_law_396 (lv_at hl 0 rfl) ?_
  refine lv_iconst (v := 4) hx hb dL_law_398 (by decide) ?_
  refine lv_iadd hx hb dL_law_399 ?_
  refine W.eq (g2 := F0 m 400 ls [.int 4, .ref b, .int (xs 3), .int 4, .int (xs 1), .ref a0]) rfl ?_
  refine va_sld hx hb hXs hbl hbA hS (i := 4) (show ¬ ((4 : Int32) < 0 ∨ 6 ≤ (4 : Int32).toNatClampNeg) by decide) dL_law_400 ?_
  refine W.eq (g2 := F0 m 401 ls [.int (xs 4), .int (xs 3), .int 4, .int (xs 1), .ref a0]) rfl ?_
  obtain ⟨hPc, hDc, hFc⟩ := xcut (wc := [(a0, .inr (0, [v11, v12, v13, .ref a4, v14, .ref a3, v15, v16])), (a3, .inr (2, [v47, v48, v49])), (a4, .inl (cT 3, 8, .inr (.inr (.inr (.inr f50))))), (a5, .inr (2, [.ref a6, .int 1, v53])), (a6, .inl (cT 2, 4096, .inr (.inl f54)))]) hP hD hS hA [0, 3, 4, 5, 6] rfl rfl (by decide)
  refine va_calli (vx_runSW (As := [.ref a0, .int (xs 1), .int 4, .int (xs 3), .int (xs 4)]) (rest := []) ⟨hx, hb, hml, hown, htx⟩ (cL_binary_16 l hl9 D cT aK aV H.size a0 a3 a4 a5 a6 (xs 1) (xs 3) (xs 4) v11 v12 v13 v14 v15 v16 v47 v48 v49 f50 v53 f54 hto1 hto2 hto3 hto4 ha1 ha2 ha3 ha4 hb1 hb2 hb3 hb4 (by first | rfl | exact h51 | exact h52 | exact h55 | exact h57 | exact h58 | exact h60 | exact h61 | exact h63 | exact h64 | exact h65 | exact h66 | exact h68 | exact h69) (by first | rfl | exact h51 | exact h52 | exact h55 | exact h57 | exact h58 | exact h60 | exact h61 | exact h63 | exact h64 | exact h65 | exact h66 | exact h68 | exact h69) (by first | rfl | exact h51 | exact h52 | exact h55 | exact h57 | exact h58 | exact h60 | exact h61 | exact h63 | exact h64 | exact h65 | exact h66 | exact h68 | exact h69)) (xcSW 5 htx (xw_goodC kw_3_97) rfl rfl rfl (htx _ kw_1_0) (htx _ kw_3_95) ⟨by decide, by decide, by decide +kernel⟩ ⟨Nat.le_of_ble_eq_true rfl, Nat.le_of_ble_eq_true rfl⟩ (htx _ kw_3_96)) ⟨xPre_blind, (fun U hU hW => ⟨rfl, xPre_of hZ hS hFc hPc hDc hK U hU hW⟩)⟩ rfl rfl hl.1 rfl (lv_room (Nat.le_of_ble_eq_true rfl)) dL_law_401 ⟨Nat.le_of_ble_eq_true rfl, Nat.le_of_ble_eq_true rfl⟩) hS (fun q _ h => hFc q h) hFc (fun r1 u9 t H1 locs ht hvm hr9 hB hz1 hk1 hS => ?_)
  obtain ⟨hP1, hK1, hD1⟩ := hB
  rw [ht] at hP1
  obtain ⟨hP, hD⟩ := xjoin (W := [(a1, .inr (5, [v17, .ref a10, v18, v19, v20, v21, v22, v23, v24, v25, v26, v27, v28, v29, v30, v31, v32, v33, v34, v35, v36, v37, v38, v39, .ref a7, .ref a8, v40, v41, v42, v43, v44, v45])), (a2, .inl (cT 2, 1, .inr (.inl f46))), (a7, .inl (cT 5, 8, .inr (.inr (.inr (.inr f56))))), (a8, .inl (cT 1, 8, .inl f59)), (a9, .inl (cT 0, 4096, .inl f62)), (a10, .inl (cT 4, 1024, .inr (.inr (.inr (.inr f67))))), (a0, .inr (0, [v11, v12, v13, .ref a4, v14, .ref a3, v15, .int 1])), (a3, .inr (2, [v47, .int 0, .int 0])), (a4, .inl (cT 3, 8, .inr (.inr (.inr (.inr f50))))), (a5, .inr (2, [.ref a6, .int 1, v53])), (a6, .inl (cT 2, 4096, .inr (.inl f54)))]) hP hD [0, 3, 4, 5, 6] [1, 2, 7, 8, 9, 10] 6 rfl rfl (by decide) (by decide) hk1 hFc hP1 hD1
  generalize H1 = H at hP hS ⊢
  rw [hr9]
  refine W.eq (g2 := F0 m 404 ls [.int 2]) rfl ?_
  refine lv_istore (lv' := [(5, .int 2), (4, .int 0), (3, .ref a2), (2, .ref a1), (1, .ref a0), (0, .ref b)]) hx hb dL_law_404 hl (by decide) rfl (fun ls hl => ?_)
  refine lv_aload_n hx hb dL_law_406 rfl (lv_at hl 3 rfl) ?_
  refine lv_aload_n hx hb dL_law_407 rfl (lv_at hl 5 rfl) ?_
  refine lv_iload hx hb dL_law_408 (lv_at hl 1 rfl) ?_
  refine lv_iconst (v := 1) hx hb dL_law_410 (by decide) ?_
  refine lv_iadd hx hb dL_law_411 ?_
  refine W.eq (g2 := F0 m 412 ls [.int 1, .ref b, .ref a1]) rfl ?_
  refine va_sld hx hb hXs hbl hbA hS (i := 1) (show ¬ ((1 : Int32) < 0 ∨ 6 ≤ (1 : Int32).toNatClampNeg) by decide) dL_law_412 ?_
  refine W.eq (g2 := F0 m 413 ls [.int (xs 1), .ref a1]) rfl ?_
  refine lv_aload_n hx hb dL_law_413 rfl (lv_at hl 5 rfl) ?_
  refine lv_iload hx hb dL_law_414 (lv_at hl 1 rfl) ?_
  refine lv_iconst (v := 2) hx hb dL_law_416 (by decide) ?_
  refine lv_iadd hx hb dL_law_417 ?_
  refine W.eq (g2 := F0 m 418 ls [.int 2, .ref b, .int (xs 1), .ref a1]) rfl ?_
  refine va_sld hx hb hXs hbl hbA hS (i := 2) (show ¬ ((2 : Int32) < 0 ∨ 6 ≤ (2 : Int32).toNatClampNeg) by decide) dL_law_418 ?_
  refine W.eq (g2 := F0 m 419 ls [.int (xs 2), .int (xs 1), .ref a1]) rfl ?_
  rw [hf]
  refine W.eq (g2 := F0 m 419 ls [.int 4, .int (xs 1), .ref a1]) rfl ?_
  refine lv_aload_n hx hb dL_law_419 rfl (lv_at hl 5 rfl) ?_
  refine lv_iload hx hb dL_law_420 (lv_at hl 1 rfl) ?_
  refine lv_iconst (v := 3) hx hb dL_law_422 (by decide) ?_
  refine lv_iadd hx hb dL_law_423 ?_
  refine W.eq (g2 := F0 m 424 ls [.int 3, .ref b, .int 4, .int (xs 1), .ref a1]) rfl ?_
  refine va_sld hx hb hXs hbl hbA hS (i := 3) (show ¬ ((3 : Int32) < 0 ∨ 6 ≤ (3 : Int32).toNatClampNeg) by decide) dL_law_424 ?_
  refine W.eq (g2 := F0 m 425 ls [.int (xs 3), .int 4, .int (xs 1), .ref a1]) rfl ?_
  refine lv_aload_n hx hb dL_law_425 rfl (lv_at hl 5 rfl) ?_
  refine lv_iload hx hb dL_law_426 (lv_at hl 1 rfl) ?_
  refine lv_iconst (v := 4) hx hb dL_law_428 (by decide) ?_
  refine lv_iadd hx hb dL_law_429 ?_
  refine W.eq (g2 := F0 m 430 ls [.int 4, .ref b, .int (xs 3), .int 4, .int (xs 1), .ref a1]) rfl ?_
  refine va_sld hx hb hXs hbl hbA hS (i := 4) (show ¬ ((4 : Int32) < 0 ∨ 6 ≤ (4 : Int32).toNatClampNeg) by decide) dL_law_430 ?_
  refine W.eq (g2 := F0 m 431 ls [.int (xs 4), .int (xs 3), .int 4, .int (xs 1), .ref a1]) rfl ?_
  obtain ⟨hPc, hDc, hFc⟩ := xcut (wc := [(a1, .inr (5, [v17, .ref a10, v18, v19, v20, v21, v22, v23, v24, v25, v26, v27, v28, v29, v30, v31, v32, v33, v34, v35, v36, v37, v38, v39, .ref a7, .ref a8, v40, v41, v42, v43, v44, v45])), (a7, .inl (cT 5, 8, .inr (.inr (.inr (.inr f56))))), (a8, .inl (cT 1, 8, .inl f59)), (a9, .inl (cT 0, 4096, .inl f62)), (a10, .inl (cT 4, 1024, .inr (.inr (.inr (.inr f67)))))]) hP hD hS hA [0, 2, 3, 4, 5] rfl rfl (by decide)
  refine va_callv (va_runV (C := "ValueBenchModel") (As := [.int (xs 1), .int 4, .int (xs 3), .int (xs 4)]) (rest := []) ⟨hx, hb, hml, hown, htx⟩ (cM_binary0_19 l hl9 D cT aK aV H.size a1 a7 a8 a9 a10 (xs 1) (xs 3) (xs 4) v17 v18 v19 v20 v21 v22 v23 v24 v25 v26 v27 v28 v29 v30 v31 v32 v33 v34 v35 v36 v37 v38 v39 v40 v41 v42 v43 v44 v45 f56 f59 f62 f67 hto1 hto2 hto3 hto4 ha1 ha2 ha3 ha4 hb1 hb2 hb3 hb4 (by first | rfl | exact h51 | exact h52 | exact h55 | exact h57 | exact h58 | exact h60 | exact h61 | exact h63 | exact h64 | exact h65 | exact h66 | exact h68 | exact h69) (by first | rfl | exact h51 | exact h52 | exact h55 | exact h57 | exact h58 | exact h60 | exact h61 | exact h63 | exact h64 | exact h65 | exact h66 | exact h68 | exact h69) (by first | rfl | exact h51 | exact h52 | exact h55 | exact h57 | exact h58 | exact h60 | exact h61 | exact h63 | exact h64 | exact h65 | exact h66 | exact h68 | exact h69) (by first | rfl | exact h51 | exact h52 | exact h55 | exact h57 | exact h58 | exact h60 | exact h61 | exact h63 | exact h64 | exact h65 | exact h66 | exact h68 | exact h69) (by first | rfl | exact h51 | exact h52 | exact h55 | exact h57 | exact h58 | exact h60 | exact h61 | exact h63 | exact h64 | exact h65 | exact h66 | exact h68 | exact h69) (by first | rfl | exact h51 | exact h52 | exact h55 | exact h57 | exact h58 | exact h60 | exact h61 | exact h63 | exact h64 | exact h65 | exact h66 | exact h68 | exact h69) (by first | rfl | exact h51 | exact h52 | exact h55 | exact h57 | exact h58 | exact h60 | exact h61 | exact h63 | exact h64 | exact h65 | exact h66 | exact h68 | exact h69) (by first | rfl | exact h51 | exact h52 | exact h55 | exact h57 | exact h58 | exact h60 | exact h61 | exact h63 | exact h64 | exact h65 | exact h66 | exact h68 | exact h69) (by first | rfl | exact h51 | exact h52 | exact h55 | exact h57 | exact h58 | exact h60 | exact h61 | exact h63 | exact h64 | exact h65 | exact h66 | exact h68 | exact h69) (by first | rfl | exact h51 | exact h52 | exact h55 | exact h57 | exact h58 | exact h60 | exact h61 | exact h63 | exact h64 | exact h65 | exact h66 | exact h68 | exact h69)) ⟨callB_of 4 htx (xw_goodC kw_6_191) rfl rfl rfl (htx _ kw_1_5) (htx _ kw_6_188) ⟨by decide, by decide, by decide +kernel⟩ ⟨Nat.le_of_ble_eq_true rfl, Nat.le_of_ble_eq_true rfl⟩, (htx _ kw_6_189), (htx _ kw_6_190)⟩ ⟨xPre_blind, va_recv hK hP (ci := 5) rfl (q0 := 0) rfl, (fun U hU hW => ⟨rfl, xPre_of hZ hS hFc hPc hDc hK U hU hW⟩)⟩ rfl rfl hl.1 rfl (lv_room (Nat.le_of_ble_eq_true rfl)) dL_law_431 ⟨Nat.le_of_ble_eq_true rfl, Nat.le_of_ble_eq_true rfl⟩) hS (fun q _ h => hFc q h) hFc (fun u9 t H1 locs ht hvm hr9 hB hz1 hk1 hS => ?_)
  obtain ⟨q2, q3, hP1, hK1, hD1⟩ := hB
  rw [ht] at hP1
  obtain ⟨hP, hD⟩ := xjoin (W := [(a2, .inl (cT 2, 1, .inr (.inl f46))), (a0, .inr (0, [v11, v12, v13, .ref a4, v14, .ref a3, v15, .int 1])), (a3, .inr (2, [v47, .int 0, .int 0])), (a4, .inl (cT 3, 8, .inr (.inr (.inr (.inr f50))))), (a5, .inr (2, [.ref a6, .int 1, v53])), (a6, .inl (cT 2, 4096, .inr (.inl f54))), (a1, .inr (5, [.int 2, .ref a10, .int 2, v19, .int 0, v21, v22, .int 0, .int 1, .int 0, v26, v27, .int 0, v29, v30, .ref a9, .int 4, .int 4, .int 0, .int 100, v36, v37, .int 0, .int 1000000000, .ref a7, .ref a8, v40, v41, v42, v43, .int 1, v45])), (a7, .inl (cT 5, 8, .inr (.inr (.inr (.inr f56))))), (a8, .inl (cT 1, 8, .inl f59)), (a9, .inl (cT 0, 4096, .inl f62)), (a10, .inl (cT 4, 1024, .inr (.inr (.inr (.inr (va_up (va_up f67 0 (some q2)) 1 (some q3))))))), (q2, .inr (6, [.int 0, .long 0, .int 0, .int 0, .int 0, .int 1])), (q3, .inr (6, [.int 0, .long 0, .int 0, .int 0, .int 0, .int 1]))]) hP hD [0, 2, 3, 4, 5] [1, 6, 7, 8, 9, 10] 6 rfl rfl (by decide) (by decide) hk1 hFc hP1 hD1
  generalize H1 = H at hP hS ⊢
  refine lv_aload_n hx hb dL_law_434 rfl (lv_at hl 3 rfl) ?_
  obtain ⟨hPc, hDc, hFc⟩ := xcut (wc := [(a1, .inr (5, [.int 2, .ref a10, .int 2, v19, .int 0, v21, v22, .int 0, .int 1, .int 0, v26, v27, .int 0, v29, v30, .ref a9, .int 4, .int 4, .int 0, .int 100, v36, v37, .int 0, .int 1000000000, .ref a7, .ref a8, v40, v41, v42, v43, .int 1, v45]))]) hP hD hS hA [6] rfl rfl (by decide)
  refine va_calli (va_runV (C := "ValueBenchModel") (As := []) (rest := []) ⟨hx, hb, hml, hown, htx⟩ (cM_thrown_2 l hl9 D cT aK aV H.size a1 (.ref a10) (.int 2) v19 (.int 0) v21 v22 (.int 0) (.int 1) (.int 0) v26 v27 (.int 0) v29 v30 (.ref a9) (.int 4) (.int 4) (.int 0) (.int 100) v36 v37 (.int 0) (.int 1000000000) (.ref a7) (.ref a8) v40 v41 v42 v43 (.int 1) v45) ⟨callB_of 0 htx (xw_goodC kw_5_187) rfl rfl rfl (htx _ kw_1_5) (htx _ kw_5_184) ⟨by decide, by decide, by decide +kernel⟩ ⟨Nat.le_of_ble_eq_true rfl, Nat.le_of_ble_eq_true rfl⟩, (htx _ kw_5_185), (htx _ kw_5_186)⟩ ⟨xPre_blind, va_recv hK hP (ci := 5) rfl (q0 := 6) rfl, (fun U hU hW => ⟨rfl, xPre_of hZ hS hFc hPc hDc hK U hU hW⟩)⟩ rfl rfl hl.1 rfl (lv_room (Nat.le_of_ble_eq_true rfl)) dL_law_435 ⟨Nat.le_of_ble_eq_true rfl, Nat.le_of_ble_eq_true rfl⟩) hS (fun q _ h => hFc q h) hFc (fun r4 u9 t H1 locs ht hvm hr9 hB hz1 hk1 hS => ?_)
  obtain ⟨hP1, hK1, hD1⟩ := hB
  rw [ht] at hP1
  obtain ⟨hP, hD⟩ := xjoin (W := [(a2, .inl (cT 2, 1, .inr (.inl f46))), (a0, .inr (0, [v11, v12, v13, .ref a4, v14, .ref a3, v15, .int 1])), (a3, .inr (2, [v47, .int 0, .int 0])), (a4, .inl (cT 3, 8, .inr (.inr (.inr (.inr f50))))), (a5, .inr (2, [.ref a6, .int 1, v53])), (a6, .inl (cT 2, 4096, .inr (.inl f54))), (a7, .inl (cT 5, 8, .inr (.inr (.inr (.inr f56))))), (a8, .inl (cT 1, 8, .inl f59)), (a9, .inl (cT 0, 4096, .inl f62)), (a10, .inl (cT 4, 1024, .inr (.inr (.inr (.inr (va_up (va_up f67 0 (some q2)) 1 (some q3))))))), (q2, .inr (6, [.int 0, .long 0, .int 0, .int 0, .int 0, .int 1])), (q3, .inr (6, [.int 0, .long 0, .int 0, .int 0, .int 0, .int 1])), (a1, .inr (5, [.int 2, .ref a10, .int 2, v19, .int 0, v21, v22, .int 0, .int 1, .int 0, v26, v27, .int 0, v29, v30, .ref a9, .int 4, .int 4, .int 0, .int 100, v36, v37, .int 0, .int 1000000000, .ref a7, .ref a8, v40, v41, v42, v43, .int 1, v45]))]) hP hD [6] [0, 1, 2, 3, 4, 5, 7, 8, 9, 10, 11, 12] 12 rfl rfl (by decide) (by decide) hk1 hFc hP1 hD1
  generalize H1 = H at hP hS ⊢
  rw [hr9]
  refine W.eq (g2 := F0 m 438 ls [.int 2]) rfl ?_
  refine lv_iload hx hb dL_law_438 (lv_at hl 0 rfl) ?_
  refine lv_icmp_eq (tgt := 445) hx hb dL_law_440 (by decide) (fun _ => ?_) (fun h => ((by revert h; decide : False)).elim)
  refine lv_goto (tgt := 906) hx hb dL_law_445 (by decide) ?_
  refine lv_iinc (v := 6) (lv' := [(4, .int 6), (5, .int 2), (3, .ref a2), (2, .ref a1), (1, .ref a0), (0, .ref b)]) hx hb dL_law_906 hl (k := 1) rfl (by decide) (by decide) rfl (fun ls hl => ?_)
  refine lv_goto (tgt := 23) hx hb dL_law_909 (by decide) ?_
  refine lv_iload hx hb dL_law_23 (lv_at hl 0 rfl) ?_
  refine lv_aload_n hx hb dL_law_25 rfl (lv_at hl 5 rfl) ?_
  refine va_slen hx hb hXs hbl hbA hS dL_law_26 ?_
  refine W.eq (g2 := F0 m 27 ls [.int 6, .int 6]) rfl ?_
  refine lv_bipush (v := 6) hx hb dL_law_27 (by decide) ?_
  refine lv_isub hx hb dL_law_29 ?_
  refine W.eq (g2 := F0 m 30 ls [.int 0, .int 6]) rfl ?_
  refine lv_icmp_gt (tgt := 912) hx hb dL_law_30 (by decide) (fun _ => ?_) (fun h => ((by revert h; decide : False)).elim)
  refine lv_iconst (v := 1) hx hb dL_law_912 (by decide) ?_
  exact va_forget (fun q h => hA2 _ (hS.2.2 q h)) (W.widen (k := 600002) (n := 7302232) (Nat.le_of_ble_eq_true rfl) (Nat.le_of_ble_eq_true rfl) (lw_ret hx hb hr hlocks dL_law_913))
set_option maxHeartbeats 400000000 in
set_option maxRecDepth 100000 in
theorem lf_binary4_p2 {p : Program} {e : Env} {s : State} {m : MethodId} {below : List Frame} {meth : Method} {c : Code} (l : Launch) (hl9 : l.stackTraces = false) (D : va_G) (cT : Nat → ClassId) (aK aV : Nat → Nat) {A : Nat → Prop} {b : Nat} {xs : Nat → Int32} (C : xLw p s m meth c b D cT aK aV A) {H : Heap} {locs : List Loc} {ls : Array Slot} (a0 : Nat) (a1 : Nat) (a2 : Nat) (a3 : Nat) (a4 : Nat) (a5 : Nat) (a6 : Nat) (a7 : Nat) (a8 : Nat) (a9 : Nat) (a10 : Nat) (a11 : Nat) (v12 : Value) (v13 : Value) (v14 : Value) (v15 : Value) (v16 : Value) (v17 : Value) (v18 : Value) (v19 : Value) (v20 : Value) (v21 : Value) (v22 : Value) (v23 : Value) (v24 : Value) (v25 : Value) (v26 : Value) (v27 : Value) (v28 : Value) (v29 : Value) (v30 : Value) (v31 : Value) (v32 : Value) (v33 : Value) (v34 : Value) (v35 : Value) (v36 : Value) (v37 : Value) (v38 : Value) (v39 : Value) (v40 : Value) (v41 : Value) (v42 : Value) (v43 : Value) (v44 : Value) (v45 : Value) (v46 : Value) (f47 : Nat → Int64) (v48 : Value) (v49 : Value) (v50 : Value) (f51 : Nat → Option Nat) (b53 : Nat) (v55 : Value) (f56 : Nat → Int64) (f58 : Nat → Option Nat) (f61 : Nat → Int32) (f64 : Nat → Int32) (f69 : Nat → Option Nat) (f72 : Nat → Int32) (h52 : f51 (xs 3).toNatClampNeg = some a5) (h54 : f51 (xs 4).toNatClampNeg = some b53) (h57 : f56 0 = 0) (h59 : f58 (xs 3).toNatClampNeg = some a9) (h60 : f58 (xs 4).toNatClampNeg = some a11) (h62 : f61 (xs 3).toNatClampNeg = 4) (h63 : f61 (xs 4).toNatClampNeg = 4) (h65 : f64 0 = 110) (h66 : f64 1 = 117) (h67 : f64 2 = 108) (h68 : f64 3 = 108) (h70 : f69 0 = none) (h71 : f69 1 = none) (h73 : f72 0 = 110) (h74 : f72 1 = 117) (h75 : f72 2 = 108) (h76 : f72 3 = 108) (hto1 : ¬ (xs 1) < 0) (hto2 : ¬ 7 < (xs 1)) (hto3 : (xs 1) ≤ 7) (hto4 : vp_in (xs 1) 8) (hf : xs 2 = 4) (ha1 : ¬ (xs 3) < 0) (ha2 : ¬ 7 < (xs 3)) (ha3 : (xs 3) ≤ 7) (ha4 : vp_in (xs 3) 8) (hb1 : ¬ (xs 4) < 0) (hb2 : ¬ 7 < (xs 4)) (hb3 : (xs 4) ≤ 7) (hb4 : vp_in (xs 4) 8) (hXs : va_X b 6 xs s s.heap) (hP : va_P D xcl [(a0, .inr (0, [v12, v13, v14, .ref a4, v15, .ref a3, v16, v17])), (a1, .inr (5, [v18, .ref a10, v19, v20, v21, v22, v23, v24, v25, v26, v27, v28, v29, v30, v31, v32, v33, v34, v35, v36, v37, v38, v39, v40, .ref a7, .ref a8, v41, v42, v43, v44, v45, v46])), (a2, .inl (cT 2, 1, .inr (.inl f47))), (a3, .inr (2, [v48, v49, v50])), (a4, .inl (cT 3, 8, .inr (.inr (.inr (.inr f51))))), (a5, .inr (2, [.ref a6, .int 1, v55])), (a6, .inl (cT 2, 4096, .inr (.inl f56))), (a7, .inl (cT 5, 8, .inr (.inr (.inr (.inr f58))))), (a8, .inl (cT 1, 8, .inl f61)), (a9, .inl (cT 0, 4096, .inl f64)), (a10, .inl (cT 4, 1024, .inr (.inr (.inr (.inr f69))))), (a11, .inl (cT 0, 4096, .inl f72))] H) (hD : va_D A [(a0, .inr (0, [v12, v13, v14, .ref a4, v15, .ref a3, v16, v17])), (a1, .inr (5, [v18, .ref a10, v19, v20, v21, v22, v23, v24, v25, v26, v27, v28, v29, v30, v31, v32, v33, v34, v35, v36, v37, v38, v39, v40, .ref a7, .ref a8, v41, v42, v43, v44, v45, v46])), (a2, .inl (cT 2, 1, .inr (.inl f47))), (a3, .inr (2, [v48, v49, v50])), (a4, .inl (cT 3, 8, .inr (.inr (.inr (.inr f51))))), (a5, .inr (2, [.ref a6, .int 1, v55])), (a6, .inl (cT 2, 4096, .inr (.inl f56))), (a7, .inl (cT 5, 8, .inr (.inr (.inr (.inr f58))))), (a8, .inl (cT 1, 8, .inl f61)), (a9, .inl (cT 0, 4096, .inl f64)), (a10, .inl (cT 4, 1024, .inr (.inr (.inr (.inr f69))))), (a11, .inl (cT 0, 4096, .inl f72))]) (hS : va_S A s.heap H locs) (hl : lv_has ls 8 [(4, .int 0), (3, .ref a2), (2, .ref a1), (1, .ref a0), (0, .ref b)]) : W p l e room_1 s m #[Value.ref b] below meth c H locs 54 107242 (lw_Z below #[Value.ref b] s) (F0 m 376 ls []) := by
  obtain ⟨hx, hb, hr, hml, hown, htx, hbl, hbA, hlocks, hK, hZ, hA, hA2⟩ := C
  refine lv_aload_n hx hb dL_law_376 rfl (lv_at hl 3 rfl) ?_
  refine lv_aload_n hx hb dL_law_377 rfl (lv_at hl 4 rfl) ?_
  refine lv_iload hx hb dL_law_378 (lv_at hl 0 rfl) ?_
  refine lv_iconst (v := 1) hx hb dL_law_380 (by decide) ?_
  refine lv_iadd hx hb dL_law_381 ?_
  refine W.eq (g2 := F0 m 382 ls [.int 1, .ref b, .ref a0]) rfl ?_
  refine va_sld hx hb hXs hbl hbA hS (i := 1) (show ¬ ((1 : Int32) < 0 ∨ 6 ≤ (1 : Int32).toNatClampNeg) by decide) dL_law_382 ?_
  refine W.eq (g2 := F0 m 383 ls [.int (xs 1), .ref a0]) rfl ?_
  refine lv_aload_n hx hb dL_law_383 rfl (lv_at hl 4 rfl) ?_
  refine lv_iload hx hb dL_law_384 (lv_at hl 0 rfl) ?_
  refine lv_iconst (v := 2) hx hb dL_law_386 (by decide) ?_
  refine lv_iadd hx hb dL_law_387 ?_
  refine W.eq (g2 := F0 m 388 ls [.int 2, .ref b, .int (xs 1), .ref a0]) rfl ?_
  refine va_sld hx hb hXs hbl hbA hS (i := 2) (show ¬ ((2 : Int32) < 0 ∨ 6 ≤ (2 : Int32).toNatClampNeg) by decide) dL_law_388 ?_
  refine W.eq (g2 := F0 m 389 ls [.int (xs 2), .int (xs 1), .ref a0]) rfl ?_
  rw [hf]
  refine W.eq (g2 := F0 m 389 ls [.int 4, .int (xs 1), .ref a0]) rfl ?_
  refine lv_aload_n hx hb dL_law_389 rfl (lv_at hl 4 rfl) ?_
  refine lv_iload hx hb dL_law_390 (lv_at hl 0 rfl) ?_
  refine lv_iconst (v := 3) hx hb dL_law_392 (by decide) ?_
  refine lv_iadd hx hb dL_law_393 ?_
  refine W.eq (g2 := F0 m 394 ls [.int 3, .ref b, .int 4, .int (xs 1), .ref a0]) rfl ?_
  refine va_sld hx hb hXs hbl hbA hS (i := 3) (show ¬ ((3 : Int32) < 0 ∨ 6 ≤ (3 : Int32).toNatClampNeg) by decide) dL_law_394 ?_
  refine W.eq (g2 := F0 m 395 ls [.int (xs 3), .int 4, .int (xs 1), .ref a0]) rfl ?_
  refine lv_aload_n hx hb dL_law_395 rfl (lv_at hl 4 rfl) ?_
  refine lv_iload hx hb dL_law_396 (lv_at hl 0 rfl) ?_
  refine lv_iconst (v := 4) hx hb dL_law_398 (by decide) ?_
  refine lv_iadd hx hb dL_law_399 ?_
  refine W.eq (g2 := F0 m 400 ls [.int 4, .ref b, .int (xs 3), .int 4, .int (xs 1), .ref a0]) rfl ?_
  refine va_sld hx hb hXs hbl hbA hS (i := 4) (show ¬ ((4 : Int32) < 0 ∨ 6 ≤ (4 : Int32).toNatClampNeg) by decide) dL_law_400 ?_
  refine W.eq (g2 := F0 m 401 ls [.int (xs 4), .int (xs 3), .int 4, .int (xs 1), .ref a0]) rfl ?_
  obtain ⟨hPc, hDc, hFc⟩ := xcut (wc := [(a0, .inr (0, [v12, v13, v14, .ref a4, v15, .ref a3, v16, v17])), (a3, .inr (2, [v48, v49, v50])), (a4, .inl (cT 3, 8, .inr (.inr (.inr (.inr f51))))), (a5, .inr (2, [.ref a6, .int 1, v55])), (a6, .inl (cT 2, 4096, .inr (.inl f56)))]) hP hD hS hA [0, 3, 4, 5, 6] rfl rfl (by decide)
  refine va_calli (vx_runSW (As := [.ref a0, .int (xs 1), .int 4, .int (xs 3), .int (xs 4)]) (rest := []) ⟨hx, hb, hml, hown, htx⟩ (cL_binary_17 l hl9 D cT aK aV H.size a0 a3 a4 a5 a6 (xs 1) (xs 3) (xs 4) v12 v13 v14 v15 v16 v17 v48 v49 v50 f51 b53 v55 f56 hto1 hto2 hto3 hto4 ha1 ha2 ha3 ha4 hb1 hb2 hb3 hb4 (by first | rfl | exact h52 | exact h54 | exact h57 | exact h59 | exact h60 | exact h62 | exact h63 | exact h65 | exact h66 | exact h67 | exact h68 | exact h70 | exact h71 | exact h73 | exact h74 | exact h75 | exact h76) (by first | rfl | exact h52 | exact h54 | exact h57 | exact h59 | exact h60 | exact h62 | exact h63 | exact h65 | exact h66 | exact h67 | exact h68 | exact h70 | exact h71 | exact h73 | exact h74 | exact h75 | exact h76) (by first | rfl | exact h52 | exact h54 | exact h57 | exact h59 | exact h60 | exact h62 | exact h63 | exact h65 | exact h66 | exact h67 | exact h68 | exact h70 | exact h71 | exact h73 | exact h74 | exact h75 | exact h76)) (xcSW 5 htx (xw_goodC kw_3_97) rfl rfl rfl (htx _ kw_1_0) (htx _ kw_3_95) ⟨by decide, by decide, by decide +kernel⟩ ⟨Nat.le_of_ble_eq_true rfl, Nat.le_of_ble_eq_true rfl⟩ (htx _ kw_3_96)) ⟨xPre_blind, (fun U hU hW => ⟨rfl, xPre_of hZ hS hFc hPc hDc hK U hU hW⟩)⟩ rfl rfl hl.1 rfl (lv_room (Nat.le_of_ble_eq_true rfl)) dL_law_401 ⟨Nat.le_of_ble_eq_true rfl, Nat.le_of_ble_eq_true rfl⟩) hS (fun q _ h => hFc q h) hFc (fun r1 u9 t H1 locs ht hvm hr9 hB hz1 hk1 hS => ?_)
  obtain ⟨hP1, hK1, hD1⟩ := hB
  rw [ht] at hP1
  obtain ⟨hP, hD⟩ := xjoin (W := [(a1, .inr (5, [v18, .ref a10, v19, v20, v21, v22, v23, v24, v25, v26, v27, v28, v29, v30, v31, v32, v33, v34, v35, v36, v37, v38, v39, v40, .ref a7, .ref a8, v41, v42, v43, v44, v45, v46])), (a2, .inl (cT 2, 1, .inr (.inl f47))), (a7, .inl (cT 5, 8, .inr (.inr (.inr (.inr f58))))), (a8, .inl (cT 1, 8, .inl f61)), (a9, .inl (cT 0, 4096, .inl f64)), (a10, .inl (cT 4, 1024, .inr (.inr (.inr (.inr f69))))), (a11, .inl (cT 0, 4096, .inl f72)), (a0, .inr (0, [v12, v13, v14, .ref a4, v15, .ref a3, v16, .int 1])), (a3, .inr (2, [v48, .int 0, .int 0])), (a4, .inl (cT 3, 8, .inr (.inr (.inr (.inr f51))))), (a5, .inr (2, [.ref a6, .int 1, v55])), (a6, .inl (cT 2, 4096, .inr (.inl f56)))]) hP hD [0, 3, 4, 5, 6] [1, 2, 7, 8, 9, 10, 11] 7 rfl rfl (by decide) (by decide) hk1 hFc hP1 hD1
  generalize H1 = H at hP hS ⊢
  rw [hr9]
  refine W.eq (g2 := F0 m 404 ls [.int 2]) rfl ?_
  refine lv_istore (lv' := [(5, .int 2), (4, .int 0), (3, .ref a2), (2, .ref a1), (1, .ref a0), (0, .ref b)]) hx hb dL_law_404 hl (by decide) rfl (fun ls hl => ?_)
  refine lv_aload_n hx hb dL_law_406 rfl (lv_at hl 3 rfl) ?_
  refine lv_aload_n hx hb dL_law_407 rfl (lv_at hl 5 rfl) ?_
  refine lv_iload hx hb dL_law_408 (lv_at hl 1 rfl) ?_
  refine lv_iconst (v := 1) hx hb dL_law_410 (by decide) ?_
  refine lv_iadd hx hb dL_law_411 ?_
  refine W.eq (g2 := F0 m 412 ls [.int 1, .ref b, .ref a1]) rfl ?_
  refine va_sld hx hb hXs hbl hbA hS (i := 1) (show ¬ ((1 : Int32) < 0 ∨ 6 ≤ (1 : Int32).toNatClampNeg) by decide) dL_law_412 ?_
  refine W.eq (g2 := F0 m 413 ls [.int (xs 1), .ref a1]) rfl ?_
  refine lv_aload_n hx hb dL_law_413 rfl (lv_at hl 5 rfl) ?_
  refine lv_iload hx hb dL_law_414 (lv_at hl 1 rfl) ?_
  refine lv_iconst (v := 2) hx hb dL_law_416 (by decide) ?_
  refine lv_iadd hx hb dL_law_417 ?_
  refine W.eq (g2 := F0 m 418 ls [.int 2, .ref b, .int (xs 1), .ref a1]) rfl ?_
  refine va_sld hx hb hXs hbl hbA hS (i := 2) (show ¬ ((2 : Int32) < 0 ∨ 6 ≤ (2 : Int32).toNatClampNeg) by decide) dL_law_418 ?_
  refine W.eq (g2 := F0 m 419 ls [.int (xs 2), .int (xs 1), .ref a1]) rfl ?_
  rw [hf]
  refine W.eq (g2 := F0 m 419 ls [.int 4, .int (xs 1), .ref a1]) rfl ?_
  refine lv_aload_n hx hb dL_law_419 rfl (lv_at hl 5 rfl) ?_
  refine lv_iload hx hb dL_law_420 (lv_at hl 1 rfl) ?_
  refine lv_iconst (v := 3) hx hb dL_law_422 (by decide) ?_
  refine lv_iadd hx hb dL_law_423 ?_
  refine W.eq (g2 := F0 m 424 ls [.int 3, .ref b, .int 4, .int (xs 1), .ref a1]) rfl ?_
  refine va_sld hx hb hXs hbl hbA hS (i := 3) (show ¬ ((3 : Int32) < 0 ∨ 6 ≤ (3 : Int32).toNatClampNeg) by decide) dL_law_424 ?_
  refine W.eq (g2 := F0 m 425 ls [.int (xs 3), .int 4, .int (xs 1), .ref a1]) rfl ?_
  refine lv_aload_n hx hb dL_law_425 rfl (lv_at hl 5 rfl) ?_
  refine lv_iload hx hb dL_law_426 (lv_at hl 1 rfl) ?_
  refine lv_iconst (v := 4) hx hb dL_law_428 (by decide) ?_
  refine lv_iadd hx hb dL_law_429 ?_
  refine W.eq (g2 := F0 m 430 ls [.int 4, .ref b, .int (xs 3), .int 4, .int (xs 1), .ref a1]) rfl ?_
  refine va_sld hx hb hXs hbl hbA hS (i := 4) (show ¬ ((4 : Int32) < 0 ∨ 6 ≤ (4 : Int32).toNatClampNeg) by decide) dL_law_430 ?_
  refine W.eq (g2 := F0 m 431 ls [.int (xs 4), .int (xs 3), .int 4, .int (xs 1), .ref a1]) rfl ?_
  obtain ⟨hPc, hDc, hFc⟩ := xcut (wc := [(a1, .inr (5, [v18, .ref a10, v19, v20, v21, v22, v23, v24, v25, v26, v27, v28, v29, v30, v31, v32, v33, v34, v35, v36, v37, v38, v39, v40, .ref a7, .ref a8, v41, v42, v43, v44, v45, v46])), (a7, .inl (cT 5, 8, .inr (.inr (.inr (.inr f58))))), (a8, .inl (cT 1, 8, .inl f61)), (a9, .inl (cT 0, 4096, .inl f64)), (a10, .inl (cT 4, 1024, .inr (.inr (.inr (.inr f69))))), (a11, .inl (cT 0, 4096, .inl f72))]) hP hD hS hA [0, 2, 3, 4, 5, 6] rfl rfl (by decide)
  refine va_callv (va_runV (C := "ValueBenchModel") (As := [.int (xs 1), .int 4, .int (xs 3), .int (xs 4)]) (rest := []) ⟨hx, hb, hml, hown, htx⟩ (cM_binary0_20 l hl9 D cT aK aV H.size a1 a7 a8 a9 a10 a11 (xs 1) (xs 3) (xs 4) v18 v19 v20 v21 v22 v23 v24 v25 v26 v27 v28 v29 v30 v31 v32 v33 v34 v35 v36 v37 v38 v39 v40 v41 v42 v43 v44 v45 v46 f58 f61 f64 f69 f72 hto1 hto2 hto3 hto4 ha1 ha2 ha3 ha4 hb1 hb2 hb3 hb4 (by first | rfl | exact h52 | exact h54 | exact h57 | exact h59 | exact h60 | exact h62 | exact h63 | exact h65 | exact h66 | exact h67 | exact h68 | exact h70 | exact h71 | exact h73 | exact h74 | exact h75 | exact h76) (by first | rfl | exact h52 | exact h54 | exact h57 | exact h59 | exact h60 | exact h62 | exact h63 | exact h65 | exact h66 | exact h67 | exact h68 | exact h70 | exact h71 | exact h73 | exact h74 | exact h75 | exact h76) (by first | rfl | exact h52 | exact h54 | exact h57 | exact h59 | exact h60 | exact h62 | exact h63 | exact h65 | exact h66 | exact h67 | exact h68 | exact h70 | exact h71 | exact h73 | exact h74 | exact h75 | exact h76) (by first | rfl | exact h52 | exact h54 | exact h57 | exact h59 | exact h60 | exact h62 | exact h63 | exact h65 | exact h66 | exact h67 | exact h68 | exact h70 | exact h71 | exact h73 | exact h74 | exact h75 | exact h76) (by first | rfl | exact h52 | exact h54 | exact h57 | exact h59 | exact h60 | exact h62 | exact h63 | exact h65 | exact h66 | exact h67 | exact h68 | exact h70 | exact h71 | exact h73 | exact h74 | exact h75 | exact h76) (by first | rfl | exact h52 | exact h54 | exact h57 | exact h59 | exact h60 | exact h62 | exact h63 | exact h65 | exact h66 | exact h67 | exact h68 | exact h70 | exact h71 | exact h73 | exact h74 | exact h75 | exact h76) (by first | rfl | exact h52 | exact h54 | exact h57 | exact h59 | exact h60 | exact h62 | exact h63 | exact h65 | exact h66 | exact h67 | exact h68 | exact h70 | exact h71 | exact h73 | exact h74 | exact h75 | exact h76) (by first | rfl | exact h52 | exact h54 | exact h57 | exact h59 | exact h60 | exact h62 | exact h63 | exact h65 | exact h66 | exact h67 | exact h68 | exact h70 | exact h71 | exact h73 | exact h74 | exact h75 | exact h76) (by first | rfl | exact h52 | exact h54 | exact h57 | exact h59 | exact h60 | exact h62 | exact h63 | exact h65 | exact h66 | exact h67 | exact h68 | exact h70 | exact h71 | exact h73 | exact h74 | exact h75 | exact h76) (by first | rfl | exact h52 | exact h54 | exact h57 | exact h59 | exact h60 | exact h62 | exact h63 | exact h65 | exact h66 | exact h67 | exact h68 | exact h70 | exact h71 | exact h73 | exact h74 | exact h75 | exact h76) (by first | rfl | exact h52 | exact h54 | exact h57 | exact h59 | exact h60 | exact h62 | exact h63 | exact h65 | exact h66 | exact h67 | exact h68 | exact h70 | exact h71 | exact h73 | exact h74 | exact h75 | exact h76) (by first | rfl | exact h52 | exact h54 | exact h57 | exact h59 | exact h60 | exact h62 | exact h63 | exact h65 | exact h66 | exact h67 | exact h68 | exact h70 | exact h71 | exact h73 | exact h74 | exact h75 | exact h76) (by first | rfl | exact h52 | exact h54 | exact h57 | exact h59 | exact h60 | exact h62 | exact h63 | exact h65 | exact h66 | exact h67 | exact h68 | exact h70 | exact h71 | exact h73 | exact h74 | exact h75 | exact h76) (by first | rfl | exact h52 | exact h54 | exact h57 | exact h59 | exact h60 | exact h62 | exact h63 | exact h65 | exact h66 | exact h67 | exact h68 | exact h70 | exact h71 | exact h73 | exact h74 | exact h75 | exact h76)) ⟨callB_of 4 htx (xw_goodC kw_6_191) rfl rfl rfl (htx _ kw_1_5) (htx _ kw_6_188) ⟨by decide, by decide, by decide +kernel⟩ ⟨Nat.le_of_ble_eq_true rfl, Nat.le_of_ble_eq_true rfl⟩, (htx _ kw_6_189), (htx _ kw_6_190)⟩ ⟨xPre_blind, va_recv hK hP (ci := 5) rfl (q0 := 0) rfl, (fun U hU hW => ⟨rfl, xPre_of hZ hS hFc hPc hDc hK U hU hW⟩)⟩ rfl rfl hl.1 rfl (lv_room (Nat.le_of_ble_eq_true rfl)) dL_law_431 ⟨Nat.le_of_ble_eq_true rfl, Nat.le_of_ble_eq_true rfl⟩) hS (fun q _ h => hFc q h) hFc (fun u9 t H1 locs ht hvm hr9 hB hz1 hk1 hS => ?_)
  obtain ⟨q2, q3, hP1, hK1, hD1⟩ := hB
  rw [ht] at hP1
  obtain ⟨hP, hD⟩ := xjoin (W := [(a2, .inl (cT 2, 1, .inr (.inl f47))), (a0, .inr (0, [v12, v13, v14, .ref a4, v15, .ref a3, v16, .int 1])), (a3, .inr (2, [v48, .int 0, .int 0])), (a4, .inl (cT 3, 8, .inr (.inr (.inr (.inr f51))))), (a5, .inr (2, [.ref a6, .int 1, v55])), (a6, .inl (cT 2, 4096, .inr (.inl f56))), (a1, .inr (5, [.int 2, .ref a10, .int 2, v20, .int 0, v22, v23, .int 0, .int 1, .int 0, v27, v28, .int 0, v30, v31, .ref a11, .int 4, .int 4, .int 0, .int 100, v37, v38, .int 0, .int 1000000000, .ref a7, .ref a8, v41, v42, v43, v44, .int 1, v46])), (a7, .inl (cT 5, 8, .inr (.inr (.inr (.inr f58))))), (a8, .inl (cT 1, 8, .inl f61)), (a9, .inl (cT 0, 4096, .inl f64)), (a10, .inl (cT 4, 1024, .inr (.inr (.inr (.inr (va_up (va_up f69 0 (some q2)) 1 (some q3))))))), (a11, .inl (cT 0, 4096, .inl f72)), (q2, .inr (6, [.int 0, .long 0, .int 0, .int 0, .int 0, .int 1])), (q3, .inr (6, [.int 0, .long 0, .int 0, .int 0, .int 0, .int 1]))]) hP hD [0, 2, 3, 4, 5, 6] [1, 7, 8, 9, 10, 11] 6 rfl rfl (by decide) (by decide) hk1 hFc hP1 hD1
  generalize H1 = H at hP hS ⊢
  refine lv_aload_n hx hb dL_law_434 rfl (lv_at hl 3 rfl) ?_
  obtain ⟨hPc, hDc, hFc⟩ := xcut (wc := [(a1, .inr (5, [.int 2, .ref a10, .int 2, v20, .int 0, v22, v23, .int 0, .int 1, .int 0, v27, v28, .int 0, v30, v31, .ref a11, .int 4, .int 4, .int 0, .int 100, v37, v38, .int 0, .int 1000000000, .ref a7, .ref a8, v41, v42, v43, v44, .int 1, v46]))]) hP hD hS hA [6] rfl rfl (by decide)
  refine va_calli (va_runV (C := "ValueBenchModel") (As := []) (rest := []) ⟨hx, hb, hml, hown, htx⟩ (cM_thrown_2 l hl9 D cT aK aV H.size a1 (.ref a10) (.int 2) v20 (.int 0) v22 v23 (.int 0) (.int 1) (.int 0) v27 v28 (.int 0) v30 v31 (.ref a11) (.int 4) (.int 4) (.int 0) (.int 100) v37 v38 (.int 0) (.int 1000000000) (.ref a7) (.ref a8) v41 v42 v43 v44 (.int 1) v46) ⟨callB_of 0 htx (xw_goodC kw_5_187) rfl rfl rfl (htx _ kw_1_5) (htx _ kw_5_184) ⟨by decide, by decide, by decide +kernel⟩ ⟨Nat.le_of_ble_eq_true rfl, Nat.le_of_ble_eq_true rfl⟩, (htx _ kw_5_185), (htx _ kw_5_186)⟩ ⟨xPre_blind, va_recv hK hP (ci := 5) rfl (q0 := 6) rfl, (fun U hU hW => ⟨rfl, xPre_of hZ hS hFc hPc hDc hK U hU hW⟩)⟩ rfl rfl hl.1 rfl (lv_room (Nat.le_of_ble_eq_true rfl)) dL_law_435 ⟨Nat.le_of_ble_eq_true rfl, Nat.le_of_ble_eq_true rfl⟩) hS (fun q _ h => hFc q h) hFc (fun r4 u9 t H1 locs ht hvm hr9 hB hz1 hk1 hS => ?_)
  obtain ⟨hP1, hK1, hD1⟩ := hB
  rw [ht] at hP1
  obtain ⟨hP, hD⟩ := xjoin (W := [(a2, .inl (cT 2, 1, .inr (.inl f47))), (a0, .inr (0, [v12, v13, v14, .ref a4, v15, .ref a3, v16, .int 1])), (a3, .inr (2, [v48, .int 0, .int 0])), (a4, .inl (cT 3, 8, .inr (.inr (.inr (.inr f51))))), (a5, .inr (2, [.ref a6, .int 1, v55])), (a6, .inl (cT 2, 4096, .inr (.inl f56))), (a7, .inl (cT 5, 8, .inr (.inr (.inr (.inr f58))))), (a8, .inl (cT 1, 8, .inl f61)), (a9, .inl (cT 0, 4096, .inl f64)), (a10, .inl (cT 4, 1024, .inr (.inr (.inr (.inr (va_up (va_up f69 0 (some q2)) 1 (some q3))))))), (a11, .inl (cT 0, 4096, .inl f72)), (q2, .inr (6, [.int 0, .long 0, .int 0, .int 0, .int 0, .int 1])), (q3, .inr (6, [.int 0, .long 0, .int 0, .int 0, .int 0, .int 1])), (a1, .inr (5, [.int 2, .ref a10, .int 2, v20, .int 0, v22, v23, .int 0, .int 1, .int 0, v27, v28, .int 0, v30, v31, .ref a11, .int 4, .int 4, .int 0, .int 100, v37, v38, .int 0, .int 1000000000, .ref a7, .ref a8, v41, v42, v43, v44, .int 1, v46]))]) hP hD [6] [0, 1, 2, 3, 4, 5, 7, 8, 9, 10, 11, 12, 13] 13 rfl rfl (by decide) (by decide) hk1 hFc hP1 hD1
  generalize H1 = H at hP hS ⊢
  rw [hr9]
  refine W.eq (g2 := F0 m 438 ls [.int 2]) rfl ?_
  refine lv_iload hx hb dL_law_438 (lv_at hl 0 rfl) ?_
  refine lv_icmp_eq (tgt := 445) hx hb dL_law_440 (by decide) (fun _ => ?_) (fun h => ((by revert h; decide : False)).elim)
  refine lv_goto (tgt := 906) hx hb dL_law_445 (by decide) ?_
  refine lv_iinc (v := 6) (lv' := [(4, .int 6), (5, .int 2), (3, .ref a2), (2, .ref a1), (1, .ref a0), (0, .ref b)]) hx hb dL_law_906 hl (k := 1) rfl (by decide) (by decide) rfl (fun ls hl => ?_)
  refine lv_goto (tgt := 23) hx hb dL_law_909 (by decide) ?_
  refine lv_iload hx hb dL_law_23 (lv_at hl 0 rfl) ?_
  refine lv_aload_n hx hb dL_law_25 rfl (lv_at hl 5 rfl) ?_
  refine va_slen hx hb hXs hbl hbA hS dL_law_26 ?_
  refine W.eq (g2 := F0 m 27 ls [.int 6, .int 6]) rfl ?_
  refine lv_bipush (v := 6) hx hb dL_law_27 (by decide) ?_
  refine lv_isub hx hb dL_law_29 ?_
  refine W.eq (g2 := F0 m 30 ls [.int 0, .int 6]) rfl ?_
  refine lv_icmp_gt (tgt := 912) hx hb dL_law_30 (by decide) (fun _ => ?_) (fun h => ((by revert h; decide : False)).elim)
  refine lv_iconst (v := 1) hx hb dL_law_912 (by decide) ?_
  exact va_forget (fun q h => hA2 _ (hS.2.2 q h)) (W.widen (k := 600002) (n := 7302232) (Nat.le_of_ble_eq_true rfl) (Nat.le_of_ble_eq_true rfl) (lw_ret hx hb hr hlocks dL_law_913))
set_option maxHeartbeats 400000000 in
set_option maxRecDepth 100000 in
theorem lf_binary4_p3 {p : Program} {e : Env} {s : State} {m : MethodId} {below : List Frame} {meth : Method} {c : Code} (l : Launch) (hl9 : l.stackTraces = false) (D : va_G) (cT : Nat → ClassId) (aK aV : Nat → Nat) {A : Nat → Prop} {b : Nat} {xs : Nat → Int32} (C : xLw p s m meth c b D cT aK aV A) {H : Heap} {locs : List Loc} {ls : Array Slot} (a0 : Nat) (a1 : Nat) (a2 : Nat) (a3 : Nat) (a4 : Nat) (a5 : Nat) (a6 : Nat) (a7 : Nat) (a8 : Nat) (a9 : Nat) (a10 : Nat) (a11 : Nat) (v12 : Value) (v13 : Value) (v14 : Value) (v15 : Value) (v16 : Value) (v17 : Value) (v18 : Value) (v19 : Value) (v20 : Value) (v21 : Value) (v22 : Value) (v23 : Value) (v24 : Value) (v25 : Value) (v26 : Value) (v27 : Value) (v28 : Value) (v29 : Value) (v30 : Value) (v31 : Value) (v32 : Value) (v33 : Value) (v34 : Value) (v35 : Value) (v36 : Value) (v37 : Value) (v38 : Value) (v39 : Value) (v40 : Value) (v41 : Value) (v42 : Value) (v43 : Value) (v44 : Value) (v45 : Value) (v46 : Value) (f47 : Nat → Int64) (v48 : Value) (v49 : Value) (v50 : Value) (f51 : Nat → Option Nat) (b53 : Nat) (v55 : Value) (f56 : Nat → Int64) (f58 : Nat → Option Nat) (f61 : Nat → Int32) (f64 : Nat → Int32) (f69 : Nat → Option Nat) (f72 : Nat → Int32) (h52 : f51 (xs 3).toNatClampNeg = some a5) (h54 : f51 (xs 4).toNatClampNeg = some b53) (h57 : f56 0 = 0) (h59 : f58 (xs 3).toNatClampNeg = some a9) (h60 : f58 (xs 4).toNatClampNeg = some a11) (h62 : f61 (xs 3).toNatClampNeg = 4) (h63 : f61 (xs 4).toNatClampNeg = 4) (h65 : f64 0 = 110) (h66 : f64 1 = 117) (h67 : f64 2 = 108) (h68 : f64 3 = 108) (h70 : f69 0 = none) (h71 : f69 1 = none) (h73 : f72 0 = 110) (h74 : f72 1 = 117) (h75 : f72 2 = 108) (h76 : f72 3 = 108) (hto1 : ¬ (xs 1) < 0) (hto2 : ¬ 7 < (xs 1)) (hto3 : (xs 1) ≤ 7) (hto4 : vp_in (xs 1) 8) (hf : xs 2 = 4) (ha1 : ¬ (xs 3) < 0) (ha2 : ¬ 7 < (xs 3)) (ha3 : (xs 3) ≤ 7) (ha4 : vp_in (xs 3) 8) (hb1 : ¬ (xs 4) < 0) (hb2 : ¬ 7 < (xs 4)) (hb3 : (xs 4) ≤ 7) (hb4 : vp_in (xs 4) 8) (hXs : va_X b 6 xs s s.heap) (hP : va_P D xcl [(a0, .inr (0, [v12, v13, v14, .ref a4, v15, .ref a3, v16, v17])), (a1, .inr (5, [v18, .ref a10, v19, v20, v21, v22, v23, v24, v25, v26, v27, v28, v29, v30, v31, v32, v33, v34, v35, v36, v37, v38, v39, v40, .ref a7, .ref a8, v41, v42, v43, v44, v45, v46])), (a2, .inl (cT 2, 1, .inr (.inl f47))), (a3, .inr (2, [v48, v49, v50])), (a4, .inl (cT 3, 8, .inr (.inr (.inr (.inr f51))))), (a5, .inr (2, [.ref a6, .int 1, v55])), (a6, .inl (cT 2, 4096, .inr (.inl f56))), (a7, .inl (cT 5, 8, .inr (.inr (.inr (.inr f58))))), (a8, .inl (cT 1, 8, .inl f61)), (a9, .inl (cT 0, 4096, .inl f64)), (a10, .inl (cT 4, 1024, .inr (.inr (.inr (.inr f69))))), (a11, .inl (cT 0, 4096, .inl f72))] H) (hD : va_D A [(a0, .inr (0, [v12, v13, v14, .ref a4, v15, .ref a3, v16, v17])), (a1, .inr (5, [v18, .ref a10, v19, v20, v21, v22, v23, v24, v25, v26, v27, v28, v29, v30, v31, v32, v33, v34, v35, v36, v37, v38, v39, v40, .ref a7, .ref a8, v41, v42, v43, v44, v45, v46])), (a2, .inl (cT 2, 1, .inr (.inl f47))), (a3, .inr (2, [v48, v49, v50])), (a4, .inl (cT 3, 8, .inr (.inr (.inr (.inr f51))))), (a5, .inr (2, [.ref a6, .int 1, v55])), (a6, .inl (cT 2, 4096, .inr (.inl f56))), (a7, .inl (cT 5, 8, .inr (.inr (.inr (.inr f58))))), (a8, .inl (cT 1, 8, .inl f61)), (a9, .inl (cT 0, 4096, .inl f64)), (a10, .inl (cT 4, 1024, .inr (.inr (.inr (.inr f69))))), (a11, .inl (cT 0, 4096, .inl f72))]) (hS : va_S A s.heap H locs) (hl : lv_has ls 8 [(4, .int 0), (3, .ref a2), (2, .ref a1), (1, .ref a0), (0, .ref b)]) : W p l e room_1 s m #[Value.ref b] below meth c H locs 54 107242 (lw_Z below #[Value.ref b] s) (F0 m 376 ls []) := by
  obtain ⟨hx, hb, hr, hml, hown, htx, hbl, hbA, hlocks, hK, hZ, hA, hA2⟩ := C
  refine lv_aload_n hx hb dL_law_376 rfl (lv_at hl 3 rfl) ?_
  refine lv_aload_n hx hb dL_law_377 rfl (lv_at hl 4 rfl) ?_
  refine lv_iload hx hb dL_law_378 (lv_at hl 0 rfl) ?_
  refine lv_iconst (v := 1) hx hb dL_law_380 (by decide) ?_
  refine lv_iadd hx hb dL_law_381 ?_
  refine W.eq (g2 := F0 m 382 ls [.int 1, .ref b, .ref a0]) rfl ?_
  refine va_sld hx hb hXs hbl hbA hS (i := 1) (show ¬ ((1 : Int32) < 0 ∨ 6 ≤ (1 : Int32).toNatClampNeg) by decide) dL_law_382 ?_
  refine W.eq (g2 := F0 m 383 ls [.int (xs 1), .ref a0]) rfl ?_
  refine lv_aload_n hx hb dL_law_383 rfl (lv_at hl 4 rfl) ?_
  refine lv_iload hx hb dL_law_384 (lv_at hl 0 rfl) ?_
  refine lv_iconst (v := 2) hx hb dL_law_386 (by decide) ?_
  refine lv_iadd hx hb dL_law_387 ?_
  refine W.eq (g2 := F0 m 388 ls [.int 2, .ref b, .int (xs 1), .ref a0]) rfl ?_
  refine va_sld hx hb hXs hbl hbA hS (i := 2) (show ¬ ((2 : Int32) < 0 ∨ 6 ≤ (2 : Int32).toNatClampNeg) by decide) dL_law_388 ?_
  refine W.eq (g2 := F0 m 389 ls [.int (xs 2), .int (xs 1), .ref a0]) rfl ?_
  rw [hf]
  refine W.eq (g2 := F0 m 389 ls [.int 4, .int (xs 1), .ref a0]) rfl ?_
  refine lv_aload_n hx hb dL_law_389 rfl (lv_at hl 4 rfl) ?_
  refine lv_iload hx hb dL_law_390 (lv_at hl 0 rfl) ?_
  refine lv_iconst (v := 3) hx hb dL_law_392 (by decide) ?_
  refine lv_iadd hx hb dL_law_393 ?_
  refine W.eq (g2 := F0 m 394 ls [.int 3, .ref b, .int 4, .int (xs 1), .ref a0]) rfl ?_
  refine va_sld hx hb hXs hbl hbA hS (i := 3) (show ¬ ((3 : Int32) < 0 ∨ 6 ≤ (3 : Int32).toNatClampNeg) by decide) dL_law_394 ?_
  refine W.eq (g2 := F0 m 395 ls [.int (xs 3), .int 4, .int (xs 1), .ref a0]) rfl ?_
  refine lv_aload_n hx hb dL_law_395 rfl (lv_at hl 4 rfl) ?_
  refine lv_iload hx hb dL_law_396 (lv_at hl 0 rfl) ?_
  refine lv_iconst (v := 4) hx hb dL_law_398 (by decide) ?_
  refine lv_iadd hx hb dL_law_399 ?_
  refine W.eq (g2 := F0 m 400 ls [.int 4, .ref b, .int (xs 3), .int 4, .int (xs 1), .ref a0]) rfl ?_
  refine va_sld hx hb hXs hbl hbA hS (i := 4) (show ¬ ((4 : Int32) < 0 ∨ 6 ≤ (4 : Int32).toNatClampNeg) by decide) dL_law_400 ?_
  refine W.eq (g2 := F0 m 401 ls [.int (xs 4), .int (xs 3), .int 4, .int (xs 1), .ref a0]) rfl ?_
  obtain ⟨hPc, hDc, hFc⟩ := xcut (wc := [(a0, .inr (0, [v12, v13, v14, .ref a4, v15, .ref a3, v16, v17])), (a3, .inr (2, [v48, v49, v50])), (a4, .inl (cT 3, 8, .inr (.inr (.inr (.inr f51))))), (a5, .inr (2, [.ref a6, .int 1, v55])), (a6, .inl (cT 2, 4096, .inr (.inl f56)))]) hP hD hS hA [0, 3, 4, 5, 6] rfl rfl (by decide)
  refine va_calli (vx_runSW (As := [.ref a0, .int (xs 1), .int 4, .int (xs 3), .int (xs 4)]) (rest := []) ⟨hx, hb, hml, hown, htx⟩ (cL_binary_17 l hl9 D cT aK aV H.size a0 a3 a4 a5 a6 (xs 1) (xs 3) (xs 4) v12 v13 v14 v15 v16 v17 v48 v49 v50 f51 b53 v55 f56 hto1 hto2 hto3 hto4 ha1 ha2 ha3 ha4 hb1 hb2 hb3 hb4 (by first | rfl | exact h52 | exact h54 | exact h57 | exact h59 | exact h60 | exact h62 | exact h63 | exact h65 | exact h66 | exact h67 | exact h68 | exact h70 | exact h71 | exact h73 | exact h74 | exact h75 | exact h76) (by first | rfl | exact h52 | exact h54 | exact h57 | exact h59 | exact h60 | exact h62 | exact h63 | exact h65 | exact h66 | exact h67 | exact h68 | exact h70 | exact h71 | exact h73 | exact h74 | exact h75 | exact h76) (by first | rfl | exact h52 | exact h54 | exact h57 | exact h59 | exact h60 | exact h62 | exact h63 | exact h65 | exact h66 | exact h67 | exact h68 | exact h70 | exact h71 | exact h73 | exact h74 | exact h75 | exact h76)) (xcSW 5 htx (xw_goodC kw_3_97) rfl rfl rfl (htx _ kw_1_0) (htx _ kw_3_95) ⟨by decide, by decide, by decide +kernel⟩ ⟨Nat.le_of_ble_eq_true rfl, Nat.le_of_ble_eq_true rfl⟩ (htx _ kw_3_96)) ⟨xPre_blind, (fun U hU hW => ⟨rfl, xPre_of hZ hS hFc hPc hDc hK U hU hW⟩)⟩ rfl rfl hl.1 rfl (lv_room (Nat.le_of_ble_eq_true rfl)) dL_law_401 ⟨Nat.le_of_ble_eq_true rfl, Nat.le_of_ble_eq_true rfl⟩) hS (fun q _ h => hFc q h) hFc (fun r1 u9 t H1 locs ht hvm hr9 hB hz1 hk1 hS => ?_)
  obtain ⟨hP1, hK1, hD1⟩ := hB
  rw [ht] at hP1
  obtain ⟨hP, hD⟩ := xjoin (W := [(a1, .inr (5, [v18, .ref a10, v19, v20, v21, v22, v23, v24, v25, v26, v27, v28, v29, v30, v31, v32, v33, v34, v35, v36, v37, v38, v39, v40, .ref a7, .ref a8, v41, v42, v43, v44, v45, v46])), (a2, .inl (cT 2, 1, .inr (.inl f47))), (a7, .inl (cT 5, 8, .inr (.inr (.inr (.inr f58))))), (a8, .inl (cT 1, 8, .inl f61)), (a9, .inl (cT 0, 4096, .inl f64)), (a10, .inl (cT 4, 1024, .inr (.inr (.inr (.inr f69))))), (a11, .inl (cT 0, 4096, .inl f72)), (a0, .inr (0, [v12, v13, v14, .ref a4, v15, .ref a3, v16, .int 1])), (a3, .inr (2, [v48, .int 0, .int 0])), (a4, .inl (cT 3, 8, .inr (.inr (.inr (.inr f51))))), (a5, .inr (2, [.ref a6, .int 1, v55])), (a6, .inl (cT 2, 4096, .inr (.inl f56)))]) hP hD [0, 3, 4, 5, 6] [1, 2, 7, 8, 9, 10, 11] 7 rfl rfl (by decide) (by decide) hk1 hFc hP1 hD1
  generalize H1 = H at hP hS ⊢
  rw [hr9]
  refine W.eq (g2 := F0 m 404 ls [.int 2]) rfl ?_
  refine lv_istore (lv' := [(5, .int 2), (4, .int 0), (3, .ref a2), (2, .ref a1), (1, .ref a0), (0, .ref b)]) hx hb dL_law_404 hl (by decide) rfl (fun ls hl => ?_)
  refine lv_aload_n hx hb dL_law_406 rfl (lv_at hl 3 rfl) ?_
  refine lv_aload_n hx hb dL_law_407 rfl (lv_at hl 5 rfl) ?_
  refine lv_iload hx hb dL_law_408 (lv_at hl 1 rfl) ?_
  refine lv_iconst (v := 1) hx hb dL_law_410 (by decide) ?_
  refine lv_iadd hx hb dL_law_411 ?_
  refine W.eq (g2 := F0 m 412 ls [.int 1, .ref b, .ref a1]) rfl ?_
  refine va_sld hx hb hXs hbl hbA hS (i := 1) (show ¬ ((1 : Int32) < 0 ∨ 6 ≤ (1 : Int32).toNatClampNeg) by decide) dL_law_412 ?_
  refine W.eq (g2 := F0 m 413 ls [.int (xs 1), .ref a1]) rfl ?_
  refine lv_aload_n hx hb dL_law_413 rfl (lv_at hl 5 rfl) ?_
  refine lv_iload hx hb dL_law_414 (lv_at hl 1 rfl) ?_
  refine lv_iconst (v := 2) hx hb dL_law_416 (by decide) ?_
  refine lv_iadd hx hb dL_law_417 ?_
  refine W.eq (g2 := F0 m 418 ls [.int 2, .ref b, .int (xs 1), .ref a1]) rfl ?_
  refine va_sld hx hb hXs hbl hbA hS (i := 2) (show ¬ ((2 : Int32) < 0 ∨ 6 ≤ (2 : Int32).toNatClampNeg) by decide) dL_law_418 ?_
  refine W.eq (g2 := F0 m 419 ls [.int (xs 2), .int (xs 1), .ref a1]) rfl ?_
  rw [hf]
  refine W.eq (g2 := F0 m 419 ls [.int 4, .int (xs 1), .ref a1]) rfl ?_
  refine lv_aload_n hx hb dL_law_419 rfl (lv_at hl 5 rfl) ?_
  refine lv_iload hx hb dL_law_420 (lv_at hl 1 rfl) ?_
  refine lv_iconst (v := 3) hx hb dL_law_422 (by decide) ?_
  refine lv_iadd hx hb dL_law_423 ?_
  refine W.eq (g2 := F0 m 424 ls [.int 3, .ref b, .int 4, .int (xs 1), .ref a1]) rfl ?_
  refine va_sld hx hb hXs hbl hbA hS (i := 3) (show ¬ ((3 : Int32) < 0 ∨ 6 ≤ (3 : Int32).toNatClampNeg) by decide) dL_law_424 ?_
  refine W.eq (g2 := F0 m 425 ls [.int (xs 3), .int 4, .int (xs 1), .ref a1]) rfl ?_
  refine lv_aload_n hx hb dL_law_425 rfl (lv_at hl 5 rfl) ?_
  refine lv_iload hx hb dL_law_426 (lv_at hl 1 rfl) ?_
  refine lv_iconst (v := 4) hx hb dL_law_428 (by decide) ?_
  refine lv_iadd hx hb dL_law_429 ?_
  refine W.eq (g2 := F0 m 430 ls [.int 4, .ref b, .int (xs 3), .int 4, .int (xs 1), .ref a1]) rfl ?_
  refine va_sld hx hb hXs hbl hbA hS (i := 4) (show ¬ ((4 : Int32) < 0 ∨ 6 ≤ (4 : Int32).toNatClampNeg) by decide) dL_law_430 ?_
  refine W.eq (g2 := F0 m 431 ls [.int (xs 4), .int (xs 3), .int 4, .int (xs 1), .ref a1]) rfl ?_
  obtain ⟨hPc, hDc, hFc⟩ := xcut (wc := [(a1, .inr (5, [v18, .ref a10, v19, v20, v21, v22, v23, v24, v25, v26, v27, v28, v29, v30, v31, v32, v33, v34, v35, v36, v37, v38, v39, v40, .ref a7, .ref a8, v41, v42, v43, v44, v45, v46])), (a7, .inl (cT 5, 8, .inr (.inr (.inr (.inr f58))))), (a8, .inl (cT 1, 8, .inl f61)), (a9, .inl (cT 0, 4096, .inl f64)), (a10, .inl (cT 4, 1024, .inr (.inr (.inr (.inr f69))))), (a11, .inl (cT 0, 4096, .inl f72))]) hP hD hS hA [0, 2, 3, 4, 5, 6] rfl rfl (by decide)
  refine va_callv (va_runV (C := "ValueBenchModel") (As := [.int (xs 1), .int 4, .int (xs 3), .int (xs 4)]) (rest := []) ⟨hx, hb, hml, hown, htx⟩ (cM_binary0_20 l hl9 D cT aK aV H.size a1 a7 a8 a9 a10 a11 (xs 1) (xs 3) (xs 4) v18 v19 v20 v21 v22 v23 v24 v25 v26 v27 v28 v29 v30 v31 v32 v33 v34 v35 v36 v37 v38 v39 v40 v41 v42 v43 v44 v45 v46 f58 f61 f64 f69 f72 hto1 hto2 hto3 hto4 ha1 ha2 ha3 ha4 hb1 hb2 hb3 hb4 (by first | rfl | exact h52 | exact h54 | exact h57 | exact h59 | exact h60 | exact h62 | exact h63 | exact h65 | exact h66 | exact h67 | exact h68 | exact h70 | exact h71 | exact h73 | exact h74 | exact h75 | exact h76) (by first | rfl | exact h52 | exact h54 | exact h57 | exact h59 | exact h60 | exact h62 | exact h63 | exact h65 | exact h66 | exact h67 | exact h68 | exact h70 | exact h71 | exact h73 | exact h74 | exact h75 | exact h76) (by first | rfl | exact h52 | exact h54 | exact h57 | exact h59 | exact h60 | exact h62 | exact h63 | exact h65 | exact h66 | exact h67 | exact h68 | exact h70 | exact h71 | exact h73 | exact h74 | exact h75 | exact h76) (by first | rfl | exact h52 | exact h54 | exact h57 | exact h59 | exact h60 | exact h62 | exact h63 | exact h65 | exact h66 | exact h67 | exact h68 | exact h70 | exact h71 | exact h73 | exact h74 | exact h75 | exact h76) (by first | rfl | exact h52 | exact h54 | exact h57 | exact h59 | exact h60 | exact h62 | exact h63 | exact h65 | exact h66 | exact h67 | exact h68 | exact h70 | exact h71 | exact h73 | exact h74 | exact h75 | exact h76) (by first | rfl | exact h52 | exact h54 | exact h57 | exact h59 | exact h60 | exact h62 | exact h63 | exact h65 | exact h66 | exact h67 | exact h68 | exact h70 | exact h71 | exact h73 | exact h74 | exact h75 | exact h76) (by first | rfl | exact h52 | exact h54 | exact h57 | exact h59 | exact h60 | exact h62 | exact h63 | exact h65 | exact h66 | exact h67 | exact h68 | exact h70 | exact h71 | exact h73 | exact h74 | exact h75 | exact h76) (by first | rfl | exact h52 | exact h54 | exact h57 | exact h59 | exact h60 | exact h62 | exact h63 | exact h65 | exact h66 | exact h67 | exact h68 | exact h70 | exact h71 | exact h73 | exact h74 | exact h75 | exact h76) (by first | rfl | exact h52 | exact h54 | exact h57 | exact h59 | exact h60 | exact h62 | exact h63 | exact h65 | exact h66 | exact h67 | exact h68 | exact h70 | exact h71 | exact h73 | exact h74 | exact h75 | exact h76) (by first | rfl | exact h52 | exact h54 | exact h57 | exact h59 | exact h60 | exact h62 | exact h63 | exact h65 | exact h66 | exact h67 | exact h68 | exact h70 | exact h71 | exact h73 | exact h74 | exact h75 | exact h76) (by first | rfl | exact h52 | exact h54 | exact h57 | exact h59 | exact h60 | exact h62 | exact h63 | exact h65 | exact h66 | exact h67 | exact h68 | exact h70 | exact h71 | exact h73 | exact h74 | exact h75 | exact h76) (by first | rfl | exact h52 | exact h54 | exact h57 | exact h59 | exact h60 | exact h62 | exact h63 | exact h65 | exact h66 | exact h67 | exact h68 | exact h70 | exact h71 | exact h73 | exact h74 | exact h75 | exact h76) (by first | rfl | exact h52 | exact h54 | exact h57 | exact h59 | exact h60 | exact h62 | exact h63 | exact h65 | exact h66 | exact h67 | exact h68 | exact h70 | exact h71 | exact h73 | exact h74 | exact h75 | exact h76) (by first | rfl | exact h52 | exact h54 | exact h57 | exact h59 | exact h60 | exact h62 | exact h63 | exact h65 | exact h66 | exact h67 | exact h68 | exact h70 | exact h71 | exact h73 | exact h74 | exact h75 | exact h76)) ⟨callB_of 4 htx (xw_goodC kw_6_191) rfl rfl rfl (htx _ kw_1_5) (htx _ kw_6_188) ⟨by decide, by decide, by decide +kernel⟩ ⟨Nat.le_of_ble_eq_true rfl, Nat.le_of_ble_eq_true rfl⟩, (htx _ kw_6_189), (htx _ kw_6_190)⟩ ⟨xPre_blind, va_recv hK hP (ci := 5) rfl (q0 := 0) rfl, (fun U hU hW => ⟨rfl, xPre_of hZ hS hFc hPc hDc hK U hU hW⟩)⟩ rfl rfl hl.1 rfl (lv_room (Nat.le_of_ble_eq_true rfl)) dL_law_431 ⟨Nat.le_of_ble_eq_true rfl, Nat.le_of_ble_eq_true rfl⟩) hS (fun q _ h => hFc q h) hFc (fun u9 t H1 locs ht hvm hr9 hB hz1 hk1 hS => ?_)
  obtain ⟨q2, q3, hP1, hK1, hD1⟩ := hB
  rw [ht] at hP1
  obtain ⟨hP, hD⟩ := xjoin (W := [(a2, .inl (cT 2, 1, .inr (.inl f47))), (a0, .inr (0, [v12, v13, v14, .ref a4, v15, .ref a3, v16, .int 1])), (a3, .inr (2, [v48, .int 0, .int 0])), (a4, .inl (cT 3, 8, .inr (.inr (.inr (.inr f51))))), (a5, .inr (2, [.ref a6, .int 1, v55])), (a6, .inl (cT 2, 4096, .inr (.inl f56))), (a1, .inr (5, [.int 2, .ref a10, .int 2, v20, .int 0, v22, v23, .int 0, .int 1, .int 0, v27, v28, .int 0, v30, v31, .ref a11, .int 4, .int 4, .int 0, .int 100, v37, v38, .int 0, .int 1000000000, .ref a7, .ref a8, v41, v42, v43, v44, .int 1, v46])), (a7, .inl (cT 5, 8, .inr (.inr (.inr (.inr f58))))), (a8, .inl (cT 1, 8, .inl f61)), (a9, .inl (cT 0, 4096, .inl f64)), (a10, .inl (cT 4, 1024, .inr (.inr (.inr (.inr (va_up (va_up f69 0 (some q2)) 1 (some q3))))))), (a11, .inl (cT 0, 4096, .inl f72)), (q2, .inr (6, [.int 0, .long 0, .int 0, .int 0, .int 0, .int 1])), (q3, .inr (6, [.int 0, .long 0, .int 0, .int 0, .int 0, .int 1]))]) hP hD [0, 2, 3, 4, 5, 6] [1, 7, 8, 9, 10, 11] 6 rfl rfl (by decide) (by decide) hk1 hFc hP1 hD1
  generalize H1 = H at hP hS ⊢
  refine lv_aload_n hx hb dL_law_434 rfl (lv_at hl 3 rfl) ?_
  obtain ⟨hPc, hDc, hFc⟩ := xcut (wc := [(a1, .inr (5, [.int 2, .ref a10, .int 2, v20, .int 0, v22, v23, .int 0, .int 1, .int 0, v27, v28, .int 0, v30, v31, .ref a11, .int 4, .int 4, .int 0, .int 100, v37, v38, .int 0, .int 1000000000, .ref a7, .ref a8, v41, v42, v43, v44, .int 1, v46]))]) hP hD hS hA [6] rfl rfl (by decide)
  refine va_calli (va_runV (C := "ValueBenchModel") (As := []) (rest := []) ⟨hx, hb, hml, hown, htx⟩ (cM_thrown_2 l hl9 D cT aK aV H.size a1 (.ref a10) (.int 2) v20 (.int 0) v22 v23 (.int 0) (.int 1) (.int 0) v27 v28 (.int 0) v30 v31 (.ref a11) (.int 4) (.int 4) (.int 0) (.int 100) v37 v38 (.int 0) (.int 1000000000) (.ref a7) (.ref a8) v41 v42 v43 v44 (.int 1) v46) ⟨callB_of 0 htx (xw_goodC kw_5_187) rfl rfl rfl (htx _ kw_1_5) (htx _ kw_5_184) ⟨by decide, by decide, by decide +kernel⟩ ⟨Nat.le_of_ble_eq_true rfl, Nat.le_of_ble_eq_true rfl⟩, (htx _ kw_5_185), (htx _ kw_5_186)⟩ ⟨xPre_blind, va_recv hK hP (ci := 5) rfl (q0 := 6) rfl, (fun U hU hW => ⟨rfl, xPre_of hZ hS hFc hPc hDc hK U hU hW⟩)⟩ rfl rfl hl.1 rfl (lv_room (Nat.le_of_ble_eq_true rfl)) dL_law_435 ⟨Nat.le_of_ble_eq_true rfl, Nat.le_of_ble_eq_true rfl⟩) hS (fun q _ h => hFc q h) hFc (fun r4 u9 t H1 locs ht hvm hr9 hB hz1 hk1 hS => ?_)
  obtain ⟨hP1, hK1, hD1⟩ := hB
  rw [ht] at hP1
  obtain ⟨hP, hD⟩ := xjoin (W := [(a2, .inl (cT 2, 1, .inr (.inl f47))), (a0, .inr (0, [v12, v13, v14, .ref a4, v15, .ref a3, v16, .int 1])), (a3, .inr (2, [v48, .int 0, .int 0])), (a4, .inl (cT 3, 8, .inr (.inr (.inr (.inr f51))))), (a5, .inr (2, [.ref a6, .int 1, v55])), (a6, .inl (cT 2, 4096, .inr (.inl f56))), (a7, .inl (cT 5, 8, .inr (.inr (.inr (.inr f58))))), (a8, .inl (cT 1, 8, .inl f61)), (a9, .inl (cT 0, 4096, .inl f64)), (a10, .inl (cT 4, 1024, .inr (.inr (.inr (.inr (va_up (va_up f69 0 (some q2)) 1 (some q3))))))), (a11, .inl (cT 0, 4096, .inl f72)), (q2, .inr (6, [.int 0, .long 0, .int 0, .int 0, .int 0, .int 1])), (q3, .inr (6, [.int 0, .long 0, .int 0, .int 0, .int 0, .int 1])), (a1, .inr (5, [.int 2, .ref a10, .int 2, v20, .int 0, v22, v23, .int 0, .int 1, .int 0, v27, v28, .int 0, v30, v31, .ref a11, .int 4, .int 4, .int 0, .int 100, v37, v38, .int 0, .int 1000000000, .ref a7, .ref a8, v41, v42, v43, v44, .int 1, v46]))]) hP hD [6] [0, 1, 2, 3, 4, 5, 7, 8, 9, 10, 11, 12, 13] 13 rfl rfl (by decide) (by decide) hk1 hFc hP1 hD1
  generalize H1 = H at hP hS ⊢
  rw [hr9]
  refine W.eq (g2 := F0 m 438 ls [.int 2]) rfl ?_
  refine lv_iload hx hb dL_law_438 (lv_at hl 0 rfl) ?_
  refine lv_icmp_eq (tgt := 445) hx hb dL_law_440 (by decide) (fun _ => ?_) (fun h => ((by revert h; decide : False)).elim)
  refine lv_goto (tgt := 906) hx hb dL_law_445 (by decide) ?_
  refine lv_iinc (v := 6) (lv' := [(4, .int 6), (5, .int 2), (3, .ref a2), (2, .ref a1), (1, .ref a0), (0, .ref b)]) hx hb dL_law_906 hl (k := 1) rfl (by decide) (by decide) rfl (fun ls hl => ?_)
  refine lv_goto (tgt := 23) hx hb dL_law_909 (by decide) ?_
  refine lv_iload hx hb dL_law_23 (lv_at hl 0 rfl) ?_
  refine lv_aload_n hx hb dL_law_25 rfl (lv_at hl 5 rfl) ?_
  refine va_slen hx hb hXs hbl hbA hS dL_law_26 ?_
  refine W.eq (g2 := F0 m 27 ls [.int 6, .int 6]) rfl ?_
  refine lv_bipush (v := 6) hx hb dL_law_27 (by decide) ?_
  refine lv_isub hx hb dL_law_29 ?_
  refine W.eq (g2 := F0 m 30 ls [.int 0, .int 6]) rfl ?_
  refine lv_icmp_gt (tgt := 912) hx hb dL_law_30 (by decide) (fun _ => ?_) (fun h => ((by revert h; decide : False)).elim)
  refine lv_iconst (v := 1) hx hb dL_law_912 (by decide) ?_
  exact va_forget (fun q h => hA2 _ (hS.2.2 q h)) (W.widen (k := 600002) (n := 7302232) (Nat.le_of_ble_eq_true rfl) (Nat.le_of_ble_eq_true rfl) (lw_ret hx hb hr hlocks dL_law_913))
set_option maxHeartbeats 400000000 in
set_option maxRecDepth 100000 in
theorem lf_binary4_p0 {p : Program} {e : Env} {s : State} {m : MethodId} {below : List Frame} {meth : Method} {c : Code} (l : Launch) (hl9 : l.stackTraces = false) (D : va_G) (cT : Nat → ClassId) (aK aV : Nat → Nat) {A : Nat → Prop} {b : Nat} {xs : Nat → Int32} (C : xLw p s m meth c b D cT aK aV A) {H : Heap} {locs : List Loc} {ls : Array Slot} (a0 : Nat) (a1 : Nat) (a2 : Nat) (a3 : Nat) (a4 : Nat) (a5 : Nat) (a6 : Nat) (a7 : Nat) (a8 : Nat) (a9 : Nat) (a10 : Nat) (a11 : Nat) (v12 : Value) (v13 : Value) (v14 : Value) (v15 : Value) (v16 : Value) (v17 : Value) (v18 : Value) (v19 : Value) (v20 : Value) (v21 : Value) (v22 : Value) (v23 : Value) (v24 : Value) (v25 : Value) (v26 : Value) (v27 : Value) (v28 : Value) (v29 : Value) (v30 : Value) (v31 : Value) (v32 : Value) (v33 : Value) (v34 : Value) (v35 : Value) (v36 : Value) (v37 : Value) (v38 : Value) (v39 : Value) (v40 : Value) (v41 : Value) (v42 : Value) (v43 : Value) (v44 : Value) (v45 : Value) (v46 : Value) (f47 : Nat → Int64) (v48 : Value) (v49 : Value) (v50 : Value) (f51 : Nat → Option Nat) (b53 : Nat) (v55 : Value) (f56 : Nat → Int64) (f58 : Nat → Option Nat) (f61 : Nat → Int32) (f64 : Nat → Int32) (f69 : Nat → Option Nat) (f72 : Nat → Int32) (h52 : f51 (xs 3).toNatClampNeg = some a5) (h54 : f51 (xs 4).toNatClampNeg = some b53) (h57 : f56 0 = 0) (h59 : f58 (xs 3).toNatClampNeg = some a9) (h60 : f58 (xs 4).toNatClampNeg = some a11) (h62 : f61 (xs 3).toNatClampNeg = 4) (h63 : f61 (xs 4).toNatClampNeg = 4) (h65 : f64 0 = 110) (h66 : f64 1 = 117) (h67 : f64 2 = 108) (h68 : f64 3 = 108) (h70 : f69 0 = none) (h71 : f69 1 = none) (h73 : f72 0 = 110) (h74 : f72 1 = 117) (h75 : f72 2 = 108) (h76 : f72 3 = 108) (hto1 : ¬ (xs 1) < 0) (hto2 : ¬ 7 < (xs 1)) (hto3 : (xs 1) ≤ 7) (hto4 : vp_in (xs 1) 8) (hf : xs 2 = 4) (ha1 : ¬ (xs 3) < 0) (ha2 : ¬ 7 < (xs 3)) (ha3 : (xs 3) ≤ 7) (ha4 : vp_in (xs 3) 8) (hb1 : ¬ (xs 4) < 0) (hb2 : ¬ 7 < (xs 4)) (hb3 : (xs 4) ≤ 7) (hb4 : vp_in (xs 4) 8) (hXs : va_X b 6 xs s s.heap) (hP : va_P D xcl [(a0, .inr (0, [v12, v13, v14, .ref a4, v15, .ref a3, v16, v17])), (a1, .inr (5, [v18, .ref a10, v19, v20, v21, v22, v23, v24, v25, v26, v27, v28, v29, v30, v31, v32, v33, v34, v35, v36, v37, v38, v39, v40, .ref a7, .ref a8, v41, v42, v43, v44, v45, v46])), (a2, .inl (cT 2, 1, .inr (.inl f47))), (a3, .inr (2, [v48, v49, v50])), (a4, .inl (cT 3, 8, .inr (.inr (.inr (.inr f51))))), (a5, .inr (2, [.ref a6, .int 1, v55])), (a6, .inl (cT 2, 4096, .inr (.inl f56))), (a7, .inl (cT 5, 8, .inr (.inr (.inr (.inr f58))))), (a8, .inl (cT 1, 8, .inl f61)), (a9, .inl (cT 0, 4096, .inl f64)), (a10, .inl (cT 4, 1024, .inr (.inr (.inr (.inr f69))))), (a11, .inl (cT 0, 4096, .inl f72))] H) (hD : va_D A [(a0, .inr (0, [v12, v13, v14, .ref a4, v15, .ref a3, v16, v17])), (a1, .inr (5, [v18, .ref a10, v19, v20, v21, v22, v23, v24, v25, v26, v27, v28, v29, v30, v31, v32, v33, v34, v35, v36, v37, v38, v39, v40, .ref a7, .ref a8, v41, v42, v43, v44, v45, v46])), (a2, .inl (cT 2, 1, .inr (.inl f47))), (a3, .inr (2, [v48, v49, v50])), (a4, .inl (cT 3, 8, .inr (.inr (.inr (.inr f51))))), (a5, .inr (2, [.ref a6, .int 1, v55])), (a6, .inl (cT 2, 4096, .inr (.inl f56))), (a7, .inl (cT 5, 8, .inr (.inr (.inr (.inr f58))))), (a8, .inl (cT 1, 8, .inl f61)), (a9, .inl (cT 0, 4096, .inl f64)), (a10, .inl (cT 4, 1024, .inr (.inr (.inr (.inr f69))))), (a11, .inl (cT 0, 4096, .inl f72))]) (hS : va_S A s.heap H locs) (hl : lv_has ls 8 [(4, .int 0), (3, .ref a2), (2, .ref a1), (1, .ref a0), (0, .ref b)]) : W p l e room_1 s m #[Value.ref b] below meth c H locs 54 107242 (lw_Z below #[Value.ref b] s) (F0 m 376 ls []) := by
  obtain ⟨hx, hb, hr, hml, hown, htx, hbl, hbA, hlocks, hK, hZ, hA, hA2⟩ := C
  refine lv_aload_n hx hb dL_law_376 rfl (lv_at hl 3 rfl) ?_
  refine lv_aload_n hx hb dL_law_377 rfl (lv_at hl 4 rfl) ?_
  refine lv_iload hx hb dL_law_378 (lv_at hl 0 rfl) ?_
  refine lv_iconst (v := 1) hx hb dL_law_380 (by decide) ?_
  refine lv_iadd hx hb dL_law_381 ?_
  refine W.eq (g2 := F0 m 382 ls [.int 1, .ref b, .ref a0]) rfl ?_
  refine va_sld hx hb hXs hbl hbA hS (i := 1) (show ¬ ((1 : Int32) < 0 ∨ 6 ≤ (1 : Int32).toNatClampNeg) by decide) dL_law_382 ?_
  refine W.eq (g2 := F0 m 383 ls [.int (xs 1), .ref a0]) rfl ?_
  refine lv_aload_n hx hb dL_law_383 rfl (lv_at hl 4 rfl) ?_
  refine lv_iload hx hb dL_law_384 (lv_at hl 0 rfl) ?_
  refine lv_iconst (v := 2) hx hb dL_law_386 (by decide) ?_
  refine lv_iadd hx hb dL_law_387 ?_
  refine W.eq (g2 := F0 m 388 ls [.int 2, .ref b, .int (xs 1), .ref a0]) rfl ?_
  refine va_sld hx hb hXs hbl hbA hS (i := 2) (show ¬ ((2 : Int32) < 0 ∨ 6 ≤ (2 : Int32).toNatClampNeg) by decide) dL_law_388 ?_
  refine W.eq (g2 := F0 m 389 ls [.int (xs 2), .int (xs 1), .ref a0]) rfl ?_
  rw [hf]
  refine W.eq (g2 := F0 m 389 ls [.int 4, .int (xs 1), .ref a0]) rfl ?_
  refine lv_aload_n hx hb dL_law_389 rfl (lv_at hl 4 rfl) ?_
  refine lv_iload hx hb dL_law_390 (lv_at hl 0 rfl) ?_
  refine lv_iconst (v := 3) hx hb dL_law_392 (by decide) ?_
  refine lv_iadd hx hb dL_law_393 ?_
  refine W.eq (g2 := F0 m 394 ls [.int 3, .ref b, .int 4, .int (xs 1), .ref a0]) rfl ?_
  refine va_sld hx hb hXs hbl hbA hS (i := 3) (show ¬ ((3 : Int32) < 0 ∨ 6 ≤ (3 : Int32).toNatClampNeg) by decide) dL_law_394 ?_
  refine W.eq (g2 := F0 m 395 ls [.int (xs 3), .int 4, .int (xs 1), .ref a0]) rfl ?_
  refine lv_aload_n hx hb dL_law_395 rfl (lv_at hl 4 rfl) ?_
  refine lv_iload hx hb dL_law_396 (lv_at hl 0 rfl) ?_
  refine lv_iconst (v := 4) hx hb dL_law_398 (by decide) ?_
  refine lv_iadd hx hb dL_law_399 ?_
  refine W.eq (g2 := F0 m 400 ls [.int 4, .ref b, .int (xs 3), .int 4, .int (xs 1), .ref a0]) rfl ?_
  refine va_sld hx hb hXs hbl hbA hS (i := 4) (show ¬ ((4 : Int32) < 0 ∨ 6 ≤ (4 : Int32).toNatClampNeg) by decide) dL_law_400 ?_
  refine W.eq (g2 := F0 m 401 ls [.int (xs 4), .int (xs 3), .int 4, .int (xs 1), .ref a0]) rfl ?_
  obtain ⟨hPc, hDc, hFc⟩ := xcut (wc := [(a0, .inr (0, [v12, v13, v14, .ref a4, v15, .ref a3, v16, v17])), (a3, .inr (2, [v48, v49, v50])), (a4, .inl (cT 3, 8, .inr (.inr (.inr (.inr f51))))), (a5, .inr (2, [.ref a6, .int 1, v55])), (a6, .inl (cT 2, 4096, .inr (.inl f56)))]) hP hD hS hA [0, 3, 4, 5, 6] rfl rfl (by decide)
  refine va_calli (vx_runSW (As := [.ref a0, .int (xs 1), .int 4, .int (xs 3), .int (xs 4)]) (rest := []) ⟨hx, hb, hml, hown, htx⟩ (cL_binary_17 l hl9 D cT aK aV H.size a0 a3 a4 a5 a6 (xs 1) (xs 3) (xs 4) v12 v13 v14 v15 v16 v17 v48 v49 v50 f51 b53 v55 f56 hto1 hto2 hto3 hto4 ha1 ha2 ha3 ha4 hb1 hb2 hb3 hb4 (by first | rfl | exact h52 | exact h54 | exact h57 | exact h59 | exact h60 | exact h62 | exact h63 | exact h65 | exact h66 | exact h67 | exact h68 | exact h70 | exact h71 | exact h73 | exact h74 | exact h75 | exact h76) (by first | rfl | exact h52 | exact h54 | exact h57 | exact h59 | exact h60 | exact h62 | exact h63 | exact h65 | exact h66 | exact h67 | exact h68 | exact h70 | exact h71 | exact h73 | exact h74 | exact h75 | exact h76) (by first | rfl | exact h52 | exact h54 | exact h57 | exact h59 | exact h60 | exact h62 | exact h63 | exact h65 | exact h66 | exact h67 | exact h68 | exact h70 | exact h71 | exact h73 | exact h74 | exact h75 | exact h76)) (xcSW 5 htx (xw_goodC kw_3_97) rfl rfl rfl (htx _ kw_1_0) (htx _ kw_3_95) ⟨by decide, by decide, by decide +kernel⟩ ⟨Nat.le_of_ble_eq_true rfl, Nat.le_of_ble_eq_true rfl⟩ (htx _ kw_3_96)) ⟨xPre_blind, (fun U hU hW => ⟨rfl, xPre_of hZ hS hFc hPc hDc hK U hU hW⟩)⟩ rfl rfl hl.1 rfl (lv_room (Nat.le_of_ble_eq_true rfl)) dL_law_401 ⟨Nat.le_of_ble_eq_true rfl, Nat.le_of_ble_eq_true rfl⟩) hS (fun q _ h => hFc q h) hFc (fun r1 u9 t H1 locs ht hvm hr9 hB hz1 hk1 hS => ?_)
  obtain ⟨hP1, hK1, hD1⟩ := hB
  rw [ht] at hP1
  obtain ⟨hP, hD⟩ := xjoin (W := [(a1, .inr (5, [v18, .ref a10, v19, v20, v21, v22, v23, v24, v25, v26, v27, v28, v29, v30, v31, v32, v33, v34, v35, v36, v37, v38, v39, v40, .ref a7, .ref a8, v41, v42, v43, v44, v45, v46])), (a2, .inl (cT 2, 1, .inr (.inl f47))), (a7, .inl (cT 5, 8, .inr (.inr (.inr (.inr f58))))), (a8, .inl (cT 1, 8, .inl f61)), (a9, .inl (cT 0, 4096, .inl f64)), (a10, .inl (cT 4, 1024, .inr (.inr (.inr (.inr f69))))), (a11, .inl (cT 0, 4096, .inl f72)), (a0, .inr (0, [v12, v13, v14, .ref a4, v15, .ref a3, v16, .int 1])), (a3, .inr (2, [v48, .int 0, .int 0])), (a4, .inl (cT 3, 8, .inr (.inr (.inr (.inr f51))))), (a5, .inr (2, [.ref a6, .int 1, v55])), (a6, .inl (cT 2, 4096, .inr (.inl f56)))]) hP hD [0, 3, 4, 5, 6] [1, 2, 7, 8, 9, 10, 11] 7 rfl rfl (by decide) (by decide) hk1 hFc hP1 hD1
  generalize H1 = H at hP hS ⊢
  rw [hr9]
  refine W.eq (g2 := F0 m 404 ls [.int 2]) rfl ?_
  refine lv_istore (lv' := [(5, .int 2), (4, .int 0), (3, .ref a2), (2, .ref a1), (1, .ref a0), (0, .ref b)]) hx hb dL_law_404 hl (by decide) rfl (fun ls hl => ?_)
  refine lv_aload_n hx hb dL_law_406 rfl (lv_at hl 3 rfl) ?_
  refine lv_aload_n hx hb dL_law_407 rfl (lv_at hl 5 rfl) ?_
  refine lv_iload hx hb dL_law_408 (lv_at hl 1 rfl) ?_
  refine lv_iconst (v := 1) hx hb dL_law_410 (by decide) ?_
  refine lv_iadd hx hb dL_law_411 ?_
  refine W.eq (g2 := F0 m 412 ls [.int 1, .ref b, .ref a1]) rfl ?_
  refine va_sld hx hb hXs hbl hbA hS (i := 1) (show ¬ ((1 : Int32) < 0 ∨ 6 ≤ (1 : Int32).toNatClampNeg) by decide) dL_law_412 ?_
  refine W.eq (g2 := F0 m 413 ls [.int (xs 1), .ref a1]) rfl ?_
  refine lv_aload_n hx hb dL_law_413 rfl (lv_at hl 5 rfl) ?_
  refine lv_iload hx hb dL_law_414 (lv_at hl 1 rfl) ?_
  refine lv_iconst (v := 2) hx hb dL_law_416 (by decide) ?_
  refine lv_iadd hx hb dL_law_417 ?_
  refine W.eq (g2 := F0 m 418 ls [.int 2, .ref b, .int (xs 1), .ref a1]) rfl ?_
  refine va_sld hx hb hXs hbl hbA hS (i := 2) (show ¬ ((2 : Int32) < 0 ∨ 6 ≤ (2 : Int32).toNatClampNeg) by decide) dL_law_418 ?_
  refine W.eq (g2 := F0 m 419 ls [.int (xs 2), .int (xs 1), .ref a1]) rfl ?_
  rw [hf]
  refine W.eq (g2 := F0 m 419 ls [.int 4, .int (xs 1), .ref a1]) rfl ?_
  refine lv_aload_n hx hb dL_law_419 rfl (lv_at hl 5 rfl) ?_
  refine lv_iload hx hb dL_law_420 (lv_at hl 1 rfl) ?_
  refine lv_iconst (v := 3) hx hb dL_law_422 (by decide) ?_
  refine lv_iadd hx hb dL_law_423 ?_
  refine W.eq (g2 := F0 m 424 ls [.int 3, .ref b, .int 4, .int (xs 1), .ref a1]) rfl ?_
  refine va_sld hx hb hXs hbl hbA hS (i := 3) (show ¬ ((3 : Int32) < 0 ∨ 6 ≤ (3 : Int32).toNatClampNeg) by decide) dL_law_424 ?_
  refine W.eq (g2 := F0 m 425 ls [.int (xs 3), .int 4, .int (xs 1), .ref a1]) rfl ?_
  refine lv_aload_n hx hb dL_law_425 rfl (lv_at hl 5 rfl) ?_
  refine lv_iload hx hb dL_law_426 (lv_at hl 1 rfl) ?_
  refine lv_iconst (v := 4) hx hb dL_law_428 (by decide) ?_
  refine lv_iadd hx hb dL_law_429 ?_
  refine W.eq (g2 := F0 m 430 ls [.int 4, .ref b, .int (xs 3), .int 4, .int (xs 1), .ref a1]) rfl ?_
  refine va_sld hx hb hXs hbl hbA hS (i := 4) (show ¬ ((4 : Int32) < 0 ∨ 6 ≤ (4 : Int32).toNatClampNeg) by decide) dL_law_430 ?_
  refine W.eq (g2 := F0 m 431 ls [.int (xs 4), .int (xs 3), .int 4, .int (xs 1), .ref a1]) rfl ?_
  obtain ⟨hPc, hDc, hFc⟩ := xcut (wc := [(a1, .inr (5, [v18, .ref a10, v19, v20, v21, v22, v23, v24, v25, v26, v27, v28, v29, v30, v31, v32, v33, v34, v35, v36, v37, v38, v39, v40, .ref a7, .ref a8, v41, v42, v43, v44, v45, v46])), (a7, .inl (cT 5, 8, .inr (.inr (.inr (.inr f58))))), (a8, .inl (cT 1, 8, .inl f61)), (a9, .inl (cT 0, 4096, .inl f64)), (a10, .inl (cT 4, 1024, .inr (.inr (.inr (.inr f69))))), (a11, .inl (cT 0, 4096, .inl f72))]) hP hD hS hA [0, 2, 3, 4, 5, 6] rfl rfl (by decide)
  refine va_callv (va_runV (C := "ValueBenchModel") (As := [.int (xs 1), .int 4, .int (xs 3), .int (xs 4)]) (rest := []) ⟨hx, hb, hml, hown, htx⟩ (cM_binary0_20 l hl9 D cT aK aV H.size a1 a7 a8 a9 a10 a11 (xs 1) (xs 3) (xs 4) v18 v19 v20 v21 v22 v23 v24 v25 v26 v27 v28 v29 v30 v31 v32 v33 v34 v35 v36 v37 v38 v39 v40 v41 v42 v43 v44 v45 v46 f58 f61 f64 f69 f72 hto1 hto2 hto3 hto4 ha1 ha2 ha3 ha4 hb1 hb2 hb3 hb4 (by first | rfl | exact h52 | exact h54 | exact h57 | exact h59 | exact h60 | exact h62 | exact h63 | exact h65 | exact h66 | exact h67 | exact h68 | exact h70 | exact h71 | exact h73 | exact h74 | exact h75 | exact h76) (by first | rfl | exact h52 | exact h54 | exact h57 | exact h59 | exact h60 | exact h62 | exact h63 | exact h65 | exact h66 | exact h67 | exact h68 | exact h70 | exact h71 | exact h73 | exact h74 | exact h75 | exact h76) (by first | rfl | exact h52 | exact h54 | exact h57 | exact h59 | exact h60 | exact h62 | exact h63 | exact h65 | exact h66 | exact h67 | exact h68 | exact h70 | exact h71 | exact h73 | exact h74 | exact h75 | exact h76) (by first | rfl | exact h52 | exact h54 | exact h57 | exact h59 | exact h60 | exact h62 | exact h63 | exact h65 | exact h66 | exact h67 | exact h68 | exact h70 | exact h71 | exact h73 | exact h74 | exact h75 | exact h76) (by first | rfl | exact h52 | exact h54 | exact h57 | exact h59 | exact h60 | exact h62 | exact h63 | exact h65 | exact h66 | exact h67 | exact h68 | exact h70 | exact h71 | exact h73 | exact h74 | exact h75 | exact h76) (by first | rfl | exact h52 | exact h54 | exact h57 | exact h59 | exact h60 | exact h62 | exact h63 | exact h65 | exact h66 | exact h67 | exact h68 | exact h70 | exact h71 | exact h73 | exact h74 | exact h75 | exact h76) (by first | rfl | exact h52 | exact h54 | exact h57 | exact h59 | exact h60 | exact h62 | exact h63 | exact h65 | exact h66 | exact h67 | exact h68 | exact h70 | exact h71 | exact h73 | exact h74 | exact h75 | exact h76) (by first | rfl | exact h52 | exact h54 | exact h57 | exact h59 | exact h60 | exact h62 | exact h63 | exact h65 | exact h66 | exact h67 | exact h68 | exact h70 | exact h71 | exact h73 | exact h74 | exact h75 | exact h76) (by first | rfl | exact h52 | exact h54 | exact h57 | exact h59 | exact h60 | exact h62 | exact h63 | exact h65 | exact h66 | exact h67 | exact h68 | exact h70 | exact h71 | exact h73 | exact h74 | exact h75 | exact h76) (by first | rfl | exact h52 | exact h54 | exact h57 | exact h59 | exact h60 | exact h62 | exact h63 | exact h65 | exact h66 | exact h67 | exact h68 | exact h70 | exact h71 | exact h73 | exact h74 | exact h75 | exact h76) (by first | rfl | exact h52 | exact h54 | exact h57 | exact h59 | exact h60 | exact h62 | exact h63 | exact h65 | exact h66 | exact h67 | exact h68 | exact h70 | exact h71 | exact h73 | exact h74 | exact h75 | exact h76) (by first | rfl | exact h52 | exact h54 | exact h57 | exact h59 | exact h60 | exact h62 | exact h63 | exact h65 | exact h66 | exact h67 | exact h68 | exact h70 | exact h71 | exact h73 | exact h74 | exact h75 | exact h76) (by first | rfl | exact h52 | exact h54 | exact h57 | exact h59 | exact h60 | exact h62 | exact h63 | exact h65 | exact h66 | exact h67 | exact h68 | exact h70 | exact h71 | exact h73 | exact h74 | exact h75 | exact h76) (by first | rfl | exact h52 | exact h54 | exact h57 | exact h59 | exact h60 | exact h62 | exact h63 | exact h65 | exact h66 | exact h67 | exact h68 | exact h70 | exact h71 | exact h73 | exact h74 | exact h75 | exact h76)) ⟨callB_of 4 htx (xw_goodC kw_6_191) rfl rfl rfl (htx _ kw_1_5) (htx _ kw_6_188) ⟨by decide, by decide, by decide +kernel⟩ ⟨Nat.le_of_ble_eq_true rfl, Nat.le_of_ble_eq_true rfl⟩, (htx _ kw_6_189), (htx _ kw_6_190)⟩ ⟨xPre_blind, va_recv hK hP (ci := 5) rfl (q0 := 0) rfl, (fun U hU hW => ⟨rfl, xPre_of hZ hS hFc hPc hDc hK U hU hW⟩)⟩ rfl rfl hl.1 rfl (lv_room (Nat.le_of_ble_eq_true rfl)) dL_law_431 ⟨Nat.le_of_ble_eq_true rfl, Nat.le_of_ble_eq_true rfl⟩) hS (fun q _ h => hFc q h) hFc (fun u9 t H1 locs ht hvm hr9 hB hz1 hk1 hS => ?_)
  obtain ⟨q2, q3, hP1, hK1, hD1⟩ := hB
  rw [ht] at hP1
  obtain ⟨hP, hD⟩ := xjoin (W := [(a2, .inl (cT 2, 1, .inr (.inl f47))), (a0, .inr (0, [v12, v13, v14, .ref a4, v15, .ref a3, v16, .int 1])), (a3, .inr (2, [v48, .int 0, .int 0])), (a4, .inl (cT 3, 8, .inr (.inr (.inr (.inr f51))))), (a5, .inr (2, [.ref a6, .int 1, v55])), (a6, .inl (cT 2, 4096, .inr (.inl f56))), (a1, .inr (5, [.int 2, .ref a10, .int 2, v20, .int 0, v22, v23, .int 0, .int 1, .int 0, v27, v28, .int 0, v30, v31, .ref a11, .int 4, .int 4, .int 0, .int 100, v37, v38, .int 0, .int 1000000000, .ref a7, .ref a8, v41, v42, v43, v44, .int 1, v46])), (a7, .inl (cT 5, 8, .inr (.inr (.inr (.inr f58))))), (a8, .inl (cT 1, 8, .inl f61)), (a9, .inl (cT 0, 4096, .inl f64)), (a10, .inl (cT 4, 1024, .inr (.inr (.inr (.inr (va_up (va_up f69 0 (some q2)) 1 (some q3))))))), (a11, .inl (cT 0, 4096, .inl f72)), (q2, .inr (6, [.int 0, .long 0, .int 0, .int 0, .int 0, .int 1])), (q3, .inr (6, [.int 0, .long 0, .int 0, .int 0, .int 0, .int 1]))]) hP hD [0, 2, 3, 4, 5, 6] [1, 7, 8, 9, 10, 11] 6 rfl rfl (by decide) (by decide) hk1 hFc hP1 hD1
  generalize H1 = H at hP hS ⊢
  refine lv_aload_n hx hb dL_law_434 rfl (lv_at hl 3 rfl) ?_
  obtain ⟨hPc, hDc, hFc⟩ := xcut (wc := [(a1, .inr (5, [.int 2, .ref a10, .int 2, v20, .int 0, v22, v23, .int 0, .int 1, .int 0, v27, v28, .int 0, v30, v31, .ref a11, .int 4, .int 4, .int 0, .int 100, v37, v38, .int 0, .int 1000000000, .ref a7, .ref a8, v41, v42, v43, v44, .int 1, v46]))]) hP hD hS hA [6] rfl rfl (by decide)
  refine va_calli (va_runV (C := "ValueBenchModel") (As := []) (rest := []) ⟨hx, hb, hml, hown, htx⟩ (cM_thrown_2 l hl9 D cT aK aV H.size a1 (.ref a10) (.int 2) v20 (.int 0) v22 v23 (.int 0) (.int 1) (.int 0) v27 v28 (.int 0) v30 v31 (.ref a11) (.int 4) (.int 4) (.int 0) (.int 100) v37 v38 (.int 0) (.int 1000000000) (.ref a7) (.ref a8) v41 v42 v43 v44 (.int 1) v46) ⟨callB_of 0 htx (xw_goodC kw_5_187) rfl rfl rfl (htx _ kw_1_5) (htx _ kw_5_184) ⟨by decide, by decide, by decide +kernel⟩ ⟨Nat.le_of_ble_eq_true rfl, Nat.le_of_ble_eq_true rfl⟩, (htx _ kw_5_185), (htx _ kw_5_186)⟩ ⟨xPre_blind, va_recv hK hP (ci := 5) rfl (q0 := 6) rfl, (fun U hU hW => ⟨rfl, xPre_of hZ hS hFc hPc hDc hK U hU hW⟩)⟩ rfl rfl hl.1 rfl (lv_room (Nat.le_of_ble_eq_true rfl)) dL_law_435 ⟨Nat.le_of_ble_eq_true rfl, Nat.le_of_ble_eq_true rfl⟩) hS (fun q _ h => hFc q h) hFc (fun r4 u9 t H1 locs ht hvm hr9 hB hz1 hk1 hS => ?_)
  obtain ⟨hP1, hK1, hD1⟩ := hB
  rw [ht] at hP1
  obtain ⟨hP, hD⟩ := xjoin (W := [(a2, .inl (cT 2, 1, .inr (.inl f47))), (a0, .inr (0, [v12, v13, v14, .ref a4, v15, .ref a3, v16, .int 1])), (a3, .inr (2, [v48, .int 0, .int 0])), (a4, .inl (cT 3, 8, .inr (.inr (.inr (.inr f51))))), (a5, .inr (2, [.ref a6, .int 1, v55])), (a6, .inl (cT 2, 4096, .inr (.inl f56))), (a7, .inl (cT 5, 8, .inr (.inr (.inr (.inr f58))))), (a8, .inl (cT 1, 8, .inl f61)), (a9, .inl (cT 0, 4096, .inl f64)), (a10, .inl (cT 4, 1024, .inr (.inr (.inr (.inr (va_up (va_up f69 0 (some q2)) 1 (some q3))))))), (a11, .inl (cT 0, 4096, .inl f72)), (q2, .inr (6, [.int 0, .long 0, .int 0, .int 0, .int 0, .int 1])), (q3, .inr (6, [.int 0, .long 0, .int 0, .int 0, .int 0, .int 1])), (a1, .inr (5, [.int 2, .ref a10, .int 2, v20, .int 0, v22, v23, .int 0, .int 1, .int 0, v27, v28, .int 0, v30, v31, .ref a11, .int 4, .int 4, .int 0, .int 100, v37, v38, .int 0, .int 1000000000, .ref a7, .ref a8, v41, v42, v43, v44, .int 1, v46]))]) hP hD [6] [0, 1, 2, 3, 4, 5, 7, 8, 9, 10, 11, 12, 13] 13 rfl rfl (by decide) (by decide) hk1 hFc hP1 hD1
  generalize H1 = H at hP hS ⊢
  rw [hr9]
  refine W.eq (g2 := F0 m 438 ls [.int 2]) rfl ?_
  refine lv_iload hx hb dL_law_438 (lv_at hl 0 rfl) ?_
  refine lv_icmp_eq (tgt := 445) hx hb dL_law_440 (by decide) (fun _ => ?_) (fun h => ((by revert h; decide : False)).elim)
  refine lv_goto (tgt := 906) hx hb dL_law_445 (by decide) ?_
  refine lv_iinc (v := 6) (lv' := [(4, .int 6), (5, .int 2), (3, .ref a2), (2, .ref a1), (1, .ref a0), (0, .ref b)]) hx hb dL_law_906 hl (k := 1) rfl (by decide) (by decide) rfl (fun ls hl => ?_)
  refine lv_goto (tgt := 23) hx hb dL_law_909 (by decide) ?_
  refine lv_iload hx hb dL_law_23 (lv_at hl 0 rfl) ?_
  refine lv_aload_n hx hb dL_law_25 rfl (lv_at hl 5 rfl) ?_
  refine va_slen hx hb hXs hbl hbA hS dL_law_26 ?_
  refine W.eq (g2 := F0 m 27 ls [.int 6, .int 6]) rfl ?_
  refine lv_bipush (v := 6) hx hb dL_law_27 (by decide) ?_
  refine lv_isub hx hb dL_law_29 ?_
  refine W.eq (g2 := F0 m 30 ls [.int 0, .int 6]) rfl ?_
  refine lv_icmp_gt (tgt := 912) hx hb dL_law_30 (by decide) (fun _ => ?_) (fun h => ((by revert h; decide : False)).elim)
  refine lv_iconst (v := 1) hx hb dL_law_912 (by decide) ?_
  exact va_forget (fun q h => hA2 _ (hS.2.2 q h)) (W.widen (k := 600002) (n := 7302232) (Nat.le_of_ble_eq_true rfl) (Nat.le_of_ble_eq_true rfl) (lw_ret hx hb hr hlocks dL_law_913))
set_option maxHeartbeats 400000000 in
set_option maxRecDepth 100000 in
theorem lf_compare_alo {p : Program} {e : Env} {s : State} {m : MethodId} {below : List Frame} {meth : Method} {c : Code} (l : Launch) (hl9 : l.stackTraces = false) (D : va_G) (cT : Nat → ClassId) (aK aV : Nat → Nat) {A : Nat → Prop} {b : Nat} {xs : Nat → Int32} (C : xLw p s m meth c b D cT aK aV A) {H : Heap} {locs : List Loc} {ls : Array Slot} (a0 : Nat) (a1 : Nat) (a2 : Nat) (v3 : Value) (v4 : Value) (v5 : Value) (v6 : Value) (v7 : Value) (v8 : Value) (v9 : Value) (v10 : Value) (v11 : Value) (v12 : Value) (v13 : Value) (v14 : Value) (v15 : Value) (v16 : Value) (v17 : Value) (v18 : Value) (v19 : Value) (v20 : Value) (v21 : Value) (v22 : Value) (v23 : Value) (v24 : Value) (v25 : Value) (v26 : Value) (v27 : Value) (v28 : Value) (v29 : Value) (v30 : Value) (v31 : Value) (v32 : Value) (v33 : Value) (v34 : Value) (v35 : Value) (v36 : Value) (v37 : Value) (v38 : Value) (v39 : Value) (v40 : Value) (v41 : Value) (v42 : Value) (f43 : Nat → Int64) (ha1 : (xs 1) < 0) (hXs : va_X b 6 xs s s.heap) (hP : va_P D xcl [(a0, .inr (0, [v3, v4, v5, v6, v7, v8, v9, v10])), (a1, .inr (5, [v11, v12, v13, v14, v15, v16, v17, v18, v19, v20, v21, v22, v23, v24, v25, v26, v27, v28, v29, v30, v31, v32, v33, v34, v35, v36, v37, v38, v39, v40, v41, v42])), (a2, .inl (cT 2, 1, .inr (.inl f43)))] H) (hD : va_D A [(a0, .inr (0, [v3, v4, v5, v6, v7, v8, v9, v10])), (a1, .inr (5, [v11, v12, v13, v14, v15, v16, v17, v18, v19, v20, v21, v22, v23, v24, v25, v26, v27, v28, v29, v30, v31, v32, v33, v34, v35, v36, v37, v38, v39, v40, v41, v42])), (a2, .inl (cT 2, 1, .inr (.inl f43)))]) (hS : va_S A s.heap H locs) (hl : lv_has ls 8 [(4, .int 0), (3, .ref a2), (2, .ref a1), (1, .ref a0), (0, .ref b)]) : W p l e room_1 s m #[Value.ref b] below meth c H locs 54 107242 (lw_Z below #[Value.ref b] s) (F0 m 448 ls []) := by
  obtain ⟨hx, hb, hr, hml, hown, htx, hbl, hbA, hlocks, hK, hZ, hA, hA2⟩ := C
  refine lv_aload_n hx hb dL_law_448 rfl (lv_at hl 3 rfl) ?_
  refine lv_aload_n hx hb dL_law_449 rfl (lv_at hl 4 rfl) ?_
  refine lv_iload hx hb dL_law_450 (lv_at hl 0 rfl) ?_
  refine lv_iconst (v := 1) hx hb dL_law_452 (by decide) ?_
  refine lv_iadd hx hb dL_law_453 ?_
  refine W.eq (g2 := F0 m 454 ls [.int 1, .ref b, .ref a0]) rfl ?_
  refine va_sld hx hb hXs hbl hbA hS (i := 1) (show ¬ ((1 : Int32) < 0 ∨ 6 ≤ (1 : Int32).toNatClampNeg) by decide) dL_law_454 ?_
  refine W.eq (g2 := F0 m 455 ls [.int (xs 1), .ref a0]) rfl ?_
  refine lv_aload_n hx hb dL_law_455 rfl (lv_at hl 4 rfl) ?_
  refine lv_iload hx hb dL_law_456 (lv_at hl 0 rfl) ?_
  refine lv_iconst (v := 2) hx hb dL_law_458 (by decide) ?_
  refine lv_iadd hx hb dL_law_459 ?_
  refine W.eq (g2 := F0 m 460 ls [.int 2, .ref b, .int (xs 1), .ref a0]) rfl ?_
  refine va_sld hx hb hXs hbl hbA hS (i := 2) (show ¬ ((2 : Int32) < 0 ∨ 6 ≤ (2 : Int32).toNatClampNeg) by decide) dL_law_460 ?_
  refine W.eq (g2 := F0 m 461 ls [.int (xs 2), .int (xs 1), .ref a0]) rfl ?_
  refine lv_aload_n hx hb dL_law_461 rfl (lv_at hl 1 rfl) ?_
  obtain ⟨hPc, hDc, hFc⟩ := xcut (wc := [(a0, .inr (0, [v3, v4, v5, v6, v7, v8, v9, v10]))]) hP hD hS hA [0] rfl rfl (by decide)
  refine va_calli (vx_runSW (As := [.ref a0, .int (xs 1), .int (xs 2), .ref a2]) (rest := []) ⟨hx, hb, hml, hown, htx⟩ (cL_compare_0 l hl9 D cT aK aV H.size a0 (xs 1) (xs 2) a2 v3 v4 v5 v6 v7 v8 v9 v10 ha1) (xcSW 4 htx (xw_goodC kw_4_5) rfl rfl rfl (htx _ kw_1_0) (htx _ kw_4_3) ⟨by decide, by decide, by decide +kernel⟩ ⟨Nat.le_of_ble_eq_true rfl, Nat.le_of_ble_eq_true rfl⟩ (htx _ kw_4_4)) ⟨xPre_blind, (fun U hU hW => ⟨rfl, xPre_of hZ hS hFc hPc hDc hK U hU hW⟩)⟩ rfl rfl hl.1 rfl (lv_room (Nat.le_of_ble_eq_true rfl)) dL_law_462 ⟨Nat.le_of_ble_eq_true rfl, Nat.le_of_ble_eq_true rfl⟩) hS (fun q _ h => hFc q h) hFc (fun r1 u9 t H1 locs ht hvm hr9 hB hz1 hk1 hS => ?_)
  obtain ⟨hP1, hK1, hD1⟩ := hB
  rw [ht] at hP1
  obtain ⟨hP, hD⟩ := xjoin (W := [(a1, .inr (5, [v11, v12, v13, v14, v15, v16, v17, v18, v19, v20, v21, v22, v23, v24, v25, v26, v27, v28, v29, v30, v31, v32, v33, v34, v35, v36, v37, v38, v39, v40, v41, v42])), (a2, .inl (cT 2, 1, .inr (.inl f43))), (a0, .inr (0, [v3, v4, v5, v6, v7, v8, v9, v10]))]) hP hD [0] [1, 2] 2 rfl rfl (by decide) (by decide) hk1 hFc hP1 hD1
  generalize H1 = H at hP hS ⊢
  rw [hr9]
  refine W.eq (g2 := F0 m 465 ls [.int 1]) rfl ?_
  refine lv_istore (lv' := [(5, .int 1), (4, .int 0), (3, .ref a2), (2, .ref a1), (1, .ref a0), (0, .ref b)]) hx hb dL_law_465 hl (by decide) rfl (fun ls hl => ?_)
  refine lv_aload_n hx hb dL_law_467 rfl (lv_at hl 3 rfl) ?_
  refine lv_aload_n hx hb dL_law_468 rfl (lv_at hl 5 rfl) ?_
  refine lv_iload hx hb dL_law_469 (lv_at hl 1 rfl) ?_
  refine lv_iconst (v := 1) hx hb dL_law_471 (by decide) ?_
  refine lv_iadd hx hb dL_law_472 ?_
  refine W.eq (g2 := F0 m 473 ls [.int 1, .ref b, .ref a1]) rfl ?_
  refine va_sld hx hb hXs hbl hbA hS (i := 1) (show ¬ ((1 : Int32) < 0 ∨ 6 ≤ (1 : Int32).toNatClampNeg) by decide) dL_law_473 ?_
  refine W.eq (g2 := F0 m 474 ls [.int (xs 1), .ref a1]) rfl ?_
  refine lv_aload_n hx hb dL_law_474 rfl (lv_at hl 5 rfl) ?_
  refine lv_iload hx hb dL_law_475 (lv_at hl 1 rfl) ?_
  refine lv_iconst (v := 2) hx hb dL_law_477 (by decide) ?_
  refine lv_iadd hx hb dL_law_478 ?_
  refine W.eq (g2 := F0 m 479 ls [.int 2, .ref b, .int (xs 1), .ref a1]) rfl ?_
  refine va_sld hx hb hXs hbl hbA hS (i := 2) (show ¬ ((2 : Int32) < 0 ∨ 6 ≤ (2 : Int32).toNatClampNeg) by decide) dL_law_479 ?_
  refine W.eq (g2 := F0 m 480 ls [.int (xs 2), .int (xs 1), .ref a1]) rfl ?_
  obtain ⟨hPc, hDc, hFc⟩ := xcut (wc := [(a1, .inr (5, [v11, v12, v13, v14, v15, v16, v17, v18, v19, v20, v21, v22, v23, v24, v25, v26, v27, v28, v29, v30, v31, v32, v33, v34, v35, v36, v37, v38, v39, v40, v41, v42]))]) hP hD hS hA [0] rfl rfl (by decide)
  refine va_calli (va_runV (C := "ValueBenchModel") (As := [.int (xs 1), .int (xs 2)]) (rest := []) ⟨hx, hb, hml, hown, htx⟩ (cM_compare_0 l hl9 D cT aK aV H.size a1 (xs 1) (xs 2) v11 v12 v13 v14 v15 v16 v17 v18 v19 v20 v21 v22 v23 v24 v25 v26 v27 v28 v29 v30 v31 v32 v33 v34 v35 v36 v37 v38 v39 v40 v41 v42 ha1) ⟨callB_of 2 htx (xw_goodC kw_7_119) rfl rfl rfl (htx _ kw_1_5) (htx _ kw_7_116) ⟨by decide, by decide, by decide +kernel⟩ ⟨Nat.le_of_ble_eq_true rfl, Nat.le_of_ble_eq_true rfl⟩, (htx _ kw_7_117), (htx _ kw_7_118)⟩ ⟨xPre_blind, va_recv hK hP (ci := 5) rfl (q0 := 0) rfl, (fun U hU hW => ⟨rfl, xPre_of hZ hS hFc hPc hDc hK U hU hW⟩)⟩ rfl rfl hl.1 rfl (lv_room (Nat.le_of_ble_eq_true rfl)) dL_law_480 ⟨Nat.le_of_ble_eq_true rfl, Nat.le_of_ble_eq_true rfl⟩) hS (fun q _ h => hFc q h) hFc (fun r2 u9 t H1 locs ht hvm hr9 hB hz1 hk1 hS => ?_)
  obtain ⟨hP1, hK1, hD1⟩ := hB
  rw [ht] at hP1
  obtain ⟨hP, hD⟩ := xjoin (W := [(a2, .inl (cT 2, 1, .inr (.inl f43))), (a0, .inr (0, [v3, v4, v5, v6, v7, v8, v9, v10])), (a1, .inr (5, [.int 1, v12, .int 0, v14, .int 0, v16, v17, .int 0, v19, .int 0, v21, v22, .int 0, v24, v25, v26, v27, v28, v29, v30, v31, v32, .int 0, .int 1000000000, v35, v36, v37, v38, v39, v40, v41, v42]))]) hP hD [0] [1, 2] 2 rfl rfl (by decide) (by decide) hk1 hFc hP1 hD1
  generalize H1 = H at hP hS ⊢
  rw [hr9]
  refine W.eq (g2 := F0 m 483 ls [.int 0]) rfl ?_
  refine lv_istore (lv' := [(6, .int 0), (5, .int 1), (4, .int 0), (3, .ref a2), (2, .ref a1), (1, .ref a0), (0, .ref b)]) hx hb dL_law_483 hl (by decide) rfl (fun ls hl => ?_)
  refine lv_aload_n hx hb dL_law_485 rfl (lv_at hl 4 rfl) ?_
  obtain ⟨hPc, hDc, hFc⟩ := xcut (wc := [(a1, .inr (5, [.int 1, v12, .int 0, v14, .int 0, v16, v17, .int 0, v19, .int 0, v21, v22, .int 0, v24, v25, v26, v27, v28, v29, v30, v31, v32, .int 0, .int 1000000000, v35, v36, v37, v38, v39, v40, v41, v42]))]) hP hD hS hA [2] rfl rfl (by decide)
  refine va_calli (va_runV (C := "ValueBenchModel") (As := []) (rest := []) ⟨hx, hb, hml, hown, htx⟩ (cM_thrown_1 l hl9 D cT aK aV H.size a1 v12 (.int 0) v14 (.int 0) v16 v17 (.int 0) v19 (.int 0) v21 v22 (.int 0) v24 v25 v26 v27 v28 v29 v30 v31 v32 (.int 0) (.int 1000000000) v35 v36 v37 v38 v39 v40 v41 v42) ⟨callB_of 0 htx (xw_goodC kw_5_187) rfl rfl rfl (htx _ kw_1_5) (htx _ kw_5_184) ⟨by decide, by decide, by decide +kernel⟩ ⟨Nat.le_of_ble_eq_true rfl, Nat.le_of_ble_eq_true rfl⟩, (htx _ kw_5_185), (htx _ kw_5_186)⟩ ⟨xPre_blind, va_recv hK hP (ci := 5) rfl (q0 := 2) rfl, (fun U hU hW => ⟨rfl, xPre_of hZ hS hFc hPc hDc hK U hU hW⟩)⟩ rfl rfl hl.1 rfl (lv_room (Nat.le_of_ble_eq_true rfl)) dL_law_486 ⟨Nat.le_of_ble_eq_true rfl, Nat.le_of_ble_eq_true rfl⟩) hS (fun q _ h => hFc q h) hFc (fun r3 u9 t H1 locs ht hvm hr9 hB hz1 hk1 hS => ?_)
  obtain ⟨hP1, hK1, hD1⟩ := hB
  rw [ht] at hP1
  obtain ⟨hP, hD⟩ := xjoin (W := [(a2, .inl (cT 2, 1, .inr (.inl f43))), (a0, .inr (0, [v3, v4, v5, v6, v7, v8, v9, v10])), (a1, .inr (5, [.int 1, v12, .int 0, v14, .int 0, v16, v17, .int 0, v19, .int 0, v21, v22, .int 0, v24, v25, v26, v27, v28, v29, v30, v31, v32, .int 0, .int 1000000000, v35, v36, v37, v38, v39, v40, v41, v42]))]) hP hD [2] [0, 1] 2 rfl rfl (by decide) (by decide) hk1 hFc hP1 hD1
  generalize H1 = H at hP hS ⊢
  rw [hr9]
  refine W.eq (g2 := F0 m 489 ls [.int 1]) rfl ?_
  refine lv_iload hx hb dL_law_489 (lv_at hl 1 rfl) ?_
  refine lv_icmp_eq (tgt := 496) hx hb dL_law_491 (by decide) (fun _ => ?_) (fun h => ((by revert h; decide : False)).elim)
  refine lv_iload hx hb dL_law_496 (lv_at hl 1 rfl) ?_
  refine lv_if_ne (tgt := 513) hx hb dL_law_498 (by decide) (fun _ => ?_) (fun h => ((by revert h; decide : False)).elim)
  refine lv_goto (tgt := 906) hx hb dL_law_513 (by decide) ?_
  refine lv_iinc (v := 6) (lv' := [(4, .int 6), (6, .int 0), (5, .int 1), (3, .ref a2), (2, .ref a1), (1, .ref a0), (0, .ref b)]) hx hb dL_law_906 hl (k := 2) rfl (by decide) (by decide) rfl (fun ls hl => ?_)
  refine lv_goto (tgt := 23) hx hb dL_law_909 (by decide) ?_
  refine lv_iload hx hb dL_law_23 (lv_at hl 0 rfl) ?_
  refine lv_aload_n hx hb dL_law_25 rfl (lv_at hl 6 rfl) ?_
  refine va_slen hx hb hXs hbl hbA hS dL_law_26 ?_
  refine W.eq (g2 := F0 m 27 ls [.int 6, .int 6]) rfl ?_
  refine lv_bipush (v := 6) hx hb dL_law_27 (by decide) ?_
  refine lv_isub hx hb dL_law_29 ?_
  refine W.eq (g2 := F0 m 30 ls [.int 0, .int 6]) rfl ?_
  refine lv_icmp_gt (tgt := 912) hx hb dL_law_30 (by decide) (fun _ => ?_) (fun h => ((by revert h; decide : False)).elim)
  refine lv_iconst (v := 1) hx hb dL_law_912 (by decide) ?_
  exact va_forget (fun q h => hA2 _ (hS.2.2 q h)) (W.widen (k := 600002) (n := 7302232) (Nat.le_of_ble_eq_true rfl) (Nat.le_of_ble_eq_true rfl) (lw_ret hx hb hr hlocks dL_law_913))
set_option maxHeartbeats 400000000 in
set_option maxRecDepth 100000 in
theorem lf_compare_ahi {p : Program} {e : Env} {s : State} {m : MethodId} {below : List Frame} {meth : Method} {c : Code} (l : Launch) (hl9 : l.stackTraces = false) (D : va_G) (cT : Nat → ClassId) (aK aV : Nat → Nat) {A : Nat → Prop} {b : Nat} {xs : Nat → Int32} (C : xLw p s m meth c b D cT aK aV A) {H : Heap} {locs : List Loc} {ls : Array Slot} (a0 : Nat) (a1 : Nat) (a2 : Nat) (v3 : Value) (v4 : Value) (v5 : Value) (v6 : Value) (v7 : Value) (v8 : Value) (v9 : Value) (v10 : Value) (v11 : Value) (v12 : Value) (v13 : Value) (v14 : Value) (v15 : Value) (v16 : Value) (v17 : Value) (v18 : Value) (v19 : Value) (v20 : Value) (v21 : Value) (v22 : Value) (v23 : Value) (v24 : Value) (v25 : Value) (v26 : Value) (v27 : Value) (v28 : Value) (v29 : Value) (v30 : Value) (v31 : Value) (v32 : Value) (v33 : Value) (v34 : Value) (v35 : Value) (v36 : Value) (v37 : Value) (v38 : Value) (v39 : Value) (v40 : Value) (v41 : Value) (v42 : Value) (f43 : Nat → Int64) (ha1 : ¬ (xs 1) < 0) (ha2 : 7 < (xs 1)) (ha3 : ¬ (xs 1) ≤ 7) (hXs : va_X b 6 xs s s.heap) (hP : va_P D xcl [(a0, .inr (0, [v3, v4, v5, v6, v7, v8, v9, v10])), (a1, .inr (5, [v11, v12, v13, v14, v15, v16, v17, v18, v19, v20, v21, v22, v23, v24, v25, v26, v27, v28, v29, v30, v31, v32, v33, v34, v35, v36, v37, v38, v39, v40, v41, v42])), (a2, .inl (cT 2, 1, .inr (.inl f43)))] H) (hD : va_D A [(a0, .inr (0, [v3, v4, v5, v6, v7, v8, v9, v10])), (a1, .inr (5, [v11, v12, v13, v14, v15, v16, v17, v18, v19, v20, v21, v22, v23, v24, v25, v26, v27, v28, v29, v30, v31, v32, v33, v34, v35, v36, v37, v38, v39, v40, v41, v42])), (a2, .inl (cT 2, 1, .inr (.inl f43)))]) (hS : va_S A s.heap H locs) (hl : lv_has ls 8 [(4, .int 0), (3, .ref a2), (2, .ref a1), (1, .ref a0), (0, .ref b)]) : W p l e room_1 s m #[Value.ref b] below meth c H locs 54 107242 (lw_Z below #[Value.ref b] s) (F0 m 448 ls []) := by
  obtain ⟨hx, hb, hr, hml, hown, htx, hbl, hbA, hlocks, hK, hZ, hA, hA2⟩ := C
  refine lv_aload_n hx hb dL_law_448 rfl (lv_at hl 3 rfl) ?_
  refine lv_aload_n hx hb dL_law_449 rfl (lv_at hl 4 rfl) ?_
  refine lv_iload hx hb dL_law_450 (lv_at hl 0 rfl) ?_
  refine lv_iconst (v := 1) hx hb dL_law_452 (by decide) ?_
  refine lv_iadd hx hb dL_law_453 ?_
  refine W.eq (g2 := F0 m 454 ls [.int 1, .ref b, .ref a0]) rfl ?_
  refine va_sld hx hb hXs hbl hbA hS (i := 1) (show ¬ ((1 : Int32) < 0 ∨ 6 ≤ (1 : Int32).toNatClampNeg) by decide) dL_law_454 ?_
  refine W.eq (g2 := F0 m 455 ls [.int (xs 1), .ref a0]) rfl ?_
  refine lv_aload_n hx hb dL_law_455 rfl (lv_at hl 4 rfl) ?_
  refine lv_iload hx hb dL_law_456 (lv_at hl 0 rfl) ?_
  refine lv_iconst (v := 2) hx hb dL_law_458 (by decide) ?_
  refine lv_iadd hx hb dL_law_459 ?_
  refine W.eq (g2 := F0 m 460 ls [.int 2, .ref b, .int (xs 1), .ref a0]) rfl ?_
  refine va_sld hx hb hXs hbl hbA hS (i := 2) (show ¬ ((2 : Int32) < 0 ∨ 6 ≤ (2 : Int32).toNatClampNeg) by decide) dL_law_460 ?_
  refine W.eq (g2 := F0 m 461 ls [.int (xs 2), .int (xs 1), .ref a0]) rfl ?_
  refine lv_aload_n hx hb dL_law_461 rfl (lv_at hl 1 rfl) ?_
  obtain ⟨hPc, hDc, hFc⟩ := xcut (wc := [(a0, .inr (0, [v3, v4, v5, v6, v7, v8, v9, v10]))]) hP hD hS hA [0] rfl rfl (by decide)
  refine va_calli (vx_runSW (As := [.ref a0, .int (xs 1), .int (xs 2), .ref a2]) (rest := []) ⟨hx, hb, hml, hown, htx⟩ (cL_compare_1 l hl9 D cT aK aV H.size a0 (xs 1) (xs 2) a2 v3 v4 v5 v6 v7 v8 v9 v10 ha1 ha2 ha3) (xcSW 4 htx (xw_goodC kw_4_5) rfl rfl rfl (htx _ kw_1_0) (htx _ kw_4_3) ⟨by decide, by decide, by decide +kernel⟩ ⟨Nat.le_of_ble_eq_true rfl, Nat.le_of_ble_eq_true rfl⟩ (htx _ kw_4_4)) ⟨xPre_blind, (fun U hU hW => ⟨rfl, xPre_of hZ hS hFc hPc hDc hK U hU hW⟩)⟩ rfl rfl hl.1 rfl (lv_room (Nat.le_of_ble_eq_true rfl)) dL_law_462 ⟨Nat.le_of_ble_eq_true rfl, Nat.le_of_ble_eq_true rfl⟩) hS (fun q _ h => hFc q h) hFc (fun r1 u9 t H1 locs ht hvm hr9 hB hz1 hk1 hS => ?_)
  obtain ⟨hP1, hK1, hD1⟩ := hB
  rw [ht] at hP1
  obtain ⟨hP, hD⟩ := xjoin (W := [(a1, .inr (5, [v11, v12, v13, v14, v15, v16, v17, v18, v19, v20, v21, v22, v23, v24, v25, v26, v27, v28, v29, v30, v31, v32, v33, v34, v35, v36, v37, v38, v39, v40, v41, v42])), (a2, .inl (cT 2, 1, .inr (.inl f43))), (a0, .inr (0, [v3, v4, v5, v6, v7, v8, v9, v10]))]) hP hD [0] [1, 2] 2 rfl rfl (by decide) (by decide) hk1 hFc hP1 hD1
  generalize H1 = H at hP hS ⊢
  rw [hr9]
  refine W.eq (g2 := F0 m 465 ls [.int 1]) rfl ?_
  refine lv_istore (lv' := [(5, .int 1), (4, .int 0), (3, .ref a2), (2, .ref a1), (1, .ref a0), (0, .ref b)]) hx hb dL_law_465 hl (by decide) rfl (fun ls hl => ?_)
  refine lv_aload_n hx hb dL_law_467 rfl (lv_at hl 3 rfl) ?_
  refine lv_aload_n hx hb dL_law_468 rfl (lv_at hl 5 rfl) ?_
  refine lv_iload hx hb dL_law_469 (lv_at hl 1 rfl) ?_
  refine lv_iconst (v := 1) hx hb dL_law_471 (by decide) ?_
  refine lv_iadd hx hb dL_law_472 ?_
  refine W.eq (g2 := F0 m 473 ls [.int 1, .ref b, .ref a1]) rfl ?_
  refine va_sld hx hb hXs hbl hbA hS (i := 1) (show ¬ ((1 : Int32) < 0 ∨ 6 ≤ (1 : Int32).toNatClampNeg) by decide) dL_law_473 ?_
  refine W.eq (g2 := F0 m 474 ls [.int (xs 1), .ref a1]) rfl ?_
  refine lv_aload_n hx hb dL_law_474 rfl (lv_at hl 5 rfl) ?_
  refine lv_iload hx hb dL_law_475 (lv_at hl 1 rfl) ?_
  refine lv_iconst (v := 2) hx hb dL_law_477 (by decide) ?_
  refine lv_iadd hx hb dL_law_478 ?_
  refine W.eq (g2 := F0 m 479 ls [.int 2, .ref b, .int (xs 1), .ref a1]) rfl ?_
  refine va_sld hx hb hXs hbl hbA hS (i := 2) (show ¬ ((2 : Int32) < 0 ∨ 6 ≤ (2 : Int32).toNatClampNeg) by decide) dL_law_479 ?_
  refine W.eq (g2 := F0 m 480 ls [.int (xs 2), .int (xs 1), .ref a1]) rfl ?_
  obtain ⟨hPc, hDc, hFc⟩ := xcut (wc := [(a1, .inr (5, [v11, v12, v13, v14, v15, v16, v17, v18, v19, v20, v21, v22, v23, v24, v25, v26, v27, v28, v29, v30, v31, v32, v33, v34, v35, v36, v37, v38, v39, v40, v41, v42]))]) hP hD hS hA [0] rfl rfl (by decide)
  refine va_calli (va_runV (C := "ValueBenchModel") (As := [.int (xs 1), .int (xs 2)]) (rest := []) ⟨hx, hb, hml, hown, htx⟩ (cM_compare_1 l hl9 D cT aK aV H.size a1 (xs 1) (xs 2) v11 v12 v13 v14 v15 v16 v17 v18 v19 v20 v21 v22 v23 v24 v25 v26 v27 v28 v29 v30 v31 v32 v33 v34 v35 v36 v37 v38 v39 v40 v41 v42 ha1 ha2 ha3) ⟨callB_of 2 htx (xw_goodC kw_7_119) rfl rfl rfl (htx _ kw_1_5) (htx _ kw_7_116) ⟨by decide, by decide, by decide +kernel⟩ ⟨Nat.le_of_ble_eq_true rfl, Nat.le_of_ble_eq_true rfl⟩, (htx _ kw_7_117), (htx _ kw_7_118)⟩ ⟨xPre_blind, va_recv hK hP (ci := 5) rfl (q0 := 0) rfl, (fun U hU hW => ⟨rfl, xPre_of hZ hS hFc hPc hDc hK U hU hW⟩)⟩ rfl rfl hl.1 rfl (lv_room (Nat.le_of_ble_eq_true rfl)) dL_law_480 ⟨Nat.le_of_ble_eq_true rfl, Nat.le_of_ble_eq_true rfl⟩) hS (fun q _ h => hFc q h) hFc (fun r2 u9 t H1 locs ht hvm hr9 hB hz1 hk1 hS => ?_)
  obtain ⟨hP1, hK1, hD1⟩ := hB
  rw [ht] at hP1
  obtain ⟨hP, hD⟩ := xjoin (W := [(a2, .inl (cT 2, 1, .inr (.inl f43))), (a0, .inr (0, [v3, v4, v5, v6, v7, v8, v9, v10])), (a1, .inr (5, [.int 1, v12, .int 0, v14, .int 0, v16, v17, .int 0, v19, .int 0, v21, v22, .int 0, v24, v25, v26, v27, v28, v29, v30, v31, v32, .int 0, .int 1000000000, v35, v36, v37, v38, v39, v40, v41, v42]))]) hP hD [0] [1, 2] 2 rfl rfl (by decide) (by decide) hk1 hFc hP1 hD1
  generalize H1 = H at hP hS ⊢
  rw [hr9]
  refine W.eq (g2 := F0 m 483 ls [.int 0]) rfl ?_
  refine lv_istore (lv' := [(6, .int 0), (5, .int 1), (4, .int 0), (3, .ref a2), (2, .ref a1), (1, .ref a0), (0, .ref b)]) hx hb dL_law_483 hl (by decide) rfl (fun ls hl => ?_)
  refine lv_aload_n hx hb dL_law_485 rfl (lv_at hl 4 rfl) ?_
  obtain ⟨hPc, hDc, hFc⟩ := xcut (wc := [(a1, .inr (5, [.int 1, v12, .int 0, v14, .int 0, v16, v17, .int 0, v19, .int 0, v21, v22, .int 0, v24, v25, v26, v27, v28, v29, v30, v31, v32, .int 0, .int 1000000000, v35, v36, v37, v38, v39, v40, v41, v42]))]) hP hD hS hA [2] rfl rfl (by decide)
  refine va_calli (va_runV (C := "ValueBenchModel") (As := []) (rest := []) ⟨hx, hb, hml, hown, htx⟩ (cM_thrown_1 l hl9 D cT aK aV H.size a1 v12 (.int 0) v14 (.int 0) v16 v17 (.int 0) v19 (.int 0) v21 v22 (.int 0) v24 v25 v26 v27 v28 v29 v30 v31 v32 (.int 0) (.int 1000000000) v35 v36 v37 v38 v39 v40 v41 v42) ⟨callB_of 0 htx (xw_goodC kw_5_187) rfl rfl rfl (htx _ kw_1_5) (htx _ kw_5_184) ⟨by decide, by decide, by decide +kernel⟩ ⟨Nat.le_of_ble_eq_true rfl, Nat.le_of_ble_eq_true rfl⟩, (htx _ kw_5_185), (htx _ kw_5_186)⟩ ⟨xPre_blind, va_recv hK hP (ci := 5) rfl (q0 := 2) rfl, (fun U hU hW => ⟨rfl, xPre_of hZ hS hFc hPc hDc hK U hU hW⟩)⟩ rfl rfl hl.1 rfl (lv_room (Nat.le_of_ble_eq_true rfl)) dL_law_486 ⟨Nat.le_of_ble_eq_true rfl, Nat.le_of_ble_eq_true rfl⟩) hS (fun q _ h => hFc q h) hFc (fun r3 u9 t H1 locs ht hvm hr9 hB hz1 hk1 hS => ?_)
  obtain ⟨hP1, hK1, hD1⟩ := hB
  rw [ht] at hP1
  obtain ⟨hP, hD⟩ := xjoin (W := [(a2, .inl (cT 2, 1, .inr (.inl f43))), (a0, .inr (0, [v3, v4, v5, v6, v7, v8, v9, v10])), (a1, .inr (5, [.int 1, v12, .int 0, v14, .int 0, v16, v17, .int 0, v19, .int 0, v21, v22, .int 0, v24, v25, v26, v27, v28, v29, v30, v31, v32, .int 0, .int 1000000000, v35, v36, v37, v38, v39, v40, v41, v42]))]) hP hD [2] [0, 1] 2 rfl rfl (by decide) (by decide) hk1 hFc hP1 hD1
  generalize H1 = H at hP hS ⊢
  rw [hr9]
  refine W.eq (g2 := F0 m 489 ls [.int 1]) rfl ?_
  refine lv_iload hx hb dL_law_489 (lv_at hl 1 rfl) ?_
  refine lv_icmp_eq (tgt := 496) hx hb dL_law_491 (by decide) (fun _ => ?_) (fun h => ((by revert h; decide : False)).elim)
  refine lv_iload hx hb dL_law_496 (lv_at hl 1 rfl) ?_
  refine lv_if_ne (tgt := 513) hx hb dL_law_498 (by decide) (fun _ => ?_) (fun h => ((by revert h; decide : False)).elim)
  refine lv_goto (tgt := 906) hx hb dL_law_513 (by decide) ?_
  refine lv_iinc (v := 6) (lv' := [(4, .int 6), (6, .int 0), (5, .int 1), (3, .ref a2), (2, .ref a1), (1, .ref a0), (0, .ref b)]) hx hb dL_law_906 hl (k := 2) rfl (by decide) (by decide) rfl (fun ls hl => ?_)
  refine lv_goto (tgt := 23) hx hb dL_law_909 (by decide) ?_
  refine lv_iload hx hb dL_law_23 (lv_at hl 0 rfl) ?_
  refine lv_aload_n hx hb dL_law_25 rfl (lv_at hl 6 rfl) ?_
  refine va_slen hx hb hXs hbl hbA hS dL_law_26 ?_
  refine W.eq (g2 := F0 m 27 ls [.int 6, .int 6]) rfl ?_
  refine lv_bipush (v := 6) hx hb dL_law_27 (by decide) ?_
  refine lv_isub hx hb dL_law_29 ?_
  refine W.eq (g2 := F0 m 30 ls [.int 0, .int 6]) rfl ?_
  refine lv_icmp_gt (tgt := 912) hx hb dL_law_30 (by decide) (fun _ => ?_) (fun h => ((by revert h; decide : False)).elim)
  refine lv_iconst (v := 1) hx hb dL_law_912 (by decide) ?_
  exact va_forget (fun q h => hA2 _ (hS.2.2 q h)) (W.widen (k := 600002) (n := 7302232) (Nat.le_of_ble_eq_true rfl) (Nat.le_of_ble_eq_true rfl) (lw_ret hx hb hr hlocks dL_law_913))
set_option maxHeartbeats 400000000 in
set_option maxRecDepth 100000 in
theorem lf_compare_blo {p : Program} {e : Env} {s : State} {m : MethodId} {below : List Frame} {meth : Method} {c : Code} (l : Launch) (hl9 : l.stackTraces = false) (D : va_G) (cT : Nat → ClassId) (aK aV : Nat → Nat) {A : Nat → Prop} {b : Nat} {xs : Nat → Int32} (C : xLw p s m meth c b D cT aK aV A) {H : Heap} {locs : List Loc} {ls : Array Slot} (a0 : Nat) (a1 : Nat) (a2 : Nat) (v3 : Value) (v4 : Value) (v5 : Value) (v6 : Value) (v7 : Value) (v8 : Value) (v9 : Value) (v10 : Value) (v11 : Value) (v12 : Value) (v13 : Value) (v14 : Value) (v15 : Value) (v16 : Value) (v17 : Value) (v18 : Value) (v19 : Value) (v20 : Value) (v21 : Value) (v22 : Value) (v23 : Value) (v24 : Value) (v25 : Value) (v26 : Value) (v27 : Value) (v28 : Value) (v29 : Value) (v30 : Value) (v31 : Value) (v32 : Value) (v33 : Value) (v34 : Value) (v35 : Value) (v36 : Value) (v37 : Value) (v38 : Value) (v39 : Value) (v40 : Value) (v41 : Value) (v42 : Value) (f43 : Nat → Int64) (ha1 : ¬ (xs 1) < 0) (ha2 : ¬ 7 < (xs 1)) (ha3 : (xs 1) ≤ 7) (ha4 : vp_in (xs 1) 8) (hb1 : (xs 2) < 0) (hXs : va_X b 6 xs s s.heap) (hP : va_P D xcl [(a0, .inr (0, [v3, v4, v5, v6, v7, v8, v9, v10])), (a1, .inr (5, [v11, v12, v13, v14, v15, v16, v17, v18, v19, v20, v21, v22, v23, v24, v25, v26, v27, v28, v29, v30, v31, v32, v33, v34, v35, v36, v37, v38, v39, v40, v41, v42])), (a2, .inl (cT 2, 1, .inr (.inl f43)))] H) (hD : va_D A [(a0, .inr (0, [v3, v4, v5, v6, v7, v8, v9, v10])), (a1, .inr (5, [v11, v12, v13, v14, v15, v16, v17, v18, v19, v20, v21, v22, v23, v24, v25, v26, v27, v28, v29, v30, v31, v32, v33, v34, v35, v36, v37, v38, v39, v40, v41, v42])), (a2, .inl (cT 2, 1, .inr (.inl f43)))]) (hS : va_S A s.heap H locs) (hl : lv_has ls 8 [(4, .int 0), (3, .ref a2), (2, .ref a1), (1, .ref a0), (0, .ref b)]) : W p l e room_1 s m #[Value.ref b] below meth c H locs 54 107242 (lw_Z below #[Value.ref b] s) (F0 m 448 ls []) := by
  obtain ⟨hx, hb, hr, hml, hown, htx, hbl, hbA, hlocks, hK, hZ, hA, hA2⟩ := C
  refine lv_aload_n hx hb dL_law_448 rfl (lv_at hl 3 rfl) ?_
  refine lv_aload_n hx hb dL_law_449 rfl (lv_at hl 4 rfl) ?_
  refine lv_iload hx hb dL_law_450 (lv_at hl 0 rfl) ?_
  refine lv_iconst (v := 1) hx hb dL_law_452 (by decide) ?_
  refine lv_iadd hx hb dL_law_453 ?_
  refine W.eq (g2 := F0 m 454 ls [.int 1, .ref b, .ref a0]) rfl ?_
  refine va_sld hx hb hXs hbl hbA hS (i := 1) (show ¬ ((1 : Int32) < 0 ∨ 6 ≤ (1 : Int32).toNatClampNeg) by decide) dL_law_454 ?_
  refine W.eq (g2 := F0 m 455 ls [.int (xs 1), .ref a0]) rfl ?_
  refine lv_aload_n hx hb dL_law_455 rfl (lv_at hl 4 rfl) ?_
  refine lv_iload hx hb dL_law_456 (lv_at hl 0 rfl) ?_
  refine lv_iconst (v := 2) hx hb dL_law_458 (by decide) ?_
  refine lv_iadd hx hb dL_law_459 ?_
  refine W.eq (g2 := F0 m 460 ls [.int 2, .ref b, .int (xs 1), .ref a0]) rfl ?_
  refine va_sld hx hb hXs hbl hbA hS (i := 2) (show ¬ ((2 : Int32) < 0 ∨ 6 ≤ (2 : Int32).toNatClampNeg) by decide) dL_law_460 ?_
  refine W.eq (g2 := F0 m 461 ls [.int (xs 2), .int (xs 1), .ref a0]) rfl ?_
  refine lv_aload_n hx hb dL_law_461 rfl (lv_at hl 1 rfl) ?_
  obtain ⟨hPc, hDc, hFc⟩ := xcut (wc := [(a0, .inr (0, [v3, v4, v5, v6, v7, v8, v9, v10]))]) hP hD hS hA [0] rfl rfl (by decide)
  refine va_calli (vx_runSW (As := [.ref a0, .int (xs 1), .int (xs 2), .ref a2]) (rest := []) ⟨hx, hb, hml, hown, htx⟩ (cL_compare_2 l hl9 D cT aK aV H.size a0 (xs 1) (xs 2) a2 v3 v4 v5 v6 v7 v8 v9 v10 ha1 ha2 ha3 ha4 hb1) (xcSW 4 htx (xw_goodC kw_4_5) rfl rfl rfl (htx _ kw_1_0) (htx _ kw_4_3) ⟨by decide, by decide, by decide +kernel⟩ ⟨Nat.le_of_ble_eq_true rfl, Nat.le_of_ble_eq_true rfl⟩ (htx _ kw_4_4)) ⟨xPre_blind, (fun U hU hW => ⟨rfl, xPre_of hZ hS hFc hPc hDc hK U hU hW⟩)⟩ rfl rfl hl.1 rfl (lv_room (Nat.le_of_ble_eq_true rfl)) dL_law_462 ⟨Nat.le_of_ble_eq_true rfl, Nat.le_of_ble_eq_true rfl⟩) hS (fun q _ h => hFc q h) hFc (fun r1 u9 t H1 locs ht hvm hr9 hB hz1 hk1 hS => ?_)
  obtain ⟨hP1, hK1, hD1⟩ := hB
  rw [ht] at hP1
  obtain ⟨hP, hD⟩ := xjoin (W := [(a1, .inr (5, [v11, v12, v13, v14, v15, v16, v17, v18, v19, v20, v21, v22, v23, v24, v25, v26, v27, v28, v29, v30, v31, v32, v33, v34, v35, v36, v37, v38, v39, v40, v41, v42])), (a2, .inl (cT 2, 1, .inr (.inl f43))), (a0, .inr (0, [v3, v4, v5, v6, v7, v8, v9, v10]))]) hP hD [0] [1, 2] 2 rfl rfl (by decide) (by decide) hk1 hFc hP1 hD1
  generalize H1 = H at hP hS ⊢
  rw [hr9]
  refine W.eq (g2 := F0 m 465 ls [.int 1]) rfl ?_
  refine lv_istore (lv' := [(5, .int 1), (4, .int 0), (3, .ref a2), (2, .ref a1), (1, .ref a0), (0, .ref b)]) hx hb dL_law_465 hl (by decide) rfl (fun ls hl => ?_)
  refine lv_aload_n hx hb dL_law_467 rfl (lv_at hl 3 rfl) ?_
  refine lv_aload_n hx hb dL_law_468 rfl (lv_at hl 5 rfl) ?_
  refine lv_iload hx hb dL_law_469 (lv_at hl 1 rfl) ?_
  refine lv_iconst (v := 1) hx hb dL_law_471 (by decide) ?_
  refine lv_iadd hx hb dL_law_472 ?_
  refine W.eq (g2 := F0 m 473 ls [.int 1, .ref b, .ref a1]) rfl ?_
  refine va_sld hx hb hXs hbl hbA hS (i := 1) (show ¬ ((1 : Int32) < 0 ∨ 6 ≤ (1 : Int32).toNatClampNeg) by decide) dL_law_473 ?_
  refine W.eq (g2 := F0 m 474 ls [.int (xs 1), .ref a1]) rfl ?_
  refine lv_aload_n hx hb dL_law_474 rfl (lv_at hl 5 rfl) ?_
  refine lv_iload hx hb dL_law_475 (lv_at hl 1 rfl) ?_
  refine lv_iconst (v := 2) hx hb dL_law_477 (by decide) ?_
  refine lv_iadd hx hb dL_law_478 ?_
  refine W.eq (g2 := F0 m 479 ls [.int 2, .ref b, .int (xs 1), .ref a1]) rfl ?_
  refine va_sld hx hb hXs hbl hbA hS (i := 2) (show ¬ ((2 : Int32) < 0 ∨ 6 ≤ (2 : Int32).toNatClampNeg) by decide) dL_law_479 ?_
  refine W.eq (g2 := F0 m 480 ls [.int (xs 2), .int (xs 1), .ref a1]) rfl ?_
  obtain ⟨hPc, hDc, hFc⟩ := xcut (wc := [(a1, .inr (5, [v11, v12, v13, v14, v15, v16, v17, v18, v19, v20, v21, v22, v23, v24, v25, v26, v27, v28, v29, v30, v31, v32, v33, v34, v35, v36, v37, v38, v39, v40, v41, v42]))]) hP hD hS hA [0] rfl rfl (by decide)
  refine va_calli (va_runV (C := "ValueBenchModel") (As := [.int (xs 1), .int (xs 2)]) (rest := []) ⟨hx, hb, hml, hown, htx⟩ (cM_compare_2 l hl9 D cT aK aV H.size a1 (xs 1) (xs 2) v11 v12 v13 v14 v15 v16 v17 v18 v19 v20 v21 v22 v23 v24 v25 v26 v27 v28 v29 v30 v31 v32 v33 v34 v35 v36 v37 v38 v39 v40 v41 v42 ha1 ha2 ha3 ha4 hb1) ⟨callB_of 2 htx (xw_goodC kw_7_119) rfl rfl rfl (htx _ kw_1_5) (htx _ kw_7_116) ⟨by decide, by decide, by decide +kernel⟩ ⟨Nat.le_of_ble_eq_true rfl, Nat.le_of_ble_eq_true rfl⟩, (htx _ kw_7_117), (htx _ kw_7_118)⟩ ⟨xPre_blind, va_recv hK hP (ci := 5) rfl (q0 := 0) rfl, (fun U hU hW => ⟨rfl, xPre_of hZ hS hFc hPc hDc hK U hU hW⟩)⟩ rfl rfl hl.1 rfl (lv_room (Nat.le_of_ble_eq_true rfl)) dL_law_480 ⟨Nat.le_of_ble_eq_true rfl, Nat.le_of_ble_eq_true rfl⟩) hS (fun q _ h => hFc q h) hFc (fun r2 u9 t H1 locs ht hvm hr9 hB hz1 hk1 hS => ?_)
  obtain ⟨hP1, hK1, hD1⟩ := hB
  rw [ht] at hP1
  obtain ⟨hP, hD⟩ := xjoin (W := [(a2, .inl (cT 2, 1, .inr (.inl f43))), (a0, .inr (0, [v3, v4, v5, v6, v7, v8, v9, v10])), (a1, .inr (5, [.int 1, v12, .int 0, v14, .int 0, v16, v17, .int 0, v19, .int 0, v21, v22, .int 0, v24, v25, v26, v27, v28, v29, v30, v31, v32, .int 0, .int 1000000000, v35, v36, v37, v38, v39, v40, v41, v42]))]) hP hD [0] [1, 2] 2 rfl rfl (by decide) (by decide) hk1 hFc hP1 hD1
  generalize H1 = H at hP hS ⊢
  rw [hr9]
  refine W.eq (g2 := F0 m 483 ls [.int 0]) rfl ?_
  refine lv_istore (lv' := [(6, .int 0), (5, .int 1), (4, .int 0), (3, .ref a2), (2, .ref a1), (1, .ref a0), (0, .ref b)]) hx hb dL_law_483 hl (by decide) rfl (fun ls hl => ?_)
  refine lv_aload_n hx hb dL_law_485 rfl (lv_at hl 4 rfl) ?_
  obtain ⟨hPc, hDc, hFc⟩ := xcut (wc := [(a1, .inr (5, [.int 1, v12, .int 0, v14, .int 0, v16, v17, .int 0, v19, .int 0, v21, v22, .int 0, v24, v25, v26, v27, v28, v29, v30, v31, v32, .int 0, .int 1000000000, v35, v36, v37, v38, v39, v40, v41, v42]))]) hP hD hS hA [2] rfl rfl (by decide)
  refine va_calli (va_runV (C := "ValueBenchModel") (As := []) (rest := []) ⟨hx, hb, hml, hown, htx⟩ (cM_thrown_1 l hl9 D cT aK aV H.size a1 v12 (.int 0) v14 (.int 0) v16 v17 (.int 0) v19 (.int 0) v21 v22 (.int 0) v24 v25 v26 v27 v28 v29 v30 v31 v32 (.int 0) (.int 1000000000) v35 v36 v37 v38 v39 v40 v41 v42) ⟨callB_of 0 htx (xw_goodC kw_5_187) rfl rfl rfl (htx _ kw_1_5) (htx _ kw_5_184) ⟨by decide, by decide, by decide +kernel⟩ ⟨Nat.le_of_ble_eq_true rfl, Nat.le_of_ble_eq_true rfl⟩, (htx _ kw_5_185), (htx _ kw_5_186)⟩ ⟨xPre_blind, va_recv hK hP (ci := 5) rfl (q0 := 2) rfl, (fun U hU hW => ⟨rfl, xPre_of hZ hS hFc hPc hDc hK U hU hW⟩)⟩ rfl rfl hl.1 rfl (lv_room (Nat.le_of_ble_eq_true rfl)) dL_law_486 ⟨Nat.le_of_ble_eq_true rfl, Nat.le_of_ble_eq_true rfl⟩) hS (fun q _ h => hFc q h) hFc (fun r3 u9 t H1 locs ht hvm hr9 hB hz1 hk1 hS => ?_)
  obtain ⟨hP1, hK1, hD1⟩ := hB
  rw [ht] at hP1
  obtain ⟨hP, hD⟩ := xjoin (W := [(a2, .inl (cT 2, 1, .inr (.inl f43))), (a0, .inr (0, [v3, v4, v5, v6, v7, v8, v9, v10])), (a1, .inr (5, [.int 1, v12, .int 0, v14, .int 0, v16, v17, .int 0, v19, .int 0, v21, v22, .int 0, v24, v25, v26, v27, v28, v29, v30, v31, v32, .int 0, .int 1000000000, v35, v36, v37, v38, v39, v40, v41, v42]))]) hP hD [2] [0, 1] 2 rfl rfl (by decide) (by decide) hk1 hFc hP1 hD1
  generalize H1 = H at hP hS ⊢
  rw [hr9]
  refine W.eq (g2 := F0 m 489 ls [.int 1]) rfl ?_
  refine lv_iload hx hb dL_law_489 (lv_at hl 1 rfl) ?_
  refine lv_icmp_eq (tgt := 496) hx hb dL_law_491 (by decide) (fun _ => ?_) (fun h => ((by revert h; decide : False)).elim)
  refine lv_iload hx hb dL_law_496 (lv_at hl 1 rfl) ?_
  refine lv_if_ne (tgt := 513) hx hb dL_law_498 (by decide) (fun _ => ?_) (fun h => ((by revert h; decide : False)).elim)
  refine lv_goto (tgt := 906) hx hb dL_law_513 (by decide) ?_
  refine lv_iinc (v := 6) (lv' := [(4, .int 6), (6, .int 0), (5, .int 1), (3, .ref a2), (2, .ref a1), (1, .ref a0), (0, .ref b)]) hx hb dL_law_906 hl (k := 2) rfl (by decide) (by decide) rfl (fun ls hl => ?_)
  refine lv_goto (tgt := 23) hx hb dL_law_909 (by decide) ?_
  refine lv_iload hx hb dL_law_23 (lv_at hl 0 rfl) ?_
  refine lv_aload_n hx hb dL_law_25 rfl (lv_at hl 6 rfl) ?_
  refine va_slen hx hb hXs hbl hbA hS dL_law_26 ?_
  refine W.eq (g2 := F0 m 27 ls [.int 6, .int 6]) rfl ?_
  refine lv_bipush (v := 6) hx hb dL_law_27 (by decide) ?_
  refine lv_isub hx hb dL_law_29 ?_
  refine W.eq (g2 := F0 m 30 ls [.int 0, .int 6]) rfl ?_
  refine lv_icmp_gt (tgt := 912) hx hb dL_law_30 (by decide) (fun _ => ?_) (fun h => ((by revert h; decide : False)).elim)
  refine lv_iconst (v := 1) hx hb dL_law_912 (by decide) ?_
  exact va_forget (fun q h => hA2 _ (hS.2.2 q h)) (W.widen (k := 600002) (n := 7302232) (Nat.le_of_ble_eq_true rfl) (Nat.le_of_ble_eq_true rfl) (lw_ret hx hb hr hlocks dL_law_913))
set_option maxHeartbeats 400000000 in
set_option maxRecDepth 100000 in
theorem lf_compare_bhi {p : Program} {e : Env} {s : State} {m : MethodId} {below : List Frame} {meth : Method} {c : Code} (l : Launch) (hl9 : l.stackTraces = false) (D : va_G) (cT : Nat → ClassId) (aK aV : Nat → Nat) {A : Nat → Prop} {b : Nat} {xs : Nat → Int32} (C : xLw p s m meth c b D cT aK aV A) {H : Heap} {locs : List Loc} {ls : Array Slot} (a0 : Nat) (a1 : Nat) (a2 : Nat) (v3 : Value) (v4 : Value) (v5 : Value) (v6 : Value) (v7 : Value) (v8 : Value) (v9 : Value) (v10 : Value) (v11 : Value) (v12 : Value) (v13 : Value) (v14 : Value) (v15 : Value) (v16 : Value) (v17 : Value) (v18 : Value) (v19 : Value) (v20 : Value) (v21 : Value) (v22 : Value) (v23 : Value) (v24 : Value) (v25 : Value) (v26 : Value) (v27 : Value) (v28 : Value) (v29 : Value) (v30 : Value) (v31 : Value) (v32 : Value) (v33 : Value) (v34 : Value) (v35 : Value) (v36 : Value) (v37 : Value) (v38 : Value) (v39 : Value) (v40 : Value) (v41 : Value) (v42 : Value) (f43 : Nat → Int64) (ha1 : ¬ (xs 1) < 0) (ha2 : ¬ 7 < (xs 1)) (ha3 : (xs 1) ≤ 7) (ha4 : vp_in (xs 1) 8) (hb1 : ¬ (xs 2) < 0) (hb2 : 7 < (xs 2)) (hb3 : ¬ (xs 2) ≤ 7) (hXs : va_X b 6 xs s s.heap) (hP : va_P D xcl [(a0, .inr (0, [v3, v4, v5, v6, v7, v8, v9, v10])), (a1, .inr (5, [v11, v12, v13, v14, v15, v16, v17, v18, v19, v20, v21, v22, v23, v24, v25, v26, v27, v28, v29, v30, v31, v32, v33, v34, v35, v36, v37, v38, v39, v40, v41, v42])), (a2, .inl (cT 2, 1, .inr (.inl f43)))] H) (hD : va_D A [(a0, .inr (0, [v3, v4, v5, v6, v7, v8, v9, v10])), (a1, .inr (5, [v11, v12, v13, v14, v15, v16, v17, v18, v19, v20, v21, v22, v23, v24, v25, v26, v27, v28, v29, v30, v31, v32, v33, v34, v35, v36, v37, v38, v39, v40, v41, v42])), (a2, .inl (cT 2, 1, .inr (.inl f43)))]) (hS : va_S A s.heap H locs) (hl : lv_has ls 8 [(4, .int 0), (3, .ref a2), (2, .ref a1), (1, .ref a0), (0, .ref b)]) : W p l e room_1 s m #[Value.ref b] below meth c H locs 54 107242 (lw_Z below #[Value.ref b] s) (F0 m 448 ls []) := by
  obtain ⟨hx, hb, hr, hml, hown, htx, hbl, hbA, hlocks, hK, hZ, hA, hA2⟩ := C
  refine lv_aload_n hx hb dL_law_448 rfl (lv_at hl 3 rfl) ?_
  refine lv_aload_n hx hb dL_law_449 rfl (lv_at hl 4 rfl) ?_
  refine lv_iload hx hb dL_law_450 (lv_at hl 0 rfl) ?_
  refine lv_iconst (v := 1) hx hb dL_law_452 (by decide) ?_
  refine lv_iadd hx hb dL_law_453 ?_
  refine W.eq (g2 := F0 m 454 ls [.int 1, .ref b, .ref a0]) rfl ?_
  refine va_sld hx hb hXs hbl hbA hS (i := 1) (show ¬ ((1 : Int32) < 0 ∨ 6 ≤ (1 : Int32).toNatClampNeg) by decide) dL_law_454 ?_
  refine W.eq (g2 := F0 m 455 ls [.int (xs 1), .ref a0]) rfl ?_
  refine lv_aload_n hx hb dL_law_455 rfl (lv_at hl 4 rfl) ?_
  refine lv_iload hx hb dL_law_456 (lv_at hl 0 rfl) ?_
  refine lv_iconst (v := 2) hx hb dL_law_458 (by decide) ?_
  refine lv_iadd hx hb dL_law_459 ?_
  refine W.eq (g2 := F0 m 460 ls [.int 2, .ref b, .int (xs 1), .ref a0]) rfl ?_
  refine va_sld hx hb hXs hbl hbA hS (i := 2) (show ¬ ((2 : Int32) < 0 ∨ 6 ≤ (2 : Int32).toNatClampNeg) by decide) dL_law_460 ?_
  refine W.eq (g2 := F0 m 461 ls [.int (xs 2), .int (xs 1), .ref a0]) rfl ?_
  refine lv_aload_n hx hb dL_law_461 rfl (lv_at hl 1 rfl) ?_
  obtain ⟨hPc, hDc, hFc⟩ := xcut (wc := [(a0, .inr (0, [v3, v4, v5, v6, v7, v8, v9, v10]))]) hP hD hS hA [0] rfl rfl (by decide)
  refine va_calli (vx_runSW (As := [.ref a0, .int (xs 1), .int (xs 2), .ref a2]) (rest := []) ⟨hx, hb, hml, hown, htx⟩ (cL_compare_3 l hl9 D cT aK aV H.size a0 (xs 1) (xs 2) a2 v3 v4 v5 v6 v7 v8 v9 v10 ha1 ha2 ha3 ha4 hb1 hb2 hb3) (xcSW 4 htx (xw_goodC kw_4_5) rfl rfl rfl (htx _ kw_1_0) (htx _ kw_4_3) ⟨by decide, by decide, by decide +kernel⟩ ⟨Nat.le_of_ble_eq_true rfl, Nat.le_of_ble_eq_true rfl⟩ (htx _ kw_4_4)) ⟨xPre_blind, (fun U hU hW => ⟨rfl, xPre_of hZ hS hFc hPc hDc hK U hU hW⟩)⟩ rfl rfl hl.1 rfl (lv_room (Nat.le_of_ble_eq_true rfl)) dL_law_462 ⟨Nat.le_of_ble_eq_true rfl, Nat.le_of_ble_eq_true rfl⟩) hS (fun q _ h => hFc q h) hFc (fun r1 u9 t H1 locs ht hvm hr9 hB hz1 hk1 hS => ?_)
  obtain ⟨hP1, hK1, hD1⟩ := hB
  rw [ht] at hP1
  obtain ⟨hP, hD⟩ := xjoin (W := [(a1, .inr (5, [v11, v12, v13, v14, v15, v16, v17, v18, v19, v20, v21, v22, v23, v24, v25, v26, v27, v28, v29, v30, v31, v32, v33, v34, v35, v36, v37, v38, v39, v40, v41, v42])), (a2, .inl (cT 2, 1, .inr (.inl f43))), (a0, .inr (0, [v3, v4, v5, v6, v7, v8, v9, v10]))]) hP hD [0] [1, 2] 2 rfl rfl (by decide) (by decide) hk1 hFc hP1 hD1
  generalize H1 = H at hP hS ⊢
  rw [hr9]
  refine W.eq (g2 := F0 m 465 ls [.int 1]) rfl ?_
  refine lv_istore (lv' := [(5, .int 1), (4, .int 0), (3, .ref a2), (2, .ref a1), (1, .ref a0), (0, .ref b)]) hx hb dL_law_465 hl (by decide) rfl (fun ls hl => ?_)
  refine lv_aload_n hx hb dL_law_467 rfl (lv_at hl 3 rfl) ?_
  refine lv_aload_n hx hb dL_law_468 rfl (lv_at hl 5 rfl) ?_
  refine lv_iload hx hb dL_law_469 (lv_at hl 1 rfl) ?_
  refine lv_iconst (v := 1) hx hb dL_law_471 (by decide) ?_
  refine lv_iadd hx hb dL_law_472 ?_
  refine W.eq (g2 := F0 m 473 ls [.int 1, .ref b, .ref a1]) rfl ?_
  refine va_sld hx hb hXs hbl hbA hS (i := 1) (show ¬ ((1 : Int32) < 0 ∨ 6 ≤ (1 : Int32).toNatClampNeg) by decide) dL_law_473 ?_
  refine W.eq (g2 := F0 m 474 ls [.int (xs 1), .ref a1]) rfl ?_
  refine lv_aload_n hx hb dL_law_474 rfl (lv_at hl 5 rfl) ?_
  refine lv_iload hx hb dL_law_475 (lv_at hl 1 rfl) ?_
  refine lv_iconst (v := 2) hx hb dL_law_477 (by decide) ?_
  refine lv_iadd hx hb dL_law_478 ?_
  refine W.eq (g2 := F0 m 479 ls [.int 2, .ref b, .int (xs 1), .ref a1]) rfl ?_
  refine va_sld hx hb hXs hbl hbA hS (i := 2) (show ¬ ((2 : Int32) < 0 ∨ 6 ≤ (2 : Int32).toNatClampNeg) by decide) dL_law_479 ?_
  refine W.eq (g2 := F0 m 480 ls [.int (xs 2), .int (xs 1), .ref a1]) rfl ?_
  obtain ⟨hPc, hDc, hFc⟩ := xcut (wc := [(a1, .inr (5, [v11, v12, v13, v14, v15, v16, v17, v18, v19, v20, v21, v22, v23, v24, v25, v26, v27, v28, v29, v30, v31, v32, v33, v34, v35, v36, v37, v38, v39, v40, v41, v42]))]) hP hD hS hA [0] rfl rfl (by decide)
  refine va_calli (va_runV (C := "ValueBenchModel") (As := [.int (xs 1), .int (xs 2)]) (rest := []) ⟨hx, hb, hml, hown, htx⟩ (cM_compare_3 l hl9 D cT aK aV H.size a1 (xs 1) (xs 2) v11 v12 v13 v14 v15 v16 v17 v18 v19 v20 v21 v22 v23 v24 v25 v26 v27 v28 v29 v30 v31 v32 v33 v34 v35 v36 v37 v38 v39 v40 v41 v42 ha1 ha2 ha3 ha4 hb1 hb2 hb3) ⟨callB_of 2 htx (xw_goodC kw_7_119) rfl rfl rfl (htx _ kw_1_5) (htx _ kw_7_116) ⟨by decide, by decide, by decide +kernel⟩ ⟨Nat.le_of_ble_eq_true rfl, Nat.le_of_ble_eq_true rfl⟩, (htx _ kw_7_117), (htx _ kw_7_118)⟩ ⟨xPre_blind, va_recv hK hP (ci := 5) rfl (q0 := 0) rfl, (fun U hU hW => ⟨rfl, xPre_of hZ hS hFc hPc hDc hK U hU hW⟩)⟩ rfl rfl hl.1 rfl (lv_room (Nat.le_of_ble_eq_true rfl)) dL_law_480 ⟨Nat.le_of_ble_eq_true rfl, Nat.le_of_ble_eq_true rfl⟩) hS (fun q _ h => hFc q h) hFc (fun r2 u9 t H1 locs ht hvm hr9 hB hz1 hk1 hS => ?_)
  obtain ⟨hP1, hK1, hD1⟩ := hB
  rw [ht] at hP1
  obtain ⟨hP, hD⟩ := xjoin (W := [(a2, .inl (cT 2, 1, .inr (.inl f43))), (a0, .inr (0, [v3, v4, v5, v6, v7, v8, v9, v10])), (a1, .inr (5, [.int 1, v12, .int 0, v14, .int 0, v16, v17, .int 0, v19, .int 0, v21, v22, .int 0, v24, v25, v26, v27, v28, v29, v30, v31, v32, .int 0, .int 1000000000, v35, v36, v37, v38, v39, v40, v41, v42]))]) hP hD [0] [1, 2] 2 rfl rfl (by decide) (by decide) hk1 hFc hP1 hD1
  generalize H1 = H at hP hS ⊢
  rw [hr9]
  refine W.eq (g2 := F0 m 483 ls [.int 0]) rfl ?_
  refine lv_istore (lv' := [(6, .int 0), (5, .int 1), (4, .int 0), (3, .ref a2), (2, .ref a1), (1, .ref a0), (0, .ref b)]) hx hb dL_law_483 hl (by decide) rfl (fun ls hl => ?_)
  refine lv_aload_n hx hb dL_law_485 rfl (lv_at hl 4 rfl) ?_
  obtain ⟨hPc, hDc, hFc⟩ := xcut (wc := [(a1, .inr (5, [.int 1, v12, .int 0, v14, .int 0, v16, v17, .int 0, v19, .int 0, v21, v22, .int 0, v24, v25, v26, v27, v28, v29, v30, v31, v32, .int 0, .int 1000000000, v35, v36, v37, v38, v39, v40, v41, v42]))]) hP hD hS hA [2] rfl rfl (by decide)
  refine va_calli (va_runV (C := "ValueBenchModel") (As := []) (rest := []) ⟨hx, hb, hml, hown, htx⟩ (cM_thrown_1 l hl9 D cT aK aV H.size a1 v12 (.int 0) v14 (.int 0) v16 v17 (.int 0) v19 (.int 0) v21 v22 (.int 0) v24 v25 v26 v27 v28 v29 v30 v31 v32 (.int 0) (.int 1000000000) v35 v36 v37 v38 v39 v40 v41 v42) ⟨callB_of 0 htx (xw_goodC kw_5_187) rfl rfl rfl (htx _ kw_1_5) (htx _ kw_5_184) ⟨by decide, by decide, by decide +kernel⟩ ⟨Nat.le_of_ble_eq_true rfl, Nat.le_of_ble_eq_true rfl⟩, (htx _ kw_5_185), (htx _ kw_5_186)⟩ ⟨xPre_blind, va_recv hK hP (ci := 5) rfl (q0 := 2) rfl, (fun U hU hW => ⟨rfl, xPre_of hZ hS hFc hPc hDc hK U hU hW⟩)⟩ rfl rfl hl.1 rfl (lv_room (Nat.le_of_ble_eq_true rfl)) dL_law_486 ⟨Nat.le_of_ble_eq_true rfl, Nat.le_of_ble_eq_true rfl⟩) hS (fun q _ h => hFc q h) hFc (fun r3 u9 t H1 locs ht hvm hr9 hB hz1 hk1 hS => ?_)
  obtain ⟨hP1, hK1, hD1⟩ := hB
  rw [ht] at hP1
  obtain ⟨hP, hD⟩ := xjoin (W := [(a2, .inl (cT 2, 1, .inr (.inl f43))), (a0, .inr (0, [v3, v4, v5, v6, v7, v8, v9, v10])), (a1, .inr (5, [.int 1, v12, .int 0, v14, .int 0, v16, v17, .int 0, v19, .int 0, v21, v22, .int 0, v24, v25, v26, v27, v28, v29, v30, v31, v32, .int 0, .int 1000000000, v35, v36, v37, v38, v39, v40, v41, v42]))]) hP hD [2] [0, 1] 2 rfl rfl (by decide) (by decide) hk1 hFc hP1 hD1
  generalize H1 = H at hP hS ⊢
  rw [hr9]
  refine W.eq (g2 := F0 m 489 ls [.int 1]) rfl ?_
  refine lv_iload hx hb dL_law_489 (lv_at hl 1 rfl) ?_
  refine lv_icmp_eq (tgt := 496) hx hb dL_law_491 (by decide) (fun _ => ?_) (fun h => ((by revert h; decide : False)).elim)
  refine lv_iload hx hb dL_law_496 (lv_at hl 1 rfl) ?_
  refine lv_if_ne (tgt := 513) hx hb dL_law_498 (by decide) (fun _ => ?_) (fun h => ((by revert h; decide : False)).elim)
  refine lv_goto (tgt := 906) hx hb dL_law_513 (by decide) ?_
  refine lv_iinc (v := 6) (lv' := [(4, .int 6), (6, .int 0), (5, .int 1), (3, .ref a2), (2, .ref a1), (1, .ref a0), (0, .ref b)]) hx hb dL_law_906 hl (k := 2) rfl (by decide) (by decide) rfl (fun ls hl => ?_)
  refine lv_goto (tgt := 23) hx hb dL_law_909 (by decide) ?_
  refine lv_iload hx hb dL_law_23 (lv_at hl 0 rfl) ?_
  refine lv_aload_n hx hb dL_law_25 rfl (lv_at hl 6 rfl) ?_
  refine va_slen hx hb hXs hbl hbA hS dL_law_26 ?_
  refine W.eq (g2 := F0 m 27 ls [.int 6, .int 6]) rfl ?_
  refine lv_bipush (v := 6) hx hb dL_law_27 (by decide) ?_
  refine lv_isub hx hb dL_law_29 ?_
  refine W.eq (g2 := F0 m 30 ls [.int 0, .int 6]) rfl ?_
  refine lv_icmp_gt (tgt := 912) hx hb dL_law_30 (by decide) (fun _ => ?_) (fun h => ((by revert h; decide : False)).elim)
  refine lv_iconst (v := 1) hx hb dL_law_912 (by decide) ?_
  exact va_forget (fun q h => hA2 _ (hS.2.2 q h)) (W.widen (k := 600002) (n := 7302232) (Nat.le_of_ble_eq_true rfl) (Nat.le_of_ble_eq_true rfl) (lw_ret hx hb hr hlocks dL_law_913))
set_option maxHeartbeats 400000000 in
set_option maxRecDepth 100000 in
theorem lf_compare_p1 {p : Program} {e : Env} {s : State} {m : MethodId} {below : List Frame} {meth : Method} {c : Code} (l : Launch) (hl9 : l.stackTraces = false) (D : va_G) (cT : Nat → ClassId) (aK aV : Nat → Nat) {A : Nat → Prop} {b : Nat} {xs : Nat → Int32} (C : xLw p s m meth c b D cT aK aV A) {H : Heap} {locs : List Loc} {ls : Array Slot} (a0 : Nat) (a1 : Nat) (a2 : Nat) (a3 : Nat) (a4 : Nat) (a5 : Nat) (a6 : Nat) (a7 : Nat) (a8 : Nat) (a9 : Nat) (v10 : Value) (v11 : Value) (v12 : Value) (v13 : Value) (v14 : Value) (v15 : Value) (v16 : Value) (v17 : Value) (v18 : Value) (v19 : Value) (v20 : Value) (v21 : Value) (v22 : Value) (v23 : Value) (v24 : Value) (v25 : Value) (v26 : Value) (v27 : Value) (v28 : Value) (v29 : Value) (v30 : Value) (v31 : Value) (v32 : Value) (v33 : Value) (v34 : Value) (v35 : Value) (v36 : Value) (v37 : Value) (v38 : Value) (v39 : Value) (v40 : Value) (v41 : Value) (v42 : Value) (v43 : Value) (v44 : Value) (v45 : Value) (f46 : Nat → Int64) (f47 : Nat → Option Nat) (v50 : Value) (f51 : Nat → Int64) (f53 : Nat → Option Nat) (f56 : Nat → Int32) (f59 : Nat → Int32) (f64 : Nat → Option Nat) (h48 : f47 (xs 1).toNatClampNeg = some a4) (h49 : f47 (xs 2).toNatClampNeg = some a4) (h52 : f51 0 = 0) (h54 : f53 (xs 1).toNatClampNeg = some a8) (h55 : f53 (xs 2).toNatClampNeg = some a8) (h57 : f56 (xs 1).toNatClampNeg = 4) (h58 : f56 (xs 2).toNatClampNeg = 4) (h60 : f59 0 = 110) (h61 : f59 1 = 117) (h62 : f59 2 = 108) (h63 : f59 3 = 108) (h65 : f64 0 = none) (h66 : f64 1 = none) (ha1 : ¬ (xs 1) < 0) (ha2 : ¬ 7 < (xs 1)) (ha3 : (xs 1) ≤ 7) (ha4 : vp_in (xs 1) 8) (hb1 : ¬ (xs 2) < 0) (hb2 : ¬ 7 < (xs 2)) (hb3 : (xs 2) ≤ 7) (hb4 : vp_in (xs 2) 8) (hXs : va_X b 6 xs s s.heap) (hP : va_P D xcl [(a0, .inr (0, [v10, v11, v12, .ref a3, v13, v14, v15, v16])), (a1, .inr (5, [v17, .ref a9, v18, v19, v20, v21, v22, v23, v24, v25, v26, v27, v28, v29, v30, v31, v32, v33, v34, v35, v36, v37, v38, v39, .ref a6, .ref a7, v40, v41, v42, v43, v44, v45])), (a2, .inl (cT 2, 1, .inr (.inl f46))), (a3, .inl (cT 3, 8, .inr (.inr (.inr (.inr f47))))), (a4, .inr (2, [.ref a5, .int 1, v50])), (a5, .inl (cT 2, 4096, .inr (.inl f51))), (a6, .inl (cT 5, 8, .inr (.inr (.inr (.inr f53))))), (a7, .inl (cT 1, 8, .inl f56)), (a8, .inl (cT 0, 4096, .inl f59)), (a9, .inl (cT 4, 1024, .inr (.inr (.inr (.inr f64)))))] H) (hD : va_D A [(a0, .inr (0, [v10, v11, v12, .ref a3, v13, v14, v15, v16])), (a1, .inr (5, [v17, .ref a9, v18, v19, v20, v21, v22, v23, v24, v25, v26, v27, v28, v29, v30, v31, v32, v33, v34, v35, v36, v37, v38, v39, .ref a6, .ref a7, v40, v41, v42, v43, v44, v45])), (a2, .inl (cT 2, 1, .inr (.inl f46))), (a3, .inl (cT 3, 8, .inr (.inr (.inr (.inr f47))))), (a4, .inr (2, [.ref a5, .int 1, v50])), (a5, .inl (cT 2, 4096, .inr (.inl f51))), (a6, .inl (cT 5, 8, .inr (.inr (.inr (.inr f53))))), (a7, .inl (cT 1, 8, .inl f56)), (a8, .inl (cT 0, 4096, .inl f59)), (a9, .inl (cT 4, 1024, .inr (.inr (.inr (.inr f64)))))]) (hS : va_S A s.heap H locs) (hl : lv_has ls 8 [(4, .int 0), (3, .ref a2), (2, .ref a1), (1, .ref a0), (0, .ref b)]) : W p l e room_1 s m #[Value.ref b] below meth c H locs 54 107242 (lw_Z below #[Value.ref b] s) (F0 m 448 ls []) := by
  obtain ⟨hx, hb, hr, hml, hown, htx, hbl, hbA, hlocks, hK, hZ, hA, hA2⟩ := C
  refine lv_aload_n hx hb dL_law_448 rfl (lv_at hl 3 rfl) ?_
  refine lv_aload_n hx hb dL_law_449 rfl (lv_at hl 4 rfl) ?_
  refine lv_iload hx hb dL_law_450 (lv_at hl 0 rfl) ?_
  refine lv_iconst (v := 1) hx hb dL_law_452 (by decide) ?_
  refine lv_iadd hx hb dL_law_453 ?_
  refine W.eq (g2 := F0 m 454 ls [.int 1, .ref b, .ref a0]) rfl ?_
  refine va_sld hx hb hXs hbl hbA hS (i := 1) (show ¬ ((1 : Int32) < 0 ∨ 6 ≤ (1 : Int32).toNatClampNeg) by decide) dL_law_454 ?_
  refine W.eq (g2 := F0 m 455 ls [.int (xs 1), .ref a0]) rfl ?_
  refine lv_aload_n hx hb dL_law_455 rfl (lv_at hl 4 rfl) ?_
  refine lv_iload hx hb dL_law_456 (lv_at hl 0 rfl) ?_
  refine lv_iconst (v := 2) hx hb dL_law_458 (by decide) ?_
  refine lv_iadd hx hb dL_law_459 ?_
  refine W.eq (g2 := F0 m 460 ls [.int 2, .ref b, .int (xs 1), .ref a0]) rfl ?_
  refine va_sld hx hb hXs hbl hbA hS (i := 2) (show ¬ ((2 : Int32) < 0 ∨ 6 ≤ (2 : Int32).toNatClampNeg) by decide) dL_law_460 ?_
  refine W.eq (g2 := F0 m 461 ls [.int (xs 2), .int (xs 1), .ref a0]) rfl ?_
  refine lv_aload_n hx hb dL_law_461 rfl (lv_at hl 1 rfl) ?_
  obtain ⟨hPc, hDc, hFc⟩ := xcut (wc := [(a0, .inr (0, [v10, v11, v12, .ref a3, v13, v14, v15, v16])), (a3, .inl (cT 3, 8, .inr (.inr (.inr (.inr f47))))), (a4, .inr (2, [.ref a5, .int 1, v50])), (a5, .inl (cT 2, 4096, .inr (.inl f51))), (a2, .inl (cT 2, 1, .inr (.inl f46)))]) hP hD hS hA [0, 3, 4, 5, 2] rfl rfl (by decide)
  refine va_calli (vx_runSW (As := [.ref a0, .int (xs 1), .int (xs 2), .ref a2]) (rest := []) ⟨hx, hb, hml, hown, htx⟩ (cL_compare_4 l hl9 D cT aK aV H.size a0 a3 a4 a5 a2 (xs 1) (xs 2) v10 v11 v12 v13 v14 v15 v16 f47 v50 f51 f46 ha1 ha2 ha3 ha4 hb1 hb2 hb3 hb4 (by first | rfl | exact h48 | exact h49 | exact h52 | exact h54 | exact h55 | exact h57 | exact h58 | exact h60 | exact h61 | exact h62 | exact h63 | exact h65 | exact h66) (by first | rfl | exact h48 | exact h49 | exact h52 | exact h54 | exact h55 | exact h57 | exact h58 | exact h60 | exact h61 | exact h62 | exact h63 | exact h65 | exact h66) (by first | rfl | exact h48 | exact h49 | exact h52 | exact h54 | exact h55 | exact h57 | exact h58 | exact h60 | exact h61 | exact h62 | exact h63 | exact h65 | exact h66)) (xcSW 4 htx (xw_goodC kw_4_5) rfl rfl rfl (htx _ kw_1_0) (htx _ kw_4_3) ⟨by decide, by decide, by decide +kernel⟩ ⟨Nat.le_of_ble_eq_true rfl, Nat.le_of_ble_eq_true rfl⟩ (htx _ kw_4_4)) ⟨xPre_blind, (fun U hU hW => ⟨rfl, xPre_of hZ hS hFc hPc hDc hK U hU hW⟩)⟩ rfl rfl hl.1 rfl (lv_room (Nat.le_of_ble_eq_true rfl)) dL_law_462 ⟨Nat.le_of_ble_eq_true rfl, Nat.le_of_ble_eq_true rfl⟩) hS (fun q _ h => hFc q h) hFc (fun r1 u9 t H1 locs ht hvm hr9 hB hz1 hk1 hS => ?_)
  obtain ⟨hP1, hK1, hD1⟩ := hB
  rw [ht] at hP1
  obtain ⟨hP, hD⟩ := xjoin (W := [(a1, .inr (5, [v17, .ref a9, v18, v19, v20, v21, v22, v23, v24, v25, v26, v27, v28, v29, v30, v31, v32, v33, v34, v35, v36, v37, v38, v39, .ref a6, .ref a7, v40, v41, v42, v43, v44, v45])), (a6, .inl (cT 5, 8, .inr (.inr (.inr (.inr f53))))), (a7, .inl (cT 1, 8, .inl f56)), (a8, .inl (cT 0, 4096, .inl f59)), (a9, .inl (cT 4, 1024, .inr (.inr (.inr (.inr f64))))), (a0, .inr (0, [v10, v11, v12, .ref a3, v13, v14, v15, v16])), (a3, .inl (cT 3, 8, .inr (.inr (.inr (.inr f47))))), (a4, .inr (2, [.ref a5, .int 1, v50])), (a5, .inl (cT 2, 4096, .inr (.inl f51))), (a2, .inl (cT 2, 1, .inr (.inl (vp_updL f46 0 0))))]) hP hD [0, 3, 4, 5, 2] [1, 6, 7, 8, 9] 5 rfl rfl (by decide) (by decide) hk1 hFc hP1 hD1
  generalize H1 = H at hP hS ⊢
  rw [hr9]
  refine W.eq (g2 := F0 m 465 ls [.int 0]) rfl ?_
  refine lv_istore (lv' := [(5, .int 0), (4, .int 0), (3, .ref a2), (2, .ref a1), (1, .ref a0), (0, .ref b)]) hx hb dL_law_465 hl (by decide) rfl (fun ls hl => ?_)
  refine lv_aload_n hx hb dL_law_467 rfl (lv_at hl 3 rfl) ?_
  refine lv_aload_n hx hb dL_law_468 rfl (lv_at hl 5 rfl) ?_
  refine lv_iload hx hb dL_law_469 (lv_at hl 1 rfl) ?_
  refine lv_iconst (v := 1) hx hb dL_law_471 (by decide) ?_
  refine lv_iadd hx hb dL_law_472 ?_
  refine W.eq (g2 := F0 m 473 ls [.int 1, .ref b, .ref a1]) rfl ?_
  refine va_sld hx hb hXs hbl hbA hS (i := 1) (show ¬ ((1 : Int32) < 0 ∨ 6 ≤ (1 : Int32).toNatClampNeg) by decide) dL_law_473 ?_
  refine W.eq (g2 := F0 m 474 ls [.int (xs 1), .ref a1]) rfl ?_
  refine lv_aload_n hx hb dL_law_474 rfl (lv_at hl 5 rfl) ?_
  refine lv_iload hx hb dL_law_475 (lv_at hl 1 rfl) ?_
  refine lv_iconst (v := 2) hx hb dL_law_477 (by decide) ?_
  refine lv_iadd hx hb dL_law_478 ?_
  refine W.eq (g2 := F0 m 479 ls [.int 2, .ref b, .int (xs 1), .ref a1]) rfl ?_
  refine va_sld hx hb hXs hbl hbA hS (i := 2) (show ¬ ((2 : Int32) < 0 ∨ 6 ≤ (2 : Int32).toNatClampNeg) by decide) dL_law_479 ?_
  refine W.eq (g2 := F0 m 480 ls [.int (xs 2), .int (xs 1), .ref a1]) rfl ?_
  obtain ⟨hPc, hDc, hFc⟩ := xcut (wc := [(a1, .inr (5, [v17, .ref a9, v18, v19, v20, v21, v22, v23, v24, v25, v26, v27, v28, v29, v30, v31, v32, v33, v34, v35, v36, v37, v38, v39, .ref a6, .ref a7, v40, v41, v42, v43, v44, v45])), (a6, .inl (cT 5, 8, .inr (.inr (.inr (.inr f53))))), (a7, .inl (cT 1, 8, .inl f56)), (a8, .inl (cT 0, 4096, .inl f59)), (a9, .inl (cT 4, 1024, .inr (.inr (.inr (.inr f64)))))]) hP hD hS hA [0, 1, 2, 3, 4] rfl rfl (by decide)
  refine va_calli (va_runV (C := "ValueBenchModel") (As := [.int (xs 1), .int (xs 2)]) (rest := []) ⟨hx, hb, hml, hown, htx⟩ (cM_compare_4 l hl9 D cT aK aV H.size a1 a6 a7 a8 a9 (xs 1) (xs 2) v17 v18 v19 v20 v21 v22 v23 v24 v25 v26 v27 v28 v29 v30 v31 v32 v33 v34 v35 v36 v37 v38 v39 v40 v41 v42 v43 v44 v45 f53 f56 f59 f64 ha1 ha2 ha3 ha4 hb1 hb2 hb3 hb4 (by first | rfl | exact h48 | exact h49 | exact h52 | exact h54 | exact h55 | exact h57 | exact h58 | exact h60 | exact h61 | exact h62 | exact h63 | exact h65 | exact h66) (by first | rfl | exact h48 | exact h49 | exact h52 | exact h54 | exact h55 | exact h57 | exact h58 | exact h60 | exact h61 | exact h62 | exact h63 | exact h65 | exact h66) (by first | rfl | exact h48 | exact h49 | exact h52 | exact h54 | exact h55 | exact h57 | exact h58 | exact h60 | exact h61 | exact h62 | exact h63 | exact h65 | exact h66) (by first | rfl | exact h48 | exact h49 | exact h52 | exact h54 | exact h55 | exact h57 | exact h58 | exact h60 | exact h61 | exact h62 | exact h63 | exact h65 | exact h66) (by first | rfl | exact h48 | exact h49 | exact h52 | exact h54 | exact h55 | exact h57 | exact h58 | exact h60 | exact h61 | exact h62 | exact h63 | exact h65 | exact h66) (by first | rfl | exact h48 | exact h49 | exact h52 | exact h54 | exact h55 | exact h57 | exact h58 | exact h60 | exact h61 | exact h62 | exact h63 | exact h65 | exact h66) (by first | rfl | exact h48 | exact h49 | exact h52 | exact h54 | exact h55 | exact h57 | exact h58 | exact h60 | exact h61 | exact h62 | exact h63 | exact h65 | exact h66) (by first | rfl | exact h48 | exact h49 | exact h52 | exact h54 | exact h55 | exact h57 | exact h58 | exact h60 | exact h61 | exact h62 | exact h63 | exact h65 | exact h66) (by first | rfl | exact h48 | exact h49 | exact h52 | exact h54 | exact h55 | exact h57 | exact h58 | exact h60 | exact h61 | exact h62 | exact h63 | exact h65 | exact h66) (by first | rfl | exact h48 | exact h49 | exact h52 | exact h54 | exact h55 | exact h57 | exact h58 | exact h60 | exact h61 | exact h62 | exact h63 | exact h65 | exact h66)) ⟨callB_of 2 htx (xw_goodC kw_7_119) rfl rfl rfl (htx _ kw_1_5) (htx _ kw_7_116) ⟨by decide, by decide, by decide +kernel⟩ ⟨Nat.le_of_ble_eq_true rfl, Nat.le_of_ble_eq_true rfl⟩, (htx _ kw_7_117), (htx _ kw_7_118)⟩ ⟨xPre_blind, va_recv hK hP (ci := 5) rfl (q0 := 0) rfl, (fun U hU hW => ⟨rfl, xPre_of hZ hS hFc hPc hDc hK U hU hW⟩)⟩ rfl rfl hl.1 rfl (lv_room (Nat.le_of_ble_eq_true rfl)) dL_law_480 ⟨Nat.le_of_ble_eq_true rfl, Nat.le_of_ble_eq_true rfl⟩) hS (fun q _ h => hFc q h) hFc (fun r2 u9 t H1 locs ht hvm hr9 hB hz1 hk1 hS => ?_)
  obtain ⟨q3, q4, hP1, hK1, hD1⟩ := hB
  rw [ht] at hP1
  obtain ⟨hP, hD⟩ := xjoin (W := [(a0, .inr (0, [v10, v11, v12, .ref a3, v13, v14, v15, v16])), (a3, .inl (cT 3, 8, .inr (.inr (.inr (.inr f47))))), (a4, .inr (2, [.ref a5, .int 1, v50])), (a5, .inl (cT 2, 4096, .inr (.inl f51))), (a2, .inl (cT 2, 1, .inr (.inl (vp_updL f46 0 0)))), (a1, .inr (5, [.int 0, .ref a9, .int 2, v19, .int 0, v21, v22, .int 0, v24, .int 0, v26, v27, .int 0, v29, v30, .ref a8, .int 4, .int 4, .int 0, .int 100, v36, v37, .int 0, .int 1000000000, .ref a6, .ref a7, v40, v41, v42, v43, v44, v45])), (a6, .inl (cT 5, 8, .inr (.inr (.inr (.inr f53))))), (a7, .inl (cT 1, 8, .inl f56)), (a8, .inl (cT 0, 4096, .inl f59)), (a9, .inl (cT 4, 1024, .inr (.inr (.inr (.inr (va_up (va_up f64 0 (some q3)) 1 (some q4))))))), (q3, .inr (6, [.int 0, .long 0, .int 0, .int 0, .int 0, .int 1])), (q4, .inr (6, [.int 0, .long 0, .int 0, .int 0, .int 0, .int 1]))]) hP hD [0, 1, 2, 3, 4] [5, 6, 7, 8, 9] 5 rfl rfl (by decide) (by decide) hk1 hFc hP1 hD1
  generalize H1 = H at hP hS ⊢
  rw [hr9]
  refine W.eq (g2 := F0 m 483 ls [.int 0]) rfl ?_
  refine lv_istore (lv' := [(6, .int 0), (5, .int 0), (4, .int 0), (3, .ref a2), (2, .ref a1), (1, .ref a0), (0, .ref b)]) hx hb dL_law_483 hl (by decide) rfl (fun ls hl => ?_)
  refine lv_aload_n hx hb dL_law_485 rfl (lv_at hl 4 rfl) ?_
  obtain ⟨hPc, hDc, hFc⟩ := xcut (wc := [(a1, .inr (5, [.int 0, .ref a9, .int 2, v19, .int 0, v21, v22, .int 0, v24, .int 0, v26, v27, .int 0, v29, v30, .ref a8, .int 4, .int 4, .int 0, .int 100, v36, v37, .int 0, .int 1000000000, .ref a6, .ref a7, v40, v41, v42, v43, v44, v45]))]) hP hD hS hA [5] rfl rfl (by decide)
  refine va_calli (va_runV (C := "ValueBenchModel") (As := []) (rest := []) ⟨hx, hb, hml, hown, htx⟩ (cM_thrown_0 l hl9 D cT aK aV H.size a1 (.ref a9) (.int 2) v19 (.int 0) v21 v22 (.int 0) v24 (.int 0) v26 v27 (.int 0) v29 v30 (.ref a8) (.int 4) (.int 4) (.int 0) (.int 100) v36 v37 (.int 0) (.int 1000000000) (.ref a6) (.ref a7) v40 v41 v42 v43 v44 v45) ⟨callB_of 0 htx (xw_goodC kw_5_187) rfl rfl rfl (htx _ kw_1_5) (htx _ kw_5_184) ⟨by decide, by decide, by decide +kernel⟩ ⟨Nat.le_of_ble_eq_true rfl, Nat.le_of_ble_eq_true rfl⟩, (htx _ kw_5_185), (htx _ kw_5_186)⟩ ⟨xPre_blind, va_recv hK hP (ci := 5) rfl (q0 := 5) rfl, (fun U hU hW => ⟨rfl, xPre_of hZ hS hFc hPc hDc hK U hU hW⟩)⟩ rfl rfl hl.1 rfl (lv_room (Nat.le_of_ble_eq_true rfl)) dL_law_486 ⟨Nat.le_of_ble_eq_true rfl, Nat.le_of_ble_eq_true rfl⟩) hS (fun q _ h => hFc q h) hFc (fun r5 u9 t H1 locs ht hvm hr9 hB hz1 hk1 hS => ?_)
  obtain ⟨hP1, hK1, hD1⟩ := hB
  rw [ht] at hP1
  obtain ⟨hP, hD⟩ := xjoin (W := [(a0, .inr (0, [v10, v11, v12, .ref a3, v13, v14, v15, v16])), (a3, .inl (cT 3, 8, .inr (.inr (.inr (.inr f47))))), (a4, .inr (2, [.ref a5, .int 1, v50])), (a5, .inl (cT 2, 4096, .inr (.inl f51))), (a2, .inl (cT 2, 1, .inr (.inl (vp_updL f46 0 0)))), (a6, .inl (cT 5, 8, .inr (.inr (.inr (.inr f53))))), (a7, .inl (cT 1, 8, .inl f56)), (a8, .inl (cT 0, 4096, .inl f59)), (a9, .inl (cT 4, 1024, .inr (.inr (.inr (.inr (va_up (va_up f64 0 (some q3)) 1 (some q4))))))), (q3, .inr (6, [.int 0, .long 0, .int 0, .int 0, .int 0, .int 1])), (q4, .inr (6, [.int 0, .long 0, .int 0, .int 0, .int 0, .int 1])), (a1, .inr (5, [.int 0, .ref a9, .int 2, v19, .int 0, v21, v22, .int 0, v24, .int 0, v26, v27, .int 0, v29, v30, .ref a8, .int 4, .int 4, .int 0, .int 100, v36, v37, .int 0, .int 1000000000, .ref a6, .ref a7, v40, v41, v42, v43, v44, v45]))]) hP hD [5] [0, 1, 2, 3, 4, 6, 7, 8, 9, 10, 11] 11 rfl rfl (by decide) (by decide) hk1 hFc hP1 hD1
  generalize H1 = H at hP hS ⊢
  rw [hr9]
  refine W.eq (g2 := F0 m 489 ls [.int 0]) rfl ?_
  refine lv_iload hx hb dL_law_489 (lv_at hl 1 rfl) ?_
  refine lv_icmp_eq (tgt := 496) hx hb dL_law_491 (by decide) (fun _ => ?_) (fun h => ((by revert h; decide : False)).elim)
  refine lv_iload hx hb dL_law_496 (lv_at hl 1 rfl) ?_
  refine lv_if_ne (tgt := 513) hx hb dL_law_498 (by decide) (fun h => ((by revert h; decide : False)).elim) (fun _ => ?_)
  refine lv_aload_n hx hb dL_law_501 rfl (lv_at hl 3 rfl) ?_
  refine lv_iconst (v := 0) hx hb dL_law_502 (by decide) ?_
  refine va_lald hx hb hK hP 4 2 rfl rfl (show ¬ ((0 : Int32) < 0 ∨ 1 ≤ (0 : Int32).toNatClampNeg) by decide) dL_law_503 ?_
  refine W.eq (g2 := F0 m 504 ls [.long 0]) rfl ?_
  refine lv_iload hx hb dL_law_504 (lv_at hl 0 rfl) ?_
  refine lv_i2l hx hb dL_law_506 rfl ?_
  refine W.eq (g2 := F0 m 507 ls [.long 0, .long 0]) rfl ?_
  refine W.lcmp hx hb dL_law_507 ?_
  refine W.eq (g2 := F0 m 508 ls [.int 0]) rfl ?_
  refine lv_if_eq (tgt := 513) hx hb dL_law_508 (by decide) (fun _ => ?_) (fun h => ((by revert h; decide : False)).elim)
  refine lv_goto (tgt := 906) hx hb dL_law_513 (by decide) ?_
  refine lv_iinc (v := 6) (lv' := [(4, .int 6), (6, .int 0), (5, .int 0), (3, .ref a2), (2, .ref a1), (1, .ref a0), (0, .ref b)]) hx hb dL_law_906 hl (k := 2) rfl (by decide) (by decide) rfl (fun ls hl => ?_)
  refine lv_goto (tgt := 23) hx hb dL_law_909 (by decide) ?_
  refine lv_iload hx hb dL_law_23 (lv_at hl 0 rfl) ?_
  refine lv_aload_n hx hb dL_law_25 rfl (lv_at hl 6 rfl) ?_
  refine va_slen hx hb hXs hbl hbA hS dL_law_26 ?_
  refine W.eq (g2 := F0 m 27 ls [.int 6, .int 6]) rfl ?_
  refine lv_bipush (v := 6) hx hb dL_law_27 (by decide) ?_
  refine lv_isub hx hb dL_law_29 ?_
  refine W.eq (g2 := F0 m 30 ls [.int 0, .int 6]) rfl ?_
  refine lv_icmp_gt (tgt := 912) hx hb dL_law_30 (by decide) (fun _ => ?_) (fun h => ((by revert h; decide : False)).elim)
  refine lv_iconst (v := 1) hx hb dL_law_912 (by decide) ?_
  exact va_forget (fun q h => hA2 _ (hS.2.2 q h)) (W.widen (k := 600002) (n := 7302232) (Nat.le_of_ble_eq_true rfl) (Nat.le_of_ble_eq_true rfl) (lw_ret hx hb hr hlocks dL_law_913))
set_option maxHeartbeats 400000000 in
set_option maxRecDepth 100000 in
theorem lf_compare_p0 {p : Program} {e : Env} {s : State} {m : MethodId} {below : List Frame} {meth : Method} {c : Code} (l : Launch) (hl9 : l.stackTraces = false) (D : va_G) (cT : Nat → ClassId) (aK aV : Nat → Nat) {A : Nat → Prop} {b : Nat} {xs : Nat → Int32} (C : xLw p s m meth c b D cT aK aV A) {H : Heap} {locs : List Loc} {ls : Array Slot} (a0 : Nat) (a1 : Nat) (a2 : Nat) (a3 : Nat) (a4 : Nat) (a5 : Nat) (a6 : Nat) (a7 : Nat) (a8 : Nat) (a9 : Nat) (a10 : Nat) (a11 : Nat) (a12 : Nat) (v13 : Value) (v14 : Value) (v15 : Value) (v16 : Value) (v17 : Value) (v18 : Value) (v19 : Value) (v20 : Value) (v21 : Value) (v22 : Value) (v23 : Value) (v24 : Value) (v25 : Value) (v26 : Value) (v27 : Value) (v28 : Value) (v29 : Value) (v30 : Value) (v31 : Value) (v32 : Value) (v33 : Value) (v34 : Value) (v35 : Value) (v36 : Value) (v37 : Value) (v38 : Value) (v39 : Value) (v40 : Value) (v41 : Value) (v42 : Value) (v43 : Value) (v44 : Value) (v45 : Value) (v46 : Value) (v47 : Value) (v48 : Value) (f49 : Nat → Int64) (f50 : Nat → Option Nat) (v53 : Value) (f54 : Nat → Int64) (v56 : Value) (f57 : Nat → Int64) (f59 : Nat → Option Nat) (f62 : Nat → Int32) (f65 : Nat → Int32) (f70 : Nat → Option Nat) (f73 : Nat → Int32) (h51 : f50 (xs 1).toNatClampNeg = some a4) (h52 : f50 (xs 2).toNatClampNeg = some a6) (h55 : f54 0 = 0) (h58 : f57 0 = 0) (h60 : f59 (xs 1).toNatClampNeg = some a10) (h61 : f59 (xs 2).toNatClampNeg = some a12) (h63 : f62 (xs 1).toNatClampNeg = 4) (h64 : f62 (xs 2).toNatClampNeg = 4) (h66 : f65 0 = 110) (h67 : f65 1 = 117) (h68 : f65 2 = 108) (h69 : f65 3 = 108) (h71 : f70 0 = none) (h72 : f70 1 = none) (h74 : f73 0 = 110) (h75 : f73 1 = 117) (h76 : f73 2 = 108) (h77 : f73 3 = 108) (ha1 : ¬ (xs 1) < 0) (ha2 : ¬ 7 < (xs 1)) (ha3 : (xs 1) ≤ 7) (ha4 : vp_in (xs 1) 8) (hb1 : ¬ (xs 2) < 0) (hb2 : ¬ 7 < (xs 2)) (hb3 : (xs 2) ≤ 7) (hb4 : vp_in (xs 2) 8) (hXs : va_X b 6 xs s s.heap) (hP : va_P D xcl [(a0, .inr (0, [v13, v14, v15, .ref a3, v16, v17, v18, v19])), (a1, .inr (5, [v20, .ref a11, v21, v22, v23, v24, v25, v26, v27, v28, v29, v30, v31, v32, v33, v34, v35, v36, v37, v38, v39, v40, v41, v42, .ref a8, .ref a9, v43, v44, v45, v46, v47, v48])), (a2, .inl (cT 2, 1, .inr (.inl f49))), (a3, .inl (cT 3, 8, .inr (.inr (.inr (.inr f50))))), (a4, .inr (2, [.ref a5, .int 1, v53])), (a5, .inl (cT 2, 4096, .inr (.inl f54))), (a6, .inr (2, [.ref a7, .int 1, v56])), (a7, .inl (cT 2, 4096, .inr (.inl f57))), (a8, .inl (cT 5, 8, .inr (.inr (.inr (.inr f59))))), (a9, .inl (cT 1, 8, .inl f62)), (a10, .inl (cT 0, 4096, .inl f65)), (a11, .inl (cT 4, 1024, .inr (.inr (.inr (.inr f70))))), (a12, .inl (cT 0, 4096, .inl f73))] H) (hD : va_D A [(a0, .inr (0, [v13, v14, v15, .ref a3, v16, v17, v18, v19])), (a1, .inr (5, [v20, .ref a11, v21, v22, v23, v24, v25, v26, v27, v28, v29, v30, v31, v32, v33, v34, v35, v36, v37, v38, v39, v40, v41, v42, .ref a8, .ref a9, v43, v44, v45, v46, v47, v48])), (a2, .inl (cT 2, 1, .inr (.inl f49))), (a3, .inl (cT 3, 8, .inr (.inr (.inr (.inr f50))))), (a4, .inr (2, [.ref a5, .int 1, v53])), (a5, .inl (cT 2, 4096, .inr (.inl f54))), (a6, .inr (2, [.ref a7, .int 1, v56])), (a7, .inl (cT 2, 4096, .inr (.inl f57))), (a8, .inl (cT 5, 8, .inr (.inr (.inr (.inr f59))))), (a9, .inl (cT 1, 8, .inl f62)), (a10, .inl (cT 0, 4096, .inl f65)), (a11, .inl (cT 4, 1024, .inr (.inr (.inr (.inr f70))))), (a12, .inl (cT 0, 4096, .inl f73))]) (hS : va_S A s.heap H locs) (hl : lv_has ls 8 [(4, .int 0), (3, .ref a2), (2, .ref a1), (1, .ref a0), (0, .ref b)]) : W p l e room_1 s m #[Value.ref b] below meth c H locs 54 107242 (lw_Z below #[Value.ref b] s) (F0 m 448 ls []) := by
  obtain ⟨hx, hb, hr, hml, hown, htx, hbl, hbA, hlocks, hK, hZ, hA, hA2⟩ := C
  refine lv_aload_n hx hb dL_law_448 rfl (lv_at hl 3 rfl) ?_
  refine lv_aload_n hx hb dL_law_449 rfl (lv_at hl 4 rfl) ?_
  refine lv_iload hx hb dL_law_450 (lv_at hl 0 rfl) ?_
  refine lv_iconst (v := 1) hx hb dL_law_452 (by decide) ?_
  refine lv_iadd hx hb dL_law_453 ?_
  refine W.eq (g2 := F0 m 454 ls [.int 1, .ref b, .ref a0]) rfl ?_
  refine va_sld hx hb hXs hbl hbA hS (i := 1) (show ¬ ((1 : Int32) < 0 ∨ 6 ≤ (1 : Int32).toNatClampNeg) by decide) dL_law_454 ?_
  refine W.eq (g2 := F0 m 455 ls [.int (xs 1), .ref a0]) rfl ?_
  refine lv_aload_n hx hb dL_law_455 rfl (lv_at hl 4 rfl) ?_
  refine lv_iload hx hb dL_law_456 (lv_at hl 0 rfl) ?_
  refine lv_iconst (v := 2) hx hb dL_law_458 (by decide) ?_
  refine lv_iadd hx hb dL_law_459 ?_
  refine W.eq (g2 := F0 m 460 ls [.int 2, .ref b, .int (xs 1), .ref a0]) rfl ?_
  refine va_sld hx hb hXs hbl hbA hS (i := 2) (show ¬ ((2 : Int32) < 0 ∨ 6 ≤ (2 : Int32).toNatClampNeg) by decide) dL_law_460 ?_
  refine W.eq (g2 := F0 m 461 ls [.int (xs 2), .int (xs 1), .ref a0]) rfl ?_
  refine lv_aload_n hx hb dL_law_461 rfl (lv_at hl 1 rfl) ?_
  obtain ⟨hPc, hDc, hFc⟩ := xcut (wc := [(a0, .inr (0, [v13, v14, v15, .ref a3, v16, v17, v18, v19])), (a3, .inl (cT 3, 8, .inr (.inr (.inr (.inr f50))))), (a4, .inr (2, [.ref a5, .int 1, v53])), (a5, .inl (cT 2, 4096, .inr (.inl f54))), (a6, .inr (2, [.ref a7, .int 1, v56])), (a7, .inl (cT 2, 4096, .inr (.inl f57))), (a2, .inl (cT 2, 1, .inr (.inl f49)))]) hP hD hS hA [0, 3, 4, 5, 6, 7, 2] rfl rfl (by decide)
  refine va_calli (vx_runSW (As := [.ref a0, .int (xs 1), .int (xs 2), .ref a2]) (rest := []) ⟨hx, hb, hml, hown, htx⟩ (cL_compare_5 l hl9 D cT aK aV H.size a0 a3 a4 a5 a6 a7 a2 (xs 1) (xs 2) v13 v14 v15 v16 v17 v18 v19 f50 v53 f54 v56 f57 f49 ha1 ha2 ha3 ha4 hb1 hb2 hb3 hb4 (by first | rfl | exact h51 | exact h52 | exact h55 | exact h58 | exact h60 | exact h61 | exact h63 | exact h64 | exact h66 | exact h67 | exact h68 | exact h69 | exact h71 | exact h72 | exact h74 | exact h75 | exact h76 | exact h77) (by first | rfl | exact h51 | exact h52 | exact h55 | exact h58 | exact h60 | exact h61 | exact h63 | exact h64 | exact h66 | exact h67 | exact h68 | exact h69 | exact h71 | exact h72 | exact h74 | exact h75 | exact h76 | exact h77) (by first | rfl | exact h51 | exact h52 | exact h55 | exact h58 | exact h60 | exact h61 | exact h63 | exact h64 | exact h66 | exact h67 | exact h68 | exact h69 | exact h71 | exact h72 | exact h74 | exact h75 | exact h76 | exact h77) (by first | rfl | exact h51 | exact h52 | exact h55 | exact h58 | exact h60 | exact h61 | exact h63 | exact h64 | exact h66 | exact h67 | exact h68 | exact h69 | exact h71 | exact h72 | exact h74 | exact h75 | exact h76 | exact h77)) (xcSW 4 htx (xw_goodC kw_4_5) rfl rfl rfl (htx _ kw_1_0) (htx _ kw_4_3) ⟨by decide, by decide, by decide +kernel⟩ ⟨Nat.le_of_ble_eq_true rfl, Nat.le_of_ble_eq_true rfl⟩ (htx _ kw_4_4)) ⟨xPre_blind, (fun U hU hW => ⟨rfl, xPre_of hZ hS hFc hPc hDc hK U hU hW⟩)⟩ rfl rfl hl.1 rfl (lv_room (Nat.le_of_ble_eq_true rfl)) dL_law_462 ⟨Nat.le_of_ble_eq_true rfl, Nat.le_of_ble_eq_true rfl⟩) hS (fun q _ h => hFc q h) hFc (fun r1 u9 t H1 locs ht hvm hr9 hB hz1 hk1 hS => ?_)
  obtain ⟨hP1, hK1, hD1⟩ := hB
  rw [ht] at hP1
  obtain ⟨hP, hD⟩ := xjoin (W := [(a1, .inr (5, [v20, .ref a11, v21, v22, v23, v24, v25, v26, v27, v28, v29, v30, v31, v32, v33, v34, v35, v36, v37, v38, v39, v40, v41, v42, .ref a8, .ref a9, v43, v44, v45, v46, v47, v48])), (a8, .inl (cT 5, 8, .inr (.inr (.inr (.inr f59))))), (a9, .inl (cT 1, 8, .inl f62)), (a10, .inl (cT 0, 4096, .inl f65)), (a11, .inl (cT 4, 1024, .inr (.inr (.inr (.inr f70))))), (a12, .inl (cT 0, 4096, .inl f73)), (a0, .inr (0, [v13, v14, v15, .ref a3, v16, v17, v18, v19])), (a3, .inl (cT 3, 8, .inr (.inr (.inr (.inr f50))))), (a4, .inr (2, [.ref a5, .int 1, v53])), (a5, .inl (cT 2, 4096, .inr (.inl f54))), (a6, .inr (2, [.ref a7, .int 1, v56])), (a7, .inl (cT 2, 4096, .inr (.inl f57))), (a2, .inl (cT 2, 1, .inr (.inl (vp_updL f49 0 0))))]) hP hD [0, 3, 4, 5, 6, 7, 2] [1, 8, 9, 10, 11, 12] 6 rfl rfl (by decide) (by decide) hk1 hFc hP1 hD1
  generalize H1 = H at hP hS ⊢
  rw [hr9]
  refine W.eq (g2 := F0 m 465 ls [.int 0]) rfl ?_
  refine lv_istore (lv' := [(5, .int 0), (4, .int 0), (3, .ref a2), (2, .ref a1), (1, .ref a0), (0, .ref b)]) hx hb dL_law_465 hl (by decide) rfl (fun ls hl => ?_)
  refine lv_aload_n hx hb dL_law_467 rfl (lv_at hl 3 rfl) ?_
  refine lv_aload_n hx hb dL_law_468 rfl (lv_at hl 5 rfl) ?_
  refine lv_iload hx hb dL_law_469 (lv_at hl 1 rfl) ?_
  refine lv_iconst (v := 1) hx hb dL_law_471 (by decide) ?_
  refine lv_iadd hx hb dL_law_472 ?_
  refine W.eq (g2 := F0 m 473 ls [.int 1, .ref b, .ref a1]) rfl ?_
  refine va_sld hx hb hXs hbl hbA hS (i := 1) (show ¬ ((1 : Int32) < 0 ∨ 6 ≤ (1 : Int32).toNatClampNeg) by decide) dL_law_473 ?_
  refine W.eq (g2 := F0 m 474 ls [.int (xs 1), .ref a1]) rfl ?_
  refine lv_aload_n hx hb dL_law_474 rfl (lv_at hl 5 rfl) ?_
  refine lv_iload hx hb dL_law_475 (lv_at hl 1 rfl) ?_
  refine lv_iconst (v := 2) hx hb dL_law_477 (by decide) ?_
  refine lv_iadd hx hb dL_law_478 ?_
  refine W.eq (g2 := F0 m 479 ls [.int 2, .ref b, .int (xs 1), .ref a1]) rfl ?_
  refine va_sld hx hb hXs hbl hbA hS (i := 2) (show ¬ ((2 : Int32) < 0 ∨ 6 ≤ (2 : Int32).toNatClampNeg) by decide) dL_law_479 ?_
  refine W.eq (g2 := F0 m 480 ls [.int (xs 2), .int (xs 1), .ref a1]) rfl ?_
  obtain ⟨hPc, hDc, hFc⟩ := xcut (wc := [(a1, .inr (5, [v20, .ref a11, v21, v22, v23, v24, v25, v26, v27, v28, v29, v30, v31, v32, v33, v34, v35, v36, v37, v38, v39, v40, v41, v42, .ref a8, .ref a9, v43, v44, v45, v46, v47, v48])), (a8, .inl (cT 5, 8, .inr (.inr (.inr (.inr f59))))), (a9, .inl (cT 1, 8, .inl f62)), (a10, .inl (cT 0, 4096, .inl f65)), (a11, .inl (cT 4, 1024, .inr (.inr (.inr (.inr f70))))), (a12, .inl (cT 0, 4096, .inl f73))]) hP hD hS hA [0, 1, 2, 3, 4, 5] rfl rfl (by decide)
  refine va_calli (va_runV (C := "ValueBenchModel") (As := [.int (xs 1), .int (xs 2)]) (rest := []) ⟨hx, hb, hml, hown, htx⟩ (cM_compare_5 l hl9 D cT aK aV H.size a1 a8 a9 a10 a11 a12 (xs 1) (xs 2) v20 v21 v22 v23 v24 v25 v26 v27 v28 v29 v30 v31 v32 v33 v34 v35 v36 v37 v38 v39 v40 v41 v42 v43 v44 v45 v46 v47 v48 f59 f62 f65 f70 f73 ha1 ha2 ha3 ha4 hb1 hb2 hb3 hb4 (by first | rfl | exact h51 | exact h52 | exact h55 | exact h58 | exact h60 | exact h61 | exact h63 | exact h64 | exact h66 | exact h67 | exact h68 | exact h69 | exact h71 | exact h72 | exact h74 | exact h75 | exact h76 | exact h77) (by first | rfl | exact h51 | exact h52 | exact h55 | exact h58 | exact h60 | exact h61 | exact h63 | exact h64 | exact h66 | exact h67 | exact h68 | exact h69 | exact h71 | exact h72 | exact h74 | exact h75 | exact h76 | exact h77) (by first | rfl | exact h51 | exact h52 | exact h55 | exact h58 | exact h60 | exact h61 | exact h63 | exact h64 | exact h66 | exact h67 | exact h68 | exact h69 | exact h71 | exact h72 | exact h74 | exact h75 | exact h76 | exact h77) (by first | rfl | exact h51 | exact h52 | exact h55 | exact h58 | exact h60 | exact h61 | exact h63 | exact h64 | exact h66 | exact h67 | exact h68 | exact h69 | exact h71 | exact h72 | exact h74 | exact h75 | exact h76 | exact h77) (by first | rfl | exact h51 | exact h52 | exact h55 | exact h58 | exact h60 | exact h61 | exact h63 | exact h64 | exact h66 | exact h67 | exact h68 | exact h69 | exact h71 | exact h72 | exact h74 | exact h75 | exact h76 | exact h77) (by first | rfl | exact h51 | exact h52 | exact h55 | exact h58 | exact h60 | exact h61 | exact h63 | exact h64 | exact h66 | exact h67 | exact h68 | exact h69 | exact h71 | exact h72 | exact h74 | exact h75 | exact h76 | exact h77) (by first | rfl | exact h51 | exact h52 | exact h55 | exact h58 | exact h60 | exact h61 | exact h63 | exact h64 | exact h66 | exact h67 | exact h68 | exact h69 | exact h71 | exact h72 | exact h74 | exact h75 | exact h76 | exact h77) (by first | rfl | exact h51 | exact h52 | exact h55 | exact h58 | exact h60 | exact h61 | exact h63 | exact h64 | exact h66 | exact h67 | exact h68 | exact h69 | exact h71 | exact h72 | exact h74 | exact h75 | exact h76 | exact h77) (by first | rfl | exact h51 | exact h52 | exact h55 | exact h58 | exact h60 | exact h61 | exact h63 | exact h64 | exact h66 | exact h67 | exact h68 | exact h69 | exact h71 | exact h72 | exact h74 | exact h75 | exact h76 | exact h77) (by first | rfl | exact h51 | exact h52 | exact h55 | exact h58 | exact h60 | exact h61 | exact h63 | exact h64 | exact h66 | exact h67 | exact h68 | exact h69 | exact h71 | exact h72 | exact h74 | exact h75 | exact h76 | exact h77) (by first | rfl | exact h51 | exact h52 | exact h55 | exact h58 | exact h60 | exact h61 | exact h63 | exact h64 | exact h66 | exact h67 | exact h68 | exact h69 | exact h71 | exact h72 | exact h74 | exact h75 | exact h76 | exact h77) (by first | rfl | exact h51 | exact h52 | exact h55 | exact h58 | exact h60 | exact h61 | exact h63 | exact h64 | exact h66 | exact h67 | exact h68 | exact h69 | exact h71 | exact h72 | exact h74 | exact h75 | exact h76 | exact h77) (by first | rfl | exact h51 | exact h52 | exact h55 | exact h58 | exact h60 | exact h61 | exact h63 | exact h64 | exact h66 | exact h67 | exact h68 | exact h69 | exact h71 | exact h72 | exact h74 | exact h75 | exact h76 | exact h77) (by first | rfl | exact h51 | exact h52 | exact h55 | exact h58 | exact h60 | exact h61 | exact h63 | exact h64 | exact h66 | exact h67 | exact h68 | exact h69 | exact h71 | exact h72 | exact h74 | exact h75 | exact h76 | exact h77)) ⟨callB_of 2 htx (xw_goodC kw_7_119) rfl rfl rfl (htx _ kw_1_5) (htx _ kw_7_116) ⟨by decide, by decide, by decide +kernel⟩ ⟨Nat.le_of_ble_eq_true rfl, Nat.le_of_ble_eq_true rfl⟩, (htx _ kw_7_117), (htx _ kw_7_118)⟩ ⟨xPre_blind, va_recv hK hP (ci := 5) rfl (q0 := 0) rfl, (fun U hU hW => ⟨rfl, xPre_of hZ hS hFc hPc hDc hK U hU hW⟩)⟩ rfl rfl hl.1 rfl (lv_room (Nat.le_of_ble_eq_true rfl)) dL_law_480 ⟨Nat.le_of_ble_eq_true rfl, Nat.le_of_ble_eq_true rfl⟩) hS (fun q _ h => hFc q h) hFc (fun r2 u9 t H1 locs ht hvm hr9 hB hz1 hk1 hS => ?_)
  obtain ⟨q3, q4, hP1, hK1, hD1⟩ := hB
  rw [ht] at hP1
  obtain ⟨hP, hD⟩ := xjoin (W := [(a0, .inr (0, [v13, v14, v15, .ref a3, v16, v17, v18, v19])), (a3, .inl (cT 3, 8, .inr (.inr (.inr (.inr f50))))), (a4, .inr (2, [.ref a5, .int 1, v53])), (a5, .inl (cT 2, 4096, .inr (.inl f54))), (a6, .inr (2, [.ref a7, .int 1, v56])), (a7, .inl (cT 2, 4096, .inr (.inl f57))), (a2, .inl (cT 2, 1, .inr (.inl (vp_updL f49 0 0)))), (a1, .inr (5, [.int 0, .ref a11, .int 2, v22, .int 0, v24, v25, .int 0, v27, .int 0, v29, v30, .int 0, v32, v33, .ref a12, .int 4, .int 4, .int 0, .int 100, v39, v40, .int 0, .int 1000000000, .ref a8, .ref a9, v43, v44, v45, v46, v47, v48])), (a8, .inl (cT 5, 8, .inr (.inr (.inr (.inr f59))))), (a9, .inl (cT 1, 8, .inl f62)), (a10, .inl (cT 0, 4096, .inl f65)), (a11, .inl (cT 4, 1024, .inr (.inr (.inr (.inr (va_up (va_up f70 0 (some q3)) 1 (some q4))))))), (a12, .inl (cT 0, 4096, .inl f73)), (q3, .inr (6, [.int 0, .long 0, .int 0, .int 0, .int 0, .int 1])), (q4, .inr (6, [.int 0, .long 0, .int 0, .int 0, .int 0, .int 1]))]) hP hD [0, 1, 2, 3, 4, 5] [6, 7, 8, 9, 10, 11, 12] 7 rfl rfl (by decide) (by decide) hk1 hFc hP1 hD1
  generalize H1 = H at hP hS ⊢
  rw [hr9]
  refine W.eq (g2 := F0 m 483 ls [.int 0]) rfl ?_
  refine lv_istore (lv' := [(6, .int 0), (5, .int 0), (4, .int 0), (3, .ref a2), (2, .ref a1), (1, .ref a0), (0, .ref b)]) hx hb dL_law_483 hl (by decide) rfl (fun ls hl => ?_)
  refine lv_aload_n hx hb dL_law_485 rfl (lv_at hl 4 rfl) ?_
  obtain ⟨hPc, hDc, hFc⟩ := xcut (wc := [(a1, .inr (5, [.int 0, .ref a11, .int 2, v22, .int 0, v24, v25, .int 0, v27, .int 0, v29, v30, .int 0, v32, v33, .ref a12, .int 4, .int 4, .int 0, .int 100, v39, v40, .int 0, .int 1000000000, .ref a8, .ref a9, v43, v44, v45, v46, v47, v48]))]) hP hD hS hA [7] rfl rfl (by decide)
  refine va_calli (va_runV (C := "ValueBenchModel") (As := []) (rest := []) ⟨hx, hb, hml, hown, htx⟩ (cM_thrown_0 l hl9 D cT aK aV H.size a1 (.ref a11) (.int 2) v22 (.int 0) v24 v25 (.int 0) v27 (.int 0) v29 v30 (.int 0) v32 v33 (.ref a12) (.int 4) (.int 4) (.int 0) (.int 100) v39 v40 (.int 0) (.int 1000000000) (.ref a8) (.ref a9) v43 v44 v45 v46 v47 v48) ⟨callB_of 0 htx (xw_goodC kw_5_187) rfl rfl rfl (htx _ kw_1_5) (htx _ kw_5_184) ⟨by decide, by decide, by decide +kernel⟩ ⟨Nat.le_of_ble_eq_true rfl, Nat.le_of_ble_eq_true rfl⟩, (htx _ kw_5_185), (htx _ kw_5_186)⟩ ⟨xPre_blind, va_recv hK hP (ci := 5) rfl (q0 := 7) rfl, (fun U hU hW => ⟨rfl, xPre_of hZ hS hFc hPc hDc hK U hU hW⟩)⟩ rfl rfl hl.1 rfl (lv_room (Nat.le_of_ble_eq_true rfl)) dL_law_486 ⟨Nat.le_of_ble_eq_true rfl, Nat.le_of_ble_eq_true rfl⟩) hS (fun q _ h => hFc q h) hFc (fun r5 u9 t H1 locs ht hvm hr9 hB hz1 hk1 hS => ?_)
  obtain ⟨hP1, hK1, hD1⟩ := hB
  rw [ht] at hP1
  obtain ⟨hP, hD⟩ := xjoin (W := [(a0, .inr (0, [v13, v14, v15, .ref a3, v16, v17, v18, v19])), (a3, .inl (cT 3, 8, .inr (.inr (.inr (.inr f50))))), (a4, .inr (2, [.ref a5, .int 1, v53])), (a5, .inl (cT 2, 4096, .inr (.inl f54))), (a6, .inr (2, [.ref a7, .int 1, v56])), (a7, .inl (cT 2, 4096, .inr (.inl f57))), (a2, .inl (cT 2, 1, .inr (.inl (vp_updL f49 0 0)))), (a8, .inl (cT 5, 8, .inr (.inr (.inr (.inr f59))))), (a9, .inl (cT 1, 8, .inl f62)), (a10, .inl (cT 0, 4096, .inl f65)), (a11, .inl (cT 4, 1024, .inr (.inr (.inr (.inr (va_up (va_up f70 0 (some q3)) 1 (some q4))))))), (a12, .inl (cT 0, 4096, .inl f73)), (q3, .inr (6, [.int 0, .long 0, .int 0, .int 0, .int 0, .int 1])), (q4, .inr (6, [.int 0, .long 0, .int 0, .int 0, .int 0, .int 1])), (a1, .inr (5, [.int 0, .ref a11, .int 2, v22, .int 0, v24, v25, .int 0, v27, .int 0, v29, v30, .int 0, v32, v33, .ref a12, .int 4, .int 4, .int 0, .int 100, v39, v40, .int 0, .int 1000000000, .ref a8, .ref a9, v43, v44, v45, v46, v47, v48]))]) hP hD [7] [0, 1, 2, 3, 4, 5, 6, 8, 9, 10, 11, 12, 13, 14] 14 rfl rfl (by decide) (by decide) hk1 hFc hP1 hD1
  generalize H1 = H at hP hS ⊢
  rw [hr9]
  refine W.eq (g2 := F0 m 489 ls [.int 0]) rfl ?_
  refine lv_iload hx hb dL_law_489 (lv_at hl 1 rfl) ?_
  refine lv_icmp_eq (tgt := 496) hx hb dL_law_491 (by decide) (fun _ => ?_) (fun h => ((by revert h; decide : False)).elim)
  refine lv_iload hx hb dL_law_496 (lv_at hl 1 rfl) ?_
  refine lv_if_ne (tgt := 513) hx hb dL_law_498 (by decide) (fun h => ((by revert h; decide : False)).elim) (fun _ => ?_)
  refine lv_aload_n hx hb dL_law_501 rfl (lv_at hl 3 rfl) ?_
  refine lv_iconst (v := 0) hx hb dL_law_502 (by decide) ?_
  refine va_lald hx hb hK hP 6 2 rfl rfl (show ¬ ((0 : Int32) < 0 ∨ 1 ≤ (0 : Int32).toNatClampNeg) by decide) dL_law_503 ?_
  refine W.eq (g2 := F0 m 504 ls [.long 0]) rfl ?_
  refine lv_iload hx hb dL_law_504 (lv_at hl 0 rfl) ?_
  refine lv_i2l hx hb dL_law_506 rfl ?_
  refine W.eq (g2 := F0 m 507 ls [.long 0, .long 0]) rfl ?_
  refine W.lcmp hx hb dL_law_507 ?_
  refine W.eq (g2 := F0 m 508 ls [.int 0]) rfl ?_
  refine lv_if_eq (tgt := 513) hx hb dL_law_508 (by decide) (fun _ => ?_) (fun h => ((by revert h; decide : False)).elim)
  refine lv_goto (tgt := 906) hx hb dL_law_513 (by decide) ?_
  refine lv_iinc (v := 6) (lv' := [(4, .int 6), (6, .int 0), (5, .int 0), (3, .ref a2), (2, .ref a1), (1, .ref a0), (0, .ref b)]) hx hb dL_law_906 hl (k := 2) rfl (by decide) (by decide) rfl (fun ls hl => ?_)
  refine lv_goto (tgt := 23) hx hb dL_law_909 (by decide) ?_
  refine lv_iload hx hb dL_law_23 (lv_at hl 0 rfl) ?_
  refine lv_aload_n hx hb dL_law_25 rfl (lv_at hl 6 rfl) ?_
  refine va_slen hx hb hXs hbl hbA hS dL_law_26 ?_
  refine W.eq (g2 := F0 m 27 ls [.int 6, .int 6]) rfl ?_
  refine lv_bipush (v := 6) hx hb dL_law_27 (by decide) ?_
  refine lv_isub hx hb dL_law_29 ?_
  refine W.eq (g2 := F0 m 30 ls [.int 0, .int 6]) rfl ?_
  refine lv_icmp_gt (tgt := 912) hx hb dL_law_30 (by decide) (fun _ => ?_) (fun h => ((by revert h; decide : False)).elim)
  refine lv_iconst (v := 1) hx hb dL_law_912 (by decide) ?_
  exact va_forget (fun q h => hA2 _ (hS.2.2 q h)) (W.widen (k := 600002) (n := 7302232) (Nat.le_of_ble_eq_true rfl) (Nat.le_of_ble_eq_true rfl) (lw_ret hx hb hr hlocks dL_law_913))
set_option maxHeartbeats 400000000 in
set_option maxRecDepth 100000 in
theorem lf_same_alo {p : Program} {e : Env} {s : State} {m : MethodId} {below : List Frame} {meth : Method} {c : Code} (l : Launch) (hl9 : l.stackTraces = false) (D : va_G) (cT : Nat → ClassId) (aK aV : Nat → Nat) {A : Nat → Prop} {b : Nat} {xs : Nat → Int32} (C : xLw p s m meth c b D cT aK aV A) {H : Heap} {locs : List Loc} {ls : Array Slot} (a0 : Nat) (a1 : Nat) (a2 : Nat) (v3 : Value) (v4 : Value) (v5 : Value) (v6 : Value) (v7 : Value) (v8 : Value) (v9 : Value) (v10 : Value) (v11 : Value) (v12 : Value) (v13 : Value) (v14 : Value) (v15 : Value) (v16 : Value) (v17 : Value) (v18 : Value) (v19 : Value) (v20 : Value) (v21 : Value) (v22 : Value) (v23 : Value) (v24 : Value) (v25 : Value) (v26 : Value) (v27 : Value) (v28 : Value) (v29 : Value) (v30 : Value) (v31 : Value) (v32 : Value) (v33 : Value) (v34 : Value) (v35 : Value) (v36 : Value) (v37 : Value) (v38 : Value) (v39 : Value) (v40 : Value) (v41 : Value) (v42 : Value) (f43 : Nat → Int64) (ha1 : (xs 1) < 0) (hXs : va_X b 6 xs s s.heap) (hP : va_P D xcl [(a0, .inr (0, [v3, v4, v5, v6, v7, v8, v9, v10])), (a1, .inr (5, [v11, v12, v13, v14, v15, v16, v17, v18, v19, v20, v21, v22, v23, v24, v25, v26, v27, v28, v29, v30, v31, v32, v33, v34, v35, v36, v37, v38, v39, v40, v41, v42])), (a2, .inl (cT 2, 1, .inr (.inl f43)))] H) (hD : va_D A [(a0, .inr (0, [v3, v4, v5, v6, v7, v8, v9, v10])), (a1, .inr (5, [v11, v12, v13, v14, v15, v16, v17, v18, v19, v20, v21, v22, v23, v24, v25, v26, v27, v28, v29, v30, v31, v32, v33, v34, v35, v36, v37, v38, v39, v40, v41, v42])), (a2, .inl (cT 2, 1, .inr (.inl f43)))]) (hS : va_S A s.heap H locs) (hl : lv_has ls 8 [(4, .int 0), (3, .ref a2), (2, .ref a1), (1, .ref a0), (0, .ref b)]) : W p l e room_1 s m #[Value.ref b] below meth c H locs 54 107242 (lw_Z below #[Value.ref b] s) (F0 m 516 ls []) := by
  obtain ⟨hx, hb, hr, hml, hown, htx, hbl, hbA, hlocks, hK, hZ, hA, hA2⟩ := C
  refine lv_aload_n hx hb dL_law_516 rfl (lv_at hl 3 rfl) ?_
  refine lv_aload_n hx hb dL_law_517 rfl (lv_at hl 4 rfl) ?_
  refine lv_iload hx hb dL_law_518 (lv_at hl 0 rfl) ?_
  refine lv_iconst (v := 1) hx hb dL_law_520 (by decide) ?_
  refine lv_iadd hx hb dL_law_521 ?_
  refine W.eq (g2 := F0 m 522 ls [.int 1, .ref b, .ref a0]) rfl ?_
  refine va_sld hx hb hXs hbl hbA hS (i := 1) (show ¬ ((1 : Int32) < 0 ∨ 6 ≤ (1 : Int32).toNatClampNeg) by decide) dL_law_522 ?_
  refine W.eq (g2 := F0 m 523 ls [.int (xs 1), .ref a0]) rfl ?_
  refine lv_aload_n hx hb dL_law_523 rfl (lv_at hl 4 rfl) ?_
  refine lv_iload hx hb dL_law_524 (lv_at hl 0 rfl) ?_
  refine lv_iconst (v := 2) hx hb dL_law_526 (by decide) ?_
  refine lv_iadd hx hb dL_law_527 ?_
  refine W.eq (g2 := F0 m 528 ls [.int 2, .ref b, .int (xs 1), .ref a0]) rfl ?_
  refine va_sld hx hb hXs hbl hbA hS (i := 2) (show ¬ ((2 : Int32) < 0 ∨ 6 ≤ (2 : Int32).toNatClampNeg) by decide) dL_law_528 ?_
  refine W.eq (g2 := F0 m 529 ls [.int (xs 2), .int (xs 1), .ref a0]) rfl ?_
  refine lv_aload_n hx hb dL_law_529 rfl (lv_at hl 1 rfl) ?_
  obtain ⟨hPc, hDc, hFc⟩ := xcut (wc := [(a0, .inr (0, [v3, v4, v5, v6, v7, v8, v9, v10]))]) hP hD hS hA [0] rfl rfl (by decide)
  refine va_calli (vx_runSW (As := [.ref a0, .int (xs 1), .int (xs 2), .ref a2]) (rest := []) ⟨hx, hb, hml, hown, htx⟩ (cL_same_0 l hl9 D cT aK aV H.size a0 (xs 1) (xs 2) a2 v3 v4 v5 v6 v7 v8 v9 v10 ha1) (xcSW 4 htx (xw_goodC kw_4_13) rfl rfl rfl (htx _ kw_1_0) (htx _ kw_4_11) ⟨by decide, by decide, by decide +kernel⟩ ⟨Nat.le_of_ble_eq_true rfl, Nat.le_of_ble_eq_true rfl⟩ (htx _ kw_4_12)) ⟨xPre_blind, (fun U hU hW => ⟨rfl, xPre_of hZ hS hFc hPc hDc hK U hU hW⟩)⟩ rfl rfl hl.1 rfl (lv_room (Nat.le_of_ble_eq_true rfl)) dL_law_530 ⟨Nat.le_of_ble_eq_true rfl, Nat.le_of_ble_eq_true rfl⟩) hS (fun q _ h => hFc q h) hFc (fun r1 u9 t H1 locs ht hvm hr9 hB hz1 hk1 hS => ?_)
  obtain ⟨hP1, hK1, hD1⟩ := hB
  rw [ht] at hP1
  obtain ⟨hP, hD⟩ := xjoin (W := [(a1, .inr (5, [v11, v12, v13, v14, v15, v16, v17, v18, v19, v20, v21, v22, v23, v24, v25, v26, v27, v28, v29, v30, v31, v32, v33, v34, v35, v36, v37, v38, v39, v40, v41, v42])), (a2, .inl (cT 2, 1, .inr (.inl f43))), (a0, .inr (0, [v3, v4, v5, v6, v7, v8, v9, v10]))]) hP hD [0] [1, 2] 2 rfl rfl (by decide) (by decide) hk1 hFc hP1 hD1
  generalize H1 = H at hP hS ⊢
  rw [hr9]
  refine W.eq (g2 := F0 m 533 ls [.int 1]) rfl ?_
  refine lv_istore (lv' := [(5, .int 1), (4, .int 0), (3, .ref a2), (2, .ref a1), (1, .ref a0), (0, .ref b)]) hx hb dL_law_533 hl (by decide) rfl (fun ls hl => ?_)
  refine lv_aload_n hx hb dL_law_535 rfl (lv_at hl 3 rfl) ?_
  refine lv_aload_n hx hb dL_law_536 rfl (lv_at hl 5 rfl) ?_
  refine lv_iload hx hb dL_law_537 (lv_at hl 1 rfl) ?_
  refine lv_iconst (v := 1) hx hb dL_law_539 (by decide) ?_
  refine lv_iadd hx hb dL_law_540 ?_
  refine W.eq (g2 := F0 m 541 ls [.int 1, .ref b, .ref a1]) rfl ?_
  refine va_sld hx hb hXs hbl hbA hS (i := 1) (show ¬ ((1 : Int32) < 0 ∨ 6 ≤ (1 : Int32).toNatClampNeg) by decide) dL_law_541 ?_
  refine W.eq (g2 := F0 m 542 ls [.int (xs 1), .ref a1]) rfl ?_
  refine lv_aload_n hx hb dL_law_542 rfl (lv_at hl 5 rfl) ?_
  refine lv_iload hx hb dL_law_543 (lv_at hl 1 rfl) ?_
  refine lv_iconst (v := 2) hx hb dL_law_545 (by decide) ?_
  refine lv_iadd hx hb dL_law_546 ?_
  refine W.eq (g2 := F0 m 547 ls [.int 2, .ref b, .int (xs 1), .ref a1]) rfl ?_
  refine va_sld hx hb hXs hbl hbA hS (i := 2) (show ¬ ((2 : Int32) < 0 ∨ 6 ≤ (2 : Int32).toNatClampNeg) by decide) dL_law_547 ?_
  refine W.eq (g2 := F0 m 548 ls [.int (xs 2), .int (xs 1), .ref a1]) rfl ?_
  obtain ⟨hPc, hDc, hFc⟩ := xcut (wc := [(a1, .inr (5, [v11, v12, v13, v14, v15, v16, v17, v18, v19, v20, v21, v22, v23, v24, v25, v26, v27, v28, v29, v30, v31, v32, v33, v34, v35, v36, v37, v38, v39, v40, v41, v42]))]) hP hD hS hA [0] rfl rfl (by decide)
  refine va_calli (va_runV (C := "ValueBenchModel") (As := [.int (xs 1), .int (xs 2)]) (rest := []) ⟨hx, hb, hml, hown, htx⟩ (cM_same0_0 l hl9 D cT aK aV H.size a1 (xs 1) (xs 2) v11 v12 v13 v14 v15 v16 v17 v18 v19 v20 v21 v22 v23 v24 v25 v26 v27 v28 v29 v30 v31 v32 v33 v34 v35 v36 v37 v38 v39 v40 v41 v42 ha1) ⟨callB_of 2 htx (xw_goodC kw_6_166) rfl rfl rfl (htx _ kw_1_5) (htx _ kw_6_163) ⟨by decide, by decide, by decide +kernel⟩ ⟨Nat.le_of_ble_eq_true rfl, Nat.le_of_ble_eq_true rfl⟩, (htx _ kw_6_164), (htx _ kw_6_165)⟩ ⟨xPre_blind, va_recv hK hP (ci := 5) rfl (q0 := 0) rfl, (fun U hU hW => ⟨rfl, xPre_of hZ hS hFc hPc hDc hK U hU hW⟩)⟩ rfl rfl hl.1 rfl (lv_room (Nat.le_of_ble_eq_true rfl)) dL_law_548 ⟨Nat.le_of_ble_eq_true rfl, Nat.le_of_ble_eq_true rfl⟩) hS (fun q _ h => hFc q h) hFc (fun r2 u9 t H1 locs ht hvm hr9 hB hz1 hk1 hS => ?_)
  obtain ⟨hP1, hK1, hD1⟩ := hB
  rw [ht] at hP1
  obtain ⟨hP, hD⟩ := xjoin (W := [(a2, .inl (cT 2, 1, .inr (.inl f43))), (a0, .inr (0, [v3, v4, v5, v6, v7, v8, v9, v10])), (a1, .inr (5, [.int 1, v12, .int 0, v14, .int 0, v16, v17, .int 0, v19, .int 0, v21, v22, .int 0, v24, v25, v26, v27, v28, v29, v30, v31, v32, .int 0, .int 1000000000, v35, v36, v37, v38, v39, v40, v41, v42]))]) hP hD [0] [1, 2] 2 rfl rfl (by decide) (by decide) hk1 hFc hP1 hD1
  generalize H1 = H at hP hS ⊢
  rw [hr9]
  refine W.eq (g2 := F0 m 551 ls [.int 0]) rfl ?_
  refine lv_istore (lv' := [(6, .int 0), (5, .int 1), (4, .int 0), (3, .ref a2), (2, .ref a1), (1, .ref a0), (0, .ref b)]) hx hb dL_law_551 hl (by decide) rfl (fun ls hl => ?_)
  refine lv_aload_n hx hb dL_law_553 rfl (lv_at hl 4 rfl) ?_
  obtain ⟨hPc, hDc, hFc⟩ := xcut (wc := [(a1, .inr (5, [.int 1, v12, .int 0, v14, .int 0, v16, v17, .int 0, v19, .int 0, v21, v22, .int 0, v24, v25, v26, v27, v28, v29, v30, v31, v32, .int 0, .int 1000000000, v35, v36, v37, v38, v39, v40, v41, v42]))]) hP hD hS hA [2] rfl rfl (by decide)
  refine va_calli (va_runV (C := "ValueBenchModel") (As := []) (rest := []) ⟨hx, hb, hml, hown, htx⟩ (cM_thrown_1 l hl9 D cT aK aV H.size a1 v12 (.int 0) v14 (.int 0) v16 v17 (.int 0) v19 (.int 0) v21 v22 (.int 0) v24 v25 v26 v27 v28 v29 v30 v31 v32 (.int 0) (.int 1000000000) v35 v36 v37 v38 v39 v40 v41 v42) ⟨callB_of 0 htx (xw_goodC kw_5_187) rfl rfl rfl (htx _ kw_1_5) (htx _ kw_5_184) ⟨by decide, by decide, by decide +kernel⟩ ⟨Nat.le_of_ble_eq_true rfl, Nat.le_of_ble_eq_true rfl⟩, (htx _ kw_5_185), (htx _ kw_5_186)⟩ ⟨xPre_blind, va_recv hK hP (ci := 5) rfl (q0 := 2) rfl, (fun U hU hW => ⟨rfl, xPre_of hZ hS hFc hPc hDc hK U hU hW⟩)⟩ rfl rfl hl.1 rfl (lv_room (Nat.le_of_ble_eq_true rfl)) dL_law_554 ⟨Nat.le_of_ble_eq_true rfl, Nat.le_of_ble_eq_true rfl⟩) hS (fun q _ h => hFc q h) hFc (fun r3 u9 t H1 locs ht hvm hr9 hB hz1 hk1 hS => ?_)
  obtain ⟨hP1, hK1, hD1⟩ := hB
  rw [ht] at hP1
  obtain ⟨hP, hD⟩ := xjoin (W := [(a2, .inl (cT 2, 1, .inr (.inl f43))), (a0, .inr (0, [v3, v4, v5, v6, v7, v8, v9, v10])), (a1, .inr (5, [.int 1, v12, .int 0, v14, .int 0, v16, v17, .int 0, v19, .int 0, v21, v22, .int 0, v24, v25, v26, v27, v28, v29, v30, v31, v32, .int 0, .int 1000000000, v35, v36, v37, v38, v39, v40, v41, v42]))]) hP hD [2] [0, 1] 2 rfl rfl (by decide) (by decide) hk1 hFc hP1 hD1
  generalize H1 = H at hP hS ⊢
  rw [hr9]
  refine W.eq (g2 := F0 m 557 ls [.int 1]) rfl ?_
  refine lv_iload hx hb dL_law_557 (lv_at hl 1 rfl) ?_
  refine lv_icmp_eq (tgt := 564) hx hb dL_law_559 (by decide) (fun _ => ?_) (fun h => ((by revert h; decide : False)).elim)
  refine lv_iload hx hb dL_law_564 (lv_at hl 1 rfl) ?_
  refine lv_if_ne (tgt := 588) hx hb dL_law_566 (by decide) (fun _ => ?_) (fun h => ((by revert h; decide : False)).elim)
  refine lv_goto (tgt := 906) hx hb dL_law_588 (by decide) ?_
  refine lv_iinc (v := 6) (lv' := [(4, .int 6), (6, .int 0), (5, .int 1), (3, .ref a2), (2, .ref a1), (1, .ref a0), (0, .ref b)]) hx hb dL_law_906 hl (k := 2) rfl (by decide) (by decide) rfl (fun ls hl => ?_)
  refine lv_goto (tgt := 23) hx hb dL_law_909 (by decide) ?_
  refine lv_iload hx hb dL_law_23 (lv_at hl 0 rfl) ?_
  refine lv_aload_n hx hb dL_law_25 rfl (lv_at hl 6 rfl) ?_
  refine va_slen hx hb hXs hbl hbA hS dL_law_26 ?_
  refine W.eq (g2 := F0 m 27 ls [.int 6, .int 6]) rfl ?_
  refine lv_bipush (v := 6) hx hb dL_law_27 (by decide) ?_
  refine lv_isub hx hb dL_law_29 ?_
  refine W.eq (g2 := F0 m 30 ls [.int 0, .int 6]) rfl ?_
  refine lv_icmp_gt (tgt := 912) hx hb dL_law_30 (by decide) (fun _ => ?_) (fun h => ((by revert h; decide : False)).elim)
  refine lv_iconst (v := 1) hx hb dL_law_912 (by decide) ?_
  exact va_forget (fun q h => hA2 _ (hS.2.2 q h)) (W.widen (k := 600002) (n := 7302232) (Nat.le_of_ble_eq_true rfl) (Nat.le_of_ble_eq_true rfl) (lw_ret hx hb hr hlocks dL_law_913))
set_option maxHeartbeats 400000000 in
set_option maxRecDepth 100000 in
theorem lf_same_ahi {p : Program} {e : Env} {s : State} {m : MethodId} {below : List Frame} {meth : Method} {c : Code} (l : Launch) (hl9 : l.stackTraces = false) (D : va_G) (cT : Nat → ClassId) (aK aV : Nat → Nat) {A : Nat → Prop} {b : Nat} {xs : Nat → Int32} (C : xLw p s m meth c b D cT aK aV A) {H : Heap} {locs : List Loc} {ls : Array Slot} (a0 : Nat) (a1 : Nat) (a2 : Nat) (v3 : Value) (v4 : Value) (v5 : Value) (v6 : Value) (v7 : Value) (v8 : Value) (v9 : Value) (v10 : Value) (v11 : Value) (v12 : Value) (v13 : Value) (v14 : Value) (v15 : Value) (v16 : Value) (v17 : Value) (v18 : Value) (v19 : Value) (v20 : Value) (v21 : Value) (v22 : Value) (v23 : Value) (v24 : Value) (v25 : Value) (v26 : Value) (v27 : Value) (v28 : Value) (v29 : Value) (v30 : Value) (v31 : Value) (v32 : Value) (v33 : Value) (v34 : Value) (v35 : Value) (v36 : Value) (v37 : Value) (v38 : Value) (v39 : Value) (v40 : Value) (v41 : Value) (v42 : Value) (f43 : Nat → Int64) (ha1 : ¬ (xs 1) < 0) (ha2 : 7 < (xs 1)) (ha3 : ¬ (xs 1) ≤ 7) (hXs : va_X b 6 xs s s.heap) (hP : va_P D xcl [(a0, .inr (0, [v3, v4, v5, v6, v7, v8, v9, v10])), (a1, .inr (5, [v11, v12, v13, v14, v15, v16, v17, v18, v19, v20, v21, v22, v23, v24, v25, v26, v27, v28, v29, v30, v31, v32, v33, v34, v35, v36, v37, v38, v39, v40, v41, v42])), (a2, .inl (cT 2, 1, .inr (.inl f43)))] H) (hD : va_D A [(a0, .inr (0, [v3, v4, v5, v6, v7, v8, v9, v10])), (a1, .inr (5, [v11, v12, v13, v14, v15, v16, v17, v18, v19, v20, v21, v22, v23, v24, v25, v26, v27, v28, v29, v30, v31, v32, v33, v34, v35, v36, v37, v38, v39, v40, v41, v42])), (a2, .inl (cT 2, 1, .inr (.inl f43)))]) (hS : va_S A s.heap H locs) (hl : lv_has ls 8 [(4, .int 0), (3, .ref a2), (2, .ref a1), (1, .ref a0), (0, .ref b)]) : W p l e room_1 s m #[Value.ref b] below meth c H locs 54 107242 (lw_Z below #[Value.ref b] s) (F0 m 516 ls []) := by
  obtain ⟨hx, hb, hr, hml, hown, htx, hbl, hbA, hlocks, hK, hZ, hA, hA2⟩ := C
  refine lv_aload_n hx hb dL_law_516 rfl (lv_at hl 3 rfl) ?_
  refine lv_aload_n hx hb dL_law_517 rfl (lv_at hl 4 rfl) ?_
  refine lv_iload hx hb dL_law_518 (lv_at hl 0 rfl) ?_
  refine lv_iconst (v := 1) hx hb dL_law_520 (by decide) ?_
  refine lv_iadd hx hb dL_law_521 ?_
  refine W.eq (g2 := F0 m 522 ls [.int 1, .ref b, .ref a0]) rfl ?_
  refine va_sld hx hb hXs hbl hbA hS (i := 1) (show ¬ ((1 : Int32) < 0 ∨ 6 ≤ (1 : Int32).toNatClampNeg) by decide) dL_law_522 ?_
  refine W.eq (g2 := F0 m 523 ls [.int (xs 1), .ref a0]) rfl ?_
  refine lv_aload_n hx hb dL_law_523 rfl (lv_at hl 4 rfl) ?_
  refine lv_iload hx hb dL_law_524 (lv_at hl 0 rfl) ?_
  refine lv_iconst (v := 2) hx hb dL_law_526 (by decide) ?_
  refine lv_iadd hx hb dL_law_527 ?_
  refine W.eq (g2 := F0 m 528 ls [.int 2, .ref b, .int (xs 1), .ref a0]) rfl ?_
  refine va_sld hx hb hXs hbl hbA hS (i := 2) (show ¬ ((2 : Int32) < 0 ∨ 6 ≤ (2 : Int32).toNatClampNeg) by decide) dL_law_528 ?_
  refine W.eq (g2 := F0 m 529 ls [.int (xs 2), .int (xs 1), .ref a0]) rfl ?_
  refine lv_aload_n hx hb dL_law_529 rfl (lv_at hl 1 rfl) ?_
  obtain ⟨hPc, hDc, hFc⟩ := xcut (wc := [(a0, .inr (0, [v3, v4, v5, v6, v7, v8, v9, v10]))]) hP hD hS hA [0] rfl rfl (by decide)
  refine va_calli (vx_runSW (As := [.ref a0, .int (xs 1), .int (xs 2), .ref a2]) (rest := []) ⟨hx, hb, hml, hown, htx⟩ (cL_same_1 l hl9 D cT aK aV H.size a0 (xs 1) (xs 2) a2 v3 v4 v5 v6 v7 v8 v9 v10 ha1 ha2 ha3) (xcSW 4 htx (xw_goodC kw_4_13) rfl rfl rfl (htx _ kw_1_0) (htx _ kw_4_11) ⟨by decide, by decide, by decide +kernel⟩ ⟨Nat.le_of_ble_eq_true rfl, Nat.le_of_ble_eq_true rfl⟩ (htx _ kw_4_12)) ⟨xPre_blind, (fun U hU hW => ⟨rfl, xPre_of hZ hS hFc hPc hDc hK U hU hW⟩)⟩ rfl rfl hl.1 rfl (lv_room (Nat.le_of_ble_eq_true rfl)) dL_law_530 ⟨Nat.le_of_ble_eq_true rfl, Nat.le_of_ble_eq_true rfl⟩) hS (fun q _ h => hFc q h) hFc (fun r1 u9 t H1 locs ht hvm hr9 hB hz1 hk1 hS => ?_)
  obtain ⟨hP1, hK1, hD1⟩ := hB
  rw [ht] at hP1
  obtain ⟨hP, hD⟩ := xjoin (W := [(a1, .inr (5, [v11, v12, v13, v14, v15, v16, v17, v18, v19, v20, v21, v22, v23, v24, v25, v26, v27, v28, v29, v30, v31, v32, v33, v34, v35, v36, v37, v38, v39, v40, v41, v42])), (a2, .inl (cT 2, 1, .inr (.inl f43))), (a0, .inr (0, [v3, v4, v5, v6, v7, v8, v9, v10]))]) hP hD [0] [1, 2] 2 rfl rfl (by decide) (by decide) hk1 hFc hP1 hD1
  generalize H1 = H at hP hS ⊢
  rw [hr9]
  refine W.eq (g2 := F0 m 533 ls [.int 1]) rfl ?_
  refine lv_istore (lv' := [(5, .int 1), (4, .int 0), (3, .ref a2), (2, .ref a1), (1, .ref a0), (0, .ref b)]) hx hb dL_law_533 hl (by decide) rfl (fun ls hl => ?_)
  refine lv_aload_n hx hb dL_law_535 rfl (lv_at hl 3 rfl) ?_
  refine lv_aload_n hx hb dL_law_536 rfl (lv_at hl 5 rfl) ?_
  refine lv_iload hx hb dL_law_537 (lv_at hl 1 rfl) ?_
  refine lv_iconst (v := 1) hx hb dL_law_539 (by decide) ?_
  refine lv_iadd hx hb dL_law_540 ?_
  refine W.eq (g2 := F0 m 541 ls [.int 1, .ref b, .ref a1]) rfl ?_
  refine va_sld hx hb hXs hbl hbA hS (i := 1) (show ¬ ((1 : Int32) < 0 ∨ 6 ≤ (1 : Int32).toNatClampNeg) by decide) dL_law_541 ?_
  refine W.eq (g2 := F0 m 542 ls [.int (xs 1), .ref a1]) rfl ?_
  refine lv_aload_n hx hb dL_law_542 rfl (lv_at hl 5 rfl) ?_
  refine lv_iload hx hb dL_law_543 (lv_at hl 1 rfl) ?_
  refine lv_iconst (v := 2) hx hb dL_law_545 (by decide) ?_
  refine lv_iadd hx hb dL_law_546 ?_
  refine W.eq (g2 := F0 m 547 ls [.int 2, .ref b, .int (xs 1), .ref a1]) rfl ?_
  refine va_sld hx hb hXs hbl hbA hS (i := 2) (show ¬ ((2 : Int32) < 0 ∨ 6 ≤ (2 : Int32).toNatClampNeg) by decide) dL_law_547 ?_
  refine W.eq (g2 := F0 m 548 ls [.int (xs 2), .int (xs 1), .ref a1]) rfl ?_
  obtain ⟨hPc, hDc, hFc⟩ := xcut (wc := [(a1, .inr (5, [v11, v12, v13, v14, v15, v16, v17, v18, v19, v20, v21, v22, v23, v24, v25, v26, v27, v28, v29, v30, v31, v32, v33, v34, v35, v36, v37, v38, v39, v40, v41, v42]))]) hP hD hS hA [0] rfl rfl (by decide)
  refine va_calli (va_runV (C := "ValueBenchModel") (As := [.int (xs 1), .int (xs 2)]) (rest := []) ⟨hx, hb, hml, hown, htx⟩ (cM_same0_1 l hl9 D cT aK aV H.size a1 (xs 1) (xs 2) v11 v12 v13 v14 v15 v16 v17 v18 v19 v20 v21 v22 v23 v24 v25 v26 v27 v28 v29 v30 v31 v32 v33 v34 v35 v36 v37 v38 v39 v40 v41 v42 ha1 ha2 ha3) ⟨callB_of 2 htx (xw_goodC kw_6_166) rfl rfl rfl (htx _ kw_1_5) (htx _ kw_6_163) ⟨by decide, by decide, by decide +kernel⟩ ⟨Nat.le_of_ble_eq_true rfl, Nat.le_of_ble_eq_true rfl⟩, (htx _ kw_6_164), (htx _ kw_6_165)⟩ ⟨xPre_blind, va_recv hK hP (ci := 5) rfl (q0 := 0) rfl, (fun U hU hW => ⟨rfl, xPre_of hZ hS hFc hPc hDc hK U hU hW⟩)⟩ rfl rfl hl.1 rfl (lv_room (Nat.le_of_ble_eq_true rfl)) dL_law_548 ⟨Nat.le_of_ble_eq_true rfl, Nat.le_of_ble_eq_true rfl⟩) hS (fun q _ h => hFc q h) hFc (fun r2 u9 t H1 locs ht hvm hr9 hB hz1 hk1 hS => ?_)
  obtain ⟨hP1, hK1, hD1⟩ := hB
  rw [ht] at hP1
  obtain ⟨hP, hD⟩ := xjoin (W := [(a2, .inl (cT 2, 1, .inr (.inl f43))), (a0, .inr (0, [v3, v4, v5, v6, v7, v8, v9, v10])), (a1, .inr (5, [.int 1, v12, .int 0, v14, .int 0, v16, v17, .int 0, v19, .int 0, v21, v22, .int 0, v24, v25, v26, v27, v28, v29, v30, v31, v32, .int 0, .int 1000000000, v35, v36, v37, v38, v39, v40, v41, v42]))]) hP hD [0] [1, 2] 2 rfl rfl (by decide) (by decide) hk1 hFc hP1 hD1
  generalize H1 = H at hP hS ⊢
  rw [hr9]
  refine W.eq (g2 := F0 m 551 ls [.int 0]) rfl ?_
  refine lv_istore (lv' := [(6, .int 0), (5, .int 1), (4, .int 0), (3, .ref a2), (2, .ref a1), (1, .ref a0), (0, .ref b)]) hx hb dL_law_551 hl (by decide) rfl (fun ls hl => ?_)
  refine lv_aload_n hx hb dL_law_553 rfl (lv_at hl 4 rfl) ?_
  obtain ⟨hPc, hDc, hFc⟩ := xcut (wc := [(a1, .inr (5, [.int 1, v12, .int 0, v14, .int 0, v16, v17, .int 0, v19, .int 0, v21, v22, .int 0, v24, v25, v26, v27, v28, v29, v30, v31, v32, .int 0, .int 1000000000, v35, v36, v37, v38, v39, v40, v41, v42]))]) hP hD hS hA [2] rfl rfl (by decide)
  refine va_calli (va_runV (C := "ValueBenchModel") (As := []) (rest := []) ⟨hx, hb, hml, hown, htx⟩ (cM_thrown_1 l hl9 D cT aK aV H.size a1 v12 (.int 0) v14 (.int 0) v16 v17 (.int 0) v19 (.int 0) v21 v22 (.int 0) v24 v25 v26 v27 v28 v29 v30 v31 v32 (.int 0) (.int 1000000000) v35 v36 v37 v38 v39 v40 v41 v42) ⟨callB_of 0 htx (xw_goodC kw_5_187) rfl rfl rfl (htx _ kw_1_5) (htx _ kw_5_184) ⟨by decide, by decide, by decide +kernel⟩ ⟨Nat.le_of_ble_eq_true rfl, Nat.le_of_ble_eq_true rfl⟩, (htx _ kw_5_185), (htx _ kw_5_186)⟩ ⟨xPre_blind, va_recv hK hP (ci := 5) rfl (q0 := 2) rfl, (fun U hU hW => ⟨rfl, xPre_of hZ hS hFc hPc hDc hK U hU hW⟩)⟩ rfl rfl hl.1 rfl (lv_room (Nat.le_of_ble_eq_true rfl)) dL_law_554 ⟨Nat.le_of_ble_eq_true rfl, Nat.le_of_ble_eq_true rfl⟩) hS (fun q _ h => hFc q h) hFc (fun r3 u9 t H1 locs ht hvm hr9 hB hz1 hk1 hS => ?_)
  obtain ⟨hP1, hK1, hD1⟩ := hB
  rw [ht] at hP1
  obtain ⟨hP, hD⟩ := xjoin (W := [(a2, .inl (cT 2, 1, .inr (.inl f43))), (a0, .inr (0, [v3, v4, v5, v6, v7, v8, v9, v10])), (a1, .inr (5, [.int 1, v12, .int 0, v14, .int 0, v16, v17, .int 0, v19, .int 0, v21, v22, .int 0, v24, v25, v26, v27, v28, v29, v30, v31, v32, .int 0, .int 1000000000, v35, v36, v37, v38, v39, v40, v41, v42]))]) hP hD [2] [0, 1] 2 rfl rfl (by decide) (by decide) hk1 hFc hP1 hD1
  generalize H1 = H at hP hS ⊢
  rw [hr9]
  refine W.eq (g2 := F0 m 557 ls [.int 1]) rfl ?_
  refine lv_iload hx hb dL_law_557 (lv_at hl 1 rfl) ?_
  refine lv_icmp_eq (tgt := 564) hx hb dL_law_559 (by decide) (fun _ => ?_) (fun h => ((by revert h; decide : False)).elim)
  refine lv_iload hx hb dL_law_564 (lv_at hl 1 rfl) ?_
  refine lv_if_ne (tgt := 588) hx hb dL_law_566 (by decide) (fun _ => ?_) (fun h => ((by revert h; decide : False)).elim)
  refine lv_goto (tgt := 906) hx hb dL_law_588 (by decide) ?_
  refine lv_iinc (v := 6) (lv' := [(4, .int 6), (6, .int 0), (5, .int 1), (3, .ref a2), (2, .ref a1), (1, .ref a0), (0, .ref b)]) hx hb dL_law_906 hl (k := 2) rfl (by decide) (by decide) rfl (fun ls hl => ?_)
  refine lv_goto (tgt := 23) hx hb dL_law_909 (by decide) ?_
  refine lv_iload hx hb dL_law_23 (lv_at hl 0 rfl) ?_
  refine lv_aload_n hx hb dL_law_25 rfl (lv_at hl 6 rfl) ?_
  refine va_slen hx hb hXs hbl hbA hS dL_law_26 ?_
  refine W.eq (g2 := F0 m 27 ls [.int 6, .int 6]) rfl ?_
  refine lv_bipush (v := 6) hx hb dL_law_27 (by decide) ?_
  refine lv_isub hx hb dL_law_29 ?_
  refine W.eq (g2 := F0 m 30 ls [.int 0, .int 6]) rfl ?_
  refine lv_icmp_gt (tgt := 912) hx hb dL_law_30 (by decide) (fun _ => ?_) (fun h => ((by revert h; decide : False)).elim)
  refine lv_iconst (v := 1) hx hb dL_law_912 (by decide) ?_
  exact va_forget (fun q h => hA2 _ (hS.2.2 q h)) (W.widen (k := 600002) (n := 7302232) (Nat.le_of_ble_eq_true rfl) (Nat.le_of_ble_eq_true rfl) (lw_ret hx hb hr hlocks dL_law_913))
set_option maxHeartbeats 400000000 in
set_option maxRecDepth 100000 in
theorem lf_same_blo {p : Program} {e : Env} {s : State} {m : MethodId} {below : List Frame} {meth : Method} {c : Code} (l : Launch) (hl9 : l.stackTraces = false) (D : va_G) (cT : Nat → ClassId) (aK aV : Nat → Nat) {A : Nat → Prop} {b : Nat} {xs : Nat → Int32} (C : xLw p s m meth c b D cT aK aV A) {H : Heap} {locs : List Loc} {ls : Array Slot} (a0 : Nat) (a1 : Nat) (a2 : Nat) (v3 : Value) (v4 : Value) (v5 : Value) (v6 : Value) (v7 : Value) (v8 : Value) (v9 : Value) (v10 : Value) (v11 : Value) (v12 : Value) (v13 : Value) (v14 : Value) (v15 : Value) (v16 : Value) (v17 : Value) (v18 : Value) (v19 : Value) (v20 : Value) (v21 : Value) (v22 : Value) (v23 : Value) (v24 : Value) (v25 : Value) (v26 : Value) (v27 : Value) (v28 : Value) (v29 : Value) (v30 : Value) (v31 : Value) (v32 : Value) (v33 : Value) (v34 : Value) (v35 : Value) (v36 : Value) (v37 : Value) (v38 : Value) (v39 : Value) (v40 : Value) (v41 : Value) (v42 : Value) (f43 : Nat → Int64) (ha1 : ¬ (xs 1) < 0) (ha2 : ¬ 7 < (xs 1)) (ha3 : (xs 1) ≤ 7) (ha4 : vp_in (xs 1) 8) (hb1 : (xs 2) < 0) (hXs : va_X b 6 xs s s.heap) (hP : va_P D xcl [(a0, .inr (0, [v3, v4, v5, v6, v7, v8, v9, v10])), (a1, .inr (5, [v11, v12, v13, v14, v15, v16, v17, v18, v19, v20, v21, v22, v23, v24, v25, v26, v27, v28, v29, v30, v31, v32, v33, v34, v35, v36, v37, v38, v39, v40, v41, v42])), (a2, .inl (cT 2, 1, .inr (.inl f43)))] H) (hD : va_D A [(a0, .inr (0, [v3, v4, v5, v6, v7, v8, v9, v10])), (a1, .inr (5, [v11, v12, v13, v14, v15, v16, v17, v18, v19, v20, v21, v22, v23, v24, v25, v26, v27, v28, v29, v30, v31, v32, v33, v34, v35, v36, v37, v38, v39, v40, v41, v42])), (a2, .inl (cT 2, 1, .inr (.inl f43)))]) (hS : va_S A s.heap H locs) (hl : lv_has ls 8 [(4, .int 0), (3, .ref a2), (2, .ref a1), (1, .ref a0), (0, .ref b)]) : W p l e room_1 s m #[Value.ref b] below meth c H locs 54 107242 (lw_Z below #[Value.ref b] s) (F0 m 516 ls []) := by
  obtain ⟨hx, hb, hr, hml, hown, htx, hbl, hbA, hlocks, hK, hZ, hA, hA2⟩ := C
  refine lv_aload_n hx hb dL_law_516 rfl (lv_at hl 3 rfl) ?_
  refine lv_aload_n hx hb dL_law_517 rfl (lv_at hl 4 rfl) ?_
  refine lv_iload hx hb dL_law_518 (lv_at hl 0 rfl) ?_
  refine lv_iconst (v := 1) hx hb dL_law_520 (by decide) ?_
  refine lv_iadd hx hb dL_law_521 ?_
  refine W.eq (g2 := F0 m 522 ls [.int 1, .ref b, .ref a0]) rfl ?_
  refine va_sld hx hb hXs hbl hbA hS (i := 1) (show ¬ ((1 : Int32) < 0 ∨ 6 ≤ (1 : Int32).toNatClampNeg) by decide) dL_law_522 ?_
  refine W.eq (g2 := F0 m 523 ls [.int (xs 1), .ref a0]) rfl ?_
  refine lv_aload_n hx hb dL_law_523 rfl (lv_at hl 4 rfl) ?_
  refine lv_iload hx hb dL_law_524 (lv_at hl 0 rfl) ?_
  refine lv_iconst (v := 2) hx hb dL_law_526 (by decide) ?_
  refine lv_iadd hx hb dL_law_527 ?_
  refine W.eq (g2 := F0 m 528 ls [.int 2, .ref b, .int (xs 1), .ref a0]) rfl ?_
  refine va_sld hx hb hXs hbl hbA hS (i := 2) (show ¬ ((2 : Int32) < 0 ∨ 6 ≤ (2 : Int32).toNatClampNeg) by decide) dL_law_528 ?_
  refine W.eq (g2 := F0 m 529 ls [.int (xs 2), .int (xs 1), .ref a0]) rfl ?_
  refine lv_aload_n hx hb dL_law_529 rfl (lv_at hl 1 rfl) ?_
  obtain ⟨hPc, hDc, hFc⟩ := xcut (wc := [(a0, .inr (0, [v3, v4, v5, v6, v7, v8, v9, v10]))]) hP hD hS hA [0] rfl rfl (by decide)
  refine va_calli (vx_runSW (As := [.ref a0, .int (xs 1), .int (xs 2), .ref a2]) (rest := []) ⟨hx, hb, hml, hown, htx⟩ (cL_same_2 l hl9 D cT aK aV H.size a0 (xs 1) (xs 2) a2 v3 v4 v5 v6 v7 v8 v9 v10 ha1 ha2 ha3 ha4 hb1) (xcSW 4 htx (xw_goodC kw_4_13) rfl rfl rfl (htx _ kw_1_0) (htx _ kw_4_11) ⟨by decide, by decide, by decide +kernel⟩ ⟨Nat.le_of_ble_eq_true rfl, Nat.le_of_ble_eq_true rfl⟩ (htx _ kw_4_12)) ⟨xPre_blind, (fun U hU hW => ⟨rfl, xPre_of hZ hS hFc hPc hDc hK U hU hW⟩)⟩ rfl rfl hl.1 rfl (lv_room (Nat.le_of_ble_eq_true rfl)) dL_law_530 ⟨Nat.le_of_ble_eq_true rfl, Nat.le_of_ble_eq_true rfl⟩) hS (fun q _ h => hFc q h) hFc (fun r1 u9 t H1 locs ht hvm hr9 hB hz1 hk1 hS => ?_)
  obtain ⟨hP1, hK1, hD1⟩ := hB
  rw [ht] at hP1
  obtain ⟨hP, hD⟩ := xjoin (W := [(a1, .inr (5, [v11, v12, v13, v14, v15, v16, v17, v18, v19, v20, v21, v22, v23, v24, v25, v26, v27, v28, v29, v30, v31, v32, v33, v34, v35, v36, v37, v38, v39, v40, v41, v42])), (a2, .inl (cT 2, 1, .inr (.inl f43))), (a0, .inr (0, [v3, v4, v5, v6, v7, v8, v9, v10]))]) hP hD [0] [1, 2] 2 rfl rfl (by decide) (by decide) hk1 hFc hP1 hD1
  generalize H1 = H at hP hS ⊢
  rw [hr9]
  refine W.eq (g2 := F0 m 533 ls [.int 1]) rfl ?_
  refine lv_istore (lv' := [(5, .int 1), (4, .int 0), (3, .ref a2), (2, .ref a1), (1, .ref a0), (0, .ref b)]) hx hb dL_law_533 hl (by decide) rfl (fun ls hl => ?_)
  refine lv_aload_n hx hb dL_law_535 rfl (lv_at hl 3 rfl) ?_
  refine lv_aload_n hx hb dL_law_536 rfl (lv_at hl 5 rfl) ?_
  refine lv_iload hx hb dL_law_537 (lv_at hl 1 rfl) ?_
  refine lv_iconst (v := 1) hx hb dL_law_539 (by decide) ?_
  refine lv_iadd hx hb dL_law_540 ?_
  refine W.eq (g2 := F0 m 541 ls [.int 1, .ref b, .ref a1]) rfl ?_
  refine va_sld hx hb hXs hbl hbA hS (i := 1) (show ¬ ((1 : Int32) < 0 ∨ 6 ≤ (1 : Int32).toNatClampNeg) by decide) dL_law_541 ?_
  refine W.eq (g2 := F0 m 542 ls [.int (xs 1), .ref a1]) rfl ?_
  refine lv_aload_n hx hb dL_law_542 rfl (lv_at hl 5 rfl) ?_
  refine lv_iload hx hb dL_law_543 (lv_at hl 1 rfl) ?_
  refine lv_iconst (v := 2) hx hb dL_law_545 (by decide) ?_
  refine lv_iadd hx hb dL_law_546 ?_
  refine W.eq (g2 := F0 m 547 ls [.int 2, .ref b, .int (xs 1), .ref a1]) rfl ?_
  refine va_sld hx hb hXs hbl hbA hS (i := 2) (show ¬ ((2 : Int32) < 0 ∨ 6 ≤ (2 : Int32).toNatClampNeg) by decide) dL_law_547 ?_
  refine W.eq (g2 := F0 m 548 ls [.int (xs 2), .int (xs 1), .ref a1]) rfl ?_
  obtain ⟨hPc, hDc, hFc⟩ := xcut (wc := [(a1, .inr (5, [v11, v12, v13, v14, v15, v16, v17, v18, v19, v20, v21, v22, v23, v24, v25, v26, v27, v28, v29, v30, v31, v32, v33, v34, v35, v36, v37, v38, v39, v40, v41, v42]))]) hP hD hS hA [0] rfl rfl (by decide)
  refine va_calli (va_runV (C := "ValueBenchModel") (As := [.int (xs 1), .int (xs 2)]) (rest := []) ⟨hx, hb, hml, hown, htx⟩ (cM_same0_2 l hl9 D cT aK aV H.size a1 (xs 1) (xs 2) v11 v12 v13 v14 v15 v16 v17 v18 v19 v20 v21 v22 v23 v24 v25 v26 v27 v28 v29 v30 v31 v32 v33 v34 v35 v36 v37 v38 v39 v40 v41 v42 ha1 ha2 ha3 ha4 hb1) ⟨callB_of 2 htx (xw_goodC kw_6_166) rfl rfl rfl (htx _ kw_1_5) (htx _ kw_6_163) ⟨by decide, by decide, by decide +kernel⟩ ⟨Nat.le_of_ble_eq_true rfl, Nat.le_of_ble_eq_true rfl⟩, (htx _ kw_6_164), (htx _ kw_6_165)⟩ ⟨xPre_blind, va_recv hK hP (ci := 5) rfl (q0 := 0) rfl, (fun U hU hW => ⟨rfl, xPre_of hZ hS hFc hPc hDc hK U hU hW⟩)⟩ rfl rfl hl.1 rfl (lv_room (Nat.le_of_ble_eq_true rfl)) dL_law_548 ⟨Nat.le_of_ble_eq_true rfl, Nat.le_of_ble_eq_true rfl⟩) hS (fun q _ h => hFc q h) hFc (fun r2 u9 t H1 locs ht hvm hr9 hB hz1 hk1 hS => ?_)
  obtain ⟨hP1, hK1, hD1⟩ := hB
  rw [ht] at hP1
  obtain ⟨hP, hD⟩ := xjoin (W := [(a2, .inl (cT 2, 1, .inr (.inl f43))), (a0, .inr (0, [v3, v4, v5, v6, v7, v8, v9, v10])), (a1, .inr (5, [.int 1, v12, .int 0, v14, .int 0, v16, v17, .int 0, v19, .int 0, v21, v22, .int 0, v24, v25, v26, v27, v28, v29, v30, v31, v32, .int 0, .int 1000000000, v35, v36, v37, v38, v39, v40, v41, v42]))]) hP hD [0] [1, 2] 2 rfl rfl (by decide) (by decide) hk1 hFc hP1 hD1
  generalize H1 = H at hP hS ⊢
  rw [hr9]
  refine W.eq (g2 := F0 m 551 ls [.int 0]) rfl ?_
  refine lv_istore (lv' := [(6, .int 0), (5, .int 1), (4, .int 0), (3, .ref a2), (2, .ref a1), (1, .ref a0), (0, .ref b)]) hx hb dL_law_551 hl (by decide) rfl (fun ls hl => ?_)
  refine lv_aload_n hx hb dL_law_553 rfl (lv_at hl 4 rfl) ?_
  obtain ⟨hPc, hDc, hFc⟩ := xcut (wc := [(a1, .inr (5, [.int 1, v12, .int 0, v14, .int 0, v16, v17, .int 0, v19, .int 0, v21, v22, .int 0, v24, v25, v26, v27, v28, v29, v30, v31, v32, .int 0, .int 1000000000, v35, v36, v37, v38, v39, v40, v41, v42]))]) hP hD hS hA [2] rfl rfl (by decide)
  refine va_calli (va_runV (C := "ValueBenchModel") (As := []) (rest := []) ⟨hx, hb, hml, hown, htx⟩ (cM_thrown_1 l hl9 D cT aK aV H.size a1 v12 (.int 0) v14 (.int 0) v16 v17 (.int 0) v19 (.int 0) v21 v22 (.int 0) v24 v25 v26 v27 v28 v29 v30 v31 v32 (.int 0) (.int 1000000000) v35 v36 v37 v38 v39 v40 v41 v42) ⟨callB_of 0 htx (xw_goodC kw_5_187) rfl rfl rfl (htx _ kw_1_5) (htx _ kw_5_184) ⟨by decide, by decide, by decide +kernel⟩ ⟨Nat.le_of_ble_eq_true rfl, Nat.le_of_ble_eq_true rfl⟩, (htx _ kw_5_185), (htx _ kw_5_186)⟩ ⟨xPre_blind, va_recv hK hP (ci := 5) rfl (q0 := 2) rfl, (fun U hU hW => ⟨rfl, xPre_of hZ hS hFc hPc hDc hK U hU hW⟩)⟩ rfl rfl hl.1 rfl (lv_room (Nat.le_of_ble_eq_true rfl)) dL_law_554 ⟨Nat.le_of_ble_eq_true rfl, Nat.le_of_ble_eq_true rfl⟩) hS (fun q _ h => hFc q h) hFc (fun r3 u9 t H1 locs ht hvm hr9 hB hz1 hk1 hS => ?_)
  obtain ⟨hP1, hK1, hD1⟩ := hB
  rw [ht] at hP1
  obtain ⟨hP, hD⟩ := xjoin (W := [(a2, .inl (cT 2, 1, .inr (.inl f43))), (a0, .inr (0, [v3, v4, v5, v6, v7, v8, v9, v10])), (a1, .inr (5, [.int 1, v12, .int 0, v14, .int 0, v16, v17, .int 0, v19, .int 0, v21, v22, .int 0, v24, v25, v26, v27, v28, v29, v30, v31, v32, .int 0, .int 1000000000, v35, v36, v37, v38, v39, v40, v41, v42]))]) hP hD [2] [0, 1] 2 rfl rfl (by decide) (by decide) hk1 hFc hP1 hD1
  generalize H1 = H at hP hS ⊢
  rw [hr9]
  refine W.eq (g2 := F0 m 557 ls [.int 1]) rfl ?_
  refine lv_iload hx hb dL_law_557 (lv_at hl 1 rfl) ?_
  refine lv_icmp_eq (tgt := 564) hx hb dL_law_559 (by decide) (fun _ => ?_) (fun h => ((by revert h; decide : False)).elim)
  refine lv_iload hx hb dL_law_564 (lv_at hl 1 rfl) ?_
  refine lv_if_ne (tgt := 588) hx hb dL_law_566 (by decide) (fun _ => ?_) (fun h => ((by revert h; decide : False)).elim)
  refine lv_goto (tgt := 906) hx hb dL_law_588 (by decide) ?_
  refine lv_iinc (v := 6) (lv' := [(4, .int 6), (6, .int 0), (5, .int 1), (3, .ref a2), (2, .ref a1), (1, .ref a0), (0, .ref b)]) hx hb dL_law_906 hl (k := 2) rfl (by decide) (by decide) rfl (fun ls hl => ?_)
  refine lv_goto (tgt := 23) hx hb dL_law_909 (by decide) ?_
  refine lv_iload hx hb dL_law_23 (lv_at hl 0 rfl) ?_
  refine lv_aload_n hx hb dL_law_25 rfl (lv_at hl 6 rfl) ?_
  refine va_slen hx hb hXs hbl hbA hS dL_law_26 ?_
  refine W.eq (g2 := F0 m 27 ls [.int 6, .int 6]) rfl ?_
  refine lv_bipush (v := 6) hx hb dL_law_27 (by decide) ?_
  refine lv_isub hx hb dL_law_29 ?_
  refine W.eq (g2 := F0 m 30 ls [.int 0, .int 6]) rfl ?_
  refine lv_icmp_gt (tgt := 912) hx hb dL_law_30 (by decide) (fun _ => ?_) (fun h => ((by revert h; decide : False)).elim)
  refine lv_iconst (v := 1) hx hb dL_law_912 (by decide) ?_
  exact va_forget (fun q h => hA2 _ (hS.2.2 q h)) (W.widen (k := 600002) (n := 7302232) (Nat.le_of_ble_eq_true rfl) (Nat.le_of_ble_eq_true rfl) (lw_ret hx hb hr hlocks dL_law_913))
set_option maxHeartbeats 400000000 in
set_option maxRecDepth 100000 in
theorem lf_same_bhi {p : Program} {e : Env} {s : State} {m : MethodId} {below : List Frame} {meth : Method} {c : Code} (l : Launch) (hl9 : l.stackTraces = false) (D : va_G) (cT : Nat → ClassId) (aK aV : Nat → Nat) {A : Nat → Prop} {b : Nat} {xs : Nat → Int32} (C : xLw p s m meth c b D cT aK aV A) {H : Heap} {locs : List Loc} {ls : Array Slot} (a0 : Nat) (a1 : Nat) (a2 : Nat) (v3 : Value) (v4 : Value) (v5 : Value) (v6 : Value) (v7 : Value) (v8 : Value) (v9 : Value) (v10 : Value) (v11 : Value) (v12 : Value) (v13 : Value) (v14 : Value) (v15 : Value) (v16 : Value) (v17 : Value) (v18 : Value) (v19 : Value) (v20 : Value) (v21 : Value) (v22 : Value) (v23 : Value) (v24 : Value) (v25 : Value) (v26 : Value) (v27 : Value) (v28 : Value) (v29 : Value) (v30 : Value) (v31 : Value) (v32 : Value) (v33 : Value) (v34 : Value) (v35 : Value) (v36 : Value) (v37 : Value) (v38 : Value) (v39 : Value) (v40 : Value) (v41 : Value) (v42 : Value) (f43 : Nat → Int64) (ha1 : ¬ (xs 1) < 0) (ha2 : ¬ 7 < (xs 1)) (ha3 : (xs 1) ≤ 7) (ha4 : vp_in (xs 1) 8) (hb1 : ¬ (xs 2) < 0) (hb2 : 7 < (xs 2)) (hb3 : ¬ (xs 2) ≤ 7) (hXs : va_X b 6 xs s s.heap) (hP : va_P D xcl [(a0, .inr (0, [v3, v4, v5, v6, v7, v8, v9, v10])), (a1, .inr (5, [v11, v12, v13, v14, v15, v16, v17, v18, v19, v20, v21, v22, v23, v24, v25, v26, v27, v28, v29, v30, v31, v32, v33, v34, v35, v36, v37, v38, v39, v40, v41, v42])), (a2, .inl (cT 2, 1, .inr (.inl f43)))] H) (hD : va_D A [(a0, .inr (0, [v3, v4, v5, v6, v7, v8, v9, v10])), (a1, .inr (5, [v11, v12, v13, v14, v15, v16, v17, v18, v19, v20, v21, v22, v23, v24, v25, v26, v27, v28, v29, v30, v31, v32, v33, v34, v35, v36, v37, v38, v39, v40, v41, v42])), (a2, .inl (cT 2, 1, .inr (.inl f43)))]) (hS : va_S A s.heap H locs) (hl : lv_has ls 8 [(4, .int 0), (3, .ref a2), (2, .ref a1), (1, .ref a0), (0, .ref b)]) : W p l e room_1 s m #[Value.ref b] below meth c H locs 54 107242 (lw_Z below #[Value.ref b] s) (F0 m 516 ls []) := by
  obtain ⟨hx, hb, hr, hml, hown, htx, hbl, hbA, hlocks, hK, hZ, hA, hA2⟩ := C
  refine lv_aload_n hx hb dL_law_516 rfl (lv_at hl 3 rfl) ?_
  refine lv_aload_n hx hb dL_law_517 rfl (lv_at hl 4 rfl) ?_
  refine lv_iload hx hb dL_law_518 (lv_at hl 0 rfl) ?_
  refine lv_iconst (v := 1) hx hb dL_law_520 (by decide) ?_
  refine lv_iadd hx hb dL_law_521 ?_
  refine W.eq (g2 := F0 m 522 ls [.int 1, .ref b, .ref a0]) rfl ?_
  refine va_sld hx hb hXs hbl hbA hS (i := 1) (show ¬ ((1 : Int32) < 0 ∨ 6 ≤ (1 : Int32).toNatClampNeg) by decide) dL_law_522 ?_
  refine W.eq (g2 := F0 m 523 ls [.int (xs 1), .ref a0]) rfl ?_
  refine lv_aload_n hx hb dL_law_523 rfl (lv_at hl 4 rfl) ?_
  refine lv_iload hx hb dL_law_524 (lv_at hl 0 rfl) ?_
  refine lv_iconst (v := 2) hx hb dL_law_526 (by decide) ?_
  refine lv_iadd hx hb dL_law_527 ?_
  refine W.eq (g2 := F0 m 528 ls [.int 2, .ref b, .int (xs 1), .ref a0]) rfl ?_
  refine va_sld hx hb hXs hbl hbA hS (i := 2) (show ¬ ((2 : Int32) < 0 ∨ 6 ≤ (2 : Int32).toNatClampNeg) by decide) dL_law_528 ?_
  refine W.eq (g2 := F0 m 529 ls [.int (xs 2), .int (xs 1), .ref a0]) rfl ?_
  refine lv_aload_n hx hb dL_law_529 rfl (lv_at hl 1 rfl) ?_
  obtain ⟨hPc, hDc, hFc⟩ := xcut (wc := [(a0, .inr (0, [v3, v4, v5, v6, v7, v8, v9, v10]))]) hP hD hS hA [0] rfl rfl (by decide)
  refine va_calli (vx_runSW (As := [.ref a0, .int (xs 1), .int (xs 2), .ref a2]) (rest := []) ⟨hx, hb, hml, hown, htx⟩ (cL_same_3 l hl9 D cT aK aV H.size a0 (xs 1) (xs 2) a2 v3 v4 v5 v6 v7 v8 v9 v10 ha1 ha2 ha3 ha4 hb1 hb2 hb3) (xcSW 4 htx (xw_goodC kw_4_13) rfl rfl rfl (htx _ kw_1_0) (htx _ kw_4_11) ⟨by decide, by decide, by decide +kernel⟩ ⟨Nat.le_of_ble_eq_true rfl, Nat.le_of_ble_eq_true rfl⟩ (htx _ kw_4_12)) ⟨xPre_blind, (fun U hU hW => ⟨rfl, xPre_of hZ hS hFc hPc hDc hK U hU hW⟩)⟩ rfl rfl hl.1 rfl (lv_room (Nat.le_of_ble_eq_true rfl)) dL_law_530 ⟨Nat.le_of_ble_eq_true rfl, Nat.le_of_ble_eq_true rfl⟩) hS (fun q _ h => hFc q h) hFc (fun r1 u9 t H1 locs ht hvm hr9 hB hz1 hk1 hS => ?_)
  obtain ⟨hP1, hK1, hD1⟩ := hB
  rw [ht] at hP1
  obtain ⟨hP, hD⟩ := xjoin (W := [(a1, .inr (5, [v11, v12, v13, v14, v15, v16, v17, v18, v19, v20, v21, v22, v23, v24, v25, v26, v27, v28, v29, v30, v31, v32, v33, v34, v35, v36, v37, v38, v39, v40, v41, v42])), (a2, .inl (cT 2, 1, .inr (.inl f43))), (a0, .inr (0, [v3, v4, v5, v6, v7, v8, v9, v10]))]) hP hD [0] [1, 2] 2 rfl rfl (by decide) (by decide) hk1 hFc hP1 hD1
  generalize H1 = H at hP hS ⊢
  rw [hr9]
  refine W.eq (g2 := F0 m 533 ls [.int 1]) rfl ?_
  refine lv_istore (lv' := [(5, .int 1), (4, .int 0), (3, .ref a2), (2, .ref a1), (1, .ref a0), (0, .ref b)]) hx hb dL_law_533 hl (by decide) rfl (fun ls hl => ?_)
  refine lv_aload_n hx hb dL_law_535 rfl (lv_at hl 3 rfl) ?_
  refine lv_aload_n hx hb dL_law_536 rfl (lv_at hl 5 rfl) ?_
  refine lv_iload hx hb dL_law_537 (lv_at hl 1 rfl) ?_
  refine lv_iconst (v := 1) hx hb dL_law_539 (by decide) ?_
  refine lv_iadd hx hb dL_law_540 ?_
  refine W.eq (g2 := F0 m 541 ls [.int 1, .ref b, .ref a1]) rfl ?_
  refine va_sld hx hb hXs hbl hbA hS (i := 1) (show ¬ ((1 : Int32) < 0 ∨ 6 ≤ (1 : Int32).toNatClampNeg) by decide) dL_law_541 ?_
  refine W.eq (g2 := F0 m 542 ls [.int (xs 1), .ref a1]) rfl ?_
  refine lv_aload_n hx hb dL_law_542 rfl (lv_at hl 5 rfl) ?_
  refine lv_iload hx hb dL_law_543 (lv_at hl 1 rfl) ?_
  refine lv_iconst (v := 2) hx hb dL_law_545 (by decide) ?_
  refine lv_iadd hx hb dL_law_546 ?_
  refine W.eq (g2 := F0 m 547 ls [.int 2, .ref b, .int (xs 1), .ref a1]) rfl ?_
  refine va_sld hx hb hXs hbl hbA hS (i := 2) (show ¬ ((2 : Int32) < 0 ∨ 6 ≤ (2 : Int32).toNatClampNeg) by decide) dL_law_547 ?_
  refine W.eq (g2 := F0 m 548 ls [.int (xs 2), .int (xs 1), .ref a1]) rfl ?_
  obtain ⟨hPc, hDc, hFc⟩ := xcut (wc := [(a1, .inr (5, [v11, v12, v13, v14, v15, v16, v17, v18, v19, v20, v21, v22, v23, v24, v25, v26, v27, v28, v29, v30, v31, v32, v33, v34, v35, v36, v37, v38, v39, v40, v41, v42]))]) hP hD hS hA [0] rfl rfl (by decide)
  refine va_calli (va_runV (C := "ValueBenchModel") (As := [.int (xs 1), .int (xs 2)]) (rest := []) ⟨hx, hb, hml, hown, htx⟩ (cM_same0_3 l hl9 D cT aK aV H.size a1 (xs 1) (xs 2) v11 v12 v13 v14 v15 v16 v17 v18 v19 v20 v21 v22 v23 v24 v25 v26 v27 v28 v29 v30 v31 v32 v33 v34 v35 v36 v37 v38 v39 v40 v41 v42 ha1 ha2 ha3 ha4 hb1 hb2 hb3) ⟨callB_of 2 htx (xw_goodC kw_6_166) rfl rfl rfl (htx _ kw_1_5) (htx _ kw_6_163) ⟨by decide, by decide, by decide +kernel⟩ ⟨Nat.le_of_ble_eq_true rfl, Nat.le_of_ble_eq_true rfl⟩, (htx _ kw_6_164), (htx _ kw_6_165)⟩ ⟨xPre_blind, va_recv hK hP (ci := 5) rfl (q0 := 0) rfl, (fun U hU hW => ⟨rfl, xPre_of hZ hS hFc hPc hDc hK U hU hW⟩)⟩ rfl rfl hl.1 rfl (lv_room (Nat.le_of_ble_eq_true rfl)) dL_law_548 ⟨Nat.le_of_ble_eq_true rfl, Nat.le_of_ble_eq_true rfl⟩) hS (fun q _ h => hFc q h) hFc (fun r2 u9 t H1 locs ht hvm hr9 hB hz1 hk1 hS => ?_)
  obtain ⟨hP1, hK1, hD1⟩ := hB
  rw [ht] at hP1
  obtain ⟨hP, hD⟩ := xjoin (W := [(a2, .inl (cT 2, 1, .inr (.inl f43))), (a0, .inr (0, [v3, v4, v5, v6, v7, v8, v9, v10])), (a1, .inr (5, [.int 1, v12, .int 0, v14, .int 0, v16, v17, .int 0, v19, .int 0, v21, v22, .int 0, v24, v25, v26, v27, v28, v29, v30, v31, v32, .int 0, .int 1000000000, v35, v36, v37, v38, v39, v40, v41, v42]))]) hP hD [0] [1, 2] 2 rfl rfl (by decide) (by decide) hk1 hFc hP1 hD1
  generalize H1 = H at hP hS ⊢
  rw [hr9]
  refine W.eq (g2 := F0 m 551 ls [.int 0]) rfl ?_
  refine lv_istore (lv' := [(6, .int 0), (5, .int 1), (4, .int 0), (3, .ref a2), (2, .ref a1), (1, .ref a0), (0, .ref b)]) hx hb dL_law_551 hl (by decide) rfl (fun ls hl => ?_)
  refine lv_aload_n hx hb dL_law_553 rfl (lv_at hl 4 rfl) ?_
  obtain ⟨hPc, hDc, hFc⟩ := xcut (wc := [(a1, .inr (5, [.int 1, v12, .int 0, v14, .int 0, v16, v17, .int 0, v19, .int 0, v21, v22, .int 0, v24, v25, v26, v27, v28, v29, v30, v31, v32, .int 0, .int 1000000000, v35, v36, v37, v38, v39, v40, v41, v42]))]) hP hD hS hA [2] rfl rfl (by decide)
  refine va_calli (va_runV (C := "ValueBenchModel") (As := []) (rest := []) ⟨hx, hb, hml, hown, htx⟩ (cM_thrown_1 l hl9 D cT aK aV H.size a1 v12 (.int 0) v14 (.int 0) v16 v17 (.int 0) v19 (.int 0) v21 v22 (.int 0) v24 v25 v26 v27 v28 v29 v30 v31 v32 (.int 0) (.int 1000000000) v35 v36 v37 v38 v39 v40 v41 v42) ⟨callB_of 0 htx (xw_goodC kw_5_187) rfl rfl rfl (htx _ kw_1_5) (htx _ kw_5_184) ⟨by decide, by decide, by decide +kernel⟩ ⟨Nat.le_of_ble_eq_true rfl, Nat.le_of_ble_eq_true rfl⟩, (htx _ kw_5_185), (htx _ kw_5_186)⟩ ⟨xPre_blind, va_recv hK hP (ci := 5) rfl (q0 := 2) rfl, (fun U hU hW => ⟨rfl, xPre_of hZ hS hFc hPc hDc hK U hU hW⟩)⟩ rfl rfl hl.1 rfl (lv_room (Nat.le_of_ble_eq_true rfl)) dL_law_554 ⟨Nat.le_of_ble_eq_true rfl, Nat.le_of_ble_eq_true rfl⟩) hS (fun q _ h => hFc q h) hFc (fun r3 u9 t H1 locs ht hvm hr9 hB hz1 hk1 hS => ?_)
  obtain ⟨hP1, hK1, hD1⟩ := hB
  rw [ht] at hP1
  obtain ⟨hP, hD⟩ := xjoin (W := [(a2, .inl (cT 2, 1, .inr (.inl f43))), (a0, .inr (0, [v3, v4, v5, v6, v7, v8, v9, v10])), (a1, .inr (5, [.int 1, v12, .int 0, v14, .int 0, v16, v17, .int 0, v19, .int 0, v21, v22, .int 0, v24, v25, v26, v27, v28, v29, v30, v31, v32, .int 0, .int 1000000000, v35, v36, v37, v38, v39, v40, v41, v42]))]) hP hD [2] [0, 1] 2 rfl rfl (by decide) (by decide) hk1 hFc hP1 hD1
  generalize H1 = H at hP hS ⊢
  rw [hr9]
  refine W.eq (g2 := F0 m 557 ls [.int 1]) rfl ?_
  refine lv_iload hx hb dL_law_557 (lv_at hl 1 rfl) ?_
  refine lv_icmp_eq (tgt := 564) hx hb dL_law_559 (by decide) (fun _ => ?_) (fun h => ((by revert h; decide : False)).elim)
  refine lv_iload hx hb dL_law_564 (lv_at hl 1 rfl) ?_
  refine lv_if_ne (tgt := 588) hx hb dL_law_566 (by decide) (fun _ => ?_) (fun h => ((by revert h; decide : False)).elim)
  refine lv_goto (tgt := 906) hx hb dL_law_588 (by decide) ?_
  refine lv_iinc (v := 6) (lv' := [(4, .int 6), (6, .int 0), (5, .int 1), (3, .ref a2), (2, .ref a1), (1, .ref a0), (0, .ref b)]) hx hb dL_law_906 hl (k := 2) rfl (by decide) (by decide) rfl (fun ls hl => ?_)
  refine lv_goto (tgt := 23) hx hb dL_law_909 (by decide) ?_
  refine lv_iload hx hb dL_law_23 (lv_at hl 0 rfl) ?_
  refine lv_aload_n hx hb dL_law_25 rfl (lv_at hl 6 rfl) ?_
  refine va_slen hx hb hXs hbl hbA hS dL_law_26 ?_
  refine W.eq (g2 := F0 m 27 ls [.int 6, .int 6]) rfl ?_
  refine lv_bipush (v := 6) hx hb dL_law_27 (by decide) ?_
  refine lv_isub hx hb dL_law_29 ?_
  refine W.eq (g2 := F0 m 30 ls [.int 0, .int 6]) rfl ?_
  refine lv_icmp_gt (tgt := 912) hx hb dL_law_30 (by decide) (fun _ => ?_) (fun h => ((by revert h; decide : False)).elim)
  refine lv_iconst (v := 1) hx hb dL_law_912 (by decide) ?_
  exact va_forget (fun q h => hA2 _ (hS.2.2 q h)) (W.widen (k := 600002) (n := 7302232) (Nat.le_of_ble_eq_true rfl) (Nat.le_of_ble_eq_true rfl) (lw_ret hx hb hr hlocks dL_law_913))
set_option maxHeartbeats 400000000 in
set_option maxRecDepth 100000 in
theorem lf_same_p1 {p : Program} {e : Env} {s : State} {m : MethodId} {below : List Frame} {meth : Method} {c : Code} (l : Launch) (hl9 : l.stackTraces = false) (D : va_G) (cT : Nat → ClassId) (aK aV : Nat → Nat) {A : Nat → Prop} {b : Nat} {xs : Nat → Int32} (C : xLw p s m meth c b D cT aK aV A) {H : Heap} {locs : List Loc} {ls : Array Slot} (a0 : Nat) (a1 : Nat) (a2 : Nat) (a3 : Nat) (a4 : Nat) (a5 : Nat) (a6 : Nat) (a7 : Nat) (a8 : Nat) (a9 : Nat) (v10 : Value) (v11 : Value) (v12 : Value) (v13 : Value) (v14 : Value) (v15 : Value) (v16 : Value) (v17 : Value) (v18 : Value) (v19 : Value) (v20 : Value) (v21 : Value) (v22 : Value) (v23 : Value) (v24 : Value) (v25 : Value) (v26 : Value) (v27 : Value) (v28 : Value) (v29 : Value) (v30 : Value) (v31 : Value) (v32 : Value) (v33 : Value) (v34 : Value) (v35 : Value) (v36 : Value) (v37 : Value) (v38 : Value) (v39 : Value) (v40 : Value) (v41 : Value) (v42 : Value) (v43 : Value) (v44 : Value) (v45 : Value) (f46 : Nat → Int64) (f47 : Nat → Option Nat) (v50 : Value) (f51 : Nat → Int64) (f53 : Nat → Option Nat) (f56 : Nat → Int32) (f59 : Nat → Int32) (f64 : Nat → Option Nat) (h48 : f47 (xs 1).toNatClampNeg = some a4) (h49 : f47 (xs 2).toNatClampNeg = some a4) (h52 : f51 0 = 0) (h54 : f53 (xs 1).toNatClampNeg = some a8) (h55 : f53 (xs 2).toNatClampNeg = some a8) (h57 : f56 (xs 1).toNatClampNeg = 4) (h58 : f56 (xs 2).toNatClampNeg = 4) (h60 : f59 0 = 110) (h61 : f59 1 = 117) (h62 : f59 2 = 108) (h63 : f59 3 = 108) (h65 : f64 0 = none) (h66 : f64 1 = none) (ha1 : ¬ (xs 1) < 0) (ha2 : ¬ 7 < (xs 1)) (ha3 : (xs 1) ≤ 7) (ha4 : vp_in (xs 1) 8) (hb1 : ¬ (xs 2) < 0) (hb2 : ¬ 7 < (xs 2)) (hb3 : (xs 2) ≤ 7) (hb4 : vp_in (xs 2) 8) (hXs : va_X b 6 xs s s.heap) (hP : va_P D xcl [(a0, .inr (0, [v10, v11, v12, .ref a3, v13, v14, v15, v16])), (a1, .inr (5, [v17, .ref a9, v18, v19, v20, v21, v22, v23, v24, v25, v26, v27, v28, v29, v30, v31, v32, v33, v34, v35, v36, v37, v38, v39, .ref a6, .ref a7, v40, v41, v42, v43, v44, v45])), (a2, .inl (cT 2, 1, .inr (.inl f46))), (a3, .inl (cT 3, 8, .inr (.inr (.inr (.inr f47))))), (a4, .inr (2, [.ref a5, .int 1, v50])), (a5, .inl (cT 2, 4096, .inr (.inl f51))), (a6, .inl (cT 5, 8, .inr (.inr (.inr (.inr f53))))), (a7, .inl (cT 1, 8, .inl f56)), (a8, .inl (cT 0, 4096, .inl f59)), (a9, .inl (cT 4, 1024, .inr (.inr (.inr (.inr f64)))))] H) (hD : va_D A [(a0, .inr (0, [v10, v11, v12, .ref a3, v13, v14, v15, v16])), (a1, .inr (5, [v17, .ref a9, v18, v19, v20, v21, v22, v23, v24, v25, v26, v27, v28, v29, v30, v31, v32, v33, v34, v35, v36, v37, v38, v39, .ref a6, .ref a7, v40, v41, v42, v43, v44, v45])), (a2, .inl (cT 2, 1, .inr (.inl f46))), (a3, .inl (cT 3, 8, .inr (.inr (.inr (.inr f47))))), (a4, .inr (2, [.ref a5, .int 1, v50])), (a5, .inl (cT 2, 4096, .inr (.inl f51))), (a6, .inl (cT 5, 8, .inr (.inr (.inr (.inr f53))))), (a7, .inl (cT 1, 8, .inl f56)), (a8, .inl (cT 0, 4096, .inl f59)), (a9, .inl (cT 4, 1024, .inr (.inr (.inr (.inr f64)))))]) (hS : va_S A s.heap H locs) (hl : lv_has ls 8 [(4, .int 0), (3, .ref a2), (2, .ref a1), (1, .ref a0), (0, .ref b)]) : W p l e room_1 s m #[Value.ref b] below meth c H locs 54 107242 (lw_Z below #[Value.ref b] s) (F0 m 516 ls []) := by
  obtain ⟨hx, hb, hr, hml, hown, htx, hbl, hbA, hlocks, hK, hZ, hA, hA2⟩ := C
  refine lv_aload_n hx hb dL_law_516 rfl (lv_at hl 3 rfl) ?_
  refine lv_aload_n hx hb dL_law_517 rfl (lv_at hl 4 rfl) ?_
  refine lv_iload hx hb dL_law_518 (lv_at hl 0 rfl) ?_
  refine lv_iconst (v := 1) hx hb dL_law_520 (by decide) ?_
  refine lv_iadd hx hb dL_law_521 ?_
  refine W.eq (g2 := F0 m 522 ls [.int 1, .ref b, .ref a0]) rfl ?_
  refine va_sld hx hb hXs hbl hbA hS (i := 1) (show ¬ ((1 : Int32) < 0 ∨ 6 ≤ (1 : Int32).toNatClampNeg) by decide) dL_law_522 ?_
  refine W.eq (g2 := F0 m 523 ls [.int (xs 1), .ref a0]) rfl ?_
  refine lv_aload_n hx hb dL_law_523 rfl (lv_at hl 4 rfl) ?_
  refine lv_iload hx hb dL_law_524 (lv_at hl 0 rfl) ?_
  refine lv_iconst (v := 2) hx hb dL_law_526 (by decide) ?_
  refine lv_iadd hx hb dL_law_527 ?_
  refine W.eq (g2 := F0 m 528 ls [.int 2, .ref b, .int (xs 1), .ref a0]) rfl ?_
  refine va_sld hx hb hXs hbl hbA hS (i := 2) (show ¬ ((2 : Int32) < 0 ∨ 6 ≤ (2 : Int32).toNatClampNeg) by decide) dL_law_528 ?_
  refine W.eq (g2 := F0 m 529 ls [.int (xs 2), .int (xs 1), .ref a0]) rfl ?_
  refine lv_aload_n hx hb dL_law_529 rfl (lv_at hl 1 rfl) ?_
  obtain ⟨hPc, hDc, hFc⟩ := xcut (wc := [(a0, .inr (0, [v10, v11, v12, .ref a3, v13, v14, v15, v16])), (a3, .inl (cT 3, 8, .inr (.inr (.inr (.inr f47))))), (a4, .inr (2, [.ref a5, .int 1, v50])), (a5, .inl (cT 2, 4096, .inr (.inl f51))), (a2, .inl (cT 2, 1, .inr (.inl f46)))]) hP hD hS hA [0, 3, 4, 5, 2] rfl rfl (by decide)
  refine va_calli (vx_runSW (As := [.ref a0, .int (xs 1), .int (xs 2), .ref a2]) (rest := []) ⟨hx, hb, hml, hown, htx⟩ (cL_same_4 l hl9 D cT aK aV H.size a0 a3 a4 a5 a2 (xs 1) (xs 2) v10 v11 v12 v13 v14 v15 v16 f47 v50 f51 f46 ha1 ha2 ha3 ha4 hb1 hb2 hb3 hb4 (by first | rfl | exact h48 | exact h49 | exact h52 | exact h54 | exact h55 | exact h57 | exact h58 | exact h60 | exact h61 | exact h62 | exact h63 | exact h65 | exact h66) (by first | rfl | exact h48 | exact h49 | exact h52 | exact h54 | exact h55 | exact h57 | exact h58 | exact h60 | exact h61 | exact h62 | exact h63 | exact h65 | exact h66) (by first | rfl | exact h48 | exact h49 | exact h52 | exact h54 | exact h55 | exact h57 | exact h58 | exact h60 | exact h61 | exact h62 | exact h63 | exact h65 | exact h66)) (xcSW 4 htx (xw_goodC kw_4_13) rfl rfl rfl (htx _ kw_1_0) (htx _ kw_4_11) ⟨by decide, by decide, by decide +kernel⟩ ⟨Nat.le_of_ble_eq_true rfl, Nat.le_of_ble_eq_true rfl⟩ (htx _ kw_4_12)) ⟨xPre_blind, (fun U hU hW => ⟨rfl, xPre_of hZ hS hFc hPc hDc hK U hU hW⟩)⟩ rfl rfl hl.1 rfl (lv_room (Nat.le_of_ble_eq_true rfl)) dL_law_530 ⟨Nat.le_of_ble_eq_true rfl, Nat.le_of_ble_eq_true rfl⟩) hS (fun q _ h => hFc q h) hFc (fun r1 u9 t H1 locs ht hvm hr9 hB hz1 hk1 hS => ?_)
  obtain ⟨hP1, hK1, hD1⟩ := hB
  rw [ht] at hP1
  obtain ⟨hP, hD⟩ := xjoin (W := [(a1, .inr (5, [v17, .ref a9, v18, v19, v20, v21, v22, v23, v24, v25, v26, v27, v28, v29, v30, v31, v32, v33, v34, v35, v36, v37, v38, v39, .ref a6, .ref a7, v40, v41, v42, v43, v44, v45])), (a6, .inl (cT 5, 8, .inr (.inr (.inr (.inr f53))))), (a7, .inl (cT 1, 8, .inl f56)), (a8, .inl (cT 0, 4096, .inl f59)), (a9, .inl (cT 4, 1024, .inr (.inr (.inr (.inr f64))))), (a0, .inr (0, [v10, v11, v12, .ref a3, v13, v14, v15, v16])), (a3, .inl (cT 3, 8, .inr (.inr (.inr (.inr f47))))), (a4, .inr (2, [.ref a5, .int 1, v50])), (a5, .inl (cT 2, 4096, .inr (.inl f51))), (a2, .inl (cT 2, 1, .inr (.inl (vp_updL f46 0 1))))]) hP hD [0, 3, 4, 5, 2] [1, 6, 7, 8, 9] 5 rfl rfl (by decide) (by decide) hk1 hFc hP1 hD1
  generalize H1 = H at hP hS ⊢
  rw [hr9]
  refine W.eq (g2 := F0 m 533 ls [.int 0]) rfl ?_
  refine lv_istore (lv' := [(5, .int 0), (4, .int 0), (3, .ref a2), (2, .ref a1), (1, .ref a0), (0, .ref b)]) hx hb dL_law_533 hl (by decide) rfl (fun ls hl => ?_)
  refine lv_aload_n hx hb dL_law_535 rfl (lv_at hl 3 rfl) ?_
  refine lv_aload_n hx hb dL_law_536 rfl (lv_at hl 5 rfl) ?_
  refine lv_iload hx hb dL_law_537 (lv_at hl 1 rfl) ?_
  refine lv_iconst (v := 1) hx hb dL_law_539 (by decide) ?_
  refine lv_iadd hx hb dL_law_540 ?_
  refine W.eq (g2 := F0 m 541 ls [.int 1, .ref b, .ref a1]) rfl ?_
  refine va_sld hx hb hXs hbl hbA hS (i := 1) (show ¬ ((1 : Int32) < 0 ∨ 6 ≤ (1 : Int32).toNatClampNeg) by decide) dL_law_541 ?_
  refine W.eq (g2 := F0 m 542 ls [.int (xs 1), .ref a1]) rfl ?_
  refine lv_aload_n hx hb dL_law_542 rfl (lv_at hl 5 rfl) ?_
  refine lv_iload hx hb dL_law_543 (lv_at hl 1 rfl) ?_
  refine lv_iconst (v := 2) hx hb dL_law_545 (by decide) ?_
  refine lv_iadd hx hb dL_law_546 ?_
  refine W.eq (g2 := F0 m 547 ls [.int 2, .ref b, .int (xs 1), .ref a1]) rfl ?_
  refine va_sld hx hb hXs hbl hbA hS (i := 2) (show ¬ ((2 : Int32) < 0 ∨ 6 ≤ (2 : Int32).toNatClampNeg) by decide) dL_law_547 ?_
  refine W.eq (g2 := F0 m 548 ls [.int (xs 2), .int (xs 1), .ref a1]) rfl ?_
  obtain ⟨hPc, hDc, hFc⟩ := xcut (wc := [(a1, .inr (5, [v17, .ref a9, v18, v19, v20, v21, v22, v23, v24, v25, v26, v27, v28, v29, v30, v31, v32, v33, v34, v35, v36, v37, v38, v39, .ref a6, .ref a7, v40, v41, v42, v43, v44, v45])), (a6, .inl (cT 5, 8, .inr (.inr (.inr (.inr f53))))), (a7, .inl (cT 1, 8, .inl f56)), (a8, .inl (cT 0, 4096, .inl f59)), (a9, .inl (cT 4, 1024, .inr (.inr (.inr (.inr f64)))))]) hP hD hS hA [0, 1, 2, 3, 4] rfl rfl (by decide)
  refine va_calli (va_runV (C := "ValueBenchModel") (As := [.int (xs 1), .int (xs 2)]) (rest := []) ⟨hx, hb, hml, hown, htx⟩ (cM_same0_4 l hl9 D cT aK aV H.size a1 a6 a7 a8 a9 (xs 1) (xs 2) v17 v18 v19 v20 v21 v22 v23 v24 v25 v26 v27 v28 v29 v30 v31 v32 v33 v34 v35 v36 v37 v38 v39 v40 v41 v42 v43 v44 v45 f53 f56 f59 f64 ha1 ha2 ha3 ha4 hb1 hb2 hb3 hb4 (by first | rfl | exact h48 | exact h49 | exact h52 | exact h54 | exact h55 | exact h57 | exact h58 | exact h60 | exact h61 | exact h62 | exact h63 | exact h65 | exact h66) (by first | rfl | exact h48 | exact h49 | exact h52 | exact h54 | exact h55 | exact h57 | exact h58 | exact h60 | exact h61 | exact h62 | exact h63 | exact h65 | exact h66) (by first | rfl | exact h48 | exact h49 | exact h52 | exact h54 | exact h55 | exact h57 | exact h58 | exact h60 | exact h61 | exact h62 | exact h63 | exact h65 | exact h66) (by first | rfl | exact h48 | exact h49 | exact h52 | exact h54 | exact h55 | exact h57 | exact h58 | exact h60 | exact h61 | exact h62 | exact h63 | exact h65 | exact h66) (by first | rfl | exact h48 | exact h49 | exact h52 | exact h54 | exact h55 | exact h57 | exact h58 | exact h60 | exact h61 | exact h62 | exact h63 | exact h65 | exact h66) (by first | rfl | exact h48 | exact h49 | exact h52 | exact h54 | exact h55 | exact h57 | exact h58 | exact h60 | exact h61 | exact h62 | exact h63 | exact h65 | exact h66) (by first | rfl | exact h48 | exact h49 | exact h52 | exact h54 | exact h55 | exact h57 | exact h58 | exact h60 | exact h61 | exact h62 | exact h63 | exact h65 | exact h66) (by first | rfl | exact h48 | exact h49 | exact h52 | exact h54 | exact h55 | exact h57 | exact h58 | exact h60 | exact h61 | exact h62 | exact h63 | exact h65 | exact h66) (by first | rfl | exact h48 | exact h49 | exact h52 | exact h54 | exact h55 | exact h57 | exact h58 | exact h60 | exact h61 | exact h62 | exact h63 | exact h65 | exact h66) (by first | rfl | exact h48 | exact h49 | exact h52 | exact h54 | exact h55 | exact h57 | exact h58 | exact h60 | exact h61 | exact h62 | exact h63 | exact h65 | exact h66)) ⟨callB_of 2 htx (xw_goodC kw_6_166) rfl rfl rfl (htx _ kw_1_5) (htx _ kw_6_163) ⟨by decide, by decide, by decide +kernel⟩ ⟨Nat.le_of_ble_eq_true rfl, Nat.le_of_ble_eq_true rfl⟩, (htx _ kw_6_164), (htx _ kw_6_165)⟩ ⟨xPre_blind, va_recv hK hP (ci := 5) rfl (q0 := 0) rfl, (fun U hU hW => ⟨rfl, xPre_of hZ hS hFc hPc hDc hK U hU hW⟩)⟩ rfl rfl hl.1 rfl (lv_room (Nat.le_of_ble_eq_true rfl)) dL_law_548 ⟨Nat.le_of_ble_eq_true rfl, Nat.le_of_ble_eq_true rfl⟩) hS (fun q _ h => hFc q h) hFc (fun r2 u9 t H1 locs ht hvm hr9 hB hz1 hk1 hS => ?_)
  obtain ⟨q3, q4, hP1, hK1, hD1⟩ := hB
  rw [ht] at hP1
  obtain ⟨hP, hD⟩ := xjoin (W := [(a0, .inr (0, [v10, v11, v12, .ref a3, v13, v14, v15, v16])), (a3, .inl (cT 3, 8, .inr (.inr (.inr (.inr f47))))), (a4, .inr (2, [.ref a5, .int 1, v50])), (a5, .inl (cT 2, 4096, .inr (.inl f51))), (a2, .inl (cT 2, 1, .inr (.inl (vp_updL f46 0 1)))), (a1, .inr (5, [.int 0, .ref a9, .int 2, v19, .int 0, v21, v22, .int 0, v24, .int 0, v26, v27, .int 0, v29, v30, .ref a8, .int 4, .int 4, .int 0, .int 100, v36, v37, .int 0, .int 1000000000, .ref a6, .ref a7, v40, v41, v42, v43, v44, v45])), (a6, .inl (cT 5, 8, .inr (.inr (.inr (.inr f53))))), (a7, .inl (cT 1, 8, .inl f56)), (a8, .inl (cT 0, 4096, .inl f59)), (a9, .inl (cT 4, 1024, .inr (.inr (.inr (.inr (va_up (va_up f64 0 (some q3)) 1 (some q4))))))), (q3, .inr (6, [.int 0, .long 0, .int 0, .int 0, .int 0, .int 1])), (q4, .inr (6, [.int 0, .long 0, .int 0, .int 0, .int 0, .int 1]))]) hP hD [0, 1, 2, 3, 4] [5, 6, 7, 8, 9] 5 rfl rfl (by decide) (by decide) hk1 hFc hP1 hD1
  generalize H1 = H at hP hS ⊢
  rw [hr9]
  refine W.eq (g2 := F0 m 551 ls [.int 1]) rfl ?_
  refine lv_istore (lv' := [(6, .int 1), (5, .int 0), (4, .int 0), (3, .ref a2), (2, .ref a1), (1, .ref a0), (0, .ref b)]) hx hb dL_law_551 hl (by decide) rfl (fun ls hl => ?_)
  refine lv_aload_n hx hb dL_law_553 rfl (lv_at hl 4 rfl) ?_
  obtain ⟨hPc, hDc, hFc⟩ := xcut (wc := [(a1, .inr (5, [.int 0, .ref a9, .int 2, v19, .int 0, v21, v22, .int 0, v24, .int 0, v26, v27, .int 0, v29, v30, .ref a8, .int 4, .int 4, .int 0, .int 100, v36, v37, .int 0, .int 1000000000, .ref a6, .ref a7, v40, v41, v42, v43, v44, v45]))]) hP hD hS hA [5] rfl rfl (by decide)
  refine va_calli (va_runV (C := "ValueBenchModel") (As := []) (rest := []) ⟨hx, hb, hml, hown, htx⟩ (cM_thrown_0 l hl9 D cT aK aV H.size a1 (.ref a9) (.int 2) v19 (.int 0) v21 v22 (.int 0) v24 (.int 0) v26 v27 (.int 0) v29 v30 (.ref a8) (.int 4) (.int 4) (.int 0) (.int 100) v36 v37 (.int 0) (.int 1000000000) (.ref a6) (.ref a7) v40 v41 v42 v43 v44 v45) ⟨callB_of 0 htx (xw_goodC kw_5_187) rfl rfl rfl (htx _ kw_1_5) (htx _ kw_5_184) ⟨by decide, by decide, by decide +kernel⟩ ⟨Nat.le_of_ble_eq_true rfl, Nat.le_of_ble_eq_true rfl⟩, (htx _ kw_5_185), (htx _ kw_5_186)⟩ ⟨xPre_blind, va_recv hK hP (ci := 5) rfl (q0 := 5) rfl, (fun U hU hW => ⟨rfl, xPre_of hZ hS hFc hPc hDc hK U hU hW⟩)⟩ rfl rfl hl.1 rfl (lv_room (Nat.le_of_ble_eq_true rfl)) dL_law_554 ⟨Nat.le_of_ble_eq_true rfl, Nat.le_of_ble_eq_true rfl⟩) hS (fun q _ h => hFc q h) hFc (fun r5 u9 t H1 locs ht hvm hr9 hB hz1 hk1 hS => ?_)
  obtain ⟨hP1, hK1, hD1⟩ := hB
  rw [ht] at hP1
  obtain ⟨hP, hD⟩ := xjoin (W := [(a0, .inr (0, [v10, v11, v12, .ref a3, v13, v14, v15, v16])), (a3, .inl (cT 3, 8, .inr (.inr (.inr (.inr f47))))), (a4, .inr (2, [.ref a5, .int 1, v50])), (a5, .inl (cT 2, 4096, .inr (.inl f51))), (a2, .inl (cT 2, 1, .inr (.inl (vp_updL f46 0 1)))), (a6, .inl (cT 5, 8, .inr (.inr (.inr (.inr f53))))), (a7, .inl (cT 1, 8, .inl f56)), (a8, .inl (cT 0, 4096, .inl f59)), (a9, .inl (cT 4, 1024, .inr (.inr (.inr (.inr (va_up (va_up f64 0 (some q3)) 1 (some q4))))))), (q3, .inr (6, [.int 0, .long 0, .int 0, .int 0, .int 0, .int 1])), (q4, .inr (6, [.int 0, .long 0, .int 0, .int 0, .int 0, .int 1])), (a1, .inr (5, [.int 0, .ref a9, .int 2, v19, .int 0, v21, v22, .int 0, v24, .int 0, v26, v27, .int 0, v29, v30, .ref a8, .int 4, .int 4, .int 0, .int 100, v36, v37, .int 0, .int 1000000000, .ref a6, .ref a7, v40, v41, v42, v43, v44, v45]))]) hP hD [5] [0, 1, 2, 3, 4, 6, 7, 8, 9, 10, 11] 11 rfl rfl (by decide) (by decide) hk1 hFc hP1 hD1
  generalize H1 = H at hP hS ⊢
  rw [hr9]
  refine W.eq (g2 := F0 m 557 ls [.int 0]) rfl ?_
  refine lv_iload hx hb dL_law_557 (lv_at hl 1 rfl) ?_
  refine lv_icmp_eq (tgt := 564) hx hb dL_law_559 (by decide) (fun _ => ?_) (fun h => ((by revert h; decide : False)).elim)
  refine lv_iload hx hb dL_law_564 (lv_at hl 1 rfl) ?_
  refine lv_if_ne (tgt := 588) hx hb dL_law_566 (by decide) (fun h => ((by revert h; decide : False)).elim) (fun _ => ?_)
  refine lv_aload_n hx hb dL_law_569 rfl (lv_at hl 3 rfl) ?_
  refine lv_iconst (v := 0) hx hb dL_law_570 (by decide) ?_
  refine va_lald hx hb hK hP 4 2 rfl rfl (show ¬ ((0 : Int32) < 0 ∨ 1 ≤ (0 : Int32).toNatClampNeg) by decide) dL_law_571 ?_
  refine W.eq (g2 := F0 m 572 ls [.long 1]) rfl ?_
  refine lv_iload hx hb dL_law_572 (lv_at hl 0 rfl) ?_
  refine lv_if_eq (tgt := 581) hx hb dL_law_574 (by decide) (fun h => ((by revert h; decide : False)).elim) (fun _ => ?_)
  refine lv_lconst (v := 1) hx hb dL_law_577 (by decide) ?_
  refine lv_goto (tgt := 582) hx hb dL_law_578 (by decide) ?_
  refine W.lcmp hx hb dL_law_582 ?_
  refine W.eq (g2 := F0 m 583 ls [.int 0]) rfl ?_
  refine lv_if_eq (tgt := 588) hx hb dL_law_583 (by decide) (fun _ => ?_) (fun h => ((by revert h; decide : False)).elim)
  refine lv_goto (tgt := 906) hx hb dL_law_588 (by decide) ?_
  refine lv_iinc (v := 6) (lv' := [(4, .int 6), (6, .int 1), (5, .int 0), (3, .ref a2), (2, .ref a1), (1, .ref a0), (0, .ref b)]) hx hb dL_law_906 hl (k := 2) rfl (by decide) (by decide) rfl (fun ls hl => ?_)
  refine lv_goto (tgt := 23) hx hb dL_law_909 (by decide) ?_
  refine lv_iload hx hb dL_law_23 (lv_at hl 0 rfl) ?_
  refine lv_aload_n hx hb dL_law_25 rfl (lv_at hl 6 rfl) ?_
  refine va_slen hx hb hXs hbl hbA hS dL_law_26 ?_
  refine W.eq (g2 := F0 m 27 ls [.int 6, .int 6]) rfl ?_
  refine lv_bipush (v := 6) hx hb dL_law_27 (by decide) ?_
  refine lv_isub hx hb dL_law_29 ?_
  refine W.eq (g2 := F0 m 30 ls [.int 0, .int 6]) rfl ?_
  refine lv_icmp_gt (tgt := 912) hx hb dL_law_30 (by decide) (fun _ => ?_) (fun h => ((by revert h; decide : False)).elim)
  refine lv_iconst (v := 1) hx hb dL_law_912 (by decide) ?_
  exact va_forget (fun q h => hA2 _ (hS.2.2 q h)) (W.widen (k := 600002) (n := 7302232) (Nat.le_of_ble_eq_true rfl) (Nat.le_of_ble_eq_true rfl) (lw_ret hx hb hr hlocks dL_law_913))
set_option maxHeartbeats 400000000 in
set_option maxRecDepth 100000 in
theorem lf_same_p0 {p : Program} {e : Env} {s : State} {m : MethodId} {below : List Frame} {meth : Method} {c : Code} (l : Launch) (hl9 : l.stackTraces = false) (D : va_G) (cT : Nat → ClassId) (aK aV : Nat → Nat) {A : Nat → Prop} {b : Nat} {xs : Nat → Int32} (C : xLw p s m meth c b D cT aK aV A) {H : Heap} {locs : List Loc} {ls : Array Slot} (a0 : Nat) (a1 : Nat) (a2 : Nat) (a3 : Nat) (a4 : Nat) (a5 : Nat) (a6 : Nat) (a7 : Nat) (a8 : Nat) (a9 : Nat) (a10 : Nat) (a11 : Nat) (a12 : Nat) (v13 : Value) (v14 : Value) (v15 : Value) (v16 : Value) (v17 : Value) (v18 : Value) (v19 : Value) (v20 : Value) (v21 : Value) (v22 : Value) (v23 : Value) (v24 : Value) (v25 : Value) (v26 : Value) (v27 : Value) (v28 : Value) (v29 : Value) (v30 : Value) (v31 : Value) (v32 : Value) (v33 : Value) (v34 : Value) (v35 : Value) (v36 : Value) (v37 : Value) (v38 : Value) (v39 : Value) (v40 : Value) (v41 : Value) (v42 : Value) (v43 : Value) (v44 : Value) (v45 : Value) (v46 : Value) (v47 : Value) (v48 : Value) (f49 : Nat → Int64) (f50 : Nat → Option Nat) (v53 : Value) (f54 : Nat → Int64) (v56 : Value) (f57 : Nat → Int64) (f59 : Nat → Option Nat) (f62 : Nat → Int32) (f65 : Nat → Int32) (f70 : Nat → Option Nat) (f73 : Nat → Int32) (h51 : f50 (xs 1).toNatClampNeg = some a4) (h52 : f50 (xs 2).toNatClampNeg = some a6) (h55 : f54 0 = 0) (h58 : f57 0 = 0) (h60 : f59 (xs 1).toNatClampNeg = some a10) (h61 : f59 (xs 2).toNatClampNeg = some a12) (h63 : f62 (xs 1).toNatClampNeg = 4) (h64 : f62 (xs 2).toNatClampNeg = 4) (h66 : f65 0 = 110) (h67 : f65 1 = 117) (h68 : f65 2 = 108) (h69 : f65 3 = 108) (h71 : f70 0 = none) (h72 : f70 1 = none) (h74 : f73 0 = 110) (h75 : f73 1 = 117) (h76 : f73 2 = 108) (h77 : f73 3 = 108) (ha1 : ¬ (xs 1) < 0) (ha2 : ¬ 7 < (xs 1)) (ha3 : (xs 1) ≤ 7) (ha4 : vp_in (xs 1) 8) (hb1 : ¬ (xs 2) < 0) (hb2 : ¬ 7 < (xs 2)) (hb3 : (xs 2) ≤ 7) (hb4 : vp_in (xs 2) 8) (hXs : va_X b 6 xs s s.heap) (hP : va_P D xcl [(a0, .inr (0, [v13, v14, v15, .ref a3, v16, v17, v18, v19])), (a1, .inr (5, [v20, .ref a11, v21, v22, v23, v24, v25, v26, v27, v28, v29, v30, v31, v32, v33, v34, v35, v36, v37, v38, v39, v40, v41, v42, .ref a8, .ref a9, v43, v44, v45, v46, v47, v48])), (a2, .inl (cT 2, 1, .inr (.inl f49))), (a3, .inl (cT 3, 8, .inr (.inr (.inr (.inr f50))))), (a4, .inr (2, [.ref a5, .int 1, v53])), (a5, .inl (cT 2, 4096, .inr (.inl f54))), (a6, .inr (2, [.ref a7, .int 1, v56])), (a7, .inl (cT 2, 4096, .inr (.inl f57))), (a8, .inl (cT 5, 8, .inr (.inr (.inr (.inr f59))))), (a9, .inl (cT 1, 8, .inl f62)), (a10, .inl (cT 0, 4096, .inl f65)), (a11, .inl (cT 4, 1024, .inr (.inr (.inr (.inr f70))))), (a12, .inl (cT 0, 4096, .inl f73))] H) (hD : va_D A [(a0, .inr (0, [v13, v14, v15, .ref a3, v16, v17, v18, v19])), (a1, .inr (5, [v20, .ref a11, v21, v22, v23, v24, v25, v26, v27, v28, v29, v30, v31, v32, v33, v34, v35, v36, v37, v38, v39, v40, v41, v42, .ref a8, .ref a9, v43, v44, v45, v46, v47, v48])), (a2, .inl (cT 2, 1, .inr (.inl f49))), (a3, .inl (cT 3, 8, .inr (.inr (.inr (.inr f50))))), (a4, .inr (2, [.ref a5, .int 1, v53])), (a5, .inl (cT 2, 4096, .inr (.inl f54))), (a6, .inr (2, [.ref a7, .int 1, v56])), (a7, .inl (cT 2, 4096, .inr (.inl f57))), (a8, .inl (cT 5, 8, .inr (.inr (.inr (.inr f59))))), (a9, .inl (cT 1, 8, .inl f62)), (a10, .inl (cT 0, 4096, .inl f65)), (a11, .inl (cT 4, 1024, .inr (.inr (.inr (.inr f70))))), (a12, .inl (cT 0, 4096, .inl f73))]) (hS : va_S A s.heap H locs) (hl : lv_has ls 8 [(4, .int 0), (3, .ref a2), (2, .ref a1), (1, .ref a0), (0, .ref b)]) : W p l e room_1 s m #[Value.ref b] below meth c H locs 54 107242 (lw_Z below #[Value.ref b] s) (F0 m 516 ls []) := by
  obtain ⟨hx, hb, hr, hml, hown, htx, hbl, hbA, hlocks, hK, hZ, hA, hA2⟩ := C
  refine lv_aload_n hx hb dL_law_516 rfl (lv_at hl 3 rfl) ?_
  refine lv_aload_n hx hb dL_law_517 rfl (lv_at hl 4 rfl) ?_
  refine lv_iload hx hb dL_law_518 (lv_at hl 0 rfl) ?_
  refine lv_iconst (v := 1) hx hb dL_law_520 (by decide) ?_
  refine lv_iadd hx hb dL_law_521 ?_
  refine W.eq (g2 := F0 m 522 ls [.int 1, .ref b, .ref a0]) rfl ?_
  refine va_sld hx hb hXs hbl hbA hS (i := 1) (show ¬ ((1 : Int32) < 0 ∨ 6 ≤ (1 : Int32).toNatClampNeg) by decide) dL_law_522 ?_
  refine W.eq (g2 := F0 m 523 ls [.int (xs 1), .ref a0]) rfl ?_
  refine lv_aload_n hx hb dL_law_523 rfl (lv_at hl 4 rfl) ?_
  refine lv_iload hx hb dL_law_524 (lv_at hl 0 rfl) ?_
  refine lv_iconst (v := 2) hx hb dL_law_526 (by decide) ?_
  refine lv_iadd hx hb dL_law_527 ?_
  refine W.eq (g2 := F0 m 528 ls [.int 2, .ref b, .int (xs 1), .ref a0]) rfl ?_
  refine va_sld hx hb hXs hbl hbA hS (i := 2) (show ¬ ((2 : Int32) < 0 ∨ 6 ≤ (2 : Int32).toNatClampNeg) by decide) dL_law_528 ?_
  refine W.eq (g2 := F0 m 529 ls [.int (xs 2), .int (xs 1), .ref a0]) rfl ?_
  refine lv_aload_n hx hb dL_law_529 rfl (lv_at hl 1 rfl) ?_
  obtain ⟨hPc, hDc, hFc⟩ := xcut (wc := [(a0, .inr (0, [v13, v14, v15, .ref a3, v16, v17, v18, v19])), (a3, .inl (cT 3, 8, .inr (.inr (.inr (.inr f50))))), (a4, .inr (2, [.ref a5, .int 1, v53])), (a5, .inl (cT 2, 4096, .inr (.inl f54))), (a6, .inr (2, [.ref a7, .int 1, v56])), (a7, .inl (cT 2, 4096, .inr (.inl f57))), (a2, .inl (cT 2, 1, .inr (.inl f49)))]) hP hD hS hA [0, 3, 4, 5, 6, 7, 2] rfl rfl (by decide)
  refine va_calli (vx_runSW (As := [.ref a0, .int (xs 1), .int (xs 2), .ref a2]) (rest := []) ⟨hx, hb, hml, hown, htx⟩ (cL_same_5 l hl9 D cT aK aV H.size a0 a3 a4 a5 a6 a7 a2 (xs 1) (xs 2) v13 v14 v15 v16 v17 v18 v19 f50 v53 f54 v56 f57 f49 ha1 ha2 ha3 ha4 hb1 hb2 hb3 hb4 (by first | rfl | exact h51 | exact h52 | exact h55 | exact h58 | exact h60 | exact h61 | exact h63 | exact h64 | exact h66 | exact h67 | exact h68 | exact h69 | exact h71 | exact h72 | exact h74 | exact h75 | exact h76 | exact h77) (by first | rfl | exact h51 | exact h52 | exact h55 | exact h58 | exact h60 | exact h61 | exact h63 | exact h64 | exact h66 | exact h67 | exact h68 | exact h69 | exact h71 | exact h72 | exact h74 | exact h75 | exact h76 | exact h77) (by first | rfl | exact h51 | exact h52 | exact h55 | exact h58 | exact h60 | exact h61 | exact h63 | exact h64 | exact h66 | exact h67 | exact h68 | exact h69 | exact h71 | exact h72 | exact h74 | exact h75 | exact h76 | exact h77) (by first | rfl | exact h51 | exact h52 | exact h55 | exact h58 | exact h60 | exact h61 | exact h63 | exact h64 | exact h66 | exact h67 | exact h68 | exact h69 | exact h71 | exact h72 | exact h74 | exact h75 | exact h76 | exact h77)) (xcSW 4 htx (xw_goodC kw_4_13) rfl rfl rfl (htx _ kw_1_0) (htx _ kw_4_11) ⟨by decide, by decide, by decide +kernel⟩ ⟨Nat.le_of_ble_eq_true rfl, Nat.le_of_ble_eq_true rfl⟩ (htx _ kw_4_12)) ⟨xPre_blind, (fun U hU hW => ⟨rfl, xPre_of hZ hS hFc hPc hDc hK U hU hW⟩)⟩ rfl rfl hl.1 rfl (lv_room (Nat.le_of_ble_eq_true rfl)) dL_law_530 ⟨Nat.le_of_ble_eq_true rfl, Nat.le_of_ble_eq_true rfl⟩) hS (fun q _ h => hFc q h) hFc (fun r1 u9 t H1 locs ht hvm hr9 hB hz1 hk1 hS => ?_)
  obtain ⟨hP1, hK1, hD1⟩ := hB
  rw [ht] at hP1
  obtain ⟨hP, hD⟩ := xjoin (W := [(a1, .inr (5, [v20, .ref a11, v21, v22, v23, v24, v25, v26, v27, v28, v29, v30, v31, v32, v33, v34, v35, v36, v37, v38, v39, v40, v41, v42, .ref a8, .ref a9, v43, v44, v45, v46, v47, v48])), (a8, .inl (cT 5, 8, .inr (.inr (.inr (.inr f59))))), (a9, .inl (cT 1, 8, .inl f62)), (a10, .inl (cT 0, 4096, .inl f65)), (a11, .inl (cT 4, 1024, .inr (.inr (.inr (.inr f70))))), (a12, .inl (cT 0, 4096, .inl f73)), (a0, .inr (0, [v13, v14, v15, .ref a3, v16, v17, v18, v19])), (a3, .inl (cT 3, 8, .inr (.inr (.inr (.inr f50))))), (a4, .inr (2, [.ref a5, .int 1, v53])), (a5, .inl (cT 2, 4096, .inr (.inl f54))), (a6, .inr (2, [.ref a7, .int 1, v56])), (a7, .inl (cT 2, 4096, .inr (.inl f57))), (a2, .inl (cT 2, 1, .inr (.inl (vp_updL f49 0 1))))]) hP hD [0, 3, 4, 5, 6, 7, 2] [1, 8, 9, 10, 11, 12] 6 rfl rfl (by decide) (by decide) hk1 hFc hP1 hD1
  generalize H1 = H at hP hS ⊢
  rw [hr9]
  refine W.eq (g2 := F0 m 533 ls [.int 0]) rfl ?_
  refine lv_istore (lv' := [(5, .int 0), (4, .int 0), (3, .ref a2), (2, .ref a1), (1, .ref a0), (0, .ref b)]) hx hb dL_law_533 hl (by decide) rfl (fun ls hl => ?_)
  refine lv_aload_n hx hb dL_law_535 rfl (lv_at hl 3 rfl) ?_
  refine lv_aload_n hx hb dL_law_536 rfl (lv_at hl 5 rfl) ?_
  refine lv_iload hx hb dL_law_537 (lv_at hl 1 rfl) ?_
  refine lv_iconst (v := 1) hx hb dL_law_539 (by decide) ?_
  refine lv_iadd hx hb dL_law_540 ?_
  refine W.eq (g2 := F0 m 541 ls [.int 1, .ref b, .ref a1]) rfl ?_
  refine va_sld hx hb hXs hbl hbA hS (i := 1) (show ¬ ((1 : Int32) < 0 ∨ 6 ≤ (1 : Int32).toNatClampNeg) by decide) dL_law_541 ?_
  refine W.eq (g2 := F0 m 542 ls [.int (xs 1), .ref a1]) rfl ?_
  refine lv_aload_n hx hb dL_law_542 rfl (lv_at hl 5 rfl) ?_
  refine lv_iload hx hb dL_law_543 (lv_at hl 1 rfl) ?_
  refine lv_iconst (v := 2) hx hb dL_law_545 (by decide) ?_
  refine lv_iadd hx hb dL_law_546 ?_
  refine W.eq (g2 := F0 m 547 ls [.int 2, .ref b, .int (xs 1), .ref a1]) rfl ?_
  refine va_sld hx hb hXs hbl hbA hS (i := 2) (show ¬ ((2 : Int32) < 0 ∨ 6 ≤ (2 : Int32).toNatClampNeg) by decide) dL_law_547 ?_
  refine W.eq (g2 := F0 m 548 ls [.int (xs 2), .int (xs 1), .ref a1]) rfl ?_
  obtain ⟨hPc, hDc, hFc⟩ := xcut (wc := [(a1, .inr (5, [v20, .ref a11, v21, v22, v23, v24, v25, v26, v27, v28, v29, v30, v31, v32, v33, v34, v35, v36, v37, v38, v39, v40, v41, v42, .ref a8, .ref a9, v43, v44, v45, v46, v47, v48])), (a8, .inl (cT 5, 8, .inr (.inr (.inr (.inr f59))))), (a9, .inl (cT 1, 8, .inl f62)), (a10, .inl (cT 0, 4096, .inl f65)), (a11, .inl (cT 4, 1024, .inr (.inr (.inr (.inr f70))))), (a12, .inl (cT 0, 4096, .inl f73))]) hP hD hS hA [0, 1, 2, 3, 4, 5] rfl rfl (by decide)
  refine va_calli (va_runV (C := "ValueBenchModel") (As := [.int (xs 1), .int (xs 2)]) (rest := []) ⟨hx, hb, hml, hown, htx⟩ (cM_same0_5 l hl9 D cT aK aV H.size a1 a8 a9 a10 a11 a12 (xs 1) (xs 2) v20 v21 v22 v23 v24 v25 v26 v27 v28 v29 v30 v31 v32 v33 v34 v35 v36 v37 v38 v39 v40 v41 v42 v43 v44 v45 v46 v47 v48 f59 f62 f65 f70 f73 ha1 ha2 ha3 ha4 hb1 hb2 hb3 hb4 (by first | rfl | exact h51 | exact h52 | exact h55 | exact h58 | exact h60 | exact h61 | exact h63 | exact h64 | exact h66 | exact h67 | exact h68 | exact h69 | exact h71 | exact h72 | exact h74 | exact h75 | exact h76 | exact h77) (by first | rfl | exact h51 | exact h52 | exact h55 | exact h58 | exact h60 | exact h61 | exact h63 | exact h64 | exact h66 | exact h67 | exact h68 | exact h69 | exact h71 | exact h72 | exact h74 | exact h75 | exact h76 | exact h77) (by first | rfl | exact h51 | exact h52 | exact h55 | exact h58 | exact h60 | exact h61 | exact h63 | exact h64 | exact h66 | exact h67 | exact h68 | exact h69 | exact h71 | exact h72 | exact h74 | exact h75 | exact h76 | exact h77) (by first | rfl | exact h51 | exact h52 | exact h55 | exact h58 | exact h60 | exact h61 | exact h63 | exact h64 | exact h66 | exact h67 | exact h68 | exact h69 | exact h71 | exact h72 | exact h74 | exact h75 | exact h76 | exact h77) (by first | rfl | exact h51 | exact h52 | exact h55 | exact h58 | exact h60 | exact h61 | exact h63 | exact h64 | exact h66 | exact h67 | exact h68 | exact h69 | exact h71 | exact h72 | exact h74 | exact h75 | exact h76 | exact h77) (by first | rfl | exact h51 | exact h52 | exact h55 | exact h58 | exact h60 | exact h61 | exact h63 | exact h64 | exact h66 | exact h67 | exact h68 | exact h69 | exact h71 | exact h72 | exact h74 | exact h75 | exact h76 | exact h77) (by first | rfl | exact h51 | exact h52 | exact h55 | exact h58 | exact h60 | exact h61 | exact h63 | exact h64 | exact h66 | exact h67 | exact h68 | exact h69 | exact h71 | exact h72 | exact h74 | exact h75 | exact h76 | exact h77) (by first | rfl | exact h51 | exact h52 | exact h55 | exact h58 | exact h60 | exact h61 | exact h63 | exact h64 | exact h66 | exact h67 | exact h68 | exact h69 | exact h71 | exact h72 | exact h74 | exact h75 | exact h76 | exact h77) (by first | rfl | exact h51 | exact h52 | exact h55 | exact h58 | exact h60 | exact h61 | exact h63 | exact h64 | exact h66 | exact h67 | exact h68 | exact h69 | exact h71 | exact h72 | exact h74 | exact h75 | exact h76 | exact h77) (by first | rfl | exact h51 | exact h52 | exact h55 | exact h58 | exact h60 | exact h61 | exact h63 | exact h64 | exact h66 | exact h67 | exact h68 | exact h69 | exact h71 | exact h72 | exact h74 | exact h75 | exact h76 | exact h77) (by first | rfl | exact h51 | exact h52 | exact h55 | exact h58 | exact h60 | exact h61 | exact h63 | exact h64 | exact h66 | exact h67 | exact h68 | exact h69 | exact h71 | exact h72 | exact h74 | exact h75 | exact h76 | exact h77) (by first | rfl | exact h51 | exact h52 | exact h55 | exact h58 | exact h60 | exact h61 | exact h63 | exact h64 | exact h66 | exact h67 | exact h68 | exact h69 | exact h71 | exact h72 | exact h74 | exact h75 | exact h76 | exact h77) (by first | rfl | exact h51 | exact h52 | exact h55 | exact h58 | exact h60 | exact h61 | exact h63 | exact h64 | exact h66 | exact h67 | exact h68 | exact h69 | exact h71 | exact h72 | exact h74 | exact h75 | exact h76 | exact h77) (by first | rfl | exact h51 | exact h52 | exact h55 | exact h58 | exact h60 | exact h61 | exact h63 | exact h64 | exact h66 | exact h67 | exact h68 | exact h69 | exact h71 | exact h72 | exact h74 | exact h75 | exact h76 | exact h77)) ⟨callB_of 2 htx (xw_goodC kw_6_166) rfl rfl rfl (htx _ kw_1_5) (htx _ kw_6_163) ⟨by decide, by decide, by decide +kernel⟩ ⟨Nat.le_of_ble_eq_true rfl, Nat.le_of_ble_eq_true rfl⟩, (htx _ kw_6_164), (htx _ kw_6_165)⟩ ⟨xPre_blind, va_recv hK hP (ci := 5) rfl (q0 := 0) rfl, (fun U hU hW => ⟨rfl, xPre_of hZ hS hFc hPc hDc hK U hU hW⟩)⟩ rfl rfl hl.1 rfl (lv_room (Nat.le_of_ble_eq_true rfl)) dL_law_548 ⟨Nat.le_of_ble_eq_true rfl, Nat.le_of_ble_eq_true rfl⟩) hS (fun q _ h => hFc q h) hFc (fun r2 u9 t H1 locs ht hvm hr9 hB hz1 hk1 hS => ?_)
  obtain ⟨q3, q4, hP1, hK1, hD1⟩ := hB
  rw [ht] at hP1
  obtain ⟨hP, hD⟩ := xjoin (W := [(a0, .inr (0, [v13, v14, v15, .ref a3, v16, v17, v18, v19])), (a3, .inl (cT 3, 8, .inr (.inr (.inr (.inr f50))))), (a4, .inr (2, [.ref a5, .int 1, v53])), (a5, .inl (cT 2, 4096, .inr (.inl f54))), (a6, .inr (2, [.ref a7, .int 1, v56])), (a7, .inl (cT 2, 4096, .inr (.inl f57))), (a2, .inl (cT 2, 1, .inr (.inl (vp_updL f49 0 1)))), (a1, .inr (5, [.int 0, .ref a11, .int 2, v22, .int 0, v24, v25, .int 0, v27, .int 0, v29, v30, .int 0, v32, v33, .ref a12, .int 4, .int 4, .int 0, .int 100, v39, v40, .int 0, .int 1000000000, .ref a8, .ref a9, v43, v44, v45, v46, v47, v48])), (a8, .inl (cT 5, 8, .inr (.inr (.inr (.inr f59))))), (a9, .inl (cT 1, 8, .inl f62)), (a10, .inl (cT 0, 4096, .inl f65)), (a11, .inl (cT 4, 1024, .inr (.inr (.inr (.inr (va_up (va_up f70 0 (some q3)) 1 (some q4))))))), (a12, .inl (cT 0, 4096, .inl f73)), (q3, .inr (6, [.int 0, .long 0, .int 0, .int 0, .int 0, .int 1])), (q4, .inr (6, [.int 0, .long 0, .int 0, .int 0, .int 0, .int 1]))]) hP hD [0, 1, 2, 3, 4, 5] [6, 7, 8, 9, 10, 11, 12] 7 rfl rfl (by decide) (by decide) hk1 hFc hP1 hD1
  generalize H1 = H at hP hS ⊢
  rw [hr9]
  refine W.eq (g2 := F0 m 551 ls [.int 1]) rfl ?_
  refine lv_istore (lv' := [(6, .int 1), (5, .int 0), (4, .int 0), (3, .ref a2), (2, .ref a1), (1, .ref a0), (0, .ref b)]) hx hb dL_law_551 hl (by decide) rfl (fun ls hl => ?_)
  refine lv_aload_n hx hb dL_law_553 rfl (lv_at hl 4 rfl) ?_
  obtain ⟨hPc, hDc, hFc⟩ := xcut (wc := [(a1, .inr (5, [.int 0, .ref a11, .int 2, v22, .int 0, v24, v25, .int 0, v27, .int 0, v29, v30, .int 0, v32, v33, .ref a12, .int 4, .int 4, .int 0, .int 100, v39, v40, .int 0, .int 1000000000, .ref a8, .ref a9, v43, v44, v45, v46, v47, v48]))]) hP hD hS hA [7] rfl rfl (by decide)
  refine va_calli (va_runV (C := "ValueBenchModel") (As := []) (rest := []) ⟨hx, hb, hml, hown, htx⟩ (cM_thrown_0 l hl9 D cT aK aV H.size a1 (.ref a11) (.int 2) v22 (.int 0) v24 v25 (.int 0) v27 (.int 0) v29 v30 (.int 0) v32 v33 (.ref a12) (.int 4) (.int 4) (.int 0) (.int 100) v39 v40 (.int 0) (.int 1000000000) (.ref a8) (.ref a9) v43 v44 v45 v46 v47 v48) ⟨callB_of 0 htx (xw_goodC kw_5_187) rfl rfl rfl (htx _ kw_1_5) (htx _ kw_5_184) ⟨by decide, by decide, by decide +kernel⟩ ⟨Nat.le_of_ble_eq_true rfl, Nat.le_of_ble_eq_true rfl⟩, (htx _ kw_5_185), (htx _ kw_5_186)⟩ ⟨xPre_blind, va_recv hK hP (ci := 5) rfl (q0 := 7) rfl, (fun U hU hW => ⟨rfl, xPre_of hZ hS hFc hPc hDc hK U hU hW⟩)⟩ rfl rfl hl.1 rfl (lv_room (Nat.le_of_ble_eq_true rfl)) dL_law_554 ⟨Nat.le_of_ble_eq_true rfl, Nat.le_of_ble_eq_true rfl⟩) hS (fun q _ h => hFc q h) hFc (fun r5 u9 t H1 locs ht hvm hr9 hB hz1 hk1 hS => ?_)
  obtain ⟨hP1, hK1, hD1⟩ := hB
  rw [ht] at hP1
  obtain ⟨hP, hD⟩ := xjoin (W := [(a0, .inr (0, [v13, v14, v15, .ref a3, v16, v17, v18, v19])), (a3, .inl (cT 3, 8, .inr (.inr (.inr (.inr f50))))), (a4, .inr (2, [.ref a5, .int 1, v53])), (a5, .inl (cT 2, 4096, .inr (.inl f54))), (a6, .inr (2, [.ref a7, .int 1, v56])), (a7, .inl (cT 2, 4096, .inr (.inl f57))), (a2, .inl (cT 2, 1, .inr (.inl (vp_updL f49 0 1)))), (a8, .inl (cT 5, 8, .inr (.inr (.inr (.inr f59))))), (a9, .inl (cT 1, 8, .inl f62)), (a10, .inl (cT 0, 4096, .inl f65)), (a11, .inl (cT 4, 1024, .inr (.inr (.inr (.inr (va_up (va_up f70 0 (some q3)) 1 (some q4))))))), (a12, .inl (cT 0, 4096, .inl f73)), (q3, .inr (6, [.int 0, .long 0, .int 0, .int 0, .int 0, .int 1])), (q4, .inr (6, [.int 0, .long 0, .int 0, .int 0, .int 0, .int 1])), (a1, .inr (5, [.int 0, .ref a11, .int 2, v22, .int 0, v24, v25, .int 0, v27, .int 0, v29, v30, .int 0, v32, v33, .ref a12, .int 4, .int 4, .int 0, .int 100, v39, v40, .int 0, .int 1000000000, .ref a8, .ref a9, v43, v44, v45, v46, v47, v48]))]) hP hD [7] [0, 1, 2, 3, 4, 5, 6, 8, 9, 10, 11, 12, 13, 14] 14 rfl rfl (by decide) (by decide) hk1 hFc hP1 hD1
  generalize H1 = H at hP hS ⊢
  rw [hr9]
  refine W.eq (g2 := F0 m 557 ls [.int 0]) rfl ?_
  refine lv_iload hx hb dL_law_557 (lv_at hl 1 rfl) ?_
  refine lv_icmp_eq (tgt := 564) hx hb dL_law_559 (by decide) (fun _ => ?_) (fun h => ((by revert h; decide : False)).elim)
  refine lv_iload hx hb dL_law_564 (lv_at hl 1 rfl) ?_
  refine lv_if_ne (tgt := 588) hx hb dL_law_566 (by decide) (fun h => ((by revert h; decide : False)).elim) (fun _ => ?_)
  refine lv_aload_n hx hb dL_law_569 rfl (lv_at hl 3 rfl) ?_
  refine lv_iconst (v := 0) hx hb dL_law_570 (by decide) ?_
  refine va_lald hx hb hK hP 6 2 rfl rfl (show ¬ ((0 : Int32) < 0 ∨ 1 ≤ (0 : Int32).toNatClampNeg) by decide) dL_law_571 ?_
  refine W.eq (g2 := F0 m 572 ls [.long 1]) rfl ?_
  refine lv_iload hx hb dL_law_572 (lv_at hl 0 rfl) ?_
  refine lv_if_eq (tgt := 581) hx hb dL_law_574 (by decide) (fun h => ((by revert h; decide : False)).elim) (fun _ => ?_)
  refine lv_lconst (v := 1) hx hb dL_law_577 (by decide) ?_
  refine lv_goto (tgt := 582) hx hb dL_law_578 (by decide) ?_
  refine W.lcmp hx hb dL_law_582 ?_
  refine W.eq (g2 := F0 m 583 ls [.int 0]) rfl ?_
  refine lv_if_eq (tgt := 588) hx hb dL_law_583 (by decide) (fun _ => ?_) (fun h => ((by revert h; decide : False)).elim)
  refine lv_goto (tgt := 906) hx hb dL_law_588 (by decide) ?_
  refine lv_iinc (v := 6) (lv' := [(4, .int 6), (6, .int 1), (5, .int 0), (3, .ref a2), (2, .ref a1), (1, .ref a0), (0, .ref b)]) hx hb dL_law_906 hl (k := 2) rfl (by decide) (by decide) rfl (fun ls hl => ?_)
  refine lv_goto (tgt := 23) hx hb dL_law_909 (by decide) ?_
  refine lv_iload hx hb dL_law_23 (lv_at hl 0 rfl) ?_
  refine lv_aload_n hx hb dL_law_25 rfl (lv_at hl 6 rfl) ?_
  refine va_slen hx hb hXs hbl hbA hS dL_law_26 ?_
  refine W.eq (g2 := F0 m 27 ls [.int 6, .int 6]) rfl ?_
  refine lv_bipush (v := 6) hx hb dL_law_27 (by decide) ?_
  refine lv_isub hx hb dL_law_29 ?_
  refine W.eq (g2 := F0 m 30 ls [.int 0, .int 6]) rfl ?_
  refine lv_icmp_gt (tgt := 912) hx hb dL_law_30 (by decide) (fun _ => ?_) (fun h => ((by revert h; decide : False)).elim)
  refine lv_iconst (v := 1) hx hb dL_law_912 (by decide) ?_
  exact va_forget (fun q h => hA2 _ (hS.2.2 q h)) (W.widen (k := 600002) (n := 7302232) (Nat.le_of_ble_eq_true rfl) (Nat.le_of_ble_eq_true rfl) (lw_ret hx hb hr hlocks dL_law_913))
