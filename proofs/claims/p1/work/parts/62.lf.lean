set_option maxHeartbeats 400000000 in
set_option maxRecDepth 100000 in
theorem lf_feed_p0 {p : Program} {e : Env} {s : State} {m : MethodId} {below : List Frame} {meth : Method} {c : Code} (l : Launch) (hl9 : l.stackTraces = false) (D : va_G) (cT : Nat → ClassId) (aK aV : Nat → Nat) {A : Nat → Prop} {b : Nat} {xs : Nat → Int32} (C : xLw p s m meth c b D cT aK aV A) {H : Heap} {locs : List Loc} {ls : Array Slot} (a0 : Nat) (a1 : Nat) (a2 : Nat) (a3 : Nat) (a4 : Nat) (a5 : Nat) (v6 : Value) (v7 : Value) (v8 : Value) (v9 : Value) (v10 : Value) (v11 : Value) (v12 : Value) (v13 : Value) (v14 : Value) (v15 : Value) (v16 : Value) (v17 : Value) (v18 : Value) (v19 : Value) (v20 : Value) (v21 : Value) (v22 : Value) (v23 : Value) (v24 : Value) (v25 : Value) (v26 : Value) (v27 : Value) (v28 : Value) (v29 : Value) (v30 : Value) (v31 : Value) (v32 : Value) (v33 : Value) (v34 : Value) (v35 : Value) (v36 : Value) (v37 : Value) (v38 : Value) (v39 : Value) (v40 : Value) (v41 : Value) (v42 : Value) (f43 : Nat → Int64) (v44 : Value) (f45 : Nat → Int32) (f46 : Nat → Int32) (hXs : va_X b 6 xs s s.heap) (hP : va_P D xcl [(a0, .inr (0, [.ref a3, v6, v7, v8, v9, v10, v11, v12])), (a1, .inr (5, [v13, v14, v15, v16, v17, v18, v19, v20, v21, v22, v23, v24, v25, v26, v27, v28, v29, v30, v31, v32, v33, v34, v35, v36, v37, v38, .ref a5, .int 0, v39, v40, v41, v42])), (a2, .inl (cT 2, 1, .inr (.inl f43))), (a3, .inr (1, [.ref a4, .int 0, v44])), (a4, .inl (cT 0, 4096, .inl f45)), (a5, .inl (cT 0, 4096, .inl f46))] H) (hD : va_D A [(a0, .inr (0, [.ref a3, v6, v7, v8, v9, v10, v11, v12])), (a1, .inr (5, [v13, v14, v15, v16, v17, v18, v19, v20, v21, v22, v23, v24, v25, v26, v27, v28, v29, v30, v31, v32, v33, v34, v35, v36, v37, v38, .ref a5, .int 0, v39, v40, v41, v42])), (a2, .inl (cT 2, 1, .inr (.inl f43))), (a3, .inr (1, [.ref a4, .int 0, v44])), (a4, .inl (cT 0, 4096, .inl f45)), (a5, .inl (cT 0, 4096, .inl f46))]) (hS : va_S A s.heap H locs) (hl : lv_has ls 8 [(4, .int 0), (3, .ref a2), (2, .ref a1), (1, .ref a0), (0, .ref b)]) : W p l e room_1 s m #[Value.ref b] below meth c H locs 54 107242 (lw_Z below #[Value.ref b] s) (F0 m 104 ls []) := by
  obtain ⟨hx, hb, hr, hml, hown, htx, hbl, hbA, hlocks, hK, hZ, hA, hA2⟩ := C
  refine lv_aload_n hx hb dL_law_104 rfl (lv_at hl 3 rfl) ?_
  refine lv_aload_n hx hb dL_law_105 rfl (lv_at hl 4 rfl) ?_
  refine lv_iload hx hb dL_law_106 (lv_at hl 0 rfl) ?_
  refine lv_iconst (v := 1) hx hb dL_law_108 (by decide) ?_
  refine lv_iadd hx hb dL_law_109 ?_
  refine W.eq (g2 := F0 m 110 ls [.int 1, .ref b, .ref a0]) rfl ?_
  refine va_sld hx hb hXs hbl hbA hS (i := 1) (show ¬ ((1 : Int32) < 0 ∨ 6 ≤ (1 : Int32).toNatClampNeg) by decide) dL_law_110 ?_
  refine W.eq (g2 := F0 m 111 ls [.int (xs 1), .ref a0]) rfl ?_
  refine lv_aload_n hx hb dL_law_111 rfl (lv_at hl 4 rfl) ?_
  refine lv_iload hx hb dL_law_112 (lv_at hl 0 rfl) ?_
  refine lv_iconst (v := 2) hx hb dL_law_114 (by decide) ?_
  refine lv_iadd hx hb dL_law_115 ?_
  refine W.eq (g2 := F0 m 116 ls [.int 2, .ref b, .int (xs 1), .ref a0]) rfl ?_
  refine va_sld hx hb hXs hbl hbA hS (i := 2) (show ¬ ((2 : Int32) < 0 ∨ 6 ≤ (2 : Int32).toNatClampNeg) by decide) dL_law_116 ?_
  refine W.eq (g2 := F0 m 117 ls [.int (xs 2), .int (xs 1), .ref a0]) rfl ?_
  refine lv_aload_n hx hb dL_law_117 rfl (lv_at hl 4 rfl) ?_
  refine lv_iload hx hb dL_law_118 (lv_at hl 0 rfl) ?_
  refine lv_iconst (v := 3) hx hb dL_law_120 (by decide) ?_
  refine lv_iadd hx hb dL_law_121 ?_
  refine W.eq (g2 := F0 m 122 ls [.int 3, .ref b, .int (xs 2), .int (xs 1), .ref a0]) rfl ?_
  refine va_sld hx hb hXs hbl hbA hS (i := 3) (show ¬ ((3 : Int32) < 0 ∨ 6 ≤ (3 : Int32).toNatClampNeg) by decide) dL_law_122 ?_
  refine W.eq (g2 := F0 m 123 ls [.int (xs 3), .int (xs 2), .int (xs 1), .ref a0]) rfl ?_
  refine lv_aload_n hx hb dL_law_123 rfl (lv_at hl 4 rfl) ?_
  refine lv_iload hx hb dL_law_124 (lv_at hl 0 rfl) ?_
  refine lv_iconst (v := 4) hx hb dL_law_126 (by decide) ?_
  refine lv_iadd hx hb dL_law_127 ?_
  refine W.eq (g2 := F0 m 128 ls [.int 4, .ref b, .int (xs 3), .int (xs 2), .int (xs 1), .ref a0]) rfl ?_
  refine va_sld hx hb hXs hbl hbA hS (i := 4) (show ¬ ((4 : Int32) < 0 ∨ 6 ≤ (4 : Int32).toNatClampNeg) by decide) dL_law_128 ?_
  refine W.eq (g2 := F0 m 129 ls [.int (xs 4), .int (xs 3), .int (xs 2), .int (xs 1), .ref a0]) rfl ?_
  refine lv_aload_n hx hb dL_law_129 rfl (lv_at hl 4 rfl) ?_
  refine lv_iload hx hb dL_law_130 (lv_at hl 0 rfl) ?_
  refine lv_iconst (v := 5) hx hb dL_law_132 (by decide) ?_
  refine lv_iadd hx hb dL_law_133 ?_
  refine W.eq (g2 := F0 m 134 ls [.int 5, .ref b, .int (xs 4), .int (xs 3), .int (xs 2), .int (xs 1), .ref a0]) rfl ?_
  refine va_sld hx hb hXs hbl hbA hS (i := 5) (show ¬ ((5 : Int32) < 0 ∨ 6 ≤ (5 : Int32).toNatClampNeg) by decide) dL_law_134 ?_
  refine W.eq (g2 := F0 m 135 ls [.int (xs 5), .int (xs 4), .int (xs 3), .int (xs 2), .int (xs 1), .ref a0]) rfl ?_
  refine lv_aload_n hx hb dL_law_135 rfl (lv_at hl 1 rfl) ?_
  obtain ⟨hPc, hDc, hFc⟩ := xcut (wc := [(a0, .inr (0, [.ref a3, v6, v7, v8, v9, v10, v11, v12])), (a3, .inr (1, [.ref a4, .int 0, v44])), (a4, .inl (cT 0, 4096, .inl f45)), (a2, .inl (cT 2, 1, .inr (.inl f43)))]) hP hD hS hA [0, 3, 4, 2] rfl rfl (by decide)
  refine va_calli (vx_runSW (As := [.ref a0, .int (xs 1), .int (xs 2), .int (xs 3), .int (xs 4), .int (xs 5), .ref a2]) (rest := []) ⟨hx, hb, hml, hown, htx⟩ (cL_feed_0 l hl9 D cT aK aV H.size a0 a3 a4 a2 (xs 1) (xs 2) (xs 3) (xs 4) (xs 5) v6 v7 v8 v9 v10 v11 v12 v44 f45 f43) (xcSW 7 htx (xw_goodC kw_1_122) rfl rfl rfl (htx _ kw_1_0) (htx _ kw_1_120) ⟨by decide, by decide, by decide +kernel⟩ ⟨Nat.le_of_ble_eq_true rfl, Nat.le_of_ble_eq_true rfl⟩ (htx _ kw_1_121)) ⟨xPre_blind, (fun U hU hW => ⟨rfl, xPre_of hZ hS hFc hPc hDc hK U hU hW⟩)⟩ rfl rfl hl.1 rfl (lv_room (Nat.le_of_ble_eq_true rfl)) dL_law_136 ⟨Nat.le_of_ble_eq_true rfl, Nat.le_of_ble_eq_true rfl⟩) hS (fun q _ h => hFc q h) hFc (fun r1 u9 t H1 locs ht hvm hr9 hB hz1 hk1 hS => ?_)
  obtain ⟨y2, y3, y4, y5, y6, y7, y8, y9, y10, y11, y12, y13, y14, y15, y16, y17, y18, y19, y20, y21, hP1, hK1, hD1⟩ := hB
  rw [ht] at hP1
  obtain ⟨hP, hD⟩ := xjoin (W := [(a1, .inr (5, [v13, v14, v15, v16, v17, v18, v19, v20, v21, v22, v23, v24, v25, v26, v27, v28, v29, v30, v31, v32, v33, v34, v35, v36, v37, v38, .ref a5, .int 0, v39, v40, v41, v42])), (a5, .inl (cT 0, 4096, .inl f46)), (a0, .inr (0, [.ref a3, v6, v7, v8, v9, v10, v11, v12])), (a3, .inr (1, [.ref a4, .int 20, v44])), (a4, .inl (cT 0, 4096, .inl (upd (upd (upd (upd (upd (upd (upd (upd (upd (upd (upd (upd (upd (upd (upd (upd (upd (upd (upd (upd f45 0 (vp_nar .byte y2)) 1 (vp_nar .byte y3)) 2 (vp_nar .byte y4)) 3 (vp_nar .byte y5)) 4 (vp_nar .byte y6)) 5 (vp_nar .byte y7)) 6 (vp_nar .byte y8)) 7 (vp_nar .byte y9)) 8 (vp_nar .byte y10)) 9 (vp_nar .byte y11)) 10 (vp_nar .byte y12)) 11 (vp_nar .byte y13)) 12 (vp_nar .byte y14)) 13 (vp_nar .byte y15)) 14 (vp_nar .byte y16)) 15 (vp_nar .byte y17)) 16 (vp_nar .byte y18)) 17 (vp_nar .byte y19)) 18 (vp_nar .byte y20)) 19 (vp_nar .byte y21)))), (a2, .inl (cT 2, 1, .inr (.inl (vp_updL f43 0 20))))]) hP hD [0, 3, 4, 2] [1, 5] 2 rfl rfl (by decide) (by decide) hk1 hFc hP1 hD1
  generalize H1 = H at hP hS ⊢
  rw [hr9]
  refine W.eq (g2 := F0 m 139 ls [.int 0]) rfl ?_
  refine lv_istore (lv' := [(5, .int 0), (4, .int 0), (3, .ref a2), (2, .ref a1), (1, .ref a0), (0, .ref b)]) hx hb dL_law_139 hl (by decide) rfl (fun ls hl => ?_)
  refine lv_aload_n hx hb dL_law_141 rfl (lv_at hl 3 rfl) ?_
  refine lv_aload_n hx hb dL_law_142 rfl (lv_at hl 5 rfl) ?_
  refine lv_iload hx hb dL_law_143 (lv_at hl 1 rfl) ?_
  refine lv_iconst (v := 1) hx hb dL_law_145 (by decide) ?_
  refine lv_iadd hx hb dL_law_146 ?_
  refine W.eq (g2 := F0 m 147 ls [.int 1, .ref b, .ref a1]) rfl ?_
  refine va_sld hx hb hXs hbl hbA hS (i := 1) (show ¬ ((1 : Int32) < 0 ∨ 6 ≤ (1 : Int32).toNatClampNeg) by decide) dL_law_147 ?_
  refine W.eq (g2 := F0 m 148 ls [.int (xs 1), .ref a1]) rfl ?_
  refine lv_aload_n hx hb dL_law_148 rfl (lv_at hl 5 rfl) ?_
  refine lv_iload hx hb dL_law_149 (lv_at hl 1 rfl) ?_
  refine lv_iconst (v := 2) hx hb dL_law_151 (by decide) ?_
  refine lv_iadd hx hb dL_law_152 ?_
  refine W.eq (g2 := F0 m 153 ls [.int 2, .ref b, .int (xs 1), .ref a1]) rfl ?_
  refine va_sld hx hb hXs hbl hbA hS (i := 2) (show ¬ ((2 : Int32) < 0 ∨ 6 ≤ (2 : Int32).toNatClampNeg) by decide) dL_law_153 ?_
  refine W.eq (g2 := F0 m 154 ls [.int (xs 2), .int (xs 1), .ref a1]) rfl ?_
  refine lv_aload_n hx hb dL_law_154 rfl (lv_at hl 5 rfl) ?_
  refine lv_iload hx hb dL_law_155 (lv_at hl 1 rfl) ?_
  refine lv_iconst (v := 3) hx hb dL_law_157 (by decide) ?_
  refine lv_iadd hx hb dL_law_158 ?_
  refine W.eq (g2 := F0 m 159 ls [.int 3, .ref b, .int (xs 2), .int (xs 1), .ref a1]) rfl ?_
  refine va_sld hx hb hXs hbl hbA hS (i := 3) (show ¬ ((3 : Int32) < 0 ∨ 6 ≤ (3 : Int32).toNatClampNeg) by decide) dL_law_159 ?_
  refine W.eq (g2 := F0 m 160 ls [.int (xs 3), .int (xs 2), .int (xs 1), .ref a1]) rfl ?_
  refine lv_aload_n hx hb dL_law_160 rfl (lv_at hl 5 rfl) ?_
  refine lv_iload hx hb dL_law_161 (lv_at hl 1 rfl) ?_
  refine lv_iconst (v := 4) hx hb dL_law_163 (by decide) ?_
  refine lv_iadd hx hb dL_law_164 ?_
  refine W.eq (g2 := F0 m 165 ls [.int 4, .ref b, .int (xs 3), .int (xs 2), .int (xs 1), .ref a1]) rfl ?_
  refine va_sld hx hb hXs hbl hbA hS (i := 4) (show ¬ ((4 : Int32) < 0 ∨ 6 ≤ (4 : Int32).toNatClampNeg) by decide) dL_law_165 ?_
  refine W.eq (g2 := F0 m 166 ls [.int (xs 4), .int (xs 3), .int (xs 2), .int (xs 1), .ref a1]) rfl ?_
  refine lv_aload_n hx hb dL_law_166 rfl (lv_at hl 5 rfl) ?_
  refine lv_iload hx hb dL_law_167 (lv_at hl 1 rfl) ?_
  refine lv_iconst (v := 5) hx hb dL_law_169 (by decide) ?_
  refine lv_iadd hx hb dL_law_170 ?_
  refine W.eq (g2 := F0 m 171 ls [.int 5, .ref b, .int (xs 4), .int (xs 3), .int (xs 2), .int (xs 1), .ref a1]) rfl ?_
  refine va_sld hx hb hXs hbl hbA hS (i := 5) (show ¬ ((5 : Int32) < 0 ∨ 6 ≤ (5 : Int32).toNatClampNeg) by decide) dL_law_171 ?_
  refine W.eq (g2 := F0 m 172 ls [.int (xs 5), .int (xs 4), .int (xs 3), .int (xs 2), .int (xs 1), .ref a1]) rfl ?_
  obtain ⟨hPc, hDc, hFc⟩ := xcut (wc := [(a1, .inr (5, [v13, v14, v15, v16, v17, v18, v19, v20, v21, v22, v23, v24, v25, v26, v27, v28, v29, v30, v31, v32, v33, v34, v35, v36, v37, v38, .ref a5, .int 0, v39, v40, v41, v42])), (a5, .inl (cT 0, 4096, .inl f46))]) hP hD hS hA [0, 1] rfl rfl (by decide)
  refine va_calli (va_runV (C := "ValueBenchModel") (As := [.int (xs 1), .int (xs 2), .int (xs 3), .int (xs 4), .int (xs 5)]) (rest := []) ⟨hx, hb, hml, hown, htx⟩ (cM_feed_0 l hl9 D cT aK aV H.size a1 a5 (xs 1) (xs 2) (xs 3) (xs 4) (xs 5) v13 v14 v15 v16 v17 v18 v19 v20 v21 v22 v23 v24 v25 v26 v27 v28 v29 v30 v31 v32 v33 v34 v35 v36 v37 v38 v39 v40 v41 v42 f46) ⟨callB_of 5 htx (xw_goodC kw_5_191) rfl rfl rfl (htx _ kw_1_5) (htx _ kw_5_188) ⟨by decide, by decide, by decide +kernel⟩ ⟨Nat.le_of_ble_eq_true rfl, Nat.le_of_ble_eq_true rfl⟩, (htx _ kw_5_189), (htx _ kw_5_190)⟩ ⟨xPre_blind, va_recv hK hP (ci := 5) rfl (q0 := 0) rfl, (fun U hU hW => ⟨rfl, xPre_of hZ hS hFc hPc hDc hK U hU hW⟩)⟩ rfl rfl hl.1 rfl (lv_room (Nat.le_of_ble_eq_true rfl)) dL_law_172 ⟨Nat.le_of_ble_eq_true rfl, Nat.le_of_ble_eq_true rfl⟩) hS (fun q _ h => hFc q h) hFc (fun r22 u9 t H1 locs ht hvm hr9 hB hz1 hk1 hS => ?_)
  obtain ⟨y23, y24, y25, y26, y27, y28, y29, y30, y31, y32, y33, y34, y35, y36, y37, y38, y39, y40, y41, y42, hP1, hK1, hD1⟩ := hB
  rw [ht] at hP1
  obtain ⟨hP, hD⟩ := xjoin (W := [(a0, .inr (0, [.ref a3, v6, v7, v8, v9, v10, v11, v12])), (a3, .inr (1, [.ref a4, .int 20, v44])), (a4, .inl (cT 0, 4096, .inl (upd (upd (upd (upd (upd (upd (upd (upd (upd (upd (upd (upd (upd (upd (upd (upd (upd (upd (upd (upd f45 0 (vp_nar .byte y2)) 1 (vp_nar .byte y3)) 2 (vp_nar .byte y4)) 3 (vp_nar .byte y5)) 4 (vp_nar .byte y6)) 5 (vp_nar .byte y7)) 6 (vp_nar .byte y8)) 7 (vp_nar .byte y9)) 8 (vp_nar .byte y10)) 9 (vp_nar .byte y11)) 10 (vp_nar .byte y12)) 11 (vp_nar .byte y13)) 12 (vp_nar .byte y14)) 13 (vp_nar .byte y15)) 14 (vp_nar .byte y16)) 15 (vp_nar .byte y17)) 16 (vp_nar .byte y18)) 17 (vp_nar .byte y19)) 18 (vp_nar .byte y20)) 19 (vp_nar .byte y21)))), (a2, .inl (cT 2, 1, .inr (.inl (vp_updL f43 0 20)))), (a1, .inr (5, [.int 0, v14, v15, v16, v17, v18, v19, v20, v21, v22, v23, v24, v25, v26, v27, v28, v29, v30, v31, v32, v33, v34, v35, v36, v37, v38, .ref a5, .int 20, v39, v40, v41, v42])), (a5, .inl (cT 0, 4096, .inl (upd (upd (upd (upd (upd (upd (upd (upd (upd (upd (upd (upd (upd (upd (upd (upd (upd (upd (upd (upd f46 0 (vp_nar .byte y23)) 1 (vp_nar .byte y24)) 2 (vp_nar .byte y25)) 3 (vp_nar .byte y26)) 4 (vp_nar .byte y27)) 5 (vp_nar .byte y28)) 6 (vp_nar .byte y29)) 7 (vp_nar .byte y30)) 8 (vp_nar .byte y31)) 9 (vp_nar .byte y32)) 10 (vp_nar .byte y33)) 11 (vp_nar .byte y34)) 12 (vp_nar .byte y35)) 13 (vp_nar .byte y36)) 14 (vp_nar .byte y37)) 15 (vp_nar .byte y38)) 16 (vp_nar .byte y39)) 17 (vp_nar .byte y40)) 18 (vp_nar .byte y41)) 19 (vp_nar .byte y42))))]) hP hD [0, 1] [2, 3, 4, 5] 4 rfl rfl (by decide) (by decide) hk1 hFc hP1 hD1
  generalize H1 = H at hP hS ⊢
  rw [hr9]
  refine W.eq (g2 := F0 m 175 ls [.int 20]) rfl ?_
  refine lv_istore (lv' := [(6, .int 20), (5, .int 0), (4, .int 0), (3, .ref a2), (2, .ref a1), (1, .ref a0), (0, .ref b)]) hx hb dL_law_175 hl (by decide) rfl (fun ls hl => ?_)
  refine lv_aload_n hx hb dL_law_177 rfl (lv_at hl 4 rfl) ?_
  obtain ⟨hPc, hDc, hFc⟩ := xcut (wc := [(a1, .inr (5, [.int 0, v14, v15, v16, v17, v18, v19, v20, v21, v22, v23, v24, v25, v26, v27, v28, v29, v30, v31, v32, v33, v34, v35, v36, v37, v38, .ref a5, .int 20, v39, v40, v41, v42]))]) hP hD hS hA [4] rfl rfl (by decide)
  refine va_calli (va_runV (C := "ValueBenchModel") (As := []) (rest := []) ⟨hx, hb, hml, hown, htx⟩ (cM_thrown_0 l hl9 D cT aK aV H.size a1 v14 v15 v16 v17 v18 v19 v20 v21 v22 v23 v24 v25 v26 v27 v28 v29 v30 v31 v32 v33 v34 v35 v36 v37 v38 (.ref a5) (.int 20) v39 v40 v41 v42) ⟨callB_of 0 htx (xw_goodC kw_5_187) rfl rfl rfl (htx _ kw_1_5) (htx _ kw_5_184) ⟨by decide, by decide, by decide +kernel⟩ ⟨Nat.le_of_ble_eq_true rfl, Nat.le_of_ble_eq_true rfl⟩, (htx _ kw_5_185), (htx _ kw_5_186)⟩ ⟨xPre_blind, va_recv hK hP (ci := 5) rfl (q0 := 4) rfl, (fun U hU hW => ⟨rfl, xPre_of hZ hS hFc hPc hDc hK U hU hW⟩)⟩ rfl rfl hl.1 rfl (lv_room (Nat.le_of_ble_eq_true rfl)) dL_law_178 ⟨Nat.le_of_ble_eq_true rfl, Nat.le_of_ble_eq_true rfl⟩) hS (fun q _ h => hFc q h) hFc (fun r43 u9 t H1 locs ht hvm hr9 hB hz1 hk1 hS => ?_)
  obtain ⟨hP1, hK1, hD1⟩ := hB
  rw [ht] at hP1
  obtain ⟨hP, hD⟩ := xjoin (W := [(a0, .inr (0, [.ref a3, v6, v7, v8, v9, v10, v11, v12])), (a3, .inr (1, [.ref a4, .int 20, v44])), (a4, .inl (cT 0, 4096, .inl (upd (upd (upd (upd (upd (upd (upd (upd (upd (upd (upd (upd (upd (upd (upd (upd (upd (upd (upd (upd f45 0 (vp_nar .byte y2)) 1 (vp_nar .byte y3)) 2 (vp_nar .byte y4)) 3 (vp_nar .byte y5)) 4 (vp_nar .byte y6)) 5 (vp_nar .byte y7)) 6 (vp_nar .byte y8)) 7 (vp_nar .byte y9)) 8 (vp_nar .byte y10)) 9 (vp_nar .byte y11)) 10 (vp_nar .byte y12)) 11 (vp_nar .byte y13)) 12 (vp_nar .byte y14)) 13 (vp_nar .byte y15)) 14 (vp_nar .byte y16)) 15 (vp_nar .byte y17)) 16 (vp_nar .byte y18)) 17 (vp_nar .byte y19)) 18 (vp_nar .byte y20)) 19 (vp_nar .byte y21)))), (a2, .inl (cT 2, 1, .inr (.inl (vp_updL f43 0 20)))), (a5, .inl (cT 0, 4096, .inl (upd (upd (upd (upd (upd (upd (upd (upd (upd (upd (upd (upd (upd (upd (upd (upd (upd (upd (upd (upd f46 0 (vp_nar .byte y23)) 1 (vp_nar .byte y24)) 2 (vp_nar .byte y25)) 3 (vp_nar .byte y26)) 4 (vp_nar .byte y27)) 5 (vp_nar .byte y28)) 6 (vp_nar .byte y29)) 7 (vp_nar .byte y30)) 8 (vp_nar .byte y31)) 9 (vp_nar .byte y32)) 10 (vp_nar .byte y33)) 11 (vp_nar .byte y34)) 12 (vp_nar .byte y35)) 13 (vp_nar .byte y36)) 14 (vp_nar .byte y37)) 15 (vp_nar .byte y38)) 16 (vp_nar .byte y39)) 17 (vp_nar .byte y40)) 18 (vp_nar .byte y41)) 19 (vp_nar .byte y42)))), (a1, .inr (5, [.int 0, v14, v15, v16, v17, v18, v19, v20, v21, v22, v23, v24, v25, v26, v27, v28, v29, v30, v31, v32, v33, v34, v35, v36, v37, v38, .ref a5, .int 20, v39, v40, v41, v42]))]) hP hD [4] [0, 1, 2, 3, 5] 5 rfl rfl (by decide) (by decide) hk1 hFc hP1 hD1
  generalize H1 = H at hP hS ⊢
  rw [hr9]
  refine W.eq (g2 := F0 m 181 ls [.int 0]) rfl ?_
  refine lv_iload hx hb dL_law_181 (lv_at hl 1 rfl) ?_
  refine lv_icmp_eq (tgt := 188) hx hb dL_law_183 (by decide) (fun _ => ?_) (fun h => ((by revert h; decide : False)).elim)
  refine lv_iload hx hb dL_law_188 (lv_at hl 1 rfl) ?_
  refine lv_if_ne (tgt := 205) hx hb dL_law_190 (by decide) (fun h => ((by revert h; decide : False)).elim) (fun _ => ?_)
  refine lv_aload_n hx hb dL_law_193 rfl (lv_at hl 3 rfl) ?_
  refine lv_iconst (v := 0) hx hb dL_law_194 (by decide) ?_
  refine va_lald hx hb hK hP 3 2 rfl rfl (show ¬ ((0 : Int32) < 0 ∨ 1 ≤ (0 : Int32).toNatClampNeg) by decide) dL_law_195 ?_
  refine W.eq (g2 := F0 m 196 ls [.long 20]) rfl ?_
  refine lv_iload hx hb dL_law_196 (lv_at hl 0 rfl) ?_
  refine lv_i2l hx hb dL_law_198 rfl ?_
  refine W.eq (g2 := F0 m 199 ls [.long 20, .long 20]) rfl ?_
  refine W.lcmp hx hb dL_law_199 ?_
  refine W.eq (g2 := F0 m 200 ls [.int 0]) rfl ?_
  refine lv_if_eq (tgt := 205) hx hb dL_law_200 (by decide) (fun _ => ?_) (fun h => ((by revert h; decide : False)).elim)
  refine lv_goto (tgt := 906) hx hb dL_law_205 (by decide) ?_
  refine lv_iinc (v := 6) (lv' := [(4, .int 6), (6, .int 20), (5, .int 0), (3, .ref a2), (2, .ref a1), (1, .ref a0), (0, .ref b)]) hx hb dL_law_906 hl (k := 2) rfl (by decide) (by decide) rfl (fun ls hl => ?_)
  refine lv_goto (tgt := 23) hx hb dL_law_909 (by decide) ?_
  refine lv_iload hx hb dL_law_23 (lv_at hl 0 rfl) ?_
  refine lv_aload_n hx hb dL_law_25 rfl (lv_at hl 6 rfl) ?_
  refine va_slen hx hb hXs hbl hbA hS dL_law_26 ?_
  refine W.eq (g2 := F0 m 27 ls [.int 6, .int 6]) rfl ?_
  refine lv_bipush (v := 6) hx hb dL_law_27 (by decide) ?_
  refine lv_isub hx hb dL_law_29 ?_
  refine W.eq (g2 := F0 m 30 ls [.int 0, .int 6]) rfl ?_
  refine lv_icmp_gt (tgt := 912) hx hb dL_law_30 (by decide) (fun _ => ?_) (fun h => ((by revert h; decide : False)).elim)
  refine lv_iconst (v := 1) hx hb dL_law_912 (by decide) ?_
  exact va_forget (fun q h => hA2 _ (hS.2.2 q h)) (W.widen (k := 600002) (n := 7302232) (Nat.le_of_ble_eq_true rfl) (Nat.le_of_ble_eq_true rfl) (lw_ret hx hb hr hlocks dL_law_913))
set_option maxHeartbeats 400000000 in
set_option maxRecDepth 100000 in
theorem lf_end_nlo {p : Program} {e : Env} {s : State} {m : MethodId} {below : List Frame} {meth : Method} {c : Code} (l : Launch) (hl9 : l.stackTraces = false) (D : va_G) (cT : Nat → ClassId) (aK aV : Nat → Nat) {A : Nat → Prop} {b : Nat} {xs : Nat → Int32} (C : xLw p s m meth c b D cT aK aV A) {H : Heap} {locs : List Loc} {ls : Array Slot} (a0 : Nat) (a1 : Nat) (a2 : Nat) (a3 : Nat) (v4 : Value) (v5 : Value) (v6 : Value) (v7 : Value) (v8 : Value) (v9 : Value) (v10 : Value) (v11 : Value) (v12 : Value) (v13 : Value) (v14 : Value) (v15 : Value) (v16 : Value) (v17 : Value) (v18 : Value) (v19 : Value) (v20 : Value) (v21 : Value) (v22 : Value) (v23 : Value) (v24 : Value) (v25 : Value) (v26 : Value) (v27 : Value) (v28 : Value) (v29 : Value) (v30 : Value) (v31 : Value) (v32 : Value) (v33 : Value) (v34 : Value) (v35 : Value) (v36 : Value) (v37 : Value) (v38 : Value) (v39 : Value) (v40 : Value) (v41 : Value) (v42 : Value) (f43 : Nat → Int64) (v44 : Value) (x45 : Int32) (v46 : Value) (hn1 : (xs 1) < 0) (hXs : va_X b 6 xs s s.heap) (hP : va_P D xcl [(a0, .inr (0, [.ref a3, v4, v5, v6, v7, v8, v9, v10])), (a1, .inr (5, [v11, v12, v13, v14, v15, v16, v17, v18, v19, v20, v21, v22, v23, v24, v25, v26, v27, v28, v29, v30, v31, v32, v33, v34, v35, v36, v37, v38, v39, v40, v41, v42])), (a2, .inl (cT 2, 1, .inr (.inl f43))), (a3, .inr (1, [v44, .int x45, v46]))] H) (hD : va_D A [(a0, .inr (0, [.ref a3, v4, v5, v6, v7, v8, v9, v10])), (a1, .inr (5, [v11, v12, v13, v14, v15, v16, v17, v18, v19, v20, v21, v22, v23, v24, v25, v26, v27, v28, v29, v30, v31, v32, v33, v34, v35, v36, v37, v38, v39, v40, v41, v42])), (a2, .inl (cT 2, 1, .inr (.inl f43))), (a3, .inr (1, [v44, .int x45, v46]))]) (hS : va_S A s.heap H locs) (hl : lv_has ls 8 [(4, .int 0), (3, .ref a2), (2, .ref a1), (1, .ref a0), (0, .ref b)]) : W p l e room_1 s m #[Value.ref b] below meth c H locs 54 107242 (lw_Z below #[Value.ref b] s) (F0 m 208 ls []) := by
  obtain ⟨hx, hb, hr, hml, hown, htx, hbl, hbA, hlocks, hK, hZ, hA, hA2⟩ := C
  refine lv_aload_n hx hb dL_law_208 rfl (lv_at hl 3 rfl) ?_
  refine lv_aload_n hx hb dL_law_209 rfl (lv_at hl 4 rfl) ?_
  refine lv_iload hx hb dL_law_210 (lv_at hl 0 rfl) ?_
  refine lv_iconst (v := 1) hx hb dL_law_212 (by decide) ?_
  refine lv_iadd hx hb dL_law_213 ?_
  refine W.eq (g2 := F0 m 214 ls [.int 1, .ref b, .ref a0]) rfl ?_
  refine va_sld hx hb hXs hbl hbA hS (i := 1) (show ¬ ((1 : Int32) < 0 ∨ 6 ≤ (1 : Int32).toNatClampNeg) by decide) dL_law_214 ?_
  refine W.eq (g2 := F0 m 215 ls [.int (xs 1), .ref a0]) rfl ?_
  refine lv_aload_n hx hb dL_law_215 rfl (lv_at hl 1 rfl) ?_
  obtain ⟨hPc, hDc, hFc⟩ := xcut (wc := [(a0, .inr (0, [.ref a3, v4, v5, v6, v7, v8, v9, v10])), (a3, .inr (1, [v44, .int x45, v46]))]) hP hD hS hA [0, 3] rfl rfl (by decide)
  refine va_calli (vx_runSW (As := [.ref a0, .int (xs 1), .ref a2]) (rest := []) ⟨hx, hb, hml, hown, htx⟩ (cL_end_0 l hl9 D cT aK aV H.size a0 a3 (xs 1) a2 v4 v5 v6 v7 v8 v9 v10 v44 x45 v46 hn1) (xcSW 3 htx (xw_goodC kw_1_210) rfl rfl rfl (htx _ kw_1_0) (htx _ kw_1_208) ⟨by decide, by decide, by decide +kernel⟩ ⟨Nat.le_of_ble_eq_true rfl, Nat.le_of_ble_eq_true rfl⟩ (htx _ kw_1_209)) ⟨xPre_blind, (fun U hU hW => ⟨rfl, xPre_of hZ hS hFc hPc hDc hK U hU hW⟩)⟩ rfl rfl hl.1 rfl (lv_room (Nat.le_of_ble_eq_true rfl)) dL_law_216 ⟨Nat.le_of_ble_eq_true rfl, Nat.le_of_ble_eq_true rfl⟩) hS (fun q _ h => hFc q h) hFc (fun r1 u9 t H1 locs ht hvm hr9 hB hz1 hk1 hS => ?_)
  obtain ⟨hP1, hK1, hD1⟩ := hB
  rw [ht] at hP1
  obtain ⟨hP, hD⟩ := xjoin (W := [(a1, .inr (5, [v11, v12, v13, v14, v15, v16, v17, v18, v19, v20, v21, v22, v23, v24, v25, v26, v27, v28, v29, v30, v31, v32, v33, v34, v35, v36, v37, v38, v39, v40, v41, v42])), (a2, .inl (cT 2, 1, .inr (.inl f43))), (a0, .inr (0, [.ref a3, v4, v5, v6, v7, v8, v9, v10])), (a3, .inr (1, [v44, .int x45, v46]))]) hP hD [0, 3] [1, 2] 2 rfl rfl (by decide) (by decide) hk1 hFc hP1 hD1
  generalize H1 = H at hP hS ⊢
  rw [hr9]
  refine W.eq (g2 := F0 m 219 ls [.int 1]) rfl ?_
  refine lv_istore (lv' := [(5, .int 1), (4, .int 0), (3, .ref a2), (2, .ref a1), (1, .ref a0), (0, .ref b)]) hx hb dL_law_219 hl (by decide) rfl (fun ls hl => ?_)
  refine lv_aload_n hx hb dL_law_221 rfl (lv_at hl 3 rfl) ?_
  refine lv_aload_n hx hb dL_law_222 rfl (lv_at hl 5 rfl) ?_
  refine lv_iload hx hb dL_law_223 (lv_at hl 1 rfl) ?_
  refine lv_iconst (v := 1) hx hb dL_law_225 (by decide) ?_
  refine lv_iadd hx hb dL_law_226 ?_
  refine W.eq (g2 := F0 m 227 ls [.int 1, .ref b, .ref a1]) rfl ?_
  refine va_sld hx hb hXs hbl hbA hS (i := 1) (show ¬ ((1 : Int32) < 0 ∨ 6 ≤ (1 : Int32).toNatClampNeg) by decide) dL_law_227 ?_
  refine W.eq (g2 := F0 m 228 ls [.int (xs 1), .ref a1]) rfl ?_
  obtain ⟨hPc, hDc, hFc⟩ := xcut (wc := [(a1, .inr (5, [v11, v12, v13, v14, v15, v16, v17, v18, v19, v20, v21, v22, v23, v24, v25, v26, v27, v28, v29, v30, v31, v32, v33, v34, v35, v36, v37, v38, v39, v40, v41, v42]))]) hP hD hS hA [0] rfl rfl (by decide)
  refine va_calli (va_runV (C := "ValueBenchModel") (As := [.int (xs 1)]) (rest := []) ⟨hx, hb, hml, hown, htx⟩ (cM_end_0 l hl9 D cT aK aV H.size a1 (xs 1) v11 v12 v13 v14 v15 v16 v17 v18 v19 v20 v21 v22 v23 v24 v25 v26 v27 v28 v29 v30 v31 v32 v33 v34 v35 v36 v37 v38 v39 v40 v41 v42 hn1) ⟨callB_of 1 htx (xw_goodC kw_5_199) rfl rfl rfl (htx _ kw_1_5) (htx _ kw_5_196) ⟨by decide, by decide, by decide +kernel⟩ ⟨Nat.le_of_ble_eq_true rfl, Nat.le_of_ble_eq_true rfl⟩, (htx _ kw_5_197), (htx _ kw_5_198)⟩ ⟨xPre_blind, va_recv hK hP (ci := 5) rfl (q0 := 0) rfl, (fun U hU hW => ⟨rfl, xPre_of hZ hS hFc hPc hDc hK U hU hW⟩)⟩ rfl rfl hl.1 rfl (lv_room (Nat.le_of_ble_eq_true rfl)) dL_law_228 ⟨Nat.le_of_ble_eq_true rfl, Nat.le_of_ble_eq_true rfl⟩) hS (fun q _ h => hFc q h) hFc (fun r2 u9 t H1 locs ht hvm hr9 hB hz1 hk1 hS => ?_)
  obtain ⟨hP1, hK1, hD1⟩ := hB
  rw [ht] at hP1
  obtain ⟨hP, hD⟩ := xjoin (W := [(a2, .inl (cT 2, 1, .inr (.inl f43))), (a0, .inr (0, [.ref a3, v4, v5, v6, v7, v8, v9, v10])), (a3, .inr (1, [v44, .int x45, v46])), (a1, .inr (5, [.int 1, v12, v13, v14, v15, v16, v17, v18, v19, v20, v21, v22, v23, v24, v25, v26, v27, v28, v29, v30, v31, v32, v33, v34, v35, v36, v37, v38, v39, v40, v41, v42]))]) hP hD [0] [1, 2, 3] 3 rfl rfl (by decide) (by decide) hk1 hFc hP1 hD1
  generalize H1 = H at hP hS ⊢
  rw [hr9]
  refine W.eq (g2 := F0 m 231 ls [.int 0]) rfl ?_
  refine lv_istore (lv' := [(6, .int 0), (5, .int 1), (4, .int 0), (3, .ref a2), (2, .ref a1), (1, .ref a0), (0, .ref b)]) hx hb dL_law_231 hl (by decide) rfl (fun ls hl => ?_)
  refine lv_aload_n hx hb dL_law_233 rfl (lv_at hl 4 rfl) ?_
  obtain ⟨hPc, hDc, hFc⟩ := xcut (wc := [(a1, .inr (5, [.int 1, v12, v13, v14, v15, v16, v17, v18, v19, v20, v21, v22, v23, v24, v25, v26, v27, v28, v29, v30, v31, v32, v33, v34, v35, v36, v37, v38, v39, v40, v41, v42]))]) hP hD hS hA [3] rfl rfl (by decide)
  refine va_calli (va_runV (C := "ValueBenchModel") (As := []) (rest := []) ⟨hx, hb, hml, hown, htx⟩ (cM_thrown_1 l hl9 D cT aK aV H.size a1 v12 v13 v14 v15 v16 v17 v18 v19 v20 v21 v22 v23 v24 v25 v26 v27 v28 v29 v30 v31 v32 v33 v34 v35 v36 v37 v38 v39 v40 v41 v42) ⟨callB_of 0 htx (xw_goodC kw_5_187) rfl rfl rfl (htx _ kw_1_5) (htx _ kw_5_184) ⟨by decide, by decide, by decide +kernel⟩ ⟨Nat.le_of_ble_eq_true rfl, Nat.le_of_ble_eq_true rfl⟩, (htx _ kw_5_185), (htx _ kw_5_186)⟩ ⟨xPre_blind, va_recv hK hP (ci := 5) rfl (q0 := 3) rfl, (fun U hU hW => ⟨rfl, xPre_of hZ hS hFc hPc hDc hK U hU hW⟩)⟩ rfl rfl hl.1 rfl (lv_room (Nat.le_of_ble_eq_true rfl)) dL_law_234 ⟨Nat.le_of_ble_eq_true rfl, Nat.le_of_ble_eq_true rfl⟩) hS (fun q _ h => hFc q h) hFc (fun r3 u9 t H1 locs ht hvm hr9 hB hz1 hk1 hS => ?_)
  obtain ⟨hP1, hK1, hD1⟩ := hB
  rw [ht] at hP1
  obtain ⟨hP, hD⟩ := xjoin (W := [(a2, .inl (cT 2, 1, .inr (.inl f43))), (a0, .inr (0, [.ref a3, v4, v5, v6, v7, v8, v9, v10])), (a3, .inr (1, [v44, .int x45, v46])), (a1, .inr (5, [.int 1, v12, v13, v14, v15, v16, v17, v18, v19, v20, v21, v22, v23, v24, v25, v26, v27, v28, v29, v30, v31, v32, v33, v34, v35, v36, v37, v38, v39, v40, v41, v42]))]) hP hD [3] [0, 1, 2] 3 rfl rfl (by decide) (by decide) hk1 hFc hP1 hD1
  generalize H1 = H at hP hS ⊢
  rw [hr9]
  refine W.eq (g2 := F0 m 237 ls [.int 1]) rfl ?_
  refine lv_iload hx hb dL_law_237 (lv_at hl 1 rfl) ?_
  refine lv_icmp_eq (tgt := 244) hx hb dL_law_239 (by decide) (fun _ => ?_) (fun h => ((by revert h; decide : False)).elim)
  refine lv_iload hx hb dL_law_244 (lv_at hl 1 rfl) ?_
  refine lv_if_ne (tgt := 261) hx hb dL_law_246 (by decide) (fun _ => ?_) (fun h => ((by revert h; decide : False)).elim)
  refine lv_goto (tgt := 906) hx hb dL_law_261 (by decide) ?_
  refine lv_iinc (v := 6) (lv' := [(4, .int 6), (6, .int 0), (5, .int 1), (3, .ref a2), (2, .ref a1), (1, .ref a0), (0, .ref b)]) hx hb dL_law_906 hl (k := 2) rfl (by decide) (by decide) rfl (fun ls hl => ?_)
  refine lv_goto (tgt := 23) hx hb dL_law_909 (by decide) ?_
  refine lv_iload hx hb dL_law_23 (lv_at hl 0 rfl) ?_
  refine lv_aload_n hx hb dL_law_25 rfl (lv_at hl 6 rfl) ?_
  refine va_slen hx hb hXs hbl hbA hS dL_law_26 ?_
  refine W.eq (g2 := F0 m 27 ls [.int 6, .int 6]) rfl ?_
  refine lv_bipush (v := 6) hx hb dL_law_27 (by decide) ?_
  refine lv_isub hx hb dL_law_29 ?_
  refine W.eq (g2 := F0 m 30 ls [.int 0, .int 6]) rfl ?_
  refine lv_icmp_gt (tgt := 912) hx hb dL_law_30 (by decide) (fun _ => ?_) (fun h => ((by revert h; decide : False)).elim)
  refine lv_iconst (v := 1) hx hb dL_law_912 (by decide) ?_
  exact va_forget (fun q h => hA2 _ (hS.2.2 q h)) (W.widen (k := 600002) (n := 7302232) (Nat.le_of_ble_eq_true rfl) (Nat.le_of_ble_eq_true rfl) (lw_ret hx hb hr hlocks dL_law_913))
set_option maxHeartbeats 400000000 in
set_option maxRecDepth 100000 in
theorem lf_end_nhi {p : Program} {e : Env} {s : State} {m : MethodId} {below : List Frame} {meth : Method} {c : Code} (l : Launch) (hl9 : l.stackTraces = false) (D : va_G) (cT : Nat → ClassId) (aK aV : Nat → Nat) {A : Nat → Prop} {b : Nat} {xs : Nat → Int32} (C : xLw p s m meth c b D cT aK aV A) {H : Heap} {locs : List Loc} {ls : Array Slot} (a0 : Nat) (a1 : Nat) (a2 : Nat) (a3 : Nat) (v4 : Value) (v5 : Value) (v6 : Value) (v7 : Value) (v8 : Value) (v9 : Value) (v10 : Value) (v11 : Value) (v12 : Value) (v13 : Value) (v14 : Value) (v15 : Value) (v16 : Value) (v17 : Value) (v18 : Value) (v19 : Value) (v20 : Value) (v21 : Value) (v22 : Value) (v23 : Value) (v24 : Value) (v25 : Value) (v26 : Value) (v27 : Value) (v28 : Value) (v29 : Value) (v30 : Value) (v31 : Value) (v32 : Value) (v33 : Value) (v34 : Value) (v35 : Value) (v36 : Value) (v37 : Value) (v38 : Value) (v39 : Value) (v40 : Value) (v41 : Value) (f42 : Nat → Int64) (v43 : Value) (v44 : Value) (hn1 : ¬ (xs 1) < 0) (hn2 : 0 < (xs 1)) (hn3 : ¬ (xs 1) ≤ 0) (hXs : va_X b 6 xs s s.heap) (hP : va_P D xcl [(a0, .inr (0, [.ref a3, v4, v5, v6, v7, v8, v9, v10])), (a1, .inr (5, [v11, v12, v13, v14, v15, v16, v17, v18, v19, v20, v21, v22, v23, v24, v25, v26, v27, v28, v29, v30, v31, v32, v33, v34, v35, v36, v37, .int 0, v38, v39, v40, v41])), (a2, .inl (cT 2, 1, .inr (.inl f42))), (a3, .inr (1, [v43, .int 0, v44]))] H) (hD : va_D A [(a0, .inr (0, [.ref a3, v4, v5, v6, v7, v8, v9, v10])), (a1, .inr (5, [v11, v12, v13, v14, v15, v16, v17, v18, v19, v20, v21, v22, v23, v24, v25, v26, v27, v28, v29, v30, v31, v32, v33, v34, v35, v36, v37, .int 0, v38, v39, v40, v41])), (a2, .inl (cT 2, 1, .inr (.inl f42))), (a3, .inr (1, [v43, .int 0, v44]))]) (hS : va_S A s.heap H locs) (hl : lv_has ls 8 [(4, .int 0), (3, .ref a2), (2, .ref a1), (1, .ref a0), (0, .ref b)]) : W p l e room_1 s m #[Value.ref b] below meth c H locs 54 107242 (lw_Z below #[Value.ref b] s) (F0 m 208 ls []) := by
  obtain ⟨hx, hb, hr, hml, hown, htx, hbl, hbA, hlocks, hK, hZ, hA, hA2⟩ := C
  refine lv_aload_n hx hb dL_law_208 rfl (lv_at hl 3 rfl) ?_
  refine lv_aload_n hx hb dL_law_209 rfl (lv_at hl 4 rfl) ?_
  refine lv_iload hx hb dL_law_210 (lv_at hl 0 rfl) ?_
  refine lv_iconst (v := 1) hx hb dL_law_212 (by decide) ?_
  refine lv_iadd hx hb dL_law_213 ?_
  refine W.eq (g2 := F0 m 214 ls [.int 1, .ref b, .ref a0]) rfl ?_
  refine va_sld hx hb hXs hbl hbA hS (i := 1) (show ¬ ((1 : Int32) < 0 ∨ 6 ≤ (1 : Int32).toNatClampNeg) by decide) dL_law_214 ?_
  refine W.eq (g2 := F0 m 215 ls [.int (xs 1), .ref a0]) rfl ?_
  refine lv_aload_n hx hb dL_law_215 rfl (lv_at hl 1 rfl) ?_
  obtain ⟨hPc, hDc, hFc⟩ := xcut (wc := [(a0, .inr (0, [.ref a3, v4, v5, v6, v7, v8, v9, v10])), (a3, .inr (1, [v43, .int 0, v44]))]) hP hD hS hA [0, 3] rfl rfl (by decide)
  refine va_calli (vx_runSW (As := [.ref a0, .int (xs 1), .ref a2]) (rest := []) ⟨hx, hb, hml, hown, htx⟩ (cL_end_1 l hl9 D cT aK aV H.size a0 a3 (xs 1) a2 v4 v5 v6 v7 v8 v9 v10 v43 v44 hn1 hn2 hn3) (xcSW 3 htx (xw_goodC kw_1_210) rfl rfl rfl (htx _ kw_1_0) (htx _ kw_1_208) ⟨by decide, by decide, by decide +kernel⟩ ⟨Nat.le_of_ble_eq_true rfl, Nat.le_of_ble_eq_true rfl⟩ (htx _ kw_1_209)) ⟨xPre_blind, (fun U hU hW => ⟨rfl, xPre_of hZ hS hFc hPc hDc hK U hU hW⟩)⟩ rfl rfl hl.1 rfl (lv_room (Nat.le_of_ble_eq_true rfl)) dL_law_216 ⟨Nat.le_of_ble_eq_true rfl, Nat.le_of_ble_eq_true rfl⟩) hS (fun q _ h => hFc q h) hFc (fun r1 u9 t H1 locs ht hvm hr9 hB hz1 hk1 hS => ?_)
  obtain ⟨hP1, hK1, hD1⟩ := hB
  rw [ht] at hP1
  obtain ⟨hP, hD⟩ := xjoin (W := [(a1, .inr (5, [v11, v12, v13, v14, v15, v16, v17, v18, v19, v20, v21, v22, v23, v24, v25, v26, v27, v28, v29, v30, v31, v32, v33, v34, v35, v36, v37, .int 0, v38, v39, v40, v41])), (a2, .inl (cT 2, 1, .inr (.inl f42))), (a0, .inr (0, [.ref a3, v4, v5, v6, v7, v8, v9, v10])), (a3, .inr (1, [v43, .int 0, v44]))]) hP hD [0, 3] [1, 2] 2 rfl rfl (by decide) (by decide) hk1 hFc hP1 hD1
  generalize H1 = H at hP hS ⊢
  rw [hr9]
  refine W.eq (g2 := F0 m 219 ls [.int 1]) rfl ?_
  refine lv_istore (lv' := [(5, .int 1), (4, .int 0), (3, .ref a2), (2, .ref a1), (1, .ref a0), (0, .ref b)]) hx hb dL_law_219 hl (by decide) rfl (fun ls hl => ?_)
  refine lv_aload_n hx hb dL_law_221 rfl (lv_at hl 3 rfl) ?_
  refine lv_aload_n hx hb dL_law_222 rfl (lv_at hl 5 rfl) ?_
  refine lv_iload hx hb dL_law_223 (lv_at hl 1 rfl) ?_
  refine lv_iconst (v := 1) hx hb dL_law_225 (by decide) ?_
  refine lv_iadd hx hb dL_law_226 ?_
  refine W.eq (g2 := F0 m 227 ls [.int 1, .ref b, .ref a1]) rfl ?_
  refine va_sld hx hb hXs hbl hbA hS (i := 1) (show ¬ ((1 : Int32) < 0 ∨ 6 ≤ (1 : Int32).toNatClampNeg) by decide) dL_law_227 ?_
  refine W.eq (g2 := F0 m 228 ls [.int (xs 1), .ref a1]) rfl ?_
  obtain ⟨hPc, hDc, hFc⟩ := xcut (wc := [(a1, .inr (5, [v11, v12, v13, v14, v15, v16, v17, v18, v19, v20, v21, v22, v23, v24, v25, v26, v27, v28, v29, v30, v31, v32, v33, v34, v35, v36, v37, .int 0, v38, v39, v40, v41]))]) hP hD hS hA [0] rfl rfl (by decide)
  refine va_calli (va_runV (C := "ValueBenchModel") (As := [.int (xs 1)]) (rest := []) ⟨hx, hb, hml, hown, htx⟩ (cM_end_1 l hl9 D cT aK aV H.size a1 (xs 1) v11 v12 v13 v14 v15 v16 v17 v18 v19 v20 v21 v22 v23 v24 v25 v26 v27 v28 v29 v30 v31 v32 v33 v34 v35 v36 v37 v38 v39 v40 v41 hn1 hn2 hn3) ⟨callB_of 1 htx (xw_goodC kw_5_199) rfl rfl rfl (htx _ kw_1_5) (htx _ kw_5_196) ⟨by decide, by decide, by decide +kernel⟩ ⟨Nat.le_of_ble_eq_true rfl, Nat.le_of_ble_eq_true rfl⟩, (htx _ kw_5_197), (htx _ kw_5_198)⟩ ⟨xPre_blind, va_recv hK hP (ci := 5) rfl (q0 := 0) rfl, (fun U hU hW => ⟨rfl, xPre_of hZ hS hFc hPc hDc hK U hU hW⟩)⟩ rfl rfl hl.1 rfl (lv_room (Nat.le_of_ble_eq_true rfl)) dL_law_228 ⟨Nat.le_of_ble_eq_true rfl, Nat.le_of_ble_eq_true rfl⟩) hS (fun q _ h => hFc q h) hFc (fun r2 u9 t H1 locs ht hvm hr9 hB hz1 hk1 hS => ?_)
  obtain ⟨hP1, hK1, hD1⟩ := hB
  rw [ht] at hP1
  obtain ⟨hP, hD⟩ := xjoin (W := [(a2, .inl (cT 2, 1, .inr (.inl f42))), (a0, .inr (0, [.ref a3, v4, v5, v6, v7, v8, v9, v10])), (a3, .inr (1, [v43, .int 0, v44])), (a1, .inr (5, [.int 1, v12, v13, v14, v15, v16, v17, v18, v19, v20, v21, v22, v23, v24, v25, v26, v27, v28, v29, v30, v31, v32, v33, v34, v35, v36, v37, .int 0, v38, v39, v40, v41]))]) hP hD [0] [1, 2, 3] 3 rfl rfl (by decide) (by decide) hk1 hFc hP1 hD1
  generalize H1 = H at hP hS ⊢
  rw [hr9]
  refine W.eq (g2 := F0 m 231 ls [.int 0]) rfl ?_
  refine lv_istore (lv' := [(6, .int 0), (5, .int 1), (4, .int 0), (3, .ref a2), (2, .ref a1), (1, .ref a0), (0, .ref b)]) hx hb dL_law_231 hl (by decide) rfl (fun ls hl => ?_)
  refine lv_aload_n hx hb dL_law_233 rfl (lv_at hl 4 rfl) ?_
  obtain ⟨hPc, hDc, hFc⟩ := xcut (wc := [(a1, .inr (5, [.int 1, v12, v13, v14, v15, v16, v17, v18, v19, v20, v21, v22, v23, v24, v25, v26, v27, v28, v29, v30, v31, v32, v33, v34, v35, v36, v37, .int 0, v38, v39, v40, v41]))]) hP hD hS hA [3] rfl rfl (by decide)
  refine va_calli (va_runV (C := "ValueBenchModel") (As := []) (rest := []) ⟨hx, hb, hml, hown, htx⟩ (cM_thrown_1 l hl9 D cT aK aV H.size a1 v12 v13 v14 v15 v16 v17 v18 v19 v20 v21 v22 v23 v24 v25 v26 v27 v28 v29 v30 v31 v32 v33 v34 v35 v36 v37 (.int 0) v38 v39 v40 v41) ⟨callB_of 0 htx (xw_goodC kw_5_187) rfl rfl rfl (htx _ kw_1_5) (htx _ kw_5_184) ⟨by decide, by decide, by decide +kernel⟩ ⟨Nat.le_of_ble_eq_true rfl, Nat.le_of_ble_eq_true rfl⟩, (htx _ kw_5_185), (htx _ kw_5_186)⟩ ⟨xPre_blind, va_recv hK hP (ci := 5) rfl (q0 := 3) rfl, (fun U hU hW => ⟨rfl, xPre_of hZ hS hFc hPc hDc hK U hU hW⟩)⟩ rfl rfl hl.1 rfl (lv_room (Nat.le_of_ble_eq_true rfl)) dL_law_234 ⟨Nat.le_of_ble_eq_true rfl, Nat.le_of_ble_eq_true rfl⟩) hS (fun q _ h => hFc q h) hFc (fun r3 u9 t H1 locs ht hvm hr9 hB hz1 hk1 hS => ?_)
  obtain ⟨hP1, hK1, hD1⟩ := hB
  rw [ht] at hP1
  obtain ⟨hP, hD⟩ := xjoin (W := [(a2, .inl (cT 2, 1, .inr (.inl f42))), (a0, .inr (0, [.ref a3, v4, v5, v6, v7, v8, v9, v10])), (a3, .inr (1, [v43, .int 0, v44])), (a1, .inr (5, [.int 1, v12, v13, v14, v15, v16, v17, v18, v19, v20, v21, v22, v23, v24, v25, v26, v27, v28, v29, v30, v31, v32, v33, v34, v35, v36, v37, .int 0, v38, v39, v40, v41]))]) hP hD [3] [0, 1, 2] 3 rfl rfl (by decide) (by decide) hk1 hFc hP1 hD1
  generalize H1 = H at hP hS ⊢
  rw [hr9]
  refine W.eq (g2 := F0 m 237 ls [.int 1]) rfl ?_
  refine lv_iload hx hb dL_law_237 (lv_at hl 1 rfl) ?_
  refine lv_icmp_eq (tgt := 244) hx hb dL_law_239 (by decide) (fun _ => ?_) (fun h => ((by revert h; decide : False)).elim)
  refine lv_iload hx hb dL_law_244 (lv_at hl 1 rfl) ?_
  refine lv_if_ne (tgt := 261) hx hb dL_law_246 (by decide) (fun _ => ?_) (fun h => ((by revert h; decide : False)).elim)
  refine lv_goto (tgt := 906) hx hb dL_law_261 (by decide) ?_
  refine lv_iinc (v := 6) (lv' := [(4, .int 6), (6, .int 0), (5, .int 1), (3, .ref a2), (2, .ref a1), (1, .ref a0), (0, .ref b)]) hx hb dL_law_906 hl (k := 2) rfl (by decide) (by decide) rfl (fun ls hl => ?_)
  refine lv_goto (tgt := 23) hx hb dL_law_909 (by decide) ?_
  refine lv_iload hx hb dL_law_23 (lv_at hl 0 rfl) ?_
  refine lv_aload_n hx hb dL_law_25 rfl (lv_at hl 6 rfl) ?_
  refine va_slen hx hb hXs hbl hbA hS dL_law_26 ?_
  refine W.eq (g2 := F0 m 27 ls [.int 6, .int 6]) rfl ?_
  refine lv_bipush (v := 6) hx hb dL_law_27 (by decide) ?_
  refine lv_isub hx hb dL_law_29 ?_
  refine W.eq (g2 := F0 m 30 ls [.int 0, .int 6]) rfl ?_
  refine lv_icmp_gt (tgt := 912) hx hb dL_law_30 (by decide) (fun _ => ?_) (fun h => ((by revert h; decide : False)).elim)
  refine lv_iconst (v := 1) hx hb dL_law_912 (by decide) ?_
  exact va_forget (fun q h => hA2 _ (hS.2.2 q h)) (W.widen (k := 600002) (n := 7302232) (Nat.le_of_ble_eq_true rfl) (Nat.le_of_ble_eq_true rfl) (lw_ret hx hb hr hlocks dL_law_913))
set_option maxHeartbeats 400000000 in
set_option maxRecDepth 100000 in
theorem lf_end0_p0 {p : Program} {e : Env} {s : State} {m : MethodId} {below : List Frame} {meth : Method} {c : Code} (l : Launch) (hl9 : l.stackTraces = false) (D : va_G) (cT : Nat → ClassId) (aK aV : Nat → Nat) {A : Nat → Prop} {b : Nat} {xs : Nat → Int32} (C : xLw p s m meth c b D cT aK aV A) {H : Heap} {locs : List Loc} {ls : Array Slot} (a0 : Nat) (a1 : Nat) (a2 : Nat) (a3 : Nat) (v4 : Value) (v5 : Value) (v6 : Value) (v7 : Value) (v8 : Value) (v9 : Value) (v10 : Value) (v11 : Value) (v12 : Value) (v13 : Value) (v14 : Value) (v15 : Value) (v16 : Value) (v17 : Value) (v18 : Value) (v19 : Value) (v20 : Value) (v21 : Value) (v22 : Value) (v23 : Value) (v24 : Value) (v25 : Value) (v26 : Value) (v27 : Value) (v28 : Value) (v29 : Value) (v30 : Value) (v31 : Value) (v32 : Value) (v33 : Value) (v34 : Value) (v35 : Value) (v36 : Value) (v37 : Value) (v38 : Value) (v39 : Value) (v40 : Value) (v41 : Value) (f42 : Nat → Int64) (v43 : Value) (v44 : Value) (hf : xs 1 = 0) (hXs : va_X b 6 xs s s.heap) (hP : va_P D xcl [(a0, .inr (0, [.ref a3, v4, v5, v6, v7, v8, v9, v10])), (a1, .inr (5, [v11, v12, v13, v14, v15, v16, v17, v18, v19, v20, v21, v22, v23, v24, v25, v26, v27, v28, v29, v30, v31, v32, v33, v34, v35, v36, v37, .int 0, v38, v39, v40, v41])), (a2, .inl (cT 2, 1, .inr (.inl f42))), (a3, .inr (1, [v43, .int 0, v44]))] H) (hD : va_D A [(a0, .inr (0, [.ref a3, v4, v5, v6, v7, v8, v9, v10])), (a1, .inr (5, [v11, v12, v13, v14, v15, v16, v17, v18, v19, v20, v21, v22, v23, v24, v25, v26, v27, v28, v29, v30, v31, v32, v33, v34, v35, v36, v37, .int 0, v38, v39, v40, v41])), (a2, .inl (cT 2, 1, .inr (.inl f42))), (a3, .inr (1, [v43, .int 0, v44]))]) (hS : va_S A s.heap H locs) (hl : lv_has ls 8 [(4, .int 0), (3, .ref a2), (2, .ref a1), (1, .ref a0), (0, .ref b)]) : W p l e room_1 s m #[Value.ref b] below meth c H locs 54 107242 (lw_Z below #[Value.ref b] s) (F0 m 208 ls []) := by
  obtain ⟨hx, hb, hr, hml, hown, htx, hbl, hbA, hlocks, hK, hZ, hA, hA2⟩ := C
  refine lv_aload_n hx hb dL_law_208 rfl (lv_at hl 3 rfl) ?_
  refine lv_aload_n hx hb dL_law_209 rfl (lv_at hl 4 rfl) ?_
  refine lv_iload hx hb dL_law_210 (lv_at hl 0 rfl) ?_
  refine lv_iconst (v := 1) hx hb dL_law_212 (by decide) ?_
  refine lv_iadd hx hb dL_law_213 ?_
  refine W.eq (g2 := F0 m 214 ls [.int 1, .ref b, .ref a0]) rfl ?_
  refine va_sld hx hb hXs hbl hbA hS (i := 1) (show ¬ ((1 : Int32) < 0 ∨ 6 ≤ (1 : Int32).toNatClampNeg) by decide) dL_law_214 ?_
  refine W.eq (g2 := F0 m 215 ls [.int (xs 1), .ref a0]) rfl ?_
  rw [hf]
  refine W.eq (g2 := F0 m 215 ls [.int 0, .ref a0]) rfl ?_
  refine lv_aload_n hx hb dL_law_215 rfl (lv_at hl 1 rfl) ?_
  obtain ⟨hPc, hDc, hFc⟩ := xcut (wc := [(a0, .inr (0, [.ref a3, v4, v5, v6, v7, v8, v9, v10])), (a3, .inr (1, [v43, .int 0, v44])), (a2, .inl (cT 2, 1, .inr (.inl f42)))]) hP hD hS hA [0, 3, 2] rfl rfl (by decide)
  refine va_calli (vx_runSW (As := [.ref a0, .int 0, .ref a2]) (rest := []) ⟨hx, hb, hml, hown, htx⟩ (cL_end_2 l hl9 D cT aK aV H.size a0 a3 a2 v4 v5 v6 v7 v8 v9 v10 v43 v44 f42) (xcSW 3 htx (xw_goodC kw_1_210) rfl rfl rfl (htx _ kw_1_0) (htx _ kw_1_208) ⟨by decide, by decide, by decide +kernel⟩ ⟨Nat.le_of_ble_eq_true rfl, Nat.le_of_ble_eq_true rfl⟩ (htx _ kw_1_209)) ⟨xPre_blind, (fun U hU hW => ⟨rfl, xPre_of hZ hS hFc hPc hDc hK U hU hW⟩)⟩ rfl rfl hl.1 rfl (lv_room (Nat.le_of_ble_eq_true rfl)) dL_law_216 ⟨Nat.le_of_ble_eq_true rfl, Nat.le_of_ble_eq_true rfl⟩) hS (fun q _ h => hFc q h) hFc (fun r1 u9 t H1 locs ht hvm hr9 hB hz1 hk1 hS => ?_)
  obtain ⟨y2, hP1, hK1, hD1⟩ := hB
  rw [ht] at hP1
  obtain ⟨hP, hD⟩ := xjoin (W := [(a1, .inr (5, [v11, v12, v13, v14, v15, v16, v17, v18, v19, v20, v21, v22, v23, v24, v25, v26, v27, v28, v29, v30, v31, v32, v33, v34, v35, v36, v37, .int 0, v38, v39, v40, v41])), (a0, .inr (0, [.ref a3, v4, v5, v6, v7, v8, v9, v10])), (a3, .inr (1, [v43, .int y2, v44])), (a2, .inl (cT 2, 1, .inr (.inl (vp_updL f42 0 0))))]) hP hD [0, 3, 2] [1] 1 rfl rfl (by decide) (by decide) hk1 hFc hP1 hD1
  generalize H1 = H at hP hS ⊢
  rw [hr9]
  refine W.eq (g2 := F0 m 219 ls [.int 0]) rfl ?_
  refine lv_istore (lv' := [(5, .int 0), (4, .int 0), (3, .ref a2), (2, .ref a1), (1, .ref a0), (0, .ref b)]) hx hb dL_law_219 hl (by decide) rfl (fun ls hl => ?_)
  refine lv_aload_n hx hb dL_law_221 rfl (lv_at hl 3 rfl) ?_
  refine lv_aload_n hx hb dL_law_222 rfl (lv_at hl 5 rfl) ?_
  refine lv_iload hx hb dL_law_223 (lv_at hl 1 rfl) ?_
  refine lv_iconst (v := 1) hx hb dL_law_225 (by decide) ?_
  refine lv_iadd hx hb dL_law_226 ?_
  refine W.eq (g2 := F0 m 227 ls [.int 1, .ref b, .ref a1]) rfl ?_
  refine va_sld hx hb hXs hbl hbA hS (i := 1) (show ¬ ((1 : Int32) < 0 ∨ 6 ≤ (1 : Int32).toNatClampNeg) by decide) dL_law_227 ?_
  refine W.eq (g2 := F0 m 228 ls [.int (xs 1), .ref a1]) rfl ?_
  rw [hf]
  refine W.eq (g2 := F0 m 228 ls [.int 0, .ref a1]) rfl ?_
  obtain ⟨hPc, hDc, hFc⟩ := xcut (wc := [(a1, .inr (5, [v11, v12, v13, v14, v15, v16, v17, v18, v19, v20, v21, v22, v23, v24, v25, v26, v27, v28, v29, v30, v31, v32, v33, v34, v35, v36, v37, .int 0, v38, v39, v40, v41]))]) hP hD hS hA [0] rfl rfl (by decide)
  refine va_calli (va_runV (C := "ValueBenchModel") (As := [.int 0]) (rest := []) ⟨hx, hb, hml, hown, htx⟩ (cM_end_2 l hl9 D cT aK aV H.size a1 v11 v12 v13 v14 v15 v16 v17 v18 v19 v20 v21 v22 v23 v24 v25 v26 v27 v28 v29 v30 v31 v32 v33 v34 v35 v36 v37 v38 v39 v40 v41) ⟨callB_of 1 htx (xw_goodC kw_5_199) rfl rfl rfl (htx _ kw_1_5) (htx _ kw_5_196) ⟨by decide, by decide, by decide +kernel⟩ ⟨Nat.le_of_ble_eq_true rfl, Nat.le_of_ble_eq_true rfl⟩, (htx _ kw_5_197), (htx _ kw_5_198)⟩ ⟨xPre_blind, va_recv hK hP (ci := 5) rfl (q0 := 0) rfl, (fun U hU hW => ⟨rfl, xPre_of hZ hS hFc hPc hDc hK U hU hW⟩)⟩ rfl rfl hl.1 rfl (lv_room (Nat.le_of_ble_eq_true rfl)) dL_law_228 ⟨Nat.le_of_ble_eq_true rfl, Nat.le_of_ble_eq_true rfl⟩) hS (fun q _ h => hFc q h) hFc (fun r3 u9 t H1 locs ht hvm hr9 hB hz1 hk1 hS => ?_)
  obtain ⟨hP1, hK1, hD1⟩ := hB
  rw [ht] at hP1
  obtain ⟨hP, hD⟩ := xjoin (W := [(a0, .inr (0, [.ref a3, v4, v5, v6, v7, v8, v9, v10])), (a3, .inr (1, [v43, .int y2, v44])), (a2, .inl (cT 2, 1, .inr (.inl (vp_updL f42 0 0)))), (a1, .inr (5, [.int 0, v12, v13, v14, v15, v16, v17, v18, v19, v20, v21, v22, v23, v24, v25, v26, v27, v28, v29, v30, v31, v32, v33, v34, v35, v36, v37, .int 0, v38, v39, v40, v41]))]) hP hD [0] [1, 2, 3] 3 rfl rfl (by decide) (by decide) hk1 hFc hP1 hD1
  generalize H1 = H at hP hS ⊢
  rw [hr9]
  refine W.eq (g2 := F0 m 231 ls [.int 0]) rfl ?_
  refine lv_istore (lv' := [(6, .int 0), (5, .int 0), (4, .int 0), (3, .ref a2), (2, .ref a1), (1, .ref a0), (0, .ref b)]) hx hb dL_law_231 hl (by decide) rfl (fun ls hl => ?_)
  refine lv_aload_n hx hb dL_law_233 rfl (lv_at hl 4 rfl) ?_
  obtain ⟨hPc, hDc, hFc⟩ := xcut (wc := [(a1, .inr (5, [.int 0, v12, v13, v14, v15, v16, v17, v18, v19, v20, v21, v22, v23, v24, v25, v26, v27, v28, v29, v30, v31, v32, v33, v34, v35, v36, v37, .int 0, v38, v39, v40, v41]))]) hP hD hS hA [3] rfl rfl (by decide)
  refine va_calli (va_runV (C := "ValueBenchModel") (As := []) (rest := []) ⟨hx, hb, hml, hown, htx⟩ (cM_thrown_0 l hl9 D cT aK aV H.size a1 v12 v13 v14 v15 v16 v17 v18 v19 v20 v21 v22 v23 v24 v25 v26 v27 v28 v29 v30 v31 v32 v33 v34 v35 v36 v37 (.int 0) v38 v39 v40 v41) ⟨callB_of 0 htx (xw_goodC kw_5_187) rfl rfl rfl (htx _ kw_1_5) (htx _ kw_5_184) ⟨by decide, by decide, by decide +kernel⟩ ⟨Nat.le_of_ble_eq_true rfl, Nat.le_of_ble_eq_true rfl⟩, (htx _ kw_5_185), (htx _ kw_5_186)⟩ ⟨xPre_blind, va_recv hK hP (ci := 5) rfl (q0 := 3) rfl, (fun U hU hW => ⟨rfl, xPre_of hZ hS hFc hPc hDc hK U hU hW⟩)⟩ rfl rfl hl.1 rfl (lv_room (Nat.le_of_ble_eq_true rfl)) dL_law_234 ⟨Nat.le_of_ble_eq_true rfl, Nat.le_of_ble_eq_true rfl⟩) hS (fun q _ h => hFc q h) hFc (fun r4 u9 t H1 locs ht hvm hr9 hB hz1 hk1 hS => ?_)
  obtain ⟨hP1, hK1, hD1⟩ := hB
  rw [ht] at hP1
  obtain ⟨hP, hD⟩ := xjoin (W := [(a0, .inr (0, [.ref a3, v4, v5, v6, v7, v8, v9, v10])), (a3, .inr (1, [v43, .int y2, v44])), (a2, .inl (cT 2, 1, .inr (.inl (vp_updL f42 0 0)))), (a1, .inr (5, [.int 0, v12, v13, v14, v15, v16, v17, v18, v19, v20, v21, v22, v23, v24, v25, v26, v27, v28, v29, v30, v31, v32, v33, v34, v35, v36, v37, .int 0, v38, v39, v40, v41]))]) hP hD [3] [0, 1, 2] 3 rfl rfl (by decide) (by decide) hk1 hFc hP1 hD1
  generalize H1 = H at hP hS ⊢
  rw [hr9]
  refine W.eq (g2 := F0 m 237 ls [.int 0]) rfl ?_
  refine lv_iload hx hb dL_law_237 (lv_at hl 1 rfl) ?_
  refine lv_icmp_eq (tgt := 244) hx hb dL_law_239 (by decide) (fun _ => ?_) (fun h => ((by revert h; decide : False)).elim)
  refine lv_iload hx hb dL_law_244 (lv_at hl 1 rfl) ?_
  refine lv_if_ne (tgt := 261) hx hb dL_law_246 (by decide) (fun h => ((by revert h; decide : False)).elim) (fun _ => ?_)
  refine lv_aload_n hx hb dL_law_249 rfl (lv_at hl 3 rfl) ?_
  refine lv_iconst (v := 0) hx hb dL_law_250 (by decide) ?_
  refine va_lald hx hb hK hP 2 2 rfl rfl (show ¬ ((0 : Int32) < 0 ∨ 1 ≤ (0 : Int32).toNatClampNeg) by decide) dL_law_251 ?_
  refine W.eq (g2 := F0 m 252 ls [.long 0]) rfl ?_
  refine lv_iload hx hb dL_law_252 (lv_at hl 0 rfl) ?_
  refine lv_i2l hx hb dL_law_254 rfl ?_
  refine W.eq (g2 := F0 m 255 ls [.long 0, .long 0]) rfl ?_
  refine W.lcmp hx hb dL_law_255 ?_
  refine W.eq (g2 := F0 m 256 ls [.int 0]) rfl ?_
  refine lv_if_eq (tgt := 261) hx hb dL_law_256 (by decide) (fun _ => ?_) (fun h => ((by revert h; decide : False)).elim)
  refine lv_goto (tgt := 906) hx hb dL_law_261 (by decide) ?_
  refine lv_iinc (v := 6) (lv' := [(4, .int 6), (6, .int 0), (5, .int 0), (3, .ref a2), (2, .ref a1), (1, .ref a0), (0, .ref b)]) hx hb dL_law_906 hl (k := 2) rfl (by decide) (by decide) rfl (fun ls hl => ?_)
  refine lv_goto (tgt := 23) hx hb dL_law_909 (by decide) ?_
  refine lv_iload hx hb dL_law_23 (lv_at hl 0 rfl) ?_
  refine lv_aload_n hx hb dL_law_25 rfl (lv_at hl 6 rfl) ?_
  refine va_slen hx hb hXs hbl hbA hS dL_law_26 ?_
  refine W.eq (g2 := F0 m 27 ls [.int 6, .int 6]) rfl ?_
  refine lv_bipush (v := 6) hx hb dL_law_27 (by decide) ?_
  refine lv_isub hx hb dL_law_29 ?_
  refine W.eq (g2 := F0 m 30 ls [.int 0, .int 6]) rfl ?_
  refine lv_icmp_gt (tgt := 912) hx hb dL_law_30 (by decide) (fun _ => ?_) (fun h => ((by revert h; decide : False)).elim)
  refine lv_iconst (v := 1) hx hb dL_law_912 (by decide) ?_
  exact va_forget (fun q h => hA2 _ (hS.2.2 q h)) (W.widen (k := 600002) (n := 7302232) (Nat.le_of_ble_eq_true rfl) (Nat.le_of_ble_eq_true rfl) (lw_ret hx hb hr hlocks dL_law_913))
set_option maxHeartbeats 400000000 in
set_option maxRecDepth 100000 in
theorem lf_read_tolo {p : Program} {e : Env} {s : State} {m : MethodId} {below : List Frame} {meth : Method} {c : Code} (l : Launch) (hl9 : l.stackTraces = false) (D : va_G) (cT : Nat → ClassId) (aK aV : Nat → Nat) {A : Nat → Prop} {b : Nat} {xs : Nat → Int32} (C : xLw p s m meth c b D cT aK aV A) {H : Heap} {locs : List Loc} {ls : Array Slot} (a0 : Nat) (a1 : Nat) (a2 : Nat) (v3 : Value) (v4 : Value) (v5 : Value) (v6 : Value) (v7 : Value) (v8 : Value) (v9 : Value) (v10 : Value) (v11 : Value) (v12 : Value) (v13 : Value) (v14 : Value) (v15 : Value) (v16 : Value) (v17 : Value) (v18 : Value) (v19 : Value) (v20 : Value) (v21 : Value) (v22 : Value) (v23 : Value) (v24 : Value) (v25 : Value) (v26 : Value) (v27 : Value) (v28 : Value) (v29 : Value) (v30 : Value) (v31 : Value) (v32 : Value) (v33 : Value) (v34 : Value) (v35 : Value) (v36 : Value) (v37 : Value) (v38 : Value) (v39 : Value) (v40 : Value) (v41 : Value) (v42 : Value) (f43 : Nat → Int64) (hto1 : (xs 1) < 0) (hXs : va_X b 6 xs s s.heap) (hP : va_P D xcl [(a0, .inr (0, [v3, v4, v5, v6, v7, v8, v9, v10])), (a1, .inr (5, [v11, v12, v13, v14, v15, v16, v17, v18, v19, v20, v21, v22, v23, v24, v25, v26, v27, v28, v29, v30, v31, v32, v33, v34, v35, v36, v37, v38, v39, v40, v41, v42])), (a2, .inl (cT 2, 1, .inr (.inl f43)))] H) (hD : va_D A [(a0, .inr (0, [v3, v4, v5, v6, v7, v8, v9, v10])), (a1, .inr (5, [v11, v12, v13, v14, v15, v16, v17, v18, v19, v20, v21, v22, v23, v24, v25, v26, v27, v28, v29, v30, v31, v32, v33, v34, v35, v36, v37, v38, v39, v40, v41, v42])), (a2, .inl (cT 2, 1, .inr (.inl f43)))]) (hS : va_S A s.heap H locs) (hl : lv_has ls 8 [(4, .int 0), (3, .ref a2), (2, .ref a1), (1, .ref a0), (0, .ref b)]) : W p l e room_1 s m #[Value.ref b] below meth c H locs 54 107242 (lw_Z below #[Value.ref b] s) (F0 m 264 ls []) := by
  obtain ⟨hx, hb, hr, hml, hown, htx, hbl, hbA, hlocks, hK, hZ, hA, hA2⟩ := C
  refine lv_aload_n hx hb dL_law_264 rfl (lv_at hl 3 rfl) ?_
  refine lv_aload_n hx hb dL_law_265 rfl (lv_at hl 4 rfl) ?_
  refine lv_iload hx hb dL_law_266 (lv_at hl 0 rfl) ?_
  refine lv_iconst (v := 1) hx hb dL_law_268 (by decide) ?_
  refine lv_iadd hx hb dL_law_269 ?_
  refine W.eq (g2 := F0 m 270 ls [.int 1, .ref b, .ref a0]) rfl ?_
  refine va_sld hx hb hXs hbl hbA hS (i := 1) (show ¬ ((1 : Int32) < 0 ∨ 6 ≤ (1 : Int32).toNatClampNeg) by decide) dL_law_270 ?_
  refine W.eq (g2 := F0 m 271 ls [.int (xs 1), .ref a0]) rfl ?_
  refine lv_aload_n hx hb dL_law_271 rfl (lv_at hl 1 rfl) ?_
  obtain ⟨hPc, hDc, hFc⟩ := xcut (wc := [(a0, .inr (0, [v3, v4, v5, v6, v7, v8, v9, v10]))]) hP hD hS hA [0] rfl rfl (by decide)
  refine va_calli (vx_runSW (As := [.ref a0, .int (xs 1), .ref a2]) (rest := []) ⟨hx, hb, hml, hown, htx⟩ (cL_read_0 l hl9 D cT aK aV H.size a0 (xs 1) a2 v3 v4 v5 v6 v7 v8 v9 v10 hto1) (xcSW 3 htx (xw_goodC kw_2_10) rfl rfl rfl (htx _ kw_1_0) (htx _ kw_2_8) ⟨by decide, by decide, by decide +kernel⟩ ⟨Nat.le_of_ble_eq_true rfl, Nat.le_of_ble_eq_true rfl⟩ (htx _ kw_2_9)) ⟨xPre_blind, (fun U hU hW => ⟨rfl, xPre_of hZ hS hFc hPc hDc hK U hU hW⟩)⟩ rfl rfl hl.1 rfl (lv_room (Nat.le_of_ble_eq_true rfl)) dL_law_272 ⟨Nat.le_of_ble_eq_true rfl, Nat.le_of_ble_eq_true rfl⟩) hS (fun q _ h => hFc q h) hFc (fun r1 u9 t H1 locs ht hvm hr9 hB hz1 hk1 hS => ?_)
  obtain ⟨hP1, hK1, hD1⟩ := hB
  rw [ht] at hP1
  obtain ⟨hP, hD⟩ := xjoin (W := [(a1, .inr (5, [v11, v12, v13, v14, v15, v16, v17, v18, v19, v20, v21, v22, v23, v24, v25, v26, v27, v28, v29, v30, v31, v32, v33, v34, v35, v36, v37, v38, v39, v40, v41, v42])), (a2, .inl (cT 2, 1, .inr (.inl f43))), (a0, .inr (0, [v3, v4, v5, v6, v7, v8, v9, v10]))]) hP hD [0] [1, 2] 2 rfl rfl (by decide) (by decide) hk1 hFc hP1 hD1
  generalize H1 = H at hP hS ⊢
  rw [hr9]
  refine W.eq (g2 := F0 m 275 ls [.int 1]) rfl ?_
  refine lv_istore (lv' := [(5, .int 1), (4, .int 0), (3, .ref a2), (2, .ref a1), (1, .ref a0), (0, .ref b)]) hx hb dL_law_275 hl (by decide) rfl (fun ls hl => ?_)
  refine lv_aload_n hx hb dL_law_277 rfl (lv_at hl 3 rfl) ?_
  refine lv_aload_n hx hb dL_law_278 rfl (lv_at hl 5 rfl) ?_
  refine lv_iload hx hb dL_law_279 (lv_at hl 1 rfl) ?_
  refine lv_iconst (v := 1) hx hb dL_law_281 (by decide) ?_
  refine lv_iadd hx hb dL_law_282 ?_
  refine W.eq (g2 := F0 m 283 ls [.int 1, .ref b, .ref a1]) rfl ?_
  refine va_sld hx hb hXs hbl hbA hS (i := 1) (show ¬ ((1 : Int32) < 0 ∨ 6 ≤ (1 : Int32).toNatClampNeg) by decide) dL_law_283 ?_
  refine W.eq (g2 := F0 m 284 ls [.int (xs 1), .ref a1]) rfl ?_
  obtain ⟨hPc, hDc, hFc⟩ := xcut (wc := [(a1, .inr (5, [v11, v12, v13, v14, v15, v16, v17, v18, v19, v20, v21, v22, v23, v24, v25, v26, v27, v28, v29, v30, v31, v32, v33, v34, v35, v36, v37, v38, v39, v40, v41, v42]))]) hP hD hS hA [0] rfl rfl (by decide)
  refine va_calli (vx_runVW (C := "ValueBenchModel") (As := [.int (xs 1)]) (rest := []) ⟨hx, hb, hml, hown, htx⟩ (cM_read_0 l hl9 D cT aK aV H.size a1 (xs 1) v11 v12 v13 v14 v15 v16 v17 v18 v19 v20 v21 v22 v23 v24 v25 v26 v27 v28 v29 v30 v31 v32 v33 v34 v35 v36 v37 v38 v39 v40 v41 v42 hto1) (xcVW 1 htx (xw_goodC kw_5_203) rfl rfl rfl (htx _ kw_1_5) (htx _ kw_5_200) ⟨by decide, by decide, by decide +kernel⟩ ⟨Nat.le_of_ble_eq_true rfl, Nat.le_of_ble_eq_true rfl⟩ (htx _ kw_5_201) (htx _ kw_5_202)) ⟨xPre_blind, va_recv hK hP (ci := 5) rfl (q0 := 0) rfl, (fun U hU hW => ⟨rfl, xPre_of hZ hS hFc hPc hDc hK U hU hW⟩)⟩ rfl rfl hl.1 rfl (lv_room (Nat.le_of_ble_eq_true rfl)) dL_law_284 ⟨Nat.le_of_ble_eq_true rfl, Nat.le_of_ble_eq_true rfl⟩) hS (fun q _ h => hFc q h) hFc (fun r2 u9 t H1 locs ht hvm hr9 hB hz1 hk1 hS => ?_)
  obtain ⟨hP1, hK1, hD1⟩ := hB
  rw [ht] at hP1
  obtain ⟨hP, hD⟩ := xjoin (W := [(a2, .inl (cT 2, 1, .inr (.inl f43))), (a0, .inr (0, [v3, v4, v5, v6, v7, v8, v9, v10])), (a1, .inr (5, [.int 1, v12, .int 0, v14, .int 0, v16, v17, .int 0, v19, .int 0, v21, v22, .int 0, v24, v25, v26, v27, v28, v29, v30, v31, v32, .int 0, .int 1000000000, v35, v36, v37, v38, v39, v40, v41, v42]))]) hP hD [0] [1, 2] 2 rfl rfl (by decide) (by decide) hk1 hFc hP1 hD1
  generalize H1 = H at hP hS ⊢
  rw [hr9]
  refine W.eq (g2 := F0 m 287 ls [.int 0]) rfl ?_
  refine lv_istore (lv' := [(6, .int 0), (5, .int 1), (4, .int 0), (3, .ref a2), (2, .ref a1), (1, .ref a0), (0, .ref b)]) hx hb dL_law_287 hl (by decide) rfl (fun ls hl => ?_)
  refine lv_aload_n hx hb dL_law_289 rfl (lv_at hl 4 rfl) ?_
  obtain ⟨hPc, hDc, hFc⟩ := xcut (wc := [(a1, .inr (5, [.int 1, v12, .int 0, v14, .int 0, v16, v17, .int 0, v19, .int 0, v21, v22, .int 0, v24, v25, v26, v27, v28, v29, v30, v31, v32, .int 0, .int 1000000000, v35, v36, v37, v38, v39, v40, v41, v42]))]) hP hD hS hA [2] rfl rfl (by decide)
  refine va_calli (va_runV (C := "ValueBenchModel") (As := []) (rest := []) ⟨hx, hb, hml, hown, htx⟩ (cM_thrown_1 l hl9 D cT aK aV H.size a1 v12 (.int 0) v14 (.int 0) v16 v17 (.int 0) v19 (.int 0) v21 v22 (.int 0) v24 v25 v26 v27 v28 v29 v30 v31 v32 (.int 0) (.int 1000000000) v35 v36 v37 v38 v39 v40 v41 v42) ⟨callB_of 0 htx (xw_goodC kw_5_187) rfl rfl rfl (htx _ kw_1_5) (htx _ kw_5_184) ⟨by decide, by decide, by decide +kernel⟩ ⟨Nat.le_of_ble_eq_true rfl, Nat.le_of_ble_eq_true rfl⟩, (htx _ kw_5_185), (htx _ kw_5_186)⟩ ⟨xPre_blind, va_recv hK hP (ci := 5) rfl (q0 := 2) rfl, (fun U hU hW => ⟨rfl, xPre_of hZ hS hFc hPc hDc hK U hU hW⟩)⟩ rfl rfl hl.1 rfl (lv_room (Nat.le_of_ble_eq_true rfl)) dL_law_290 ⟨Nat.le_of_ble_eq_true rfl, Nat.le_of_ble_eq_true rfl⟩) hS (fun q _ h => hFc q h) hFc (fun r3 u9 t H1 locs ht hvm hr9 hB hz1 hk1 hS => ?_)
  obtain ⟨hP1, hK1, hD1⟩ := hB
  rw [ht] at hP1
  obtain ⟨hP, hD⟩ := xjoin (W := [(a2, .inl (cT 2, 1, .inr (.inl f43))), (a0, .inr (0, [v3, v4, v5, v6, v7, v8, v9, v10])), (a1, .inr (5, [.int 1, v12, .int 0, v14, .int 0, v16, v17, .int 0, v19, .int 0, v21, v22, .int 0, v24, v25, v26, v27, v28, v29, v30, v31, v32, .int 0, .int 1000000000, v35, v36, v37, v38, v39, v40, v41, v42]))]) hP hD [2] [0, 1] 2 rfl rfl (by decide) (by decide) hk1 hFc hP1 hD1
  generalize H1 = H at hP hS ⊢
  rw [hr9]
  refine W.eq (g2 := F0 m 293 ls [.int 1]) rfl ?_
  refine lv_iload hx hb dL_law_293 (lv_at hl 1 rfl) ?_
  refine lv_icmp_eq (tgt := 300) hx hb dL_law_295 (by decide) (fun _ => ?_) (fun h => ((by revert h; decide : False)).elim)
  refine lv_iload hx hb dL_law_300 (lv_at hl 1 rfl) ?_
  refine lv_if_ne (tgt := 317) hx hb dL_law_302 (by decide) (fun _ => ?_) (fun h => ((by revert h; decide : False)).elim)
  refine lv_goto (tgt := 906) hx hb dL_law_317 (by decide) ?_
  refine lv_iinc (v := 6) (lv' := [(4, .int 6), (6, .int 0), (5, .int 1), (3, .ref a2), (2, .ref a1), (1, .ref a0), (0, .ref b)]) hx hb dL_law_906 hl (k := 2) rfl (by decide) (by decide) rfl (fun ls hl => ?_)
  refine lv_goto (tgt := 23) hx hb dL_law_909 (by decide) ?_
  refine lv_iload hx hb dL_law_23 (lv_at hl 0 rfl) ?_
  refine lv_aload_n hx hb dL_law_25 rfl (lv_at hl 6 rfl) ?_
  refine va_slen hx hb hXs hbl hbA hS dL_law_26 ?_
  refine W.eq (g2 := F0 m 27 ls [.int 6, .int 6]) rfl ?_
  refine lv_bipush (v := 6) hx hb dL_law_27 (by decide) ?_
  refine lv_isub hx hb dL_law_29 ?_
  refine W.eq (g2 := F0 m 30 ls [.int 0, .int 6]) rfl ?_
  refine lv_icmp_gt (tgt := 912) hx hb dL_law_30 (by decide) (fun _ => ?_) (fun h => ((by revert h; decide : False)).elim)
  refine lv_iconst (v := 1) hx hb dL_law_912 (by decide) ?_
  exact va_forget (fun q h => hA2 _ (hS.2.2 q h)) (W.widen (k := 600002) (n := 7302232) (Nat.le_of_ble_eq_true rfl) (Nat.le_of_ble_eq_true rfl) (lw_ret hx hb hr hlocks dL_law_913))
set_option maxHeartbeats 400000000 in
set_option maxRecDepth 100000 in
theorem lf_read_tohi {p : Program} {e : Env} {s : State} {m : MethodId} {below : List Frame} {meth : Method} {c : Code} (l : Launch) (hl9 : l.stackTraces = false) (D : va_G) (cT : Nat → ClassId) (aK aV : Nat → Nat) {A : Nat → Prop} {b : Nat} {xs : Nat → Int32} (C : xLw p s m meth c b D cT aK aV A) {H : Heap} {locs : List Loc} {ls : Array Slot} (a0 : Nat) (a1 : Nat) (a2 : Nat) (v3 : Value) (v4 : Value) (v5 : Value) (v6 : Value) (v7 : Value) (v8 : Value) (v9 : Value) (v10 : Value) (v11 : Value) (v12 : Value) (v13 : Value) (v14 : Value) (v15 : Value) (v16 : Value) (v17 : Value) (v18 : Value) (v19 : Value) (v20 : Value) (v21 : Value) (v22 : Value) (v23 : Value) (v24 : Value) (v25 : Value) (v26 : Value) (v27 : Value) (v28 : Value) (v29 : Value) (v30 : Value) (v31 : Value) (v32 : Value) (v33 : Value) (v34 : Value) (v35 : Value) (v36 : Value) (v37 : Value) (v38 : Value) (v39 : Value) (v40 : Value) (v41 : Value) (v42 : Value) (f43 : Nat → Int64) (hto1 : ¬ (xs 1) < 0) (hto2 : 7 < (xs 1)) (hto3 : ¬ (xs 1) ≤ 7) (hXs : va_X b 6 xs s s.heap) (hP : va_P D xcl [(a0, .inr (0, [v3, v4, v5, v6, v7, v8, v9, v10])), (a1, .inr (5, [v11, v12, v13, v14, v15, v16, v17, v18, v19, v20, v21, v22, v23, v24, v25, v26, v27, v28, v29, v30, v31, v32, v33, v34, v35, v36, v37, v38, v39, v40, v41, v42])), (a2, .inl (cT 2, 1, .inr (.inl f43)))] H) (hD : va_D A [(a0, .inr (0, [v3, v4, v5, v6, v7, v8, v9, v10])), (a1, .inr (5, [v11, v12, v13, v14, v15, v16, v17, v18, v19, v20, v21, v22, v23, v24, v25, v26, v27, v28, v29, v30, v31, v32, v33, v34, v35, v36, v37, v38, v39, v40, v41, v42])), (a2, .inl (cT 2, 1, .inr (.inl f43)))]) (hS : va_S A s.heap H locs) (hl : lv_has ls 8 [(4, .int 0), (3, .ref a2), (2, .ref a1), (1, .ref a0), (0, .ref b)]) : W p l e room_1 s m #[Value.ref b] below meth c H locs 54 107242 (lw_Z below #[Value.ref b] s) (F0 m 264 ls []) := by
  obtain ⟨hx, hb, hr, hml, hown, htx, hbl, hbA, hlocks, hK, hZ, hA, hA2⟩ := C
  refine lv_aload_n hx hb dL_law_264 rfl (lv_at hl 3 rfl) ?_
  refine lv_aload_n hx hb dL_law_265 rfl (lv_at hl 4 rfl) ?_
  refine lv_iload hx hb dL_law_266 (lv_at hl 0 rfl) ?_
  refine lv_iconst (v := 1) hx hb dL_law_268 (by decide) ?_
  refine lv_iadd hx hb dL_law_269 ?_
  refine W.eq (g2 := F0 m 270 ls [.int 1, .ref b, .ref a0]) rfl ?_
  refine va_sld hx hb hXs hbl hbA hS (i := 1) (show ¬ ((1 : Int32) < 0 ∨ 6 ≤ (1 : Int32).toNatClampNeg) by decide) dL_law_270 ?_
  refine W.eq (g2 := F0 m 271 ls [.int (xs 1), .ref a0]) rfl ?_
  refine lv_aload_n hx hb dL_law_271 rfl (lv_at hl 1 rfl) ?_
  obtain ⟨hPc, hDc, hFc⟩ := xcut (wc := [(a0, .inr (0, [v3, v4, v5, v6, v7, v8, v9, v10]))]) hP hD hS hA [0] rfl rfl (by decide)
  refine va_calli (vx_runSW (As := [.ref a0, .int (xs 1), .ref a2]) (rest := []) ⟨hx, hb, hml, hown, htx⟩ (cL_read_1 l hl9 D cT aK aV H.size a0 (xs 1) a2 v3 v4 v5 v6 v7 v8 v9 v10 hto1 hto2 hto3) (xcSW 3 htx (xw_goodC kw_2_10) rfl rfl rfl (htx _ kw_1_0) (htx _ kw_2_8) ⟨by decide, by decide, by decide +kernel⟩ ⟨Nat.le_of_ble_eq_true rfl, Nat.le_of_ble_eq_true rfl⟩ (htx _ kw_2_9)) ⟨xPre_blind, (fun U hU hW => ⟨rfl, xPre_of hZ hS hFc hPc hDc hK U hU hW⟩)⟩ rfl rfl hl.1 rfl (lv_room (Nat.le_of_ble_eq_true rfl)) dL_law_272 ⟨Nat.le_of_ble_eq_true rfl, Nat.le_of_ble_eq_true rfl⟩) hS (fun q _ h => hFc q h) hFc (fun r1 u9 t H1 locs ht hvm hr9 hB hz1 hk1 hS => ?_)
  obtain ⟨hP1, hK1, hD1⟩ := hB
  rw [ht] at hP1
  obtain ⟨hP, hD⟩ := xjoin (W := [(a1, .inr (5, [v11, v12, v13, v14, v15, v16, v17, v18, v19, v20, v21, v22, v23, v24, v25, v26, v27, v28, v29, v30, v31, v32, v33, v34, v35, v36, v37, v38, v39, v40, v41, v42])), (a2, .inl (cT 2, 1, .inr (.inl f43))), (a0, .inr (0, [v3, v4, v5, v6, v7, v8, v9, v10]))]) hP hD [0] [1, 2] 2 rfl rfl (by decide) (by decide) hk1 hFc hP1 hD1
  generalize H1 = H at hP hS ⊢
  rw [hr9]
  refine W.eq (g2 := F0 m 275 ls [.int 1]) rfl ?_
  refine lv_istore (lv' := [(5, .int 1), (4, .int 0), (3, .ref a2), (2, .ref a1), (1, .ref a0), (0, .ref b)]) hx hb dL_law_275 hl (by decide) rfl (fun ls hl => ?_)
  refine lv_aload_n hx hb dL_law_277 rfl (lv_at hl 3 rfl) ?_
  refine lv_aload_n hx hb dL_law_278 rfl (lv_at hl 5 rfl) ?_
  refine lv_iload hx hb dL_law_279 (lv_at hl 1 rfl) ?_
  refine lv_iconst (v := 1) hx hb dL_law_281 (by decide) ?_
  refine lv_iadd hx hb dL_law_282 ?_
  refine W.eq (g2 := F0 m 283 ls [.int 1, .ref b, .ref a1]) rfl ?_
  refine va_sld hx hb hXs hbl hbA hS (i := 1) (show ¬ ((1 : Int32) < 0 ∨ 6 ≤ (1 : Int32).toNatClampNeg) by decide) dL_law_283 ?_
  refine W.eq (g2 := F0 m 284 ls [.int (xs 1), .ref a1]) rfl ?_
  obtain ⟨hPc, hDc, hFc⟩ := xcut (wc := [(a1, .inr (5, [v11, v12, v13, v14, v15, v16, v17, v18, v19, v20, v21, v22, v23, v24, v25, v26, v27, v28, v29, v30, v31, v32, v33, v34, v35, v36, v37, v38, v39, v40, v41, v42]))]) hP hD hS hA [0] rfl rfl (by decide)
  refine va_calli (vx_runVW (C := "ValueBenchModel") (As := [.int (xs 1)]) (rest := []) ⟨hx, hb, hml, hown, htx⟩ (cM_read_1 l hl9 D cT aK aV H.size a1 (xs 1) v11 v12 v13 v14 v15 v16 v17 v18 v19 v20 v21 v22 v23 v24 v25 v26 v27 v28 v29 v30 v31 v32 v33 v34 v35 v36 v37 v38 v39 v40 v41 v42 hto1 hto2 hto3) (xcVW 1 htx (xw_goodC kw_5_203) rfl rfl rfl (htx _ kw_1_5) (htx _ kw_5_200) ⟨by decide, by decide, by decide +kernel⟩ ⟨Nat.le_of_ble_eq_true rfl, Nat.le_of_ble_eq_true rfl⟩ (htx _ kw_5_201) (htx _ kw_5_202)) ⟨xPre_blind, va_recv hK hP (ci := 5) rfl (q0 := 0) rfl, (fun U hU hW => ⟨rfl, xPre_of hZ hS hFc hPc hDc hK U hU hW⟩)⟩ rfl rfl hl.1 rfl (lv_room (Nat.le_of_ble_eq_true rfl)) dL_law_284 ⟨Nat.le_of_ble_eq_true rfl, Nat.le_of_ble_eq_true rfl⟩) hS (fun q _ h => hFc q h) hFc (fun r2 u9 t H1 locs ht hvm hr9 hB hz1 hk1 hS => ?_)
  obtain ⟨hP1, hK1, hD1⟩ := hB
  rw [ht] at hP1
  obtain ⟨hP, hD⟩ := xjoin (W := [(a2, .inl (cT 2, 1, .inr (.inl f43))), (a0, .inr (0, [v3, v4, v5, v6, v7, v8, v9, v10])), (a1, .inr (5, [.int 1, v12, .int 0, v14, .int 0, v16, v17, .int 0, v19, .int 0, v21, v22, .int 0, v24, v25, v26, v27, v28, v29, v30, v31, v32, .int 0, .int 1000000000, v35, v36, v37, v38, v39, v40, v41, v42]))]) hP hD [0] [1, 2] 2 rfl rfl (by decide) (by decide) hk1 hFc hP1 hD1
  generalize H1 = H at hP hS ⊢
  rw [hr9]
  refine W.eq (g2 := F0 m 287 ls [.int 0]) rfl ?_
  refine lv_istore (lv' := [(6, .int 0), (5, .int 1), (4, .int 0), (3, .ref a2), (2, .ref a1), (1, .ref a0), (0, .ref b)]) hx hb dL_law_287 hl (by decide) rfl (fun ls hl => ?_)
  refine lv_aload_n hx hb dL_law_289 rfl (lv_at hl 4 rfl) ?_
  obtain ⟨hPc, hDc, hFc⟩ := xcut (wc := [(a1, .inr (5, [.int 1, v12, .int 0, v14, .int 0, v16, v17, .int 0, v19, .int 0, v21, v22, .int 0, v24, v25, v26, v27, v28, v29, v30, v31, v32, .int 0, .int 1000000000, v35, v36, v37, v38, v39, v40, v41, v42]))]) hP hD hS hA [2] rfl rfl (by decide)
  refine va_calli (va_runV (C := "ValueBenchModel") (As := []) (rest := []) ⟨hx, hb, hml, hown, htx⟩ (cM_thrown_1 l hl9 D cT aK aV H.size a1 v12 (.int 0) v14 (.int 0) v16 v17 (.int 0) v19 (.int 0) v21 v22 (.int 0) v24 v25 v26 v27 v28 v29 v30 v31 v32 (.int 0) (.int 1000000000) v35 v36 v37 v38 v39 v40 v41 v42) ⟨callB_of 0 htx (xw_goodC kw_5_187) rfl rfl rfl (htx _ kw_1_5) (htx _ kw_5_184) ⟨by decide, by decide, by decide +kernel⟩ ⟨Nat.le_of_ble_eq_true rfl, Nat.le_of_ble_eq_true rfl⟩, (htx _ kw_5_185), (htx _ kw_5_186)⟩ ⟨xPre_blind, va_recv hK hP (ci := 5) rfl (q0 := 2) rfl, (fun U hU hW => ⟨rfl, xPre_of hZ hS hFc hPc hDc hK U hU hW⟩)⟩ rfl rfl hl.1 rfl (lv_room (Nat.le_of_ble_eq_true rfl)) dL_law_290 ⟨Nat.le_of_ble_eq_true rfl, Nat.le_of_ble_eq_true rfl⟩) hS (fun q _ h => hFc q h) hFc (fun r3 u9 t H1 locs ht hvm hr9 hB hz1 hk1 hS => ?_)
  obtain ⟨hP1, hK1, hD1⟩ := hB
  rw [ht] at hP1
  obtain ⟨hP, hD⟩ := xjoin (W := [(a2, .inl (cT 2, 1, .inr (.inl f43))), (a0, .inr (0, [v3, v4, v5, v6, v7, v8, v9, v10])), (a1, .inr (5, [.int 1, v12, .int 0, v14, .int 0, v16, v17, .int 0, v19, .int 0, v21, v22, .int 0, v24, v25, v26, v27, v28, v29, v30, v31, v32, .int 0, .int 1000000000, v35, v36, v37, v38, v39, v40, v41, v42]))]) hP hD [2] [0, 1] 2 rfl rfl (by decide) (by decide) hk1 hFc hP1 hD1
  generalize H1 = H at hP hS ⊢
  rw [hr9]
  refine W.eq (g2 := F0 m 293 ls [.int 1]) rfl ?_
  refine lv_iload hx hb dL_law_293 (lv_at hl 1 rfl) ?_
  refine lv_icmp_eq (tgt := 300) hx hb dL_law_295 (by decide) (fun _ => ?_) (fun h => ((by revert h; decide : False)).elim)
  refine lv_iload hx hb dL_law_300 (lv_at hl 1 rfl) ?_
  refine lv_if_ne (tgt := 317) hx hb dL_law_302 (by decide) (fun _ => ?_) (fun h => ((by revert h; decide : False)).elim)
  refine lv_goto (tgt := 906) hx hb dL_law_317 (by decide) ?_
  refine lv_iinc (v := 6) (lv' := [(4, .int 6), (6, .int 0), (5, .int 1), (3, .ref a2), (2, .ref a1), (1, .ref a0), (0, .ref b)]) hx hb dL_law_906 hl (k := 2) rfl (by decide) (by decide) rfl (fun ls hl => ?_)
  refine lv_goto (tgt := 23) hx hb dL_law_909 (by decide) ?_
  refine lv_iload hx hb dL_law_23 (lv_at hl 0 rfl) ?_
  refine lv_aload_n hx hb dL_law_25 rfl (lv_at hl 6 rfl) ?_
  refine va_slen hx hb hXs hbl hbA hS dL_law_26 ?_
  refine W.eq (g2 := F0 m 27 ls [.int 6, .int 6]) rfl ?_
  refine lv_bipush (v := 6) hx hb dL_law_27 (by decide) ?_
  refine lv_isub hx hb dL_law_29 ?_
  refine W.eq (g2 := F0 m 30 ls [.int 0, .int 6]) rfl ?_
  refine lv_icmp_gt (tgt := 912) hx hb dL_law_30 (by decide) (fun _ => ?_) (fun h => ((by revert h; decide : False)).elim)
  refine lv_iconst (v := 1) hx hb dL_law_912 (by decide) ?_
  exact va_forget (fun q h => hA2 _ (hS.2.2 q h)) (W.widen (k := 600002) (n := 7302232) (Nat.le_of_ble_eq_true rfl) (Nat.le_of_ble_eq_true rfl) (lw_ret hx hb hr hlocks dL_law_913))
set_option maxHeartbeats 400000000 in
set_option maxRecDepth 100000 in
theorem lf_read_p0 {p : Program} {e : Env} {s : State} {m : MethodId} {below : List Frame} {meth : Method} {c : Code} (l : Launch) (hl9 : l.stackTraces = false) (D : va_G) (cT : Nat → ClassId) (aK aV : Nat → Nat) {A : Nat → Prop} {b : Nat} {xs : Nat → Int32} (C : xLw p s m meth c b D cT aK aV A) {H : Heap} {locs : List Loc} {ls : Array Slot} (a0 : Nat) (a1 : Nat) (a2 : Nat) (a3 : Nat) (a4 : Nat) (v5 : Value) (v6 : Value) (v7 : Value) (v8 : Value) (v9 : Value) (v10 : Value) (v11 : Value) (v12 : Value) (v13 : Value) (v14 : Value) (v15 : Value) (v16 : Value) (v17 : Value) (v18 : Value) (v19 : Value) (v20 : Value) (v21 : Value) (v22 : Value) (v23 : Value) (v24 : Value) (v25 : Value) (v26 : Value) (v27 : Value) (v28 : Value) (v29 : Value) (v30 : Value) (v31 : Value) (v32 : Value) (v33 : Value) (v34 : Value) (v35 : Value) (v36 : Value) (b37 : Nat) (v38 : Value) (v39 : Value) (v40 : Value) (v41 : Value) (f42 : Nat → Int64) (v43 : Value) (v44 : Value) (v45 : Value) (v46 : Value) (v47 : Value) (hto1 : ¬ (xs 1) < 0) (hto2 : ¬ 7 < (xs 1)) (hto3 : (xs 1) ≤ 7) (hto4 : vp_in (xs 1) 8) (hXs : va_X b 6 xs s s.heap) (hP : va_P D xcl [(a0, .inr (0, [.ref a4, v5, v6, v7, v8, .ref a3, v9, v10])), (a1, .inr (5, [v11, v12, v13, v14, v15, v16, v17, v18, v19, v20, v21, v22, v23, v24, v25, v26, v27, v28, v29, v30, v31, v32, v33, v34, v35, v36, .ref b37, .int 0, v38, v39, v40, v41])), (a2, .inl (cT 2, 1, .inr (.inl f42))), (a3, .inr (2, [v43, v44, v45])), (a4, .inr (1, [v46, .int 0, v47]))] H) (hD : va_D A [(a0, .inr (0, [.ref a4, v5, v6, v7, v8, .ref a3, v9, v10])), (a1, .inr (5, [v11, v12, v13, v14, v15, v16, v17, v18, v19, v20, v21, v22, v23, v24, v25, v26, v27, v28, v29, v30, v31, v32, v33, v34, v35, v36, .ref b37, .int 0, v38, v39, v40, v41])), (a2, .inl (cT 2, 1, .inr (.inl f42))), (a3, .inr (2, [v43, v44, v45])), (a4, .inr (1, [v46, .int 0, v47]))]) (hS : va_S A s.heap H locs) (hl : lv_has ls 8 [(4, .int 0), (3, .ref a2), (2, .ref a1), (1, .ref a0), (0, .ref b)]) : W p l e room_1 s m #[Value.ref b] below meth c H locs 54 107242 (lw_Z below #[Value.ref b] s) (F0 m 264 ls []) := by
  obtain ⟨hx, hb, hr, hml, hown, htx, hbl, hbA, hlocks, hK, hZ, hA, hA2⟩ := C
  refine lv_aload_n hx hb dL_law_264 rfl (lv_at hl 3 rfl) ?_
  refine lv_aload_n hx hb dL_law_265 rfl (lv_at hl 4 rfl) ?_
  refine lv_iload hx hb dL_law_266 (lv_at hl 0 rfl) ?_
  refine lv_iconst (v := 1) hx hb dL_law_268 (by decide) ?_
  refine lv_iadd hx hb dL_law_269 ?_
  refine W.eq (g2 := F0 m 270 ls [.int 1, .ref b, .ref a0]) rfl ?_
  refine va_sld hx hb hXs hbl hbA hS (i := 1) (show ¬ ((1 : Int32) < 0 ∨ 6 ≤ (1 : Int32).toNatClampNeg) by decide) dL_law_270 ?_
  refine W.eq (g2 := F0 m 271 ls [.int (xs 1), .ref a0]) rfl ?_
  refine lv_aload_n hx hb dL_law_271 rfl (lv_at hl 1 rfl) ?_
  obtain ⟨hPc, hDc, hFc⟩ := xcut (wc := [(a0, .inr (0, [.ref a4, v5, v6, v7, v8, .ref a3, v9, v10])), (a3, .inr (2, [v43, v44, v45])), (a4, .inr (1, [v46, .int 0, v47]))]) hP hD hS hA [0, 3, 4] rfl rfl (by decide)
  refine va_calli (vx_runSW (As := [.ref a0, .int (xs 1), .ref a2]) (rest := []) ⟨hx, hb, hml, hown, htx⟩ (cL_read_2 l hl9 D cT aK aV H.size a0 a3 a4 (xs 1) a2 v5 v6 v7 v8 v9 v10 v43 v44 v45 v46 v47 hto1 hto2 hto3 hto4) (xcSW 3 htx (xw_goodC kw_2_10) rfl rfl rfl (htx _ kw_1_0) (htx _ kw_2_8) ⟨by decide, by decide, by decide +kernel⟩ ⟨Nat.le_of_ble_eq_true rfl, Nat.le_of_ble_eq_true rfl⟩ (htx _ kw_2_9)) ⟨xPre_blind, (fun U hU hW => ⟨rfl, xPre_of hZ hS hFc hPc hDc hK U hU hW⟩)⟩ rfl rfl hl.1 rfl (lv_room (Nat.le_of_ble_eq_true rfl)) dL_law_272 ⟨Nat.le_of_ble_eq_true rfl, Nat.le_of_ble_eq_true rfl⟩) hS (fun q _ h => hFc q h) hFc (fun r1 u9 t H1 locs ht hvm hr9 hB hz1 hk1 hS => ?_)
  obtain ⟨q2, hP1, hK1, hD1⟩ := hB
  rw [ht] at hP1
  obtain ⟨hP, hD⟩ := xjoin (W := [(a1, .inr (5, [v11, v12, v13, v14, v15, v16, v17, v18, v19, v20, v21, v22, v23, v24, v25, v26, v27, v28, v29, v30, v31, v32, v33, v34, v35, v36, .ref b37, .int 0, v38, v39, v40, v41])), (a2, .inl (cT 2, 1, .inr (.inl f42))), (a0, .inr (0, [.ref a4, v5, v6, v7, v8, .ref a3, .int 0, v10])), (a3, .inr (2, [v43, .int 0, .int 0])), (a4, .inr (1, [v46, .int 0, .int 0])), (q2, .inr (4, [.ref a4, .ref a3, .int 0, .int 0]))]) hP hD [0, 3, 4] [1, 2] 2 rfl rfl (by decide) (by decide) hk1 hFc hP1 hD1
  generalize H1 = H at hP hS ⊢
  rw [hr9]
  refine W.eq (g2 := F0 m 275 ls [.int 2]) rfl ?_
  refine lv_istore (lv' := [(5, .int 2), (4, .int 0), (3, .ref a2), (2, .ref a1), (1, .ref a0), (0, .ref b)]) hx hb dL_law_275 hl (by decide) rfl (fun ls hl => ?_)
  refine lv_aload_n hx hb dL_law_277 rfl (lv_at hl 3 rfl) ?_
  refine lv_aload_n hx hb dL_law_278 rfl (lv_at hl 5 rfl) ?_
  refine lv_iload hx hb dL_law_279 (lv_at hl 1 rfl) ?_
  refine lv_iconst (v := 1) hx hb dL_law_281 (by decide) ?_
  refine lv_iadd hx hb dL_law_282 ?_
  refine W.eq (g2 := F0 m 283 ls [.int 1, .ref b, .ref a1]) rfl ?_
  refine va_sld hx hb hXs hbl hbA hS (i := 1) (show ¬ ((1 : Int32) < 0 ∨ 6 ≤ (1 : Int32).toNatClampNeg) by decide) dL_law_283 ?_
  refine W.eq (g2 := F0 m 284 ls [.int (xs 1), .ref a1]) rfl ?_
  obtain ⟨hPc, hDc, hFc⟩ := xcut (wc := [(a1, .inr (5, [v11, v12, v13, v14, v15, v16, v17, v18, v19, v20, v21, v22, v23, v24, v25, v26, v27, v28, v29, v30, v31, v32, v33, v34, v35, v36, .ref b37, .int 0, v38, v39, v40, v41]))]) hP hD hS hA [0] rfl rfl (by decide)
  refine va_calli (vx_runVW (C := "ValueBenchModel") (As := [.int (xs 1)]) (rest := []) ⟨hx, hb, hml, hown, htx⟩ (cM_read_2 l hl9 D cT aK aV H.size a1 (xs 1) v11 v12 v13 v14 v15 v16 v17 v18 v19 v20 v21 v22 v23 v24 v25 v26 v27 v28 v29 v30 v31 v32 v33 v34 v35 v36 b37 v38 v39 v40 v41 hto1 hto2 hto3 hto4) (xcVW 1 htx (xw_goodC kw_5_203) rfl rfl rfl (htx _ kw_1_5) (htx _ kw_5_200) ⟨by decide, by decide, by decide +kernel⟩ ⟨Nat.le_of_ble_eq_true rfl, Nat.le_of_ble_eq_true rfl⟩ (htx _ kw_5_201) (htx _ kw_5_202)) ⟨xPre_blind, va_recv hK hP (ci := 5) rfl (q0 := 0) rfl, (fun U hU hW => ⟨rfl, xPre_of hZ hS hFc hPc hDc hK U hU hW⟩)⟩ rfl rfl hl.1 rfl (lv_room (Nat.le_of_ble_eq_true rfl)) dL_law_284 ⟨Nat.le_of_ble_eq_true rfl, Nat.le_of_ble_eq_true rfl⟩) hS (fun q _ h => hFc q h) hFc (fun r3 u9 t H1 locs ht hvm hr9 hB hz1 hk1 hS => ?_)
  obtain ⟨hP1, hK1, hD1⟩ := hB
  rw [ht] at hP1
  obtain ⟨hP, hD⟩ := xjoin (W := [(a2, .inl (cT 2, 1, .inr (.inl f42))), (a0, .inr (0, [.ref a4, v5, v6, v7, v8, .ref a3, .int 0, v10])), (a3, .inr (2, [v43, .int 0, .int 0])), (a4, .inr (1, [v46, .int 0, .int 0])), (q2, .inr (4, [.ref a4, .ref a3, .int 0, .int 0])), (a1, .inr (5, [.int 2, v12, .int 0, v14, .int 0, v16, v17, .int 0, v19, .int 0, v21, v22, .int 0, v24, v25, .ref b37, .int 0, .int 0, .int 0, .int 40, .int 0, v32, .int 0, .int 1000000000, v35, v36, .ref b37, .int 0, v38, v39, v40, .int 0]))]) hP hD [0] [1, 2, 3, 4, 5] 5 rfl rfl (by decide) (by decide) hk1 hFc hP1 hD1
  generalize H1 = H at hP hS ⊢
  rw [hr9]
  refine W.eq (g2 := F0 m 287 ls [.int 0]) rfl ?_
  refine lv_istore (lv' := [(6, .int 0), (5, .int 2), (4, .int 0), (3, .ref a2), (2, .ref a1), (1, .ref a0), (0, .ref b)]) hx hb dL_law_287 hl (by decide) rfl (fun ls hl => ?_)
  refine lv_aload_n hx hb dL_law_289 rfl (lv_at hl 4 rfl) ?_
  obtain ⟨hPc, hDc, hFc⟩ := xcut (wc := [(a1, .inr (5, [.int 2, v12, .int 0, v14, .int 0, v16, v17, .int 0, v19, .int 0, v21, v22, .int 0, v24, v25, .ref b37, .int 0, .int 0, .int 0, .int 40, .int 0, v32, .int 0, .int 1000000000, v35, v36, .ref b37, .int 0, v38, v39, v40, .int 0]))]) hP hD hS hA [5] rfl rfl (by decide)
  refine va_calli (va_runV (C := "ValueBenchModel") (As := []) (rest := []) ⟨hx, hb, hml, hown, htx⟩ (cM_thrown_2 l hl9 D cT aK aV H.size a1 v12 (.int 0) v14 (.int 0) v16 v17 (.int 0) v19 (.int 0) v21 v22 (.int 0) v24 v25 (.ref b37) (.int 0) (.int 0) (.int 0) (.int 40) (.int 0) v32 (.int 0) (.int 1000000000) v35 v36 (.ref b37) (.int 0) v38 v39 v40 (.int 0)) ⟨callB_of 0 htx (xw_goodC kw_5_187) rfl rfl rfl (htx _ kw_1_5) (htx _ kw_5_184) ⟨by decide, by decide, by decide +kernel⟩ ⟨Nat.le_of_ble_eq_true rfl, Nat.le_of_ble_eq_true rfl⟩, (htx _ kw_5_185), (htx _ kw_5_186)⟩ ⟨xPre_blind, va_recv hK hP (ci := 5) rfl (q0 := 5) rfl, (fun U hU hW => ⟨rfl, xPre_of hZ hS hFc hPc hDc hK U hU hW⟩)⟩ rfl rfl hl.1 rfl (lv_room (Nat.le_of_ble_eq_true rfl)) dL_law_290 ⟨Nat.le_of_ble_eq_true rfl, Nat.le_of_ble_eq_true rfl⟩) hS (fun q _ h => hFc q h) hFc (fun r4 u9 t H1 locs ht hvm hr9 hB hz1 hk1 hS => ?_)
  obtain ⟨hP1, hK1, hD1⟩ := hB
  rw [ht] at hP1
  obtain ⟨hP, hD⟩ := xjoin (W := [(a2, .inl (cT 2, 1, .inr (.inl f42))), (a0, .inr (0, [.ref a4, v5, v6, v7, v8, .ref a3, .int 0, v10])), (a3, .inr (2, [v43, .int 0, .int 0])), (a4, .inr (1, [v46, .int 0, .int 0])), (q2, .inr (4, [.ref a4, .ref a3, .int 0, .int 0])), (a1, .inr (5, [.int 2, v12, .int 0, v14, .int 0, v16, v17, .int 0, v19, .int 0, v21, v22, .int 0, v24, v25, .ref b37, .int 0, .int 0, .int 0, .int 40, .int 0, v32, .int 0, .int 1000000000, v35, v36, .ref b37, .int 0, v38, v39, v40, .int 0]))]) hP hD [5] [0, 1, 2, 3, 4] 5 rfl rfl (by decide) (by decide) hk1 hFc hP1 hD1
  generalize H1 = H at hP hS ⊢
  rw [hr9]
  refine W.eq (g2 := F0 m 293 ls [.int 2]) rfl ?_
  refine lv_iload hx hb dL_law_293 (lv_at hl 1 rfl) ?_
  refine lv_icmp_eq (tgt := 300) hx hb dL_law_295 (by decide) (fun _ => ?_) (fun h => ((by revert h; decide : False)).elim)
  refine lv_iload hx hb dL_law_300 (lv_at hl 1 rfl) ?_
  refine lv_if_ne (tgt := 317) hx hb dL_law_302 (by decide) (fun _ => ?_) (fun h => ((by revert h; decide : False)).elim)
  refine lv_goto (tgt := 906) hx hb dL_law_317 (by decide) ?_
  refine lv_iinc (v := 6) (lv' := [(4, .int 6), (6, .int 0), (5, .int 2), (3, .ref a2), (2, .ref a1), (1, .ref a0), (0, .ref b)]) hx hb dL_law_906 hl (k := 2) rfl (by decide) (by decide) rfl (fun ls hl => ?_)
  refine lv_goto (tgt := 23) hx hb dL_law_909 (by decide) ?_
  refine lv_iload hx hb dL_law_23 (lv_at hl 0 rfl) ?_
  refine lv_aload_n hx hb dL_law_25 rfl (lv_at hl 6 rfl) ?_
  refine va_slen hx hb hXs hbl hbA hS dL_law_26 ?_
  refine W.eq (g2 := F0 m 27 ls [.int 6, .int 6]) rfl ?_
  refine lv_bipush (v := 6) hx hb dL_law_27 (by decide) ?_
  refine lv_isub hx hb dL_law_29 ?_
  refine W.eq (g2 := F0 m 30 ls [.int 0, .int 6]) rfl ?_
  refine lv_icmp_gt (tgt := 912) hx hb dL_law_30 (by decide) (fun _ => ?_) (fun h => ((by revert h; decide : False)).elim)
  refine lv_iconst (v := 1) hx hb dL_law_912 (by decide) ?_
  exact va_forget (fun q h => hA2 _ (hS.2.2 q h)) (W.widen (k := 600002) (n := 7302232) (Nat.le_of_ble_eq_true rfl) (Nat.le_of_ble_eq_true rfl) (lw_ret hx hb hr hlocks dL_law_913))
set_option maxHeartbeats 400000000 in
set_option maxRecDepth 100000 in
theorem lf_print_alo {p : Program} {e : Env} {s : State} {m : MethodId} {below : List Frame} {meth : Method} {c : Code} (l : Launch) (hl9 : l.stackTraces = false) (D : va_G) (cT : Nat → ClassId) (aK aV : Nat → Nat) {A : Nat → Prop} {b : Nat} {xs : Nat → Int32} (C : xLw p s m meth c b D cT aK aV A) {H : Heap} {locs : List Loc} {ls : Array Slot} (a0 : Nat) (a1 : Nat) (a2 : Nat) (v3 : Value) (v4 : Value) (v5 : Value) (v6 : Value) (v7 : Value) (v8 : Value) (v9 : Value) (v10 : Value) (v11 : Value) (v12 : Value) (v13 : Value) (v14 : Value) (v15 : Value) (v16 : Value) (v17 : Value) (v18 : Value) (v19 : Value) (v20 : Value) (v21 : Value) (v22 : Value) (v23 : Value) (v24 : Value) (v25 : Value) (v26 : Value) (v27 : Value) (v28 : Value) (v29 : Value) (v30 : Value) (v31 : Value) (v32 : Value) (v33 : Value) (v34 : Value) (v35 : Value) (v36 : Value) (v37 : Value) (v38 : Value) (v39 : Value) (v40 : Value) (v41 : Value) (v42 : Value) (f43 : Nat → Int64) (ha1 : (xs 1) < 0) (hXs : va_X b 6 xs s s.heap) (hP : va_P D xcl [(a0, .inr (0, [v3, v4, v5, v6, v7, v8, v9, v10])), (a1, .inr (5, [v11, v12, v13, v14, v15, v16, v17, v18, v19, v20, v21, v22, v23, v24, v25, v26, v27, v28, v29, v30, v31, v32, v33, v34, v35, v36, v37, v38, v39, v40, v41, v42])), (a2, .inl (cT 2, 1, .inr (.inl f43)))] H) (hD : va_D A [(a0, .inr (0, [v3, v4, v5, v6, v7, v8, v9, v10])), (a1, .inr (5, [v11, v12, v13, v14, v15, v16, v17, v18, v19, v20, v21, v22, v23, v24, v25, v26, v27, v28, v29, v30, v31, v32, v33, v34, v35, v36, v37, v38, v39, v40, v41, v42])), (a2, .inl (cT 2, 1, .inr (.inl f43)))]) (hS : va_S A s.heap H locs) (hl : lv_has ls 8 [(4, .int 0), (3, .ref a2), (2, .ref a1), (1, .ref a0), (0, .ref b)]) : W p l e room_1 s m #[Value.ref b] below meth c H locs 54 107242 (lw_Z below #[Value.ref b] s) (F0 m 320 ls []) := by
  obtain ⟨hx, hb, hr, hml, hown, htx, hbl, hbA, hlocks, hK, hZ, hA, hA2⟩ := C
  refine lv_aload_n hx hb dL_law_320 rfl (lv_at hl 3 rfl) ?_
  refine lv_aload_n hx hb dL_law_321 rfl (lv_at hl 4 rfl) ?_
  refine lv_iload hx hb dL_law_322 (lv_at hl 0 rfl) ?_
  refine lv_iconst (v := 1) hx hb dL_law_324 (by decide) ?_
  refine lv_iadd hx hb dL_law_325 ?_
  refine W.eq (g2 := F0 m 326 ls [.int 1, .ref b, .ref a0]) rfl ?_
  refine va_sld hx hb hXs hbl hbA hS (i := 1) (show ¬ ((1 : Int32) < 0 ∨ 6 ≤ (1 : Int32).toNatClampNeg) by decide) dL_law_326 ?_
  refine W.eq (g2 := F0 m 327 ls [.int (xs 1), .ref a0]) rfl ?_
  refine lv_aload_n hx hb dL_law_327 rfl (lv_at hl 1 rfl) ?_
  obtain ⟨hPc, hDc, hFc⟩ := xcut (wc := [(a0, .inr (0, [v3, v4, v5, v6, v7, v8, v9, v10]))]) hP hD hS hA [0] rfl rfl (by decide)
  refine va_calli (vx_runSW (As := [.ref a0, .int (xs 1), .ref a2]) (rest := []) ⟨hx, hb, hml, hown, htx⟩ (cL_print_0 l hl9 D cT aK aV H.size a0 (xs 1) a2 v3 v4 v5 v6 v7 v8 v9 v10 ha1) (xcSW 3 htx (xw_goodC kw_3_90) rfl rfl rfl (htx _ kw_1_0) (htx _ kw_3_88) ⟨by decide, by decide, by decide +kernel⟩ ⟨Nat.le_of_ble_eq_true rfl, Nat.le_of_ble_eq_true rfl⟩ (htx _ kw_3_89)) ⟨xPre_blind, (fun U hU hW => ⟨rfl, xPre_of hZ hS hFc hPc hDc hK U hU hW⟩)⟩ rfl rfl hl.1 rfl (lv_room (Nat.le_of_ble_eq_true rfl)) dL_law_328 ⟨Nat.le_of_ble_eq_true rfl, Nat.le_of_ble_eq_true rfl⟩) hS (fun q _ h => hFc q h) hFc (fun r1 u9 t H1 locs ht hvm hr9 hB hz1 hk1 hS => ?_)
  obtain ⟨hP1, hK1, hD1⟩ := hB
  rw [ht] at hP1
  obtain ⟨hP, hD⟩ := xjoin (W := [(a1, .inr (5, [v11, v12, v13, v14, v15, v16, v17, v18, v19, v20, v21, v22, v23, v24, v25, v26, v27, v28, v29, v30, v31, v32, v33, v34, v35, v36, v37, v38, v39, v40, v41, v42])), (a2, .inl (cT 2, 1, .inr (.inl f43))), (a0, .inr (0, [v3, v4, v5, v6, v7, v8, v9, v10]))]) hP hD [0] [1, 2] 2 rfl rfl (by decide) (by decide) hk1 hFc hP1 hD1
  generalize H1 = H at hP hS ⊢
  rw [hr9]
  refine W.eq (g2 := F0 m 331 ls [.int 1]) rfl ?_
  refine lv_istore (lv' := [(5, .int 1), (4, .int 0), (3, .ref a2), (2, .ref a1), (1, .ref a0), (0, .ref b)]) hx hb dL_law_331 hl (by decide) rfl (fun ls hl => ?_)
  refine lv_aload_n hx hb dL_law_333 rfl (lv_at hl 3 rfl) ?_
  refine lv_aload_n hx hb dL_law_334 rfl (lv_at hl 5 rfl) ?_
  refine lv_iload hx hb dL_law_335 (lv_at hl 1 rfl) ?_
  refine lv_iconst (v := 1) hx hb dL_law_337 (by decide) ?_
  refine lv_iadd hx hb dL_law_338 ?_
  refine W.eq (g2 := F0 m 339 ls [.int 1, .ref b, .ref a1]) rfl ?_
  refine va_sld hx hb hXs hbl hbA hS (i := 1) (show ¬ ((1 : Int32) < 0 ∨ 6 ≤ (1 : Int32).toNatClampNeg) by decide) dL_law_339 ?_
  refine W.eq (g2 := F0 m 340 ls [.int (xs 1), .ref a1]) rfl ?_
  obtain ⟨hPc, hDc, hFc⟩ := xcut (wc := [(a1, .inr (5, [v11, v12, v13, v14, v15, v16, v17, v18, v19, v20, v21, v22, v23, v24, v25, v26, v27, v28, v29, v30, v31, v32, v33, v34, v35, v36, v37, v38, v39, v40, v41, v42]))]) hP hD hS hA [0] rfl rfl (by decide)
  refine va_calli (va_runV (C := "ValueBenchModel") (As := [.int (xs 1)]) (rest := []) ⟨hx, hb, hml, hown, htx⟩ (cM_print0_0 l hl9 D cT aK aV H.size a1 (xs 1) v11 v12 v13 v14 v15 v16 v17 v18 v19 v20 v21 v22 v23 v24 v25 v26 v27 v28 v29 v30 v31 v32 v33 v34 v35 v36 v37 v38 v39 v40 v41 v42 ha1) ⟨callB_of 1 htx (xw_goodC kw_6_162) rfl rfl rfl (htx _ kw_1_5) (htx _ kw_6_159) ⟨by decide, by decide, by decide +kernel⟩ ⟨Nat.le_of_ble_eq_true rfl, Nat.le_of_ble_eq_true rfl⟩, (htx _ kw_6_160), (htx _ kw_6_161)⟩ ⟨xPre_blind, va_recv hK hP (ci := 5) rfl (q0 := 0) rfl, (fun U hU hW => ⟨rfl, xPre_of hZ hS hFc hPc hDc hK U hU hW⟩)⟩ rfl rfl hl.1 rfl (lv_room (Nat.le_of_ble_eq_true rfl)) dL_law_340 ⟨Nat.le_of_ble_eq_true rfl, Nat.le_of_ble_eq_true rfl⟩) hS (fun q _ h => hFc q h) hFc (fun r2 u9 t H1 locs ht hvm hr9 hB hz1 hk1 hS => ?_)
  obtain ⟨hP1, hK1, hD1⟩ := hB
  rw [ht] at hP1
  obtain ⟨hP, hD⟩ := xjoin (W := [(a2, .inl (cT 2, 1, .inr (.inl f43))), (a0, .inr (0, [v3, v4, v5, v6, v7, v8, v9, v10])), (a1, .inr (5, [.int 1, v12, .int 0, v14, .int 0, v16, v17, .int 0, v19, .int 0, v21, v22, .int 0, v24, v25, v26, v27, v28, v29, v30, v31, v32, .int 0, .int 1000000000, v35, v36, v37, v38, v39, v40, v41, v42]))]) hP hD [0] [1, 2] 2 rfl rfl (by decide) (by decide) hk1 hFc hP1 hD1
  generalize H1 = H at hP hS ⊢
  rw [hr9]
  refine W.eq (g2 := F0 m 343 ls [.int 0]) rfl ?_
  refine lv_istore (lv' := [(6, .int 0), (5, .int 1), (4, .int 0), (3, .ref a2), (2, .ref a1), (1, .ref a0), (0, .ref b)]) hx hb dL_law_343 hl (by decide) rfl (fun ls hl => ?_)
  refine lv_aload_n hx hb dL_law_345 rfl (lv_at hl 4 rfl) ?_
  obtain ⟨hPc, hDc, hFc⟩ := xcut (wc := [(a1, .inr (5, [.int 1, v12, .int 0, v14, .int 0, v16, v17, .int 0, v19, .int 0, v21, v22, .int 0, v24, v25, v26, v27, v28, v29, v30, v31, v32, .int 0, .int 1000000000, v35, v36, v37, v38, v39, v40, v41, v42]))]) hP hD hS hA [2] rfl rfl (by decide)
  refine va_calli (va_runV (C := "ValueBenchModel") (As := []) (rest := []) ⟨hx, hb, hml, hown, htx⟩ (cM_thrown_1 l hl9 D cT aK aV H.size a1 v12 (.int 0) v14 (.int 0) v16 v17 (.int 0) v19 (.int 0) v21 v22 (.int 0) v24 v25 v26 v27 v28 v29 v30 v31 v32 (.int 0) (.int 1000000000) v35 v36 v37 v38 v39 v40 v41 v42) ⟨callB_of 0 htx (xw_goodC kw_5_187) rfl rfl rfl (htx _ kw_1_5) (htx _ kw_5_184) ⟨by decide, by decide, by decide +kernel⟩ ⟨Nat.le_of_ble_eq_true rfl, Nat.le_of_ble_eq_true rfl⟩, (htx _ kw_5_185), (htx _ kw_5_186)⟩ ⟨xPre_blind, va_recv hK hP (ci := 5) rfl (q0 := 2) rfl, (fun U hU hW => ⟨rfl, xPre_of hZ hS hFc hPc hDc hK U hU hW⟩)⟩ rfl rfl hl.1 rfl (lv_room (Nat.le_of_ble_eq_true rfl)) dL_law_346 ⟨Nat.le_of_ble_eq_true rfl, Nat.le_of_ble_eq_true rfl⟩) hS (fun q _ h => hFc q h) hFc (fun r3 u9 t H1 locs ht hvm hr9 hB hz1 hk1 hS => ?_)
  obtain ⟨hP1, hK1, hD1⟩ := hB
  rw [ht] at hP1
  obtain ⟨hP, hD⟩ := xjoin (W := [(a2, .inl (cT 2, 1, .inr (.inl f43))), (a0, .inr (0, [v3, v4, v5, v6, v7, v8, v9, v10])), (a1, .inr (5, [.int 1, v12, .int 0, v14, .int 0, v16, v17, .int 0, v19, .int 0, v21, v22, .int 0, v24, v25, v26, v27, v28, v29, v30, v31, v32, .int 0, .int 1000000000, v35, v36, v37, v38, v39, v40, v41, v42]))]) hP hD [2] [0, 1] 2 rfl rfl (by decide) (by decide) hk1 hFc hP1 hD1
  generalize H1 = H at hP hS ⊢
  rw [hr9]
  refine W.eq (g2 := F0 m 349 ls [.int 1]) rfl ?_
  refine lv_iload hx hb dL_law_349 (lv_at hl 1 rfl) ?_
  refine lv_icmp_eq (tgt := 356) hx hb dL_law_351 (by decide) (fun _ => ?_) (fun h => ((by revert h; decide : False)).elim)
  refine lv_iload hx hb dL_law_356 (lv_at hl 1 rfl) ?_
  refine lv_if_ne (tgt := 373) hx hb dL_law_358 (by decide) (fun _ => ?_) (fun h => ((by revert h; decide : False)).elim)
  refine lv_goto (tgt := 906) hx hb dL_law_373 (by decide) ?_
  refine lv_iinc (v := 6) (lv' := [(4, .int 6), (6, .int 0), (5, .int 1), (3, .ref a2), (2, .ref a1), (1, .ref a0), (0, .ref b)]) hx hb dL_law_906 hl (k := 2) rfl (by decide) (by decide) rfl (fun ls hl => ?_)
  refine lv_goto (tgt := 23) hx hb dL_law_909 (by decide) ?_
  refine lv_iload hx hb dL_law_23 (lv_at hl 0 rfl) ?_
  refine lv_aload_n hx hb dL_law_25 rfl (lv_at hl 6 rfl) ?_
  refine va_slen hx hb hXs hbl hbA hS dL_law_26 ?_
  refine W.eq (g2 := F0 m 27 ls [.int 6, .int 6]) rfl ?_
  refine lv_bipush (v := 6) hx hb dL_law_27 (by decide) ?_
  refine lv_isub hx hb dL_law_29 ?_
  refine W.eq (g2 := F0 m 30 ls [.int 0, .int 6]) rfl ?_
  refine lv_icmp_gt (tgt := 912) hx hb dL_law_30 (by decide) (fun _ => ?_) (fun h => ((by revert h; decide : False)).elim)
  refine lv_iconst (v := 1) hx hb dL_law_912 (by decide) ?_
  exact va_forget (fun q h => hA2 _ (hS.2.2 q h)) (W.widen (k := 600002) (n := 7302232) (Nat.le_of_ble_eq_true rfl) (Nat.le_of_ble_eq_true rfl) (lw_ret hx hb hr hlocks dL_law_913))
set_option maxHeartbeats 400000000 in
set_option maxRecDepth 100000 in
theorem lf_print_ahi {p : Program} {e : Env} {s : State} {m : MethodId} {below : List Frame} {meth : Method} {c : Code} (l : Launch) (hl9 : l.stackTraces = false) (D : va_G) (cT : Nat → ClassId) (aK aV : Nat → Nat) {A : Nat → Prop} {b : Nat} {xs : Nat → Int32} (C : xLw p s m meth c b D cT aK aV A) {H : Heap} {locs : List Loc} {ls : Array Slot} (a0 : Nat) (a1 : Nat) (a2 : Nat) (v3 : Value) (v4 : Value) (v5 : Value) (v6 : Value) (v7 : Value) (v8 : Value) (v9 : Value) (v10 : Value) (v11 : Value) (v12 : Value) (v13 : Value) (v14 : Value) (v15 : Value) (v16 : Value) (v17 : Value) (v18 : Value) (v19 : Value) (v20 : Value) (v21 : Value) (v22 : Value) (v23 : Value) (v24 : Value) (v25 : Value) (v26 : Value) (v27 : Value) (v28 : Value) (v29 : Value) (v30 : Value) (v31 : Value) (v32 : Value) (v33 : Value) (v34 : Value) (v35 : Value) (v36 : Value) (v37 : Value) (v38 : Value) (v39 : Value) (v40 : Value) (v41 : Value) (v42 : Value) (f43 : Nat → Int64) (ha1 : ¬ (xs 1) < 0) (ha2 : 7 < (xs 1)) (ha3 : ¬ (xs 1) ≤ 7) (hXs : va_X b 6 xs s s.heap) (hP : va_P D xcl [(a0, .inr (0, [v3, v4, v5, v6, v7, v8, v9, v10])), (a1, .inr (5, [v11, v12, v13, v14, v15, v16, v17, v18, v19, v20, v21, v22, v23, v24, v25, v26, v27, v28, v29, v30, v31, v32, v33, v34, v35, v36, v37, v38, v39, v40, v41, v42])), (a2, .inl (cT 2, 1, .inr (.inl f43)))] H) (hD : va_D A [(a0, .inr (0, [v3, v4, v5, v6, v7, v8, v9, v10])), (a1, .inr (5, [v11, v12, v13, v14, v15, v16, v17, v18, v19, v20, v21, v22, v23, v24, v25, v26, v27, v28, v29, v30, v31, v32, v33, v34, v35, v36, v37, v38, v39, v40, v41, v42])), (a2, .inl (cT 2, 1, .inr (.inl f43)))]) (hS : va_S A s.heap H locs) (hl : lv_has ls 8 [(4, .int 0), (3, .ref a2), (2, .ref a1), (1, .ref a0), (0, .ref b)]) : W p l e room_1 s m #[Value.ref b] below meth c H locs 54 107242 (lw_Z below #[Value.ref b] s) (F0 m 320 ls []) := by
  obtain ⟨hx, hb, hr, hml, hown, htx, hbl, hbA, hlocks, hK, hZ, hA, hA2⟩ := C
  refine lv_aload_n hx hb dL_law_320 rfl (lv_at hl 3 rfl) ?_
  refine lv_aload_n hx hb dL_law_321 rfl (lv_at hl 4 rfl) ?_
  refine lv_iload hx hb dL_law_322 (lv_at hl 0 rfl) ?_
  refine lv_iconst (v := 1) hx hb dL_law_324 (by decide) ?_
  refine lv_iadd hx hb dL_law_325 ?_
  refine W.eq (g2 := F0 m 326 ls [.int 1, .ref b, .ref a0]) rfl ?_
  refine va_sld hx hb hXs hbl hbA hS (i := 1) (show ¬ ((1 : Int32) < 0 ∨ 6 ≤ (1 : Int32).toNatClampNeg) by decide) dL_law_326 ?_
  refine W.eq (g2 := F0 m 327 ls [.int (xs 1), .ref a0]) rfl ?_
  refine lv_aload_n hx hb dL_law_327 rfl (lv_at hl 1 rfl) ?_
  obtain ⟨hPc, hDc, hFc⟩ := xcut (wc := [(a0, .inr (0, [v3, v4, v5, v6, v7, v8, v9, v10]))]) hP hD hS hA [0] rfl rfl (by decide)
  refine va_calli (vx_runSW (As := [.ref a0, .int (xs 1), .ref a2]) (rest := []) ⟨hx, hb, hml, hown, htx⟩ (cL_print_1 l hl9 D cT aK aV H.size a0 (xs 1) a2 v3 v4 v5 v6 v7 v8 v9 v10 ha1 ha2 ha3) (xcSW 3 htx (xw_goodC kw_3_90) rfl rfl rfl (htx _ kw_1_0) (htx _ kw_3_88) ⟨by decide, by decide, by decide +kernel⟩ ⟨Nat.le_of_ble_eq_true rfl, Nat.le_of_ble_eq_true rfl⟩ (htx _ kw_3_89)) ⟨xPre_blind, (fun U hU hW => ⟨rfl, xPre_of hZ hS hFc hPc hDc hK U hU hW⟩)⟩ rfl rfl hl.1 rfl (lv_room (Nat.le_of_ble_eq_true rfl)) dL_law_328 ⟨Nat.le_of_ble_eq_true rfl, Nat.le_of_ble_eq_true rfl⟩) hS (fun q _ h => hFc q h) hFc (fun r1 u9 t H1 locs ht hvm hr9 hB hz1 hk1 hS => ?_)
  obtain ⟨hP1, hK1, hD1⟩ := hB
  rw [ht] at hP1
  obtain ⟨hP, hD⟩ := xjoin (W := [(a1, .inr (5, [v11, v12, v13, v14, v15, v16, v17, v18, v19, v20, v21, v22, v23, v24, v25, v26, v27, v28, v29, v30, v31, v32, v33, v34, v35, v36, v37, v38, v39, v40, v41, v42])), (a2, .inl (cT 2, 1, .inr (.inl f43))), (a0, .inr (0, [v3, v4, v5, v6, v7, v8, v9, v10]))]) hP hD [0] [1, 2] 2 rfl rfl (by decide) (by decide) hk1 hFc hP1 hD1
  generalize H1 = H at hP hS ⊢
  rw [hr9]
  refine W.eq (g2 := F0 m 331 ls [.int 1]) rfl ?_
  refine lv_istore (lv' := [(5, .int 1), (4, .int 0), (3, .ref a2), (2, .ref a1), (1, .ref a0), (0, .ref b)]) hx hb dL_law_331 hl (by decide) rfl (fun ls hl => ?_)
  refine lv_aload_n hx hb dL_law_333 rfl (lv_at hl 3 rfl) ?_
  refine lv_aload_n hx hb dL_law_334 rfl (lv_at hl 5 rfl) ?_
  refine lv_iload hx hb dL_law_335 (lv_at hl 1 rfl) ?_
  refine lv_iconst (v := 1) hx hb dL_law_337 (by decide) ?_
  refine lv_iadd hx hb dL_law_338 ?_
  refine W.eq (g2 := F0 m 339 ls [.int 1, .ref b, .ref a1]) rfl ?_
  refine va_sld hx hb hXs hbl hbA hS (i := 1) (show ¬ ((1 : Int32) < 0 ∨ 6 ≤ (1 : Int32).toNatClampNeg) by decide) dL_law_339 ?_
  refine W.eq (g2 := F0 m 340 ls [.int (xs 1), .ref a1]) rfl ?_
  obtain ⟨hPc, hDc, hFc⟩ := xcut (wc := [(a1, .inr (5, [v11, v12, v13, v14, v15, v16, v17, v18, v19, v20, v21, v22, v23, v24, v25, v26, v27, v28, v29, v30, v31, v32, v33, v34, v35, v36, v37, v38, v39, v40, v41, v42]))]) hP hD hS hA [0] rfl rfl (by decide)
  refine va_calli (va_runV (C := "ValueBenchModel") (As := [.int (xs 1)]) (rest := []) ⟨hx, hb, hml, hown, htx⟩ (cM_print0_1 l hl9 D cT aK aV H.size a1 (xs 1) v11 v12 v13 v14 v15 v16 v17 v18 v19 v20 v21 v22 v23 v24 v25 v26 v27 v28 v29 v30 v31 v32 v33 v34 v35 v36 v37 v38 v39 v40 v41 v42 ha1 ha2 ha3) ⟨callB_of 1 htx (xw_goodC kw_6_162) rfl rfl rfl (htx _ kw_1_5) (htx _ kw_6_159) ⟨by decide, by decide, by decide +kernel⟩ ⟨Nat.le_of_ble_eq_true rfl, Nat.le_of_ble_eq_true rfl⟩, (htx _ kw_6_160), (htx _ kw_6_161)⟩ ⟨xPre_blind, va_recv hK hP (ci := 5) rfl (q0 := 0) rfl, (fun U hU hW => ⟨rfl, xPre_of hZ hS hFc hPc hDc hK U hU hW⟩)⟩ rfl rfl hl.1 rfl (lv_room (Nat.le_of_ble_eq_true rfl)) dL_law_340 ⟨Nat.le_of_ble_eq_true rfl, Nat.le_of_ble_eq_true rfl⟩) hS (fun q _ h => hFc q h) hFc (fun r2 u9 t H1 locs ht hvm hr9 hB hz1 hk1 hS => ?_)
  obtain ⟨hP1, hK1, hD1⟩ := hB
  rw [ht] at hP1
  obtain ⟨hP, hD⟩ := xjoin (W := [(a2, .inl (cT 2, 1, .inr (.inl f43))), (a0, .inr (0, [v3, v4, v5, v6, v7, v8, v9, v10])), (a1, .inr (5, [.int 1, v12, .int 0, v14, .int 0, v16, v17, .int 0, v19, .int 0, v21, v22, .int 0, v24, v25, v26, v27, v28, v29, v30, v31, v32, .int 0, .int 1000000000, v35, v36, v37, v38, v39, v40, v41, v42]))]) hP hD [0] [1, 2] 2 rfl rfl (by decide) (by decide) hk1 hFc hP1 hD1
  generalize H1 = H at hP hS ⊢
  rw [hr9]
  refine W.eq (g2 := F0 m 343 ls [.int 0]) rfl ?_
  refine lv_istore (lv' := [(6, .int 0), (5, .int 1), (4, .int 0), (3, .ref a2), (2, .ref a1), (1, .ref a0), (0, .ref b)]) hx hb dL_law_343 hl (by decide) rfl (fun ls hl => ?_)
  refine lv_aload_n hx hb dL_law_345 rfl (lv_at hl 4 rfl) ?_
  obtain ⟨hPc, hDc, hFc⟩ := xcut (wc := [(a1, .inr (5, [.int 1, v12, .int 0, v14, .int 0, v16, v17, .int 0, v19, .int 0, v21, v22, .int 0, v24, v25, v26, v27, v28, v29, v30, v31, v32, .int 0, .int 1000000000, v35, v36, v37, v38, v39, v40, v41, v42]))]) hP hD hS hA [2] rfl rfl (by decide)
  refine va_calli (va_runV (C := "ValueBenchModel") (As := []) (rest := []) ⟨hx, hb, hml, hown, htx⟩ (cM_thrown_1 l hl9 D cT aK aV H.size a1 v12 (.int 0) v14 (.int 0) v16 v17 (.int 0) v19 (.int 0) v21 v22 (.int 0) v24 v25 v26 v27 v28 v29 v30 v31 v32 (.int 0) (.int 1000000000) v35 v36 v37 v38 v39 v40 v41 v42) ⟨callB_of 0 htx (xw_goodC kw_5_187) rfl rfl rfl (htx _ kw_1_5) (htx _ kw_5_184) ⟨by decide, by decide, by decide +kernel⟩ ⟨Nat.le_of_ble_eq_true rfl, Nat.le_of_ble_eq_true rfl⟩, (htx _ kw_5_185), (htx _ kw_5_186)⟩ ⟨xPre_blind, va_recv hK hP (ci := 5) rfl (q0 := 2) rfl, (fun U hU hW => ⟨rfl, xPre_of hZ hS hFc hPc hDc hK U hU hW⟩)⟩ rfl rfl hl.1 rfl (lv_room (Nat.le_of_ble_eq_true rfl)) dL_law_346 ⟨Nat.le_of_ble_eq_true rfl, Nat.le_of_ble_eq_true rfl⟩) hS (fun q _ h => hFc q h) hFc (fun r3 u9 t H1 locs ht hvm hr9 hB hz1 hk1 hS => ?_)
  obtain ⟨hP1, hK1, hD1⟩ := hB
  rw [ht] at hP1
  obtain ⟨hP, hD⟩ := xjoin (W := [(a2, .inl (cT 2, 1, .inr (.inl f43))), (a0, .inr (0, [v3, v4, v5, v6, v7, v8, v9, v10])), (a1, .inr (5, [.int 1, v12, .int 0, v14, .int 0, v16, v17, .int 0, v19, .int 0, v21, v22, .int 0, v24, v25, v26, v27, v28, v29, v30, v31, v32, .int 0, .int 1000000000, v35, v36, v37, v38, v39, v40, v41, v42]))]) hP hD [2] [0, 1] 2 rfl rfl (by decide) (by decide) hk1 hFc hP1 hD1
  generalize H1 = H at hP hS ⊢
  rw [hr9]
  refine W.eq (g2 := F0 m 349 ls [.int 1]) rfl ?_
  refine lv_iload hx hb dL_law_349 (lv_at hl 1 rfl) ?_
  refine lv_icmp_eq (tgt := 356) hx hb dL_law_351 (by decide) (fun _ => ?_) (fun h => ((by revert h; decide : False)).elim)
  refine lv_iload hx hb dL_law_356 (lv_at hl 1 rfl) ?_
  refine lv_if_ne (tgt := 373) hx hb dL_law_358 (by decide) (fun _ => ?_) (fun h => ((by revert h; decide : False)).elim)
  refine lv_goto (tgt := 906) hx hb dL_law_373 (by decide) ?_
  refine lv_iinc (v := 6) (lv' := [(4, .int 6), (6, .int 0), (5, .int 1), (3, .ref a2), (2, .ref a1), (1, .ref a0), (0, .ref b)]) hx hb dL_law_906 hl (k := 2) rfl (by decide) (by decide) rfl (fun ls hl => ?_)
  refine lv_goto (tgt := 23) hx hb dL_law_909 (by decide) ?_
  refine lv_iload hx hb dL_law_23 (lv_at hl 0 rfl) ?_
  refine lv_aload_n hx hb dL_law_25 rfl (lv_at hl 6 rfl) ?_
  refine va_slen hx hb hXs hbl hbA hS dL_law_26 ?_
  refine W.eq (g2 := F0 m 27 ls [.int 6, .int 6]) rfl ?_
  refine lv_bipush (v := 6) hx hb dL_law_27 (by decide) ?_
  refine lv_isub hx hb dL_law_29 ?_
  refine W.eq (g2 := F0 m 30 ls [.int 0, .int 6]) rfl ?_
  refine lv_icmp_gt (tgt := 912) hx hb dL_law_30 (by decide) (fun _ => ?_) (fun h => ((by revert h; decide : False)).elim)
  refine lv_iconst (v := 1) hx hb dL_law_912 (by decide) ?_
  exact va_forget (fun q h => hA2 _ (hS.2.2 q h)) (W.widen (k := 600002) (n := 7302232) (Nat.le_of_ble_eq_true rfl) (Nat.le_of_ble_eq_true rfl) (lw_ret hx hb hr hlocks dL_law_913))
set_option maxHeartbeats 400000000 in
set_option maxRecDepth 100000 in
theorem lf_print_p0 {p : Program} {e : Env} {s : State} {m : MethodId} {below : List Frame} {meth : Method} {c : Code} (l : Launch) (hl9 : l.stackTraces = false) (D : va_G) (cT : Nat → ClassId) (aK aV : Nat → Nat) {A : Nat → Prop} {b : Nat} {xs : Nat → Int32} (C : xLw p s m meth c b D cT aK aV A) {H : Heap} {locs : List Loc} {ls : Array Slot} (a0 : Nat) (a1 : Nat) (a2 : Nat) (a3 : Nat) (a4 : Nat) (a5 : Nat) (a6 : Nat) (a7 : Nat) (a8 : Nat) (a9 : Nat) (a10 : Nat) (a11 : Nat) (v12 : Value) (v13 : Value) (v14 : Value) (v15 : Value) (v16 : Value) (v17 : Value) (v18 : Value) (v19 : Value) (v20 : Value) (v21 : Value) (v22 : Value) (v23 : Value) (v24 : Value) (v25 : Value) (v26 : Value) (v27 : Value) (v28 : Value) (v29 : Value) (v30 : Value) (v31 : Value) (v32 : Value) (v33 : Value) (v34 : Value) (v35 : Value) (v36 : Value) (v37 : Value) (v38 : Value) (v39 : Value) (v40 : Value) (v41 : Value) (v42 : Value) (v43 : Value) (v44 : Value) (v45 : Value) (v46 : Value) (f47 : Nat → Int64) (v48 : Value) (v49 : Value) (f50 : Nat → Option Nat) (v52 : Value) (f53 : Nat → Int64) (f55 : Nat → Int32) (f56 : Nat → Int32) (f58 : Nat → Option Nat) (f60 : Nat → Int32) (f61 : Nat → Int32) (h51 : f50 (xs 1).toNatClampNeg = some a5) (h54 : f53 0 = 0) (h57 : f56 (xs 1).toNatClampNeg = 4) (h59 : f58 (xs 1).toNatClampNeg = some a10) (ha1 : ¬ (xs 1) < 0) (ha2 : ¬ 7 < (xs 1)) (ha3 : (xs 1) ≤ 7) (ha4 : vp_in (xs 1) 8) (hXs : va_X b 6 xs s s.heap) (hP : va_P D xcl [(a0, .inr (0, [v12, .ref a3, v13, .ref a4, v14, v15, v16, v17])), (a1, .inr (5, [v18, v19, v20, v21, v22, v23, v24, v25, v26, v27, v28, v29, v30, v31, v32, v33, v34, v35, v36, v37, v38, v39, v40, v41, .ref a9, .ref a8, v42, v43, .ref a11, v44, v45, v46])), (a2, .inl (cT 2, 1, .inr (.inl f47))), (a3, .inr (1, [.ref a7, v48, v49])), (a4, .inl (cT 3, 8, .inr (.inr (.inr (.inr f50))))), (a5, .inr (2, [.ref a6, .int 1, v52])), (a6, .inl (cT 2, 4096, .inr (.inl f53))), (a7, .inl (cT 0, 4096, .inl f55)), (a8, .inl (cT 1, 8, .inl f56)), (a9, .inl (cT 5, 8, .inr (.inr (.inr (.inr f58))))), (a10, .inl (cT 0, 4096, .inl f60)), (a11, .inl (cT 0, 4096, .inl f61))] H) (hD : va_D A [(a0, .inr (0, [v12, .ref a3, v13, .ref a4, v14, v15, v16, v17])), (a1, .inr (5, [v18, v19, v20, v21, v22, v23, v24, v25, v26, v27, v28, v29, v30, v31, v32, v33, v34, v35, v36, v37, v38, v39, v40, v41, .ref a9, .ref a8, v42, v43, .ref a11, v44, v45, v46])), (a2, .inl (cT 2, 1, .inr (.inl f47))), (a3, .inr (1, [.ref a7, v48, v49])), (a4, .inl (cT 3, 8, .inr (.inr (.inr (.inr f50))))), (a5, .inr (2, [.ref a6, .int 1, v52])), (a6, .inl (cT 2, 4096, .inr (.inl f53))), (a7, .inl (cT 0, 4096, .inl f55)), (a8, .inl (cT 1, 8, .inl f56)), (a9, .inl (cT 5, 8, .inr (.inr (.inr (.inr f58))))), (a10, .inl (cT 0, 4096, .inl f60)), (a11, .inl (cT 0, 4096, .inl f61))]) (hS : va_S A s.heap H locs) (hl : lv_has ls 8 [(4, .int 0), (3, .ref a2), (2, .ref a1), (1, .ref a0), (0, .ref b)]) : W p l e room_1 s m #[Value.ref b] below meth c H locs 54 107242 (lw_Z below #[Value.ref b] s) (F0 m 320 ls []) := by
  obtain ⟨hx, hb, hr, hml, hown, htx, hbl, hbA, hlocks, hK, hZ, hA, hA2⟩ := C
  refine lv_aload_n hx hb dL_law_320 rfl (lv_at hl 3 rfl) ?_
  refine lv_aload_n hx hb dL_law_321 rfl (lv_at hl 4 rfl) ?_
  refine lv_iload hx hb dL_law_322 (lv_at hl 0 rfl) ?_
  refine lv_iconst (v := 1) hx hb dL_law_324 (by decide) ?_
  refine lv_iadd hx hb dL_law_325 ?_
  refine W.eq (g2 := F0 m 326 ls [.int 1, .ref b, .ref a0]) rfl ?_
  refine va_sld hx hb hXs hbl hbA hS (i := 1) (show ¬ ((1 : Int32) < 0 ∨ 6 ≤ (1 : Int32).toNatClampNeg) by decide) dL_law_326 ?_
  refine W.eq (g2 := F0 m 327 ls [.int (xs 1), .ref a0]) rfl ?_
  refine lv_aload_n hx hb dL_law_327 rfl (lv_at hl 1 rfl) ?_
  obtain ⟨hPc, hDc, hFc⟩ := xcut (wc := [(a0, .inr (0, [v12, .ref a3, v13, .ref a4, v14, v15, v16, v17])), (a3, .inr (1, [.ref a7, v48, v49])), (a4, .inl (cT 3, 8, .inr (.inr (.inr (.inr f50))))), (a5, .inr (2, [.ref a6, .int 1, v52])), (a6, .inl (cT 2, 4096, .inr (.inl f53))), (a7, .inl (cT 0, 4096, .inl f55)), (a2, .inl (cT 2, 1, .inr (.inl f47)))]) hP hD hS hA [0, 3, 4, 5, 6, 7, 2] rfl rfl (by decide)
  refine va_calli (vx_runSW (As := [.ref a0, .int (xs 1), .ref a2]) (rest := []) ⟨hx, hb, hml, hown, htx⟩ (cL_print_2 l hl9 D cT aK aV H.size a0 a3 a4 a5 a6 a7 a2 (xs 1) v12 v13 v14 v15 v16 v17 v48 v49 f50 v52 f53 f55 f47 ha1 ha2 ha3 ha4 (by first | rfl | exact h51 | exact h54 | exact h57 | exact h59) (by first | rfl | exact h51 | exact h54 | exact h57 | exact h59)) (xcSW 3 htx (xw_goodC kw_3_90) rfl rfl rfl (htx _ kw_1_0) (htx _ kw_3_88) ⟨by decide, by decide, by decide +kernel⟩ ⟨Nat.le_of_ble_eq_true rfl, Nat.le_of_ble_eq_true rfl⟩ (htx _ kw_3_89)) ⟨xPre_blind, (fun U hU hW => ⟨rfl, xPre_of hZ hS hFc hPc hDc hK U hU hW⟩)⟩ rfl rfl hl.1 rfl (lv_room (Nat.le_of_ble_eq_true rfl)) dL_law_328 ⟨Nat.le_of_ble_eq_true rfl, Nat.le_of_ble_eq_true rfl⟩) hS (fun q _ h => hFc q h) hFc (fun r1 u9 t H1 locs ht hvm hr9 hB hz1 hk1 hS => ?_)
  obtain ⟨y2, y3, y4, y5, hP1, hK1, hD1⟩ := hB
  rw [ht] at hP1
  obtain ⟨hP, hD⟩ := xjoin (W := [(a1, .inr (5, [v18, v19, v20, v21, v22, v23, v24, v25, v26, v27, v28, v29, v30, v31, v32, v33, v34, v35, v36, v37, v38, v39, v40, v41, .ref a9, .ref a8, v42, v43, .ref a11, v44, v45, v46])), (a8, .inl (cT 1, 8, .inl f56)), (a9, .inl (cT 5, 8, .inr (.inr (.inr (.inr f58))))), (a10, .inl (cT 0, 4096, .inl f60)), (a11, .inl (cT 0, 4096, .inl f61)), (a0, .inr (0, [v12, .ref a3, v13, .ref a4, v14, v15, v16, v17])), (a3, .inr (1, [.ref a7, .int 4, .int 0])), (a4, .inl (cT 3, 8, .inr (.inr (.inr (.inr f50))))), (a5, .inr (2, [.ref a6, .int 1, v52])), (a6, .inl (cT 2, 4096, .inr (.inl f53))), (a7, .inl (cT 0, 4096, .inl (upd (upd (upd (upd f55 0 (vp_nar .byte y2)) 1 (vp_nar .byte y3)) 2 (vp_nar .byte y4)) 3 (vp_nar .byte y5)))), (a2, .inl (cT 2, 1, .inr (.inl (vp_updL f47 0 4))))]) hP hD [0, 3, 4, 5, 6, 7, 2] [1, 8, 9, 10, 11] 5 rfl rfl (by decide) (by decide) hk1 hFc hP1 hD1
  generalize H1 = H at hP hS ⊢
  rw [hr9]
  refine W.eq (g2 := F0 m 331 ls [.int 0]) rfl ?_
  refine lv_istore (lv' := [(5, .int 0), (4, .int 0), (3, .ref a2), (2, .ref a1), (1, .ref a0), (0, .ref b)]) hx hb dL_law_331 hl (by decide) rfl (fun ls hl => ?_)
  refine lv_aload_n hx hb dL_law_333 rfl (lv_at hl 3 rfl) ?_
  refine lv_aload_n hx hb dL_law_334 rfl (lv_at hl 5 rfl) ?_
  refine lv_iload hx hb dL_law_335 (lv_at hl 1 rfl) ?_
  refine lv_iconst (v := 1) hx hb dL_law_337 (by decide) ?_
  refine lv_iadd hx hb dL_law_338 ?_
  refine W.eq (g2 := F0 m 339 ls [.int 1, .ref b, .ref a1]) rfl ?_
  refine va_sld hx hb hXs hbl hbA hS (i := 1) (show ¬ ((1 : Int32) < 0 ∨ 6 ≤ (1 : Int32).toNatClampNeg) by decide) dL_law_339 ?_
  refine W.eq (g2 := F0 m 340 ls [.int (xs 1), .ref a1]) rfl ?_
  obtain ⟨hPc, hDc, hFc⟩ := xcut (wc := [(a1, .inr (5, [v18, v19, v20, v21, v22, v23, v24, v25, v26, v27, v28, v29, v30, v31, v32, v33, v34, v35, v36, v37, v38, v39, v40, v41, .ref a9, .ref a8, v42, v43, .ref a11, v44, v45, v46])), (a8, .inl (cT 1, 8, .inl f56)), (a9, .inl (cT 5, 8, .inr (.inr (.inr (.inr f58))))), (a10, .inl (cT 0, 4096, .inl f60)), (a11, .inl (cT 0, 4096, .inl f61))]) hP hD hS hA [0, 1, 2, 3, 4] rfl rfl (by decide)
  refine va_calli (va_runV (C := "ValueBenchModel") (As := [.int (xs 1)]) (rest := []) ⟨hx, hb, hml, hown, htx⟩ (cM_print0_2 l hl9 D cT aK aV H.size a1 a8 a9 a10 a11 (xs 1) v18 v19 v20 v21 v22 v23 v24 v25 v26 v27 v28 v29 v30 v31 v32 v33 v34 v35 v36 v37 v38 v39 v40 v41 v42 v43 v44 v45 v46 f56 f58 f60 f61 ha1 ha2 ha3 ha4 (by first | rfl | exact h51 | exact h54 | exact h57 | exact h59) (by first | rfl | exact h51 | exact h54 | exact h57 | exact h59)) ⟨callB_of 1 htx (xw_goodC kw_6_162) rfl rfl rfl (htx _ kw_1_5) (htx _ kw_6_159) ⟨by decide, by decide, by decide +kernel⟩ ⟨Nat.le_of_ble_eq_true rfl, Nat.le_of_ble_eq_true rfl⟩, (htx _ kw_6_160), (htx _ kw_6_161)⟩ ⟨xPre_blind, va_recv hK hP (ci := 5) rfl (q0 := 0) rfl, (fun U hU hW => ⟨rfl, xPre_of hZ hS hFc hPc hDc hK U hU hW⟩)⟩ rfl rfl hl.1 rfl (lv_room (Nat.le_of_ble_eq_true rfl)) dL_law_340 ⟨Nat.le_of_ble_eq_true rfl, Nat.le_of_ble_eq_true rfl⟩) hS (fun q _ h => hFc q h) hFc (fun r6 u9 t H1 locs ht hvm hr9 hB hz1 hk1 hS => ?_)
  obtain ⟨hP1, hK1, hD1⟩ := hB
  rw [ht] at hP1
  obtain ⟨hP, hD⟩ := xjoin (W := [(a0, .inr (0, [v12, .ref a3, v13, .ref a4, v14, v15, v16, v17])), (a3, .inr (1, [.ref a7, .int 4, .int 0])), (a4, .inl (cT 3, 8, .inr (.inr (.inr (.inr f50))))), (a5, .inr (2, [.ref a6, .int 1, v52])), (a6, .inl (cT 2, 4096, .inr (.inl f53))), (a7, .inl (cT 0, 4096, .inl (upd (upd (upd (upd f55 0 (vp_nar .byte y2)) 1 (vp_nar .byte y3)) 2 (vp_nar .byte y4)) 3 (vp_nar .byte y5)))), (a2, .inl (cT 2, 1, .inr (.inl (vp_updL f47 0 4)))), (a1, .inr (5, [.int 0, v19, .int 0, v21, .int 0, v23, v24, .int 0, v26, .int 0, v28, v29, .int 0, v31, v32, v33, v34, v35, v36, v37, v38, v39, .int 0, .int 1000000000, .ref a9, .ref a8, v42, v43, .ref a11, .int 4, v45, v46])), (a8, .inl (cT 1, 8, .inl f56)), (a9, .inl (cT 5, 8, .inr (.inr (.inr (.inr f58))))), (a10, .inl (cT 0, 4096, .inl f60)), (a11, .inl (cT 0, 4096, .inl (upd (upd (upd (upd f61 0 (vp_nar .byte (f60 0))) 1 (vp_nar .byte (f60 1))) 2 (vp_nar .byte (f60 2))) 3 (vp_nar .byte (f60 3)))))]) hP hD [0, 1, 2, 3, 4] [5, 6, 7, 8, 9, 10, 11] 7 rfl rfl (by decide) (by decide) hk1 hFc hP1 hD1
  generalize H1 = H at hP hS ⊢
  rw [hr9]
  refine W.eq (g2 := F0 m 343 ls [.int 4]) rfl ?_
  refine lv_istore (lv' := [(6, .int 4), (5, .int 0), (4, .int 0), (3, .ref a2), (2, .ref a1), (1, .ref a0), (0, .ref b)]) hx hb dL_law_343 hl (by decide) rfl (fun ls hl => ?_)
  refine lv_aload_n hx hb dL_law_345 rfl (lv_at hl 4 rfl) ?_
  obtain ⟨hPc, hDc, hFc⟩ := xcut (wc := [(a1, .inr (5, [.int 0, v19, .int 0, v21, .int 0, v23, v24, .int 0, v26, .int 0, v28, v29, .int 0, v31, v32, v33, v34, v35, v36, v37, v38, v39, .int 0, .int 1000000000, .ref a9, .ref a8, v42, v43, .ref a11, .int 4, v45, v46]))]) hP hD hS hA [7] rfl rfl (by decide)
  refine va_calli (va_runV (C := "ValueBenchModel") (As := []) (rest := []) ⟨hx, hb, hml, hown, htx⟩ (cM_thrown_0 l hl9 D cT aK aV H.size a1 v19 (.int 0) v21 (.int 0) v23 v24 (.int 0) v26 (.int 0) v28 v29 (.int 0) v31 v32 v33 v34 v35 v36 v37 v38 v39 (.int 0) (.int 1000000000) (.ref a9) (.ref a8) v42 v43 (.ref a11) (.int 4) v45 v46) ⟨callB_of 0 htx (xw_goodC kw_5_187) rfl rfl rfl (htx _ kw_1_5) (htx _ kw_5_184) ⟨by decide, by decide, by decide +kernel⟩ ⟨Nat.le_of_ble_eq_true rfl, Nat.le_of_ble_eq_true rfl⟩, (htx _ kw_5_185), (htx _ kw_5_186)⟩ ⟨xPre_blind, va_recv hK hP (ci := 5) rfl (q0 := 7) rfl, (fun U hU hW => ⟨rfl, xPre_of hZ hS hFc hPc hDc hK U hU hW⟩)⟩ rfl rfl hl.1 rfl (lv_room (Nat.le_of_ble_eq_true rfl)) dL_law_346 ⟨Nat.le_of_ble_eq_true rfl, Nat.le_of_ble_eq_true rfl⟩) hS (fun q _ h => hFc q h) hFc (fun r7 u9 t H1 locs ht hvm hr9 hB hz1 hk1 hS => ?_)
  obtain ⟨hP1, hK1, hD1⟩ := hB
  rw [ht] at hP1
  obtain ⟨hP, hD⟩ := xjoin (W := [(a0, .inr (0, [v12, .ref a3, v13, .ref a4, v14, v15, v16, v17])), (a3, .inr (1, [.ref a7, .int 4, .int 0])), (a4, .inl (cT 3, 8, .inr (.inr (.inr (.inr f50))))), (a5, .inr (2, [.ref a6, .int 1, v52])), (a6, .inl (cT 2, 4096, .inr (.inl f53))), (a7, .inl (cT 0, 4096, .inl (upd (upd (upd (upd f55 0 (vp_nar .byte y2)) 1 (vp_nar .byte y3)) 2 (vp_nar .byte y4)) 3 (vp_nar .byte y5)))), (a2, .inl (cT 2, 1, .inr (.inl (vp_updL f47 0 4)))), (a8, .inl (cT 1, 8, .inl f56)), (a9, .inl (cT 5, 8, .inr (.inr (.inr (.inr f58))))), (a10, .inl (cT 0, 4096, .inl f60)), (a11, .inl (cT 0, 4096, .inl (upd (upd (upd (upd f61 0 (vp_nar .byte (f60 0))) 1 (vp_nar .byte (f60 1))) 2 (vp_nar .byte (f60 2))) 3 (vp_nar .byte (f60 3))))), (a1, .inr (5, [.int 0, v19, .int 0, v21, .int 0, v23, v24, .int 0, v26, .int 0, v28, v29, .int 0, v31, v32, v33, v34, v35, v36, v37, v38, v39, .int 0, .int 1000000000, .ref a9, .ref a8, v42, v43, .ref a11, .int 4, v45, v46]))]) hP hD [7] [0, 1, 2, 3, 4, 5, 6, 8, 9, 10, 11] 11 rfl rfl (by decide) (by decide) hk1 hFc hP1 hD1
  generalize H1 = H at hP hS ⊢
  rw [hr9]
  refine W.eq (g2 := F0 m 349 ls [.int 0]) rfl ?_
  refine lv_iload hx hb dL_law_349 (lv_at hl 1 rfl) ?_
  refine lv_icmp_eq (tgt := 356) hx hb dL_law_351 (by decide) (fun _ => ?_) (fun h => ((by revert h; decide : False)).elim)
  refine lv_iload hx hb dL_law_356 (lv_at hl 1 rfl) ?_
  refine lv_if_ne (tgt := 373) hx hb dL_law_358 (by decide) (fun h => ((by revert h; decide : False)).elim) (fun _ => ?_)
  refine lv_aload_n hx hb dL_law_361 rfl (lv_at hl 3 rfl) ?_
  refine lv_iconst (v := 0) hx hb dL_law_362 (by decide) ?_
  refine va_lald hx hb hK hP 6 2 rfl rfl (show ¬ ((0 : Int32) < 0 ∨ 1 ≤ (0 : Int32).toNatClampNeg) by decide) dL_law_363 ?_
  refine W.eq (g2 := F0 m 364 ls [.long 4]) rfl ?_
  refine lv_iload hx hb dL_law_364 (lv_at hl 0 rfl) ?_
  refine lv_i2l hx hb dL_law_366 rfl ?_
  refine W.eq (g2 := F0 m 367 ls [.long 4, .long 4]) rfl ?_
  refine W.lcmp hx hb dL_law_367 ?_
  refine W.eq (g2 := F0 m 368 ls [.int 0]) rfl ?_
  refine lv_if_eq (tgt := 373) hx hb dL_law_368 (by decide) (fun _ => ?_) (fun h => ((by revert h; decide : False)).elim)
  refine lv_goto (tgt := 906) hx hb dL_law_373 (by decide) ?_
  refine lv_iinc (v := 6) (lv' := [(4, .int 6), (6, .int 4), (5, .int 0), (3, .ref a2), (2, .ref a1), (1, .ref a0), (0, .ref b)]) hx hb dL_law_906 hl (k := 2) rfl (by decide) (by decide) rfl (fun ls hl => ?_)
  refine lv_goto (tgt := 23) hx hb dL_law_909 (by decide) ?_
  refine lv_iload hx hb dL_law_23 (lv_at hl 0 rfl) ?_
  refine lv_aload_n hx hb dL_law_25 rfl (lv_at hl 6 rfl) ?_
  refine va_slen hx hb hXs hbl hbA hS dL_law_26 ?_
  refine W.eq (g2 := F0 m 27 ls [.int 6, .int 6]) rfl ?_
  refine lv_bipush (v := 6) hx hb dL_law_27 (by decide) ?_
  refine lv_isub hx hb dL_law_29 ?_
  refine W.eq (g2 := F0 m 30 ls [.int 0, .int 6]) rfl ?_
  refine lv_icmp_gt (tgt := 912) hx hb dL_law_30 (by decide) (fun _ => ?_) (fun h => ((by revert h; decide : False)).elim)
  refine lv_iconst (v := 1) hx hb dL_law_912 (by decide) ?_
  exact va_forget (fun q h => hA2 _ (hS.2.2 q h)) (W.widen (k := 600002) (n := 7302232) (Nat.le_of_ble_eq_true rfl) (Nat.le_of_ble_eq_true rfl) (lw_ret hx hb hr hlocks dL_law_913))
set_option maxHeartbeats 400000000 in
set_option maxRecDepth 100000 in
theorem lf_binary_tolo {p : Program} {e : Env} {s : State} {m : MethodId} {below : List Frame} {meth : Method} {c : Code} (l : Launch) (hl9 : l.stackTraces = false) (D : va_G) (cT : Nat → ClassId) (aK aV : Nat → Nat) {A : Nat → Prop} {b : Nat} {xs : Nat → Int32} (C : xLw p s m meth c b D cT aK aV A) {H : Heap} {locs : List Loc} {ls : Array Slot} (a0 : Nat) (a1 : Nat) (a2 : Nat) (v3 : Value) (v4 : Value) (v5 : Value) (v6 : Value) (v7 : Value) (v8 : Value) (v9 : Value) (v10 : Value) (v11 : Value) (v12 : Value) (v13 : Value) (v14 : Value) (v15 : Value) (v16 : Value) (v17 : Value) (v18 : Value) (v19 : Value) (v20 : Value) (v21 : Value) (v22 : Value) (v23 : Value) (v24 : Value) (v25 : Value) (v26 : Value) (v27 : Value) (v28 : Value) (v29 : Value) (v30 : Value) (v31 : Value) (v32 : Value) (v33 : Value) (v34 : Value) (v35 : Value) (v36 : Value) (v37 : Value) (v38 : Value) (v39 : Value) (v40 : Value) (v41 : Value) (v42 : Value) (f43 : Nat → Int64) (hto1 : (xs 1) < 0) (hXs : va_X b 6 xs s s.heap) (hP : va_P D xcl [(a0, .inr (0, [v3, v4, v5, v6, v7, v8, v9, v10])), (a1, .inr (5, [v11, v12, v13, v14, v15, v16, v17, v18, v19, v20, v21, v22, v23, v24, v25, v26, v27, v28, v29, v30, v31, v32, v33, v34, v35, v36, v37, v38, v39, v40, v41, v42])), (a2, .inl (cT 2, 1, .inr (.inl f43)))] H) (hD : va_D A [(a0, .inr (0, [v3, v4, v5, v6, v7, v8, v9, v10])), (a1, .inr (5, [v11, v12, v13, v14, v15, v16, v17, v18, v19, v20, v21, v22, v23, v24, v25, v26, v27, v28, v29, v30, v31, v32, v33, v34, v35, v36, v37, v38, v39, v40, v41, v42])), (a2, .inl (cT 2, 1, .inr (.inl f43)))]) (hS : va_S A s.heap H locs) (hl : lv_has ls 8 [(4, .int 0), (3, .ref a2), (2, .ref a1), (1, .ref a0), (0, .ref b)]) : W p l e room_1 s m #[Value.ref b] below meth c H locs 54 107242 (lw_Z below #[Value.ref b] s) (F0 m 376 ls []) := by
  obtain ⟨hx, hb, hr, hml, hown, htx, hbl, hbA, hlocks, hK, hZ, hA, hA2⟩ := C
  refine lv_aload_n hx hb dL_law_376 rfl (lv_at hl 3 rfl) ?_
  refine lv_aload_n hx hb dL_law_377 rfl (lv_at hl 4 rfl) ?_
  refine lv_iload hx hb dL_law_378 (lv_at hl 0 rfl) ?_
  refine lv_iconst (v := 1) hx hb dL_law_380 (by decide) ?_
  refine lv_iadd hx hb dL_law_381 ?_
  refine W.eq (g2 := F0 m 382 ls [.int 1, .ref b, .ref a0]) rfl ?_
  refine va_sld hx hb hXs hbl hbA hS (i := 1) (show ¬ ((1 : Int32) < 0 ∨ 6 ≤ (1 : Int32).toNatClampNeg) by decide) dL_law_382 ?_
  refine W.eq (g2 := F0 m 383 ls [.int (xs 1), .ref a0]) rfl ?_
  refine lv_aload_n hx hb dL_law_383 rfl (lv_at hl 4 rfl) ?_
  refine lv_iload hx hb dL_law_384 (lv_at hl 0 rfl) ?_
  refine lv_iconst (v := 2) hx hb dL_law_386 (by decide) ?_
  refine lv_iadd hx hb dL_law_387 ?_
  refine W.eq (g2 := F0 m 388 ls [.int 2, .ref b, .int (xs 1), .ref a0]) rfl ?_
  refine va_sld hx hb hXs hbl hbA hS (i := 2) (show ¬ ((2 : Int32) < 0 ∨ 6 ≤ (2 : Int32).toNatClampNeg) by decide) dL_law_388 ?_
  refine W.eq (g2 := F0 m 389 ls [.int (xs 2), .int (xs 1), .ref a0]) rfl ?_
  refine lv_aload_n hx hb dL_law_389 rfl (lv_at hl 4 rfl) ?_
  refine lv_iload hx hb dL_law_390 (lv_at hl 0 rfl) ?_
  refine lv_iconst (v := 3) hx hb dL_law_392 (by decide) ?_
  refine lv_iadd hx hb dL_law_393 ?_
  refine W.eq (g2 := F0 m 394 ls [.int 3, .ref b, .int (xs 2), .int (xs 1), .ref a0]) rfl ?_
  refine va_sld hx hb hXs hbl hbA hS (i := 3) (show ¬ ((3 : Int32) < 0 ∨ 6 ≤ (3 : Int32).toNatClampNeg) by decide) dL_law_394 ?_
  refine W.eq (g2 := F0 m 395 ls [.int (xs 3), .int (xs 2), .int (xs 1), .ref a0]) rfl ?_
  refine lv_aload_n hx hb dL_law_395 rfl (lv_at hl 4 rfl) ?_
  refine lv_iload hx hb dL_law_396 (lv_at hl 0 rfl) ?_
  refine lv_iconst (v := 4) hx hb dL_law_398 (by decide) ?_
  refine lv_iadd hx hb dL_law_399 ?_
  refine W.eq (g2 := F0 m 400 ls [.int 4, .ref b, .int (xs 3), .int (xs 2), .int (xs 1), .ref a0]) rfl ?_
  refine va_sld hx hb hXs hbl hbA hS (i := 4) (show ¬ ((4 : Int32) < 0 ∨ 6 ≤ (4 : Int32).toNatClampNeg) by decide) dL_law_400 ?_
  refine W.eq (g2 := F0 m 401 ls [.int (xs 4), .int (xs 3), .int (xs 2), .int (xs 1), .ref a0]) rfl ?_
  obtain ⟨hPc, hDc, hFc⟩ := xcut (wc := [(a0, .inr (0, [v3, v4, v5, v6, v7, v8, v9, v10]))]) hP hD hS hA [0] rfl rfl (by decide)
  refine va_calli (vx_runSW (As := [.ref a0, .int (xs 1), .int (xs 2), .int (xs 3), .int (xs 4)]) (rest := []) ⟨hx, hb, hml, hown, htx⟩ (cL_binary_0 l hl9 D cT aK aV H.size a0 (xs 1) (xs 2) (xs 3) (xs 4) v3 v4 v5 v6 v7 v8 v9 v10 hto1) (xcSW 5 htx (xw_goodC kw_3_97) rfl rfl rfl (htx _ kw_1_0) (htx _ kw_3_95) ⟨by decide, by decide, by decide +kernel⟩ ⟨Nat.le_of_ble_eq_true rfl, Nat.le_of_ble_eq_true rfl⟩ (htx _ kw_3_96)) ⟨xPre_blind, (fun U hU hW => ⟨rfl, xPre_of hZ hS hFc hPc hDc hK U hU hW⟩)⟩ rfl rfl hl.1 rfl (lv_room (Nat.le_of_ble_eq_true rfl)) dL_law_401 ⟨Nat.le_of_ble_eq_true rfl, Nat.le_of_ble_eq_true rfl⟩) hS (fun q _ h => hFc q h) hFc (fun r1 u9 t H1 locs ht hvm hr9 hB hz1 hk1 hS => ?_)
  obtain ⟨hP1, hK1, hD1⟩ := hB
  rw [ht] at hP1
  obtain ⟨hP, hD⟩ := xjoin (W := [(a1, .inr (5, [v11, v12, v13, v14, v15, v16, v17, v18, v19, v20, v21, v22, v23, v24, v25, v26, v27, v28, v29, v30, v31, v32, v33, v34, v35, v36, v37, v38, v39, v40, v41, v42])), (a2, .inl (cT 2, 1, .inr (.inl f43))), (a0, .inr (0, [v3, v4, v5, v6, v7, v8, v9, v10]))]) hP hD [0] [1, 2] 2 rfl rfl (by decide) (by decide) hk1 hFc hP1 hD1
  generalize H1 = H at hP hS ⊢
  rw [hr9]
  refine W.eq (g2 := F0 m 404 ls [.int 1]) rfl ?_
  refine lv_istore (lv' := [(5, .int 1), (4, .int 0), (3, .ref a2), (2, .ref a1), (1, .ref a0), (0, .ref b)]) hx hb dL_law_404 hl (by decide) rfl (fun ls hl => ?_)
  refine lv_aload_n hx hb dL_law_406 rfl (lv_at hl 3 rfl) ?_
  refine lv_aload_n hx hb dL_law_407 rfl (lv_at hl 5 rfl) ?_
  refine lv_iload hx hb dL_law_408 (lv_at hl 1 rfl) ?_
  refine lv_iconst (v := 1) hx hb dL_law_410 (by decide) ?_
  refine lv_iadd hx hb dL_law_411 ?_
  refine W.eq (g2 := F0 m 412 ls [.int 1, .ref b, .ref a1]) rfl ?_
  refine va_sld hx hb hXs hbl hbA hS (i := 1) (show ¬ ((1 : Int32) < 0 ∨ 6 ≤ (1 : Int32).toNatClampNeg) by decide) dL_law_412 ?_
  refine W.eq (g2 := F0 m 413 ls [.int (xs 1), .ref a1]) rfl ?_
  refine lv_aload_n hx hb dL_law_413 rfl (lv_at hl 5 rfl) ?_
  refine lv_iload hx hb dL_law_414 (lv_at hl 1 rfl) ?_
  refine lv_iconst (v := 2) hx hb dL_law_416 (by decide) ?_
  refine lv_iadd hx hb dL_law_417 ?_
  refine W.eq (g2 := F0 m 418 ls [.int 2, .ref b, .int (xs 1), .ref a1]) rfl ?_
  refine va_sld hx hb hXs hbl hbA hS (i := 2) (show ¬ ((2 : Int32) < 0 ∨ 6 ≤ (2 : Int32).toNatClampNeg) by decide) dL_law_418 ?_
  refine W.eq (g2 := F0 m 419 ls [.int (xs 2), .int (xs 1), .ref a1]) rfl ?_
  refine lv_aload_n hx hb dL_law_419 rfl (lv_at hl 5 rfl) ?_
  refine lv_iload hx hb dL_law_420 (lv_at hl 1 rfl) ?_
  refine lv_iconst (v := 3) hx hb dL_law_422 (by decide) ?_
  refine lv_iadd hx hb dL_law_423 ?_
  refine W.eq (g2 := F0 m 424 ls [.int 3, .ref b, .int (xs 2), .int (xs 1), .ref a1]) rfl ?_
  refine va_sld hx hb hXs hbl hbA hS (i := 3) (show ¬ ((3 : Int32) < 0 ∨ 6 ≤ (3 : Int32).toNatClampNeg) by decide) dL_law_424 ?_
  refine W.eq (g2 := F0 m 425 ls [.int (xs 3), .int (xs 2), .int (xs 1), .ref a1]) rfl ?_
  refine lv_aload_n hx hb dL_law_425 rfl (lv_at hl 5 rfl) ?_
  refine lv_iload hx hb dL_law_426 (lv_at hl 1 rfl) ?_
  refine lv_iconst (v := 4) hx hb dL_law_428 (by decide) ?_
  refine lv_iadd hx hb dL_law_429 ?_
  refine W.eq (g2 := F0 m 430 ls [.int 4, .ref b, .int (xs 3), .int (xs 2), .int (xs 1), .ref a1]) rfl ?_
  refine va_sld hx hb hXs hbl hbA hS (i := 4) (show ¬ ((4 : Int32) < 0 ∨ 6 ≤ (4 : Int32).toNatClampNeg) by decide) dL_law_430 ?_
  refine W.eq (g2 := F0 m 431 ls [.int (xs 4), .int (xs 3), .int (xs 2), .int (xs 1), .ref a1]) rfl ?_
  obtain ⟨hPc, hDc, hFc⟩ := xcut (wc := [(a1, .inr (5, [v11, v12, v13, v14, v15, v16, v17, v18, v19, v20, v21, v22, v23, v24, v25, v26, v27, v28, v29, v30, v31, v32, v33, v34, v35, v36, v37, v38, v39, v40, v41, v42]))]) hP hD hS hA [0] rfl rfl (by decide)
  refine va_callv (va_runV (C := "ValueBenchModel") (As := [.int (xs 1), .int (xs 2), .int (xs 3), .int (xs 4)]) (rest := []) ⟨hx, hb, hml, hown, htx⟩ (cM_binary0_0 l hl9 D cT aK aV H.size a1 (xs 1) (xs 2) (xs 3) (xs 4) v11 v12 v13 v14 v15 v16 v17 v18 v19 v20 v21 v22 v23 v24 v25 v26 v27 v28 v29 v30 v31 v32 v33 v34 v35 v36 v37 v38 v39 v40 v41 v42 hto1) ⟨callB_of 4 htx (xw_goodC kw_6_191) rfl rfl rfl (htx _ kw_1_5) (htx _ kw_6_188) ⟨by decide, by decide, by decide +kernel⟩ ⟨Nat.le_of_ble_eq_true rfl, Nat.le_of_ble_eq_true rfl⟩, (htx _ kw_6_189), (htx _ kw_6_190)⟩ ⟨xPre_blind, va_recv hK hP (ci := 5) rfl (q0 := 0) rfl, (fun U hU hW => ⟨rfl, xPre_of hZ hS hFc hPc hDc hK U hU hW⟩)⟩ rfl rfl hl.1 rfl (lv_room (Nat.le_of_ble_eq_true rfl)) dL_law_431 ⟨Nat.le_of_ble_eq_true rfl, Nat.le_of_ble_eq_true rfl⟩) hS (fun q _ h => hFc q h) hFc (fun u9 t H1 locs ht hvm hr9 hB hz1 hk1 hS => ?_)
  obtain ⟨hP1, hK1, hD1⟩ := hB
  rw [ht] at hP1
  obtain ⟨hP, hD⟩ := xjoin (W := [(a2, .inl (cT 2, 1, .inr (.inl f43))), (a0, .inr (0, [v3, v4, v5, v6, v7, v8, v9, v10])), (a1, .inr (5, [.int 1, v12, .int 0, v14, .int 0, v16, v17, .int 0, v19, .int 0, v21, v22, .int 0, v24, v25, v26, v27, v28, v29, v30, v31, v32, .int 0, .int 1000000000, v35, v36, v37, v38, v39, v40, v41, v42]))]) hP hD [0] [1, 2] 2 rfl rfl (by decide) (by decide) hk1 hFc hP1 hD1
  generalize H1 = H at hP hS ⊢
  refine lv_aload_n hx hb dL_law_434 rfl (lv_at hl 3 rfl) ?_
  obtain ⟨hPc, hDc, hFc⟩ := xcut (wc := [(a1, .inr (5, [.int 1, v12, .int 0, v14, .int 0, v16, v17, .int 0, v19, .int 0, v21, v22, .int 0, v24, v25, v26, v27, v28, v29, v30, v31, v32, .int 0, .int 1000000000, v35, v36, v37, v38, v39, v40, v41, v42]))]) hP hD hS hA [2] rfl rfl (by decide)
  refine va_calli (va_runV (C := "ValueBenchModel") (As := []) (rest := []) ⟨hx, hb, hml, hown, htx⟩ (cM_thrown_1 l hl9 D cT aK aV H.size a1 v12 (.int 0) v14 (.int 0) v16 v17 (.int 0) v19 (.int 0) v21 v22 (.int 0) v24 v25 v26 v27 v28 v29 v30 v31 v32 (.int 0) (.int 1000000000) v35 v36 v37 v38 v39 v40 v41 v42) ⟨callB_of 0 htx (xw_goodC kw_5_187) rfl rfl rfl (htx _ kw_1_5) (htx _ kw_5_184) ⟨by decide, by decide, by decide +kernel⟩ ⟨Nat.le_of_ble_eq_true rfl, Nat.le_of_ble_eq_true rfl⟩, (htx _ kw_5_185), (htx _ kw_5_186)⟩ ⟨xPre_blind, va_recv hK hP (ci := 5) rfl (q0 := 2) rfl, (fun U hU hW => ⟨rfl, xPre_of hZ hS hFc hPc hDc hK U hU hW⟩)⟩ rfl rfl hl.1 rfl (lv_room (Nat.le_of_ble_eq_true rfl)) dL_law_435 ⟨Nat.le_of_ble_eq_true rfl, Nat.le_of_ble_eq_true rfl⟩) hS (fun q _ h => hFc q h) hFc (fun r2 u9 t H1 locs ht hvm hr9 hB hz1 hk1 hS => ?_)
  obtain ⟨hP1, hK1, hD1⟩ := hB
  rw [ht] at hP1
  obtain ⟨hP, hD⟩ := xjoin (W := [(a2, .inl (cT 2, 1, .inr (.inl f43))), (a0, .inr (0, [v3, v4, v5, v6, v7, v8, v9, v10])), (a1, .inr (5, [.int 1, v12, .int 0, v14, .int 0, v16, v17, .int 0, v19, .int 0, v21, v22, .int 0, v24, v25, v26, v27, v28, v29, v30, v31, v32, .int 0, .int 1000000000, v35, v36, v37, v38, v39, v40, v41, v42]))]) hP hD [2] [0, 1] 2 rfl rfl (by decide) (by decide) hk1 hFc hP1 hD1
  generalize H1 = H at hP hS ⊢
  rw [hr9]
  refine W.eq (g2 := F0 m 438 ls [.int 1]) rfl ?_
  refine lv_iload hx hb dL_law_438 (lv_at hl 0 rfl) ?_
  refine lv_icmp_eq (tgt := 445) hx hb dL_law_440 (by decide) (fun _ => ?_) (fun h => ((by revert h; decide : False)).elim)
  refine lv_goto (tgt := 906) hx hb dL_law_445 (by decide) ?_
  refine lv_iinc (v := 6) (lv' := [(4, .int 6), (5, .int 1), (3, .ref a2), (2, .ref a1), (1, .ref a0), (0, .ref b)]) hx hb dL_law_906 hl (k := 1) rfl (by decide) (by decide) rfl (fun ls hl => ?_)
  refine lv_goto (tgt := 23) hx hb dL_law_909 (by decide) ?_
  refine lv_iload hx hb dL_law_23 (lv_at hl 0 rfl) ?_
  refine lv_aload_n hx hb dL_law_25 rfl (lv_at hl 5 rfl) ?_
  refine va_slen hx hb hXs hbl hbA hS dL_law_26 ?_
  refine W.eq (g2 := F0 m 27 ls [.int 6, .int 6]) rfl ?_
  refine lv_bipush (v := 6) hx hb dL_law_27 (by decide) ?_
  refine lv_isub hx hb dL_law_29 ?_
  refine W.eq (g2 := F0 m 30 ls [.int 0, .int 6]) rfl ?_
  refine lv_icmp_gt (tgt := 912) hx hb dL_law_30 (by decide) (fun _ => ?_) (fun h => ((by revert h; decide : False)).elim)
  refine lv_iconst (v := 1) hx hb dL_law_912 (by decide) ?_
  exact va_forget (fun q h => hA2 _ (hS.2.2 q h)) (W.widen (k := 600002) (n := 7302232) (Nat.le_of_ble_eq_true rfl) (Nat.le_of_ble_eq_true rfl) (lw_ret hx hb hr hlocks dL_law_913))
set_option maxHeartbeats 400000000 in
set_option maxRecDepth 100000 in
theorem lf_binary_tohi {p : Program} {e : Env} {s : State} {m : MethodId} {below : List Frame} {meth : Method} {c : Code} (l : Launch) (hl9 : l.stackTraces = false) (D : va_G) (cT : Nat → ClassId) (aK aV : Nat → Nat) {A : Nat → Prop} {b : Nat} {xs : Nat → Int32} (C : xLw p s m meth c b D cT aK aV A) {H : Heap} {locs : List Loc} {ls : Array Slot} (a0 : Nat) (a1 : Nat) (a2 : Nat) (v3 : Value) (v4 : Value) (v5 : Value) (v6 : Value) (v7 : Value) (v8 : Value) (v9 : Value) (v10 : Value) (v11 : Value) (v12 : Value) (v13 : Value) (v14 : Value) (v15 : Value) (v16 : Value) (v17 : Value) (v18 : Value) (v19 : Value) (v20 : Value) (v21 : Value) (v22 : Value) (v23 : Value) (v24 : Value) (v25 : Value) (v26 : Value) (v27 : Value) (v28 : Value) (v29 : Value) (v30 : Value) (v31 : Value) (v32 : Value) (v33 : Value) (v34 : Value) (v35 : Value) (v36 : Value) (v37 : Value) (v38 : Value) (v39 : Value) (v40 : Value) (v41 : Value) (v42 : Value) (f43 : Nat → Int64) (hto1 : ¬ (xs 1) < 0) (hto2 : 7 < (xs 1)) (hto3 : ¬ (xs 1) ≤ 7) (hXs : va_X b 6 xs s s.heap) (hP : va_P D xcl [(a0, .inr (0, [v3, v4, v5, v6, v7, v8, v9, v10])), (a1, .inr (5, [v11, v12, v13, v14, v15, v16, v17, v18, v19, v20, v21, v22, v23, v24, v25, v26, v27, v28, v29, v30, v31, v32, v33, v34, v35, v36, v37, v38, v39, v40, v41, v42])), (a2, .inl (cT 2, 1, .inr (.inl f43)))] H) (hD : va_D A [(a0, .inr (0, [v3, v4, v5, v6, v7, v8, v9, v10])), (a1, .inr (5, [v11, v12, v13, v14, v15, v16, v17, v18, v19, v20, v21, v22, v23, v24, v25, v26, v27, v28, v29, v30, v31, v32, v33, v34, v35, v36, v37, v38, v39, v40, v41, v42])), (a2, .inl (cT 2, 1, .inr (.inl f43)))]) (hS : va_S A s.heap H locs) (hl : lv_has ls 8 [(4, .int 0), (3, .ref a2), (2, .ref a1), (1, .ref a0), (0, .ref b)]) : W p l e room_1 s m #[Value.ref b] below meth c H locs 54 107242 (lw_Z below #[Value.ref b] s) (F0 m 376 ls []) := by
  obtain ⟨hx, hb, hr, hml, hown, htx, hbl, hbA, hlocks, hK, hZ, hA, hA2⟩ := C
  refine lv_aload_n hx hb dL_law_376 rfl (lv_at hl 3 rfl) ?_
  refine lv_aload_n hx hb dL_law_377 rfl (lv_at hl 4 rfl) ?_
  refine lv_iload hx hb dL_law_378 (lv_at hl 0 rfl) ?_
  refine lv_iconst (v := 1) hx hb dL_law_380 (by decide) ?_
  refine lv_iadd hx hb dL_law_381 ?_
  refine W.eq (g2 := F0 m 382 ls [.int 1, .ref b, .ref a0]) rfl ?_
  refine va_sld hx hb hXs hbl hbA hS (i := 1) (show ¬ ((1 : Int32) < 0 ∨ 6 ≤ (1 : Int32).toNatClampNeg) by decide) dL_law_382 ?_
  refine W.eq (g2 := F0 m 383 ls [.int (xs 1), .ref a0]) rfl ?_
  refine lv_aload_n hx hb dL_law_383 rfl (lv_at hl 4 rfl) ?_
  refine lv_iload hx hb dL_law_384 (lv_at hl 0 rfl) ?_
  refine lv_iconst (v := 2) hx hb dL_law_386 (by decide) ?_
  refine lv_iadd hx hb dL_law_387 ?_
  refine W.eq (g2 := F0 m 388 ls [.int 2, .ref b, .int (xs 1), .ref a0]) rfl ?_
  refine va_sld hx hb hXs hbl hbA hS (i := 2) (show ¬ ((2 : Int32) < 0 ∨ 6 ≤ (2 : Int32).toNatClampNeg) by decide) dL_law_388 ?_
  refine W.eq (g2 := F0 m 389 ls [.int (xs 2), .int (xs 1), .ref a0]) rfl ?_
  refine lv_aload_n hx hb dL_law_389 rfl (lv_at hl 4 rfl) ?_
  refine lv_iload hx hb dL_law_390 (lv_at hl 0 rfl) ?_
  refine lv_iconst (v := 3) hx hb dL_law_392 (by decide) ?_
  refine lv_iadd hx hb dL_law_393 ?_
  refine W.eq (g2 := F0 m 394 ls [.int 3, .ref b, .int (xs 2), .int (xs 1), .ref a0]) rfl ?_
  refine va_sld hx hb hXs hbl hbA hS (i := 3) (show ¬ ((3 : Int32) < 0 ∨ 6 ≤ (3 : Int32).toNatClampNeg) by decide) dL_law_394 ?_
  refine W.eq (g2 := F0 m 395 ls [.int (xs 3), .int (xs 2), .int (xs 1), .ref a0]) rfl ?_
  refine lv_aload_n hx hb dL_law_395 rfl (lv_at hl 4 rfl) ?_
  refine lv_iload hx hb dL_law_396 (lv_at hl 0 rfl) ?_
  refine lv_iconst (v := 4) hx hb dL_law_398 (by decide) ?_
  refine lv_iadd hx hb dL_law_399 ?_
  refine W.eq (g2 := F0 m 400 ls [.int 4, .ref b, .int (xs 3), .int (xs 2), .int (xs 1), .ref a0]) rfl ?_
  refine va_sld hx hb hXs hbl hbA hS (i := 4) (show ¬ ((4 : Int32) < 0 ∨ 6 ≤ (4 : Int32).toNatClampNeg) by decide) dL_law_400 ?_
  refine W.eq (g2 := F0 m 401 ls [.int (xs 4), .int (xs 3), .int (xs 2), .int (xs 1), .ref a0]) rfl ?_
  obtain ⟨hPc, hDc, hFc⟩ := xcut (wc := [(a0, .inr (0, [v3, v4, v5, v6, v7, v8, v9, v10]))]) hP hD hS hA [0] rfl rfl (by decide)
  refine va_calli (vx_runSW (As := [.ref a0, .int (xs 1), .int (xs 2), .int (xs 3), .int (xs 4)]) (rest := []) ⟨hx, hb, hml, hown, htx⟩ (cL_binary_1 l hl9 D cT aK aV H.size a0 (xs 1) (xs 2) (xs 3) (xs 4) v3 v4 v5 v6 v7 v8 v9 v10 hto1 hto2 hto3) (xcSW 5 htx (xw_goodC kw_3_97) rfl rfl rfl (htx _ kw_1_0) (htx _ kw_3_95) ⟨by decide, by decide, by decide +kernel⟩ ⟨Nat.le_of_ble_eq_true rfl, Nat.le_of_ble_eq_true rfl⟩ (htx _ kw_3_96)) ⟨xPre_blind, (fun U hU hW => ⟨rfl, xPre_of hZ hS hFc hPc hDc hK U hU hW⟩)⟩ rfl rfl hl.1 rfl (lv_room (Nat.le_of_ble_eq_true rfl)) dL_law_401 ⟨Nat.le_of_ble_eq_true rfl, Nat.le_of_ble_eq_true rfl⟩) hS (fun q _ h => hFc q h) hFc (fun r1 u9 t H1 locs ht hvm hr9 hB hz1 hk1 hS => ?_)
  obtain ⟨hP1, hK1, hD1⟩ := hB
  rw [ht] at hP1
  obtain ⟨hP, hD⟩ := xjoin (W := [(a1, .inr (5, [v11, v12, v13, v14, v15, v16, v17, v18, v19, v20, v21, v22, v23, v24, v25, v26, v27, v28, v29, v30, v31, v32, v33, v34, v35, v36, v37, v38, v39, v40, v41, v42])), (a2, .inl (cT 2, 1, .inr (.inl f43))), (a0, .inr (0, [v3, v4, v5, v6, v7, v8, v9, v10]))]) hP hD [0] [1, 2] 2 rfl rfl (by decide) (by decide) hk1 hFc hP1 hD1
  generalize H1 = H at hP hS ⊢
  rw [hr9]
  refine W.eq (g2 := F0 m 404 ls [.int 1]) rfl ?_
  refine lv_istore (lv' := [(5, .int 1), (4, .int 0), (3, .ref a2), (2, .ref a1), (1, .ref a0), (0, .ref b)]) hx hb dL_law_404 hl (by decide) rfl (fun ls hl => ?_)
  refine lv_aload_n hx hb dL_law_406 rfl (lv_at hl 3 rfl) ?_
  refine lv_aload_n hx hb dL_law_407 rfl (lv_at hl 5 rfl) ?_
  refine lv_iload hx hb dL_law_408 (lv_at hl 1 rfl) ?_
  refine lv_iconst (v := 1) hx hb dL_law_410 (by decide) ?_
  refine lv_iadd hx hb dL_law_411 ?_
  refine W.eq (g2 := F0 m 412 ls [.int 1, .ref b, .ref a1]) rfl ?_
  refine va_sld hx hb hXs hbl hbA hS (i := 1) (show ¬ ((1 : Int32) < 0 ∨ 6 ≤ (1 : Int32).toNatClampNeg) by decide) dL_law_412 ?_
  refine W.eq (g2 := F0 m 413 ls [.int (xs 1), .ref a1]) rfl ?_
  refine lv_aload_n hx hb dL_law_413 rfl (lv_at hl 5 rfl) ?_
  refine lv_iload hx hb dL_law_414 (lv_at hl 1 rfl) ?_
  refine lv_iconst (v := 2) hx hb dL_law_416 (by decide) ?_
  refine lv_iadd hx hb dL_law_417 ?_
  refine W.eq (g2 := F0 m 418 ls [.int 2, .ref b, .int (xs 1), .ref a1]) rfl ?_
  refine va_sld hx hb hXs hbl hbA hS (i := 2) (show ¬ ((2 : Int32) < 0 ∨ 6 ≤ (2 : Int32).toNatClampNeg) by decide) dL_law_418 ?_
  refine W.eq (g2 := F0 m 419 ls [.int (xs 2), .int (xs 1), .ref a1]) rfl ?_
  refine lv_aload_n hx hb dL_law_419 rfl (lv_at hl 5 rfl) ?_
  refine lv_iload hx hb dL_law_420 (lv_at hl 1 rfl) ?_
  refine lv_iconst (v := 3) hx hb dL_law_422 (by decide) ?_
  refine lv_iadd hx hb dL_law_423 ?_
  refine W.eq (g2 := F0 m 424 ls [.int 3, .ref b, .int (xs 2), .int (xs 1), .ref a1]) rfl ?_
  refine va_sld hx hb hXs hbl hbA hS (i := 3) (show ¬ ((3 : Int32) < 0 ∨ 6 ≤ (3 : Int32).toNatClampNeg) by decide) dL_law_424 ?_
  refine W.eq (g2 := F0 m 425 ls [.int (xs 3), .int (xs 2), .int (xs 1), .ref a1]) rfl ?_
  refine lv_aload_n hx hb dL_law_425 rfl (lv_at hl 5 rfl) ?_
  refine lv_iload hx hb dL_law_426 (lv_at hl 1 rfl) ?_
  refine lv_iconst (v := 4) hx hb dL_law_428 (by decide) ?_
  refine lv_iadd hx hb dL_law_429 ?_
  refine W.eq (g2 := F0 m 430 ls [.int 4, .ref b, .int (xs 3), .int (xs 2), .int (xs 1), .ref a1]) rfl ?_
  refine va_sld hx hb hXs hbl hbA hS (i := 4) (show ¬ ((4 : Int32) < 0 ∨ 6 ≤ (4 : Int32).toNatClampNeg) by decide) dL_law_430 ?_
  refine W.eq (g2 := F0 m 431 ls [.int (xs 4), .int (xs 3), .int (xs 2), .int (xs 1), .ref a1]) rfl ?_
  obtain ⟨hPc, hDc, hFc⟩ := xcut (wc := [(a1, .inr (5, [v11, v12, v13, v14, v15, v16, v17, v18, v19, v20, v21, v22, v23, v24, v25, v26, v27, v28, v29, v30, v31, v32, v33, v34, v35, v36, v37, v38, v39, v40, v41, v42]))]) hP hD hS hA [0] rfl rfl (by decide)
  refine va_callv (va_runV (C := "ValueBenchModel") (As := [.int (xs 1), .int (xs 2), .int (xs 3), .int (xs 4)]) (rest := []) ⟨hx, hb, hml, hown, htx⟩ (cM_binary0_1 l hl9 D cT aK aV H.size a1 (xs 1) (xs 2) (xs 3) (xs 4) v11 v12 v13 v14 v15 v16 v17 v18 v19 v20 v21 v22 v23 v24 v25 v26 v27 v28 v29 v30 v31 v32 v33 v34 v35 v36 v37 v38 v39 v40 v41 v42 hto1 hto2 hto3) ⟨callB_of 4 htx (xw_goodC kw_6_191) rfl rfl rfl (htx _ kw_1_5) (htx _ kw_6_188) ⟨by decide, by decide, by decide +kernel⟩ ⟨Nat.le_of_ble_eq_true rfl, Nat.le_of_ble_eq_true rfl⟩, (htx _ kw_6_189), (htx _ kw_6_190)⟩ ⟨xPre_blind, va_recv hK hP (ci := 5) rfl (q0 := 0) rfl, (fun U hU hW => ⟨rfl, xPre_of hZ hS hFc hPc hDc hK U hU hW⟩)⟩ rfl rfl hl.1 rfl (lv_room (Nat.le_of_ble_eq_true rfl)) dL_law_431 ⟨Nat.le_of_ble_eq_true rfl, Nat.le_of_ble_eq_true rfl⟩) hS (fun q _ h => hFc q h) hFc (fun u9 t H1 locs ht hvm hr9 hB hz1 hk1 hS => ?_)
  obtain ⟨hP1, hK1, hD1⟩ := hB
  rw [ht] at hP1
  obtain ⟨hP, hD⟩ := xjoin (W := [(a2, .inl (cT 2, 1, .inr (.inl f43))), (a0, .inr (0, [v3, v4, v5, v6, v7, v8, v9, v10])), (a1, .inr (5, [.int 1, v12, .int 0, v14, .int 0, v16, v17, .int 0, v19, .int 0, v21, v22, .int 0, v24, v25, v26, v27, v28, v29, v30, v31, v32, .int 0, .int 1000000000, v35, v36, v37, v38, v39, v40, v41, v42]))]) hP hD [0] [1, 2] 2 rfl rfl (by decide) (by decide) hk1 hFc hP1 hD1
  generalize H1 = H at hP hS ⊢
  refine lv_aload_n hx hb dL_law_434 rfl (lv_at hl 3 rfl) ?_
  obtain ⟨hPc, hDc, hFc⟩ := xcut (wc := [(a1, .inr (5, [.int 1, v12, .int 0, v14, .int 0, v16, v17, .int 0, v19, .int 0, v21, v22, .int 0, v24, v25, v26, v27, v28, v29, v30, v31, v32, .int 0, .int 1000000000, v35, v36, v37, v38, v39, v40, v41, v42]))]) hP hD hS hA [2] rfl rfl (by decide)
  refine va_calli (va_runV (C := "ValueBenchModel") (As := []) (rest := []) ⟨hx, hb, hml, hown, htx⟩ (cM_thrown_1 l hl9 D cT aK aV H.size a1 v12 (.int 0) v14 (.int 0) v16 v17 (.int 0) v19 (.int 0) v21 v22 (.int 0) v24 v25 v26 v27 v28 v29 v30 v31 v32 (.int 0) (.int 1000000000) v35 v36 v37 v38 v39 v40 v41 v42) ⟨callB_of 0 htx (xw_goodC kw_5_187) rfl rfl rfl (htx _ kw_1_5) (htx _ kw_5_184) ⟨by decide, by decide, by decide +kernel⟩ ⟨Nat.le_of_ble_eq_true rfl, Nat.le_of_ble_eq_true rfl⟩, (htx _ kw_5_185), (htx _ kw_5_186)⟩ ⟨xPre_blind, va_recv hK hP (ci := 5) rfl (q0 := 2) rfl, (fun U hU hW => ⟨rfl, xPre_of hZ hS hFc hPc hDc hK U hU hW⟩)⟩ rfl rfl hl.1 rfl (lv_room (Nat.le_of_ble_eq_true rfl)) dL_law_435 ⟨Nat.le_of_ble_eq_true rfl, Nat.le_of_ble_eq_true rfl⟩) hS (fun q _ h => hFc q h) hFc (fun r2 u9 t H1 locs ht hvm hr9 hB hz1 hk1 hS => ?_)
  obtain ⟨hP1, hK1, hD1⟩ := hB
  rw [ht] at hP1
  obtain ⟨hP, hD⟩ := xjoin (W := [(a2, .inl (cT 2, 1, .inr (.inl f43))), (a0, .inr (0, [v3, v4, v5, v6, v7, v8, v9, v10])), (a1, .inr (5, [.int 1, v12, .int 0, v14, .int 0, v16, v17, .int 0, v19, .int 0, v21, v22, .int 0, v24, v25, v26, v27, v28, v29, v30, v31, v32, .int 0, .int 1000000000, v35, v36, v37, v38, v39, v40, v41, v42]))]) hP hD [2] [0, 1] 2 rfl rfl (by decide) (by decide) hk1 hFc hP1 hD1
  generalize H1 = H at hP hS ⊢
  rw [hr9]
  refine W.eq (g2 := F0 m 438 ls [.int 1]) rfl ?_
  refine lv_iload hx hb dL_law_438 (lv_at hl 0 rfl) ?_
  refine lv_icmp_eq (tgt := 445) hx hb dL_law_440 (by decide) (fun _ => ?_) (fun h => ((by revert h; decide : False)).elim)
  refine lv_goto (tgt := 906) hx hb dL_law_445 (by decide) ?_
  refine lv_iinc (v := 6) (lv' := [(4, .int 6), (5, .int 1), (3, .ref a2), (2, .ref a1), (1, .ref a0), (0, .ref b)]) hx hb dL_law_906 hl (k := 1) rfl (by decide) (by decide) rfl (fun ls hl => ?_)
  refine lv_goto (tgt := 23) hx hb dL_law_909 (by decide) ?_
  refine lv_iload hx hb dL_law_23 (lv_at hl 0 rfl) ?_
  refine lv_aload_n hx hb dL_law_25 rfl (lv_at hl 5 rfl) ?_
  refine va_slen hx hb hXs hbl hbA hS dL_law_26 ?_
  refine W.eq (g2 := F0 m 27 ls [.int 6, .int 6]) rfl ?_
  refine lv_bipush (v := 6) hx hb dL_law_27 (by decide) ?_
  refine lv_isub hx hb dL_law_29 ?_
  refine W.eq (g2 := F0 m 30 ls [.int 0, .int 6]) rfl ?_
  refine lv_icmp_gt (tgt := 912) hx hb dL_law_30 (by decide) (fun _ => ?_) (fun h => ((by revert h; decide : False)).elim)
  refine lv_iconst (v := 1) hx hb dL_law_912 (by decide) ?_
  exact va_forget (fun q h => hA2 _ (hS.2.2 q h)) (W.widen (k := 600002) (n := 7302232) (Nat.le_of_ble_eq_true rfl) (Nat.le_of_ble_eq_true rfl) (lw_ret hx hb hr hlocks dL_law_913))
set_option maxHeartbeats 400000000 in
set_option maxRecDepth 100000 in
theorem lf_binary_flo {p : Program} {e : Env} {s : State} {m : MethodId} {below : List Frame} {meth : Method} {c : Code} (l : Launch) (hl9 : l.stackTraces = false) (D : va_G) (cT : Nat → ClassId) (aK aV : Nat → Nat) {A : Nat → Prop} {b : Nat} {xs : Nat → Int32} (C : xLw p s m meth c b D cT aK aV A) {H : Heap} {locs : List Loc} {ls : Array Slot} (a0 : Nat) (a1 : Nat) (a2 : Nat) (v3 : Value) (v4 : Value) (v5 : Value) (v6 : Value) (v7 : Value) (v8 : Value) (v9 : Value) (v10 : Value) (v11 : Value) (v12 : Value) (v13 : Value) (v14 : Value) (v15 : Value) (v16 : Value) (v17 : Value) (v18 : Value) (v19 : Value) (v20 : Value) (v21 : Value) (v22 : Value) (v23 : Value) (v24 : Value) (v25 : Value) (v26 : Value) (v27 : Value) (v28 : Value) (v29 : Value) (v30 : Value) (v31 : Value) (v32 : Value) (v33 : Value) (v34 : Value) (v35 : Value) (v36 : Value) (v37 : Value) (v38 : Value) (v39 : Value) (v40 : Value) (v41 : Value) (v42 : Value) (f43 : Nat → Int64) (hto1 : ¬ (xs 1) < 0) (hto2 : ¬ 7 < (xs 1)) (hto3 : (xs 1) ≤ 7) (hto4 : vp_in (xs 1) 8) (hf1 : (xs 2) < 0) (hXs : va_X b 6 xs s s.heap) (hP : va_P D xcl [(a0, .inr (0, [v3, v4, v5, v6, v7, v8, v9, v10])), (a1, .inr (5, [v11, v12, v13, v14, v15, v16, v17, v18, v19, v20, v21, v22, v23, v24, v25, v26, v27, v28, v29, v30, v31, v32, v33, v34, v35, v36, v37, v38, v39, v40, v41, v42])), (a2, .inl (cT 2, 1, .inr (.inl f43)))] H) (hD : va_D A [(a0, .inr (0, [v3, v4, v5, v6, v7, v8, v9, v10])), (a1, .inr (5, [v11, v12, v13, v14, v15, v16, v17, v18, v19, v20, v21, v22, v23, v24, v25, v26, v27, v28, v29, v30, v31, v32, v33, v34, v35, v36, v37, v38, v39, v40, v41, v42])), (a2, .inl (cT 2, 1, .inr (.inl f43)))]) (hS : va_S A s.heap H locs) (hl : lv_has ls 8 [(4, .int 0), (3, .ref a2), (2, .ref a1), (1, .ref a0), (0, .ref b)]) : W p l e room_1 s m #[Value.ref b] below meth c H locs 54 107242 (lw_Z below #[Value.ref b] s) (F0 m 376 ls []) := by
  obtain ⟨hx, hb, hr, hml, hown, htx, hbl, hbA, hlocks, hK, hZ, hA, hA2⟩ := C
  refine lv_aload_n hx hb dL_law_376 rfl (lv_at hl 3 rfl) ?_
  refine lv_aload_n hx hb dL_law_377 rfl (lv_at hl 4 rfl) ?_
  refine lv_iload hx hb dL_law_378 (lv_at hl 0 rfl) ?_
  refine lv_iconst (v := 1) hx hb dL_law_380 (by decide) ?_
  refine lv_iadd hx hb dL_law_381 ?_
  refine W.eq (g2 := F0 m 382 ls [.int 1, .ref b, .ref a0]) rfl ?_
  refine va_sld hx hb hXs hbl hbA hS (i := 1) (show ¬ ((1 : Int32) < 0 ∨ 6 ≤ (1 : Int32).toNatClampNeg) by decide) dL_law_382 ?_
  refine W.eq (g2 := F0 m 383 ls [.int (xs 1), .ref a0]) rfl ?_
  refine lv_aload_n hx hb dL_law_383 rfl (lv_at hl 4 rfl) ?_
  refine lv_iload hx hb dL_law_384 (lv_at hl 0 rfl) ?_
  refine lv_iconst (v := 2) hx hb dL_law_386 (by decide) ?_
  refine lv_iadd hx hb dL_law_387 ?_
  refine W.eq (g2 := F0 m 388 ls [.int 2, .ref b, .int (xs 1), .ref a0]) rfl ?_
  refine va_sld hx hb hXs hbl hbA hS (i := 2) (show ¬ ((2 : Int32) < 0 ∨ 6 ≤ (2 : Int32).toNatClampNeg) by decide) dL_law_388 ?_
  refine W.eq (g2 := F0 m 389 ls [.int (xs 2), .int (xs 1), .ref a0]) rfl ?_
  refine lv_aload_n hx hb dL_law_389 rfl (lv_at hl 4 rfl) ?_
  refine lv_iload hx hb dL_law_390 (lv_at hl 0 rfl) ?_
  refine lv_iconst (v := 3) hx hb dL_law_392 (by decide) ?_
  refine lv_iadd hx hb dL_law_393 ?_
  refine W.eq (g2 := F0 m 394 ls [.int 3, .ref b, .int (xs 2), .int (xs 1), .ref a0]) rfl ?_
  refine va_sld hx hb hXs hbl hbA hS (i := 3) (show ¬ ((3 : Int32) < 0 ∨ 6 ≤ (3 : Int32).toNatClampNeg) by decide) dL_law_394 ?_
  refine W.eq (g2 := F0 m 395 ls [.int (xs 3), .int (xs 2), .int (xs 1), .ref a0]) rfl ?_
  refine lv_aload_n hx hb dL_law_395 rfl (lv_at hl 4 rfl) ?_
  refine lv_iload hx hb dL_law_396 (lv_at hl 0 rfl) ?_
  refine lv_iconst (v := 4) hx hb dL_law_398 (by decide) ?_
  refine lv_iadd hx hb dL_law_399 ?_
  refine W.eq (g2 := F0 m 400 ls [.int 4, .ref b, .int (xs 3), .int (xs 2), .int (xs 1), .ref a0]) rfl ?_
  refine va_sld hx hb hXs hbl hbA hS (i := 4) (show ¬ ((4 : Int32) < 0 ∨ 6 ≤ (4 : Int32).toNatClampNeg) by decide) dL_law_400 ?_
  refine W.eq (g2 := F0 m 401 ls [.int (xs 4), .int (xs 3), .int (xs 2), .int (xs 1), .ref a0]) rfl ?_
  obtain ⟨hPc, hDc, hFc⟩ := xcut (wc := [(a0, .inr (0, [v3, v4, v5, v6, v7, v8, v9, v10]))]) hP hD hS hA [0] rfl rfl (by decide)
  refine va_calli (vx_runSW (As := [.ref a0, .int (xs 1), .int (xs 2), .int (xs 3), .int (xs 4)]) (rest := []) ⟨hx, hb, hml, hown, htx⟩ (cL_binary_2 l hl9 D cT aK aV H.size a0 (xs 1) (xs 2) (xs 3) (xs 4) v3 v4 v5 v6 v7 v8 v9 v10 hto1 hto2 hto3 hto4 hf1) (xcSW 5 htx (xw_goodC kw_3_97) rfl rfl rfl (htx _ kw_1_0) (htx _ kw_3_95) ⟨by decide, by decide, by decide +kernel⟩ ⟨Nat.le_of_ble_eq_true rfl, Nat.le_of_ble_eq_true rfl⟩ (htx _ kw_3_96)) ⟨xPre_blind, (fun U hU hW => ⟨rfl, xPre_of hZ hS hFc hPc hDc hK U hU hW⟩)⟩ rfl rfl hl.1 rfl (lv_room (Nat.le_of_ble_eq_true rfl)) dL_law_401 ⟨Nat.le_of_ble_eq_true rfl, Nat.le_of_ble_eq_true rfl⟩) hS (fun q _ h => hFc q h) hFc (fun r1 u9 t H1 locs ht hvm hr9 hB hz1 hk1 hS => ?_)
  obtain ⟨hP1, hK1, hD1⟩ := hB
  rw [ht] at hP1
  obtain ⟨hP, hD⟩ := xjoin (W := [(a1, .inr (5, [v11, v12, v13, v14, v15, v16, v17, v18, v19, v20, v21, v22, v23, v24, v25, v26, v27, v28, v29, v30, v31, v32, v33, v34, v35, v36, v37, v38, v39, v40, v41, v42])), (a2, .inl (cT 2, 1, .inr (.inl f43))), (a0, .inr (0, [v3, v4, v5, v6, v7, v8, v9, v10]))]) hP hD [0] [1, 2] 2 rfl rfl (by decide) (by decide) hk1 hFc hP1 hD1
  generalize H1 = H at hP hS ⊢
  rw [hr9]
  refine W.eq (g2 := F0 m 404 ls [.int 1]) rfl ?_
  refine lv_istore (lv' := [(5, .int 1), (4, .int 0), (3, .ref a2), (2, .ref a1), (1, .ref a0), (0, .ref b)]) hx hb dL_law_404 hl (by decide) rfl (fun ls hl => ?_)
  refine lv_aload_n hx hb dL_law_406 rfl (lv_at hl 3 rfl) ?_
  refine lv_aload_n hx hb dL_law_407 rfl (lv_at hl 5 rfl) ?_
  refine lv_iload hx hb dL_law_408 (lv_at hl 1 rfl) ?_
  refine lv_iconst (v := 1) hx hb dL_law_410 (by decide) ?_
  refine lv_iadd hx hb dL_law_411 ?_
  refine W.eq (g2 := F0 m 412 ls [.int 1, .ref b, .ref a1]) rfl ?_
  refine va_sld hx hb hXs hbl hbA hS (i := 1) (show ¬ ((1 : Int32) < 0 ∨ 6 ≤ (1 : Int32).toNatClampNeg) by decide) dL_law_412 ?_
  refine W.eq (g2 := F0 m 413 ls [.int (xs 1), .ref a1]) rfl ?_
  refine lv_aload_n hx hb dL_law_413 rfl (lv_at hl 5 rfl) ?_
  refine lv_iload hx hb dL_law_414 (lv_at hl 1 rfl) ?_
  refine lv_iconst (v := 2) hx hb dL_law_416 (by decide) ?_
  refine lv_iadd hx hb dL_law_417 ?_
  refine W.eq (g2 := F0 m 418 ls [.int 2, .ref b, .int (xs 1), .ref a1]) rfl ?_
  refine va_sld hx hb hXs hbl hbA hS (i := 2) (show ¬ ((2 : Int32) < 0 ∨ 6 ≤ (2 : Int32).toNatClampNeg) by decide) dL_law_418 ?_
  refine W.eq (g2 := F0 m 419 ls [.int (xs 2), .int (xs 1), .ref a1]) rfl ?_
  refine lv_aload_n hx hb dL_law_419 rfl (lv_at hl 5 rfl) ?_
  refine lv_iload hx hb dL_law_420 (lv_at hl 1 rfl) ?_
  refine lv_iconst (v := 3) hx hb dL_law_422 (by decide) ?_
  refine lv_iadd hx hb dL_law_423 ?_
  refine W.eq (g2 := F0 m 424 ls [.int 3, .ref b, .int (xs 2), .int (xs 1), .ref a1]) rfl ?_
  refine va_sld hx hb hXs hbl hbA hS (i := 3) (show ¬ ((3 : Int32) < 0 ∨ 6 ≤ (3 : Int32).toNatClampNeg) by decide) dL_law_424 ?_
  refine W.eq (g2 := F0 m 425 ls [.int (xs 3), .int (xs 2), .int (xs 1), .ref a1]) rfl ?_
  refine lv_aload_n hx hb dL_law_425 rfl (lv_at hl 5 rfl) ?_
  refine lv_iload hx hb dL_law_426 (lv_at hl 1 rfl) ?_
  refine lv_iconst (v := 4) hx hb dL_law_428 (by decide) ?_
  refine lv_iadd hx hb dL_law_429 ?_
  refine W.eq (g2 := F0 m 430 ls [.int 4, .ref b, .int (xs 3), .int (xs 2), .int (xs 1), .ref a1]) rfl ?_
  refine va_sld hx hb hXs hbl hbA hS (i := 4) (show ¬ ((4 : Int32) < 0 ∨ 6 ≤ (4 : Int32).toNatClampNeg) by decide) dL_law_430 ?_
  refine W.eq (g2 := F0 m 431 ls [.int (xs 4), .int (xs 3), .int (xs 2), .int (xs 1), .ref a1]) rfl ?_
  obtain ⟨hPc, hDc, hFc⟩ := xcut (wc := [(a1, .inr (5, [v11, v12, v13, v14, v15, v16, v17, v18, v19, v20, v21, v22, v23, v24, v25, v26, v27, v28, v29, v30, v31, v32, v33, v34, v35, v36, v37, v38, v39, v40, v41, v42]))]) hP hD hS hA [0] rfl rfl (by decide)
  refine va_callv (va_runV (C := "ValueBenchModel") (As := [.int (xs 1), .int (xs 2), .int (xs 3), .int (xs 4)]) (rest := []) ⟨hx, hb, hml, hown, htx⟩ (cM_binary0_2 l hl9 D cT aK aV H.size a1 (xs 1) (xs 2) (xs 3) (xs 4) v11 v12 v13 v14 v15 v16 v17 v18 v19 v20 v21 v22 v23 v24 v25 v26 v27 v28 v29 v30 v31 v32 v33 v34 v35 v36 v37 v38 v39 v40 v41 v42 hto1 hto2 hto3 hto4 hf1) ⟨callB_of 4 htx (xw_goodC kw_6_191) rfl rfl rfl (htx _ kw_1_5) (htx _ kw_6_188) ⟨by decide, by decide, by decide +kernel⟩ ⟨Nat.le_of_ble_eq_true rfl, Nat.le_of_ble_eq_true rfl⟩, (htx _ kw_6_189), (htx _ kw_6_190)⟩ ⟨xPre_blind, va_recv hK hP (ci := 5) rfl (q0 := 0) rfl, (fun U hU hW => ⟨rfl, xPre_of hZ hS hFc hPc hDc hK U hU hW⟩)⟩ rfl rfl hl.1 rfl (lv_room (Nat.le_of_ble_eq_true rfl)) dL_law_431 ⟨Nat.le_of_ble_eq_true rfl, Nat.le_of_ble_eq_true rfl⟩) hS (fun q _ h => hFc q h) hFc (fun u9 t H1 locs ht hvm hr9 hB hz1 hk1 hS => ?_)
  obtain ⟨hP1, hK1, hD1⟩ := hB
  rw [ht] at hP1
  obtain ⟨hP, hD⟩ := xjoin (W := [(a2, .inl (cT 2, 1, .inr (.inl f43))), (a0, .inr (0, [v3, v4, v5, v6, v7, v8, v9, v10])), (a1, .inr (5, [.int 1, v12, .int 0, v14, .int 0, v16, v17, .int 0, v19, .int 0, v21, v22, .int 0, v24, v25, v26, v27, v28, v29, v30, v31, v32, .int 0, .int 1000000000, v35, v36, v37, v38, v39, v40, v41, v42]))]) hP hD [0] [1, 2] 2 rfl rfl (by decide) (by decide) hk1 hFc hP1 hD1
  generalize H1 = H at hP hS ⊢
  refine lv_aload_n hx hb dL_law_434 rfl (lv_at hl 3 rfl) ?_
  obtain ⟨hPc, hDc, hFc⟩ := xcut (wc := [(a1, .inr (5, [.int 1, v12, .int 0, v14, .int 0, v16, v17, .int 0, v19, .int 0, v21, v22, .int 0, v24, v25, v26, v27, v28, v29, v30, v31, v32, .int 0, .int 1000000000, v35, v36, v37, v38, v39, v40, v41, v42]))]) hP hD hS hA [2] rfl rfl (by decide)
  refine va_calli (va_runV (C := "ValueBenchModel") (As := []) (rest := []) ⟨hx, hb, hml, hown, htx⟩ (cM_thrown_1 l hl9 D cT aK aV H.size a1 v12 (.int 0) v14 (.int 0) v16 v17 (.int 0) v19 (.int 0) v21 v22 (.int 0) v24 v25 v26 v27 v28 v29 v30 v31 v32 (.int 0) (.int 1000000000) v35 v36 v37 v38 v39 v40 v41 v42) ⟨callB_of 0 htx (xw_goodC kw_5_187) rfl rfl rfl (htx _ kw_1_5) (htx _ kw_5_184) ⟨by decide, by decide, by decide +kernel⟩ ⟨Nat.le_of_ble_eq_true rfl, Nat.le_of_ble_eq_true rfl⟩, (htx _ kw_5_185), (htx _ kw_5_186)⟩ ⟨xPre_blind, va_recv hK hP (ci := 5) rfl (q0 := 2) rfl, (fun U hU hW => ⟨rfl, xPre_of hZ hS hFc hPc hDc hK U hU hW⟩)⟩ rfl rfl hl.1 rfl (lv_room (Nat.le_of_ble_eq_true rfl)) dL_law_435 ⟨Nat.le_of_ble_eq_true rfl, Nat.le_of_ble_eq_true rfl⟩) hS (fun q _ h => hFc q h) hFc (fun r2 u9 t H1 locs ht hvm hr9 hB hz1 hk1 hS => ?_)
  obtain ⟨hP1, hK1, hD1⟩ := hB
  rw [ht] at hP1
  obtain ⟨hP, hD⟩ := xjoin (W := [(a2, .inl (cT 2, 1, .inr (.inl f43))), (a0, .inr (0, [v3, v4, v5, v6, v7, v8, v9, v10])), (a1, .inr (5, [.int 1, v12, .int 0, v14, .int 0, v16, v17, .int 0, v19, .int 0, v21, v22, .int 0, v24, v25, v26, v27, v28, v29, v30, v31, v32, .int 0, .int 1000000000, v35, v36, v37, v38, v39, v40, v41, v42]))]) hP hD [2] [0, 1] 2 rfl rfl (by decide) (by decide) hk1 hFc hP1 hD1
  generalize H1 = H at hP hS ⊢
  rw [hr9]
  refine W.eq (g2 := F0 m 438 ls [.int 1]) rfl ?_
  refine lv_iload hx hb dL_law_438 (lv_at hl 0 rfl) ?_
  refine lv_icmp_eq (tgt := 445) hx hb dL_law_440 (by decide) (fun _ => ?_) (fun h => ((by revert h; decide : False)).elim)
  refine lv_goto (tgt := 906) hx hb dL_law_445 (by decide) ?_
  refine lv_iinc (v := 6) (lv' := [(4, .int 6), (5, .int 1), (3, .ref a2), (2, .ref a1), (1, .ref a0), (0, .ref b)]) hx hb dL_law_906 hl (k := 1) rfl (by decide) (by decide) rfl (fun ls hl => ?_)
  refine lv_goto (tgt := 23) hx hb dL_law_909 (by decide) ?_
  refine lv_iload hx hb dL_law_23 (lv_at hl 0 rfl) ?_
  refine lv_aload_n hx hb dL_law_25 rfl (lv_at hl 5 rfl) ?_
  refine va_slen hx hb hXs hbl hbA hS dL_law_26 ?_
  refine W.eq (g2 := F0 m 27 ls [.int 6, .int 6]) rfl ?_
  refine lv_bipush (v := 6) hx hb dL_law_27 (by decide) ?_
  refine lv_isub hx hb dL_law_29 ?_
  refine W.eq (g2 := F0 m 30 ls [.int 0, .int 6]) rfl ?_
  refine lv_icmp_gt (tgt := 912) hx hb dL_law_30 (by decide) (fun _ => ?_) (fun h => ((by revert h; decide : False)).elim)
  refine lv_iconst (v := 1) hx hb dL_law_912 (by decide) ?_
  exact va_forget (fun q h => hA2 _ (hS.2.2 q h)) (W.widen (k := 600002) (n := 7302232) (Nat.le_of_ble_eq_true rfl) (Nat.le_of_ble_eq_true rfl) (lw_ret hx hb hr hlocks dL_law_913))
set_option maxHeartbeats 400000000 in
set_option maxRecDepth 100000 in
theorem lf_binary_fhi {p : Program} {e : Env} {s : State} {m : MethodId} {below : List Frame} {meth : Method} {c : Code} (l : Launch) (hl9 : l.stackTraces = false) (D : va_G) (cT : Nat → ClassId) (aK aV : Nat → Nat) {A : Nat → Prop} {b : Nat} {xs : Nat → Int32} (C : xLw p s m meth c b D cT aK aV A) {H : Heap} {locs : List Loc} {ls : Array Slot} (a0 : Nat) (a1 : Nat) (a2 : Nat) (v3 : Value) (v4 : Value) (v5 : Value) (v6 : Value) (v7 : Value) (v8 : Value) (v9 : Value) (v10 : Value) (v11 : Value) (v12 : Value) (v13 : Value) (v14 : Value) (v15 : Value) (v16 : Value) (v17 : Value) (v18 : Value) (v19 : Value) (v20 : Value) (v21 : Value) (v22 : Value) (v23 : Value) (v24 : Value) (v25 : Value) (v26 : Value) (v27 : Value) (v28 : Value) (v29 : Value) (v30 : Value) (v31 : Value) (v32 : Value) (v33 : Value) (v34 : Value) (v35 : Value) (v36 : Value) (v37 : Value) (v38 : Value) (v39 : Value) (v40 : Value) (v41 : Value) (v42 : Value) (f43 : Nat → Int64) (hto1 : ¬ (xs 1) < 0) (hto2 : ¬ 7 < (xs 1)) (hto3 : (xs 1) ≤ 7) (hto4 : vp_in (xs 1) 8) (hf1 : ¬ (xs 2) < 0) (hf2 : 4 < (xs 2)) (hf3 : ¬ (xs 2) ≤ 4) (hXs : va_X b 6 xs s s.heap) (hP : va_P D xcl [(a0, .inr (0, [v3, v4, v5, v6, v7, v8, v9, v10])), (a1, .inr (5, [v11, v12, v13, v14, v15, v16, v17, v18, v19, v20, v21, v22, v23, v24, v25, v26, v27, v28, v29, v30, v31, v32, v33, v34, v35, v36, v37, v38, v39, v40, v41, v42])), (a2, .inl (cT 2, 1, .inr (.inl f43)))] H) (hD : va_D A [(a0, .inr (0, [v3, v4, v5, v6, v7, v8, v9, v10])), (a1, .inr (5, [v11, v12, v13, v14, v15, v16, v17, v18, v19, v20, v21, v22, v23, v24, v25, v26, v27, v28, v29, v30, v31, v32, v33, v34, v35, v36, v37, v38, v39, v40, v41, v42])), (a2, .inl (cT 2, 1, .inr (.inl f43)))]) (hS : va_S A s.heap H locs) (hl : lv_has ls 8 [(4, .int 0), (3, .ref a2), (2, .ref a1), (1, .ref a0), (0, .ref b)]) : W p l e room_1 s m #[Value.ref b] below meth c H locs 54 107242 (lw_Z below #[Value.ref b] s) (F0 m 376 ls []) := by
  obtain ⟨hx, hb, hr, hml, hown, htx, hbl, hbA, hlocks, hK, hZ, hA, hA2⟩ := C
  refine lv_aload_n hx hb dL_law_376 rfl (lv_at hl 3 rfl) ?_
  refine lv_aload_n hx hb dL_law_377 rfl (lv_at hl 4 rfl) ?_
  refine lv_iload hx hb dL_law_378 (lv_at hl 0 rfl) ?_
  refine lv_iconst (v := 1) hx hb dL_law_380 (by decide) ?_
  refine lv_iadd hx hb dL_law_381 ?_
  refine W.eq (g2 := F0 m 382 ls [.int 1, .ref b, .ref a0]) rfl ?_
  refine va_sld hx hb hXs hbl hbA hS (i := 1) (show ¬ ((1 : Int32) < 0 ∨ 6 ≤ (1 : Int32).toNatClampNeg) by decide) dL_law_382 ?_
  refine W.eq (g2 := F0 m 383 ls [.int (xs 1), .ref a0]) rfl ?_
  refine lv_aload_n hx hb dL_law_383 rfl (lv_at hl 4 rfl) ?_
  refine lv_iload hx hb dL_law_384 (lv_at hl 0 rfl) ?_
  refine lv_iconst (v := 2) hx hb dL_law_386 (by decide) ?_
  refine lv_iadd hx hb dL_law_387 ?_
  refine W.eq (g2 := F0 m 388 ls [.int 2, .ref b, .int (xs 1), .ref a0]) rfl ?_
  refine va_sld hx hb hXs hbl hbA hS (i := 2) (show ¬ ((2 : Int32) < 0 ∨ 6 ≤ (2 : Int32).toNatClampNeg) by decide) dL_law_388 ?_
  refine W.eq (g2 := F0 m 389 ls [.int (xs 2), .int (xs 1), .ref a0]) rfl ?_
  refine lv_aload_n hx hb dL_law_389 rfl (lv_at hl 4 rfl) ?_
  refine lv_iload hx hb dL_law_390 (lv_at hl 0 rfl) ?_
  refine lv_iconst (v := 3) hx hb dL_law_392 (by decide) ?_
  refine lv_iadd hx hb dL_law_393 ?_
  refine W.eq (g2 := F0 m 394 ls [.int 3, .ref b, .int (xs 2), .int (xs 1), .ref a0]) rfl ?_
  refine va_sld hx hb hXs hbl hbA hS (i := 3) (show ¬ ((3 : Int32) < 0 ∨ 6 ≤ (3 : Int32).toNatClampNeg) by decide) dL_law_394 ?_
  refine W.eq (g2 := F0 m 395 ls [.int (xs 3), .int (xs 2), .int (xs 1), .ref a0]) rfl ?_
  refine lv_aload_n hx hb dL_law_395 rfl (lv_at hl 4 rfl) ?_
  refine lv_iload hx hb dL_law_396 (lv_at hl 0 rfl) ?_
  refine lv_iconst (v := 4) hx hb dL_law_398 (by decide) ?_
  refine lv_iadd hx hb dL_law_399 ?_
  refine W.eq (g2 := F0 m 400 ls [.int 4, .ref b, .int (xs 3), .int (xs 2), .int (xs 1), .ref a0]) rfl ?_
  refine va_sld hx hb hXs hbl hbA hS (i := 4) (show ¬ ((4 : Int32) < 0 ∨ 6 ≤ (4 : Int32).toNatClampNeg) by decide) dL_law_400 ?_
  refine W.eq (g2 := F0 m 401 ls [.int (xs 4), .int (xs 3), .int (xs 2), .int (xs 1), .ref a0]) rfl ?_
  obtain ⟨hPc, hDc, hFc⟩ := xcut (wc := [(a0, .inr (0, [v3, v4, v5, v6, v7, v8, v9, v10]))]) hP hD hS hA [0] rfl rfl (by decide)
  refine va_calli (vx_runSW (As := [.ref a0, .int (xs 1), .int (xs 2), .int (xs 3), .int (xs 4)]) (rest := []) ⟨hx, hb, hml, hown, htx⟩ (cL_binary_3 l hl9 D cT aK aV H.size a0 (xs 1) (xs 2) (xs 3) (xs 4) v3 v4 v5 v6 v7 v8 v9 v10 hto1 hto2 hto3 hto4 hf1 hf2 hf3) (xcSW 5 htx (xw_goodC kw_3_97) rfl rfl rfl (htx _ kw_1_0) (htx _ kw_3_95) ⟨by decide, by decide, by decide +kernel⟩ ⟨Nat.le_of_ble_eq_true rfl, Nat.le_of_ble_eq_true rfl⟩ (htx _ kw_3_96)) ⟨xPre_blind, (fun U hU hW => ⟨rfl, xPre_of hZ hS hFc hPc hDc hK U hU hW⟩)⟩ rfl rfl hl.1 rfl (lv_room (Nat.le_of_ble_eq_true rfl)) dL_law_401 ⟨Nat.le_of_ble_eq_true rfl, Nat.le_of_ble_eq_true rfl⟩) hS (fun q _ h => hFc q h) hFc (fun r1 u9 t H1 locs ht hvm hr9 hB hz1 hk1 hS => ?_)
  obtain ⟨hP1, hK1, hD1⟩ := hB
  rw [ht] at hP1
  obtain ⟨hP, hD⟩ := xjoin (W := [(a1, .inr (5, [v11, v12, v13, v14, v15, v16, v17, v18, v19, v20, v21, v22, v23, v24, v25, v26, v27, v28, v29, v30, v31, v32, v33, v34, v35, v36, v37, v38, v39, v40, v41, v42])), (a2, .inl (cT 2, 1, .inr (.inl f43))), (a0, .inr (0, [v3, v4, v5, v6, v7, v8, v9, v10]))]) hP hD [0] [1, 2] 2 rfl rfl (by decide) (by decide) hk1 hFc hP1 hD1
  generalize H1 = H at hP hS ⊢
  rw [hr9]
  refine W.eq (g2 := F0 m 404 ls [.int 1]) rfl ?_
  refine lv_istore (lv' := [(5, .int 1), (4, .int 0), (3, .ref a2), (2, .ref a1), (1, .ref a0), (0, .ref b)]) hx hb dL_law_404 hl (by decide) rfl (fun ls hl => ?_)
  refine lv_aload_n hx hb dL_law_406 rfl (lv_at hl 3 rfl) ?_
  refine lv_aload_n hx hb dL_law_407 rfl (lv_at hl 5 rfl) ?_
  refine lv_iload hx hb dL_law_408 (lv_at hl 1 rfl) ?_
  refine lv_iconst (v := 1) hx hb dL_law_410 (by decide) ?_
  refine lv_iadd hx hb dL_law_411 ?_
  refine W.eq (g2 := F0 m 412 ls [.int 1, .ref b, .ref a1]) rfl ?_
  refine va_sld hx hb hXs hbl hbA hS (i := 1) (show ¬ ((1 : Int32) < 0 ∨ 6 ≤ (1 : Int32).toNatClampNeg) by decide) dL_law_412 ?_
  refine W.eq (g2 := F0 m 413 ls [.int (xs 1), .ref a1]) rfl ?_
  refine lv_aload_n hx hb dL_law_413 rfl (lv_at hl 5 rfl) ?_
  refine lv_iload hx hb dL_law_414 (lv_at hl 1 rfl) ?_
  refine lv_iconst (v := 2) hx hb dL_law_416 (by decide) ?_
  refine lv_iadd hx hb dL_law_417 ?_
  refine W.eq (g2 := F0 m 418 ls [.int 2, .ref b, .int (xs 1), .ref a1]) rfl ?_
  refine va_sld hx hb hXs hbl hbA hS (i := 2) (show ¬ ((2 : Int32) < 0 ∨ 6 ≤ (2 : Int32).toNatClampNeg) by decide) dL_law_418 ?_
  refine W.eq (g2 := F0 m 419 ls [.int (xs 2), .int (xs 1), .ref a1]) rfl ?_
  refine lv_aload_n hx hb dL_law_419 rfl (lv_at hl 5 rfl) ?_
  refine lv_iload hx hb dL_law_420 (lv_at hl 1 rfl) ?_
  refine lv_iconst (v := 3) hx hb dL_law_422 (by decide) ?_
  refine lv_iadd hx hb dL_law_423 ?_
  refine W.eq (g2 := F0 m 424 ls [.int 3, .ref b, .int (xs 2), .int (xs 1), .ref a1]) rfl ?_
  refine va_sld hx hb hXs hbl hbA hS (i := 3) (show ¬ ((3 : Int32) < 0 ∨ 6 ≤ (3 : Int32).toNatClampNeg) by decide) dL_law_424 ?_
  refine W.eq (g2 := F0 m 425 ls [.int (xs 3), .int (xs 2), .int (xs 1), .ref a1]) rfl ?_
  refine lv_aload_n hx hb dL_law_425 rfl (lv_at hl 5 rfl) ?_
  refine lv_iload hx hb dL_law_426 (lv_at hl 1 rfl) ?_
  refine lv_iconst (v := 4) hx hb dL_law_428 (by decide) ?_
  refine lv_iadd hx hb dL_law_429 ?_
  refine W.eq (g2 := F0 m 430 ls [.int 4, .ref b, .int (xs 3), .int (xs 2), .int (xs 1), .ref a1]) rfl ?_
  refine va_sld hx hb hXs hbl hbA hS (i := 4) (show ¬ ((4 : Int32) < 0 ∨ 6 ≤ (4 : Int32).toNatClampNeg) by decide) dL_law_430 ?_
  refine W.eq (g2 := F0 m 431 ls [.int (xs 4), .int (xs 3), .int (xs 2), .int (xs 1), .ref a1]) rfl ?_
  obtain ⟨hPc, hDc, hFc⟩ := xcut (wc := [(a1, .inr (5, [v11, v12, v13, v14, v15, v16, v17, v18, v19, v20, v21, v22, v23, v24, v25, v26, v27, v28, v29, v30, v31, v32, v33, v34, v35, v36, v37, v38, v39, v40, v41, v42]))]) hP hD hS hA [0] rfl rfl (by decide)
  refine va_callv (va_runV (C := "ValueBenchModel") (As := [.int (xs 1), .int (xs 2), .int (xs 3), .int (xs 4)]) (rest := []) ⟨hx, hb, hml, hown, htx⟩ (cM_binary0_3 l hl9 D cT aK aV H.size a1 (xs 1) (xs 2) (xs 3) (xs 4) v11 v12 v13 v14 v15 v16 v17 v18 v19 v20 v21 v22 v23 v24 v25 v26 v27 v28 v29 v30 v31 v32 v33 v34 v35 v36 v37 v38 v39 v40 v41 v42 hto1 hto2 hto3 hto4 hf1 hf2 hf3) ⟨callB_of 4 htx (xw_goodC kw_6_191) rfl rfl rfl (htx _ kw_1_5) (htx _ kw_6_188) ⟨by decide, by decide, by decide +kernel⟩ ⟨Nat.le_of_ble_eq_true rfl, Nat.le_of_ble_eq_true rfl⟩, (htx _ kw_6_189), (htx _ kw_6_190)⟩ ⟨xPre_blind, va_recv hK hP (ci := 5) rfl (q0 := 0) rfl, (fun U hU hW => ⟨rfl, xPre_of hZ hS hFc hPc hDc hK U hU hW⟩)⟩ rfl rfl hl.1 rfl (lv_room (Nat.le_of_ble_eq_true rfl)) dL_law_431 ⟨Nat.le_of_ble_eq_true rfl, Nat.le_of_ble_eq_true rfl⟩) hS (fun q _ h => hFc q h) hFc (fun u9 t H1 locs ht hvm hr9 hB hz1 hk1 hS => ?_)
  obtain ⟨hP1, hK1, hD1⟩ := hB
  rw [ht] at hP1
  obtain ⟨hP, hD⟩ := xjoin (W := [(a2, .inl (cT 2, 1, .inr (.inl f43))), (a0, .inr (0, [v3, v4, v5, v6, v7, v8, v9, v10])), (a1, .inr (5, [.int 1, v12, .int 0, v14, .int 0, v16, v17, .int 0, v19, .int 0, v21, v22, .int 0, v24, v25, v26, v27, v28, v29, v30, v31, v32, .int 0, .int 1000000000, v35, v36, v37, v38, v39, v40, v41, v42]))]) hP hD [0] [1, 2] 2 rfl rfl (by decide) (by decide) hk1 hFc hP1 hD1
  generalize H1 = H at hP hS ⊢
  refine lv_aload_n hx hb dL_law_434 rfl (lv_at hl 3 rfl) ?_
  obtain ⟨hPc, hDc, hFc⟩ := xcut (wc := [(a1, .inr (5, [.int 1, v12, .int 0, v14, .int 0, v16, v17, .int 0, v19, .int 0, v21, v22, .int 0, v24, v25, v26, v27, v28, v29, v30, v31, v32, .int 0, .int 1000000000, v35, v36, v37, v38, v39, v40, v41, v42]))]) hP hD hS hA [2] rfl rfl (by decide)
  refine va_calli (va_runV (C := "ValueBenchModel") (As := []) (rest := []) ⟨hx, hb, hml, hown, htx⟩ (cM_thrown_1 l hl9 D cT aK aV H.size a1 v12 (.int 0) v14 (.int 0) v16 v17 (.int 0) v19 (.int 0) v21 v22 (.int 0) v24 v25 v26 v27 v28 v29 v30 v31 v32 (.int 0) (.int 1000000000) v35 v36 v37 v38 v39 v40 v41 v42) ⟨callB_of 0 htx (xw_goodC kw_5_187) rfl rfl rfl (htx _ kw_1_5) (htx _ kw_5_184) ⟨by decide, by decide, by decide +kernel⟩ ⟨Nat.le_of_ble_eq_true rfl, Nat.le_of_ble_eq_true rfl⟩, (htx _ kw_5_185), (htx _ kw_5_186)⟩ ⟨xPre_blind, va_recv hK hP (ci := 5) rfl (q0 := 2) rfl, (fun U hU hW => ⟨rfl, xPre_of hZ hS hFc hPc hDc hK U hU hW⟩)⟩ rfl rfl hl.1 rfl (lv_room (Nat.le_of_ble_eq_true rfl)) dL_law_435 ⟨Nat.le_of_ble_eq_true rfl, Nat.le_of_ble_eq_true rfl⟩) hS (fun q _ h => hFc q h) hFc (fun r2 u9 t H1 locs ht hvm hr9 hB hz1 hk1 hS => ?_)
  obtain ⟨hP1, hK1, hD1⟩ := hB
  rw [ht] at hP1
  obtain ⟨hP, hD⟩ := xjoin (W := [(a2, .inl (cT 2, 1, .inr (.inl f43))), (a0, .inr (0, [v3, v4, v5, v6, v7, v8, v9, v10])), (a1, .inr (5, [.int 1, v12, .int 0, v14, .int 0, v16, v17, .int 0, v19, .int 0, v21, v22, .int 0, v24, v25, v26, v27, v28, v29, v30, v31, v32, .int 0, .int 1000000000, v35, v36, v37, v38, v39, v40, v41, v42]))]) hP hD [2] [0, 1] 2 rfl rfl (by decide) (by decide) hk1 hFc hP1 hD1
  generalize H1 = H at hP hS ⊢
  rw [hr9]
  refine W.eq (g2 := F0 m 438 ls [.int 1]) rfl ?_
  refine lv_iload hx hb dL_law_438 (lv_at hl 0 rfl) ?_
  refine lv_icmp_eq (tgt := 445) hx hb dL_law_440 (by decide) (fun _ => ?_) (fun h => ((by revert h; decide : False)).elim)
  refine lv_goto (tgt := 906) hx hb dL_law_445 (by decide) ?_
  refine lv_iinc (v := 6) (lv' := [(4, .int 6), (5, .int 1), (3, .ref a2), (2, .ref a1), (1, .ref a0), (0, .ref b)]) hx hb dL_law_906 hl (k := 1) rfl (by decide) (by decide) rfl (fun ls hl => ?_)
  refine lv_goto (tgt := 23) hx hb dL_law_909 (by decide) ?_
  refine lv_iload hx hb dL_law_23 (lv_at hl 0 rfl) ?_
  refine lv_aload_n hx hb dL_law_25 rfl (lv_at hl 5 rfl) ?_
  refine va_slen hx hb hXs hbl hbA hS dL_law_26 ?_
  refine W.eq (g2 := F0 m 27 ls [.int 6, .int 6]) rfl ?_
  refine lv_bipush (v := 6) hx hb dL_law_27 (by decide) ?_
  refine lv_isub hx hb dL_law_29 ?_
  refine W.eq (g2 := F0 m 30 ls [.int 0, .int 6]) rfl ?_
  refine lv_icmp_gt (tgt := 912) hx hb dL_law_30 (by decide) (fun _ => ?_) (fun h => ((by revert h; decide : False)).elim)
  refine lv_iconst (v := 1) hx hb dL_law_912 (by decide) ?_
  exact va_forget (fun q h => hA2 _ (hS.2.2 q h)) (W.widen (k := 600002) (n := 7302232) (Nat.le_of_ble_eq_true rfl) (Nat.le_of_ble_eq_true rfl) (lw_ret hx hb hr hlocks dL_law_913))
set_option maxHeartbeats 400000000 in
set_option maxRecDepth 100000 in
theorem lf_binary_alo {p : Program} {e : Env} {s : State} {m : MethodId} {below : List Frame} {meth : Method} {c : Code} (l : Launch) (hl9 : l.stackTraces = false) (D : va_G) (cT : Nat → ClassId) (aK aV : Nat → Nat) {A : Nat → Prop} {b : Nat} {xs : Nat → Int32} (C : xLw p s m meth c b D cT aK aV A) {H : Heap} {locs : List Loc} {ls : Array Slot} (a0 : Nat) (a1 : Nat) (a2 : Nat) (v3 : Value) (v4 : Value) (v5 : Value) (v6 : Value) (v7 : Value) (v8 : Value) (v9 : Value) (v10 : Value) (v11 : Value) (v12 : Value) (v13 : Value) (v14 : Value) (v15 : Value) (v16 : Value) (v17 : Value) (v18 : Value) (v19 : Value) (v20 : Value) (v21 : Value) (v22 : Value) (v23 : Value) (v24 : Value) (v25 : Value) (v26 : Value) (v27 : Value) (v28 : Value) (v29 : Value) (v30 : Value) (v31 : Value) (v32 : Value) (v33 : Value) (v34 : Value) (v35 : Value) (v36 : Value) (v37 : Value) (v38 : Value) (v39 : Value) (v40 : Value) (v41 : Value) (v42 : Value) (f43 : Nat → Int64) (hto1 : ¬ (xs 1) < 0) (hto2 : ¬ 7 < (xs 1)) (hto3 : (xs 1) ≤ 7) (hto4 : vp_in (xs 1) 8) (hf1 : ¬ (xs 2) < 0) (hf2 : ¬ 4 < (xs 2)) (hf3 : (xs 2) ≤ 4) (ha1 : (xs 3) < 0) (hXs : va_X b 6 xs s s.heap) (hP : va_P D xcl [(a0, .inr (0, [v3, v4, v5, v6, v7, v8, v9, v10])), (a1, .inr (5, [v11, v12, v13, v14, v15, v16, v17, v18, v19, v20, v21, v22, v23, v24, v25, v26, v27, v28, v29, v30, v31, v32, v33, v34, v35, v36, v37, v38, v39, v40, v41, v42])), (a2, .inl (cT 2, 1, .inr (.inl f43)))] H) (hD : va_D A [(a0, .inr (0, [v3, v4, v5, v6, v7, v8, v9, v10])), (a1, .inr (5, [v11, v12, v13, v14, v15, v16, v17, v18, v19, v20, v21, v22, v23, v24, v25, v26, v27, v28, v29, v30, v31, v32, v33, v34, v35, v36, v37, v38, v39, v40, v41, v42])), (a2, .inl (cT 2, 1, .inr (.inl f43)))]) (hS : va_S A s.heap H locs) (hl : lv_has ls 8 [(4, .int 0), (3, .ref a2), (2, .ref a1), (1, .ref a0), (0, .ref b)]) : W p l e room_1 s m #[Value.ref b] below meth c H locs 54 107242 (lw_Z below #[Value.ref b] s) (F0 m 376 ls []) := by
  obtain ⟨hx, hb, hr, hml, hown, htx, hbl, hbA, hlocks, hK, hZ, hA, hA2⟩ := C
  refine lv_aload_n hx hb dL_law_376 rfl (lv_at hl 3 rfl) ?_
  refine lv_aload_n hx hb dL_law_377 rfl (lv_at hl 4 rfl) ?_
  refine lv_iload hx hb dL_law_378 (lv_at hl 0 rfl) ?_
  refine lv_iconst (v := 1) hx hb dL_law_380 (by decide) ?_
  refine lv_iadd hx hb dL_law_381 ?_
  refine W.eq (g2 := F0 m 382 ls [.int 1, .ref b, .ref a0]) rfl ?_
  refine va_sld hx hb hXs hbl hbA hS (i := 1) (show ¬ ((1 : Int32) < 0 ∨ 6 ≤ (1 : Int32).toNatClampNeg) by decide) dL_law_382 ?_
  refine W.eq (g2 := F0 m 383 ls [.int (xs 1), .ref a0]) rfl ?_
  refine lv_aload_n hx hb dL_law_383 rfl (lv_at hl 4 rfl) ?_
  refine lv_iload hx hb dL_law_384 (lv_at hl 0 rfl) ?_
  refine lv_iconst (v := 2) hx hb dL_law_386 (by decide) ?_
  refine lv_iadd hx hb dL_law_387 ?_
  refine W.eq (g2 := F0 m 388 ls [.int 2, .ref b, .int (xs 1), .ref a0]) rfl ?_
  refine va_sld hx hb hXs hbl hbA hS (i := 2) (show ¬ ((2 : Int32) < 0 ∨ 6 ≤ (2 : Int32).toNatClampNeg) by decide) dL_law_388 ?_
  refine W.eq (g2 := F0 m 389 ls [.int (xs 2), .int (xs 1), .ref a0]) rfl ?_
  refine lv_aload_n hx hb dL_law_389 rfl (lv_at hl 4 rfl) ?_
  refine lv_iload hx hb dL_law_390 (lv_at hl 0 rfl) ?_
  refine lv_iconst (v := 3) hx hb dL_law_392 (by decide) ?_
  refine lv_iadd hx hb dL_law_393 ?_
  refine W.eq (g2 := F0 m 394 ls [.int 3, .ref b, .int (xs 2), .int (xs 1), .ref a0]) rfl ?_
  refine va_sld hx hb hXs hbl hbA hS (i := 3) (show ¬ ((3 : Int32) < 0 ∨ 6 ≤ (3 : Int32).toNatClampNeg) by decide) dL_law_394 ?_
  refine W.eq (g2 := F0 m 395 ls [.int (xs 3), .int (xs 2), .int (xs 1), .ref a0]) rfl ?_
  refine lv_aload_n hx hb dL_law_395 rfl (lv_at hl 4 rfl) ?_
  refine lv_iload hx hb dL_law_396 (lv_at hl 0 rfl) ?_
  refine lv_iconst (v := 4) hx hb dL_law_398 (by decide) ?_
  refine lv_iadd hx hb dL_law_399 ?_
  refine W.eq (g2 := F0 m 400 ls [.int 4, .ref b, .int (xs 3), .int (xs 2), .int (xs 1), .ref a0]) rfl ?_
  refine va_sld hx hb hXs hbl hbA hS (i := 4) (show ¬ ((4 : Int32) < 0 ∨ 6 ≤ (4 : Int32).toNatClampNeg) by decide) dL_law_400 ?_
  refine W.eq (g2 := F0 m 401 ls [.int (xs 4), .int (xs 3), .int (xs 2), .int (xs 1), .ref a0]) rfl ?_
  obtain ⟨hPc, hDc, hFc⟩ := xcut (wc := [(a0, .inr (0, [v3, v4, v5, v6, v7, v8, v9, v10]))]) hP hD hS hA [0] rfl rfl (by decide)
  refine va_calli (vx_runSW (As := [.ref a0, .int (xs 1), .int (xs 2), .int (xs 3), .int (xs 4)]) (rest := []) ⟨hx, hb, hml, hown, htx⟩ (cL_binary_4 l hl9 D cT aK aV H.size a0 (xs 1) (xs 2) (xs 3) (xs 4) v3 v4 v5 v6 v7 v8 v9 v10 hto1 hto2 hto3 hto4 hf1 hf2 hf3 ha1) (xcSW 5 htx (xw_goodC kw_3_97) rfl rfl rfl (htx _ kw_1_0) (htx _ kw_3_95) ⟨by decide, by decide, by decide +kernel⟩ ⟨Nat.le_of_ble_eq_true rfl, Nat.le_of_ble_eq_true rfl⟩ (htx _ kw_3_96)) ⟨xPre_blind, (fun U hU hW => ⟨rfl, xPre_of hZ hS hFc hPc hDc hK U hU hW⟩)⟩ rfl rfl hl.1 rfl (lv_room (Nat.le_of_ble_eq_true rfl)) dL_law_401 ⟨Nat.le_of_ble_eq_true rfl, Nat.le_of_ble_eq_true rfl⟩) hS (fun q _ h => hFc q h) hFc (fun r1 u9 t H1 locs ht hvm hr9 hB hz1 hk1 hS => ?_)
  obtain ⟨hP1, hK1, hD1⟩ := hB
  rw [ht] at hP1
  obtain ⟨hP, hD⟩ := xjoin (W := [(a1, .inr (5, [v11, v12, v13, v14, v15, v16, v17, v18, v19, v20, v21, v22, v23, v24, v25, v26, v27, v28, v29, v30, v31, v32, v33, v34, v35, v36, v37, v38, v39, v40, v41, v42])), (a2, .inl (cT 2, 1, .inr (.inl f43))), (a0, .inr (0, [v3, v4, v5, v6, v7, v8, v9, v10]))]) hP hD [0] [1, 2] 2 rfl rfl (by decide) (by decide) hk1 hFc hP1 hD1
  generalize H1 = H at hP hS ⊢
  rw [hr9]
  refine W.eq (g2 := F0 m 404 ls [.int 1]) rfl ?_
  refine lv_istore (lv' := [(5, .int 1), (4, .int 0), (3, .ref a2), (2, .ref a1), (1, .ref a0), (0, .ref b)]) hx hb dL_law_404 hl (by decide) rfl (fun ls hl => ?_)
  refine lv_aload_n hx hb dL_law_406 rfl (lv_at hl 3 rfl) ?_
  refine lv_aload_n hx hb dL_law_407 rfl (lv_at hl 5 rfl) ?_
  refine lv_iload hx hb dL_law_408 (lv_at hl 1 rfl) ?_
  refine lv_iconst (v := 1) hx hb dL_law_410 (by decide) ?_
  refine lv_iadd hx hb dL_law_411 ?_
  refine W.eq (g2 := F0 m 412 ls [.int 1, .ref b, .ref a1]) rfl ?_
  refine va_sld hx hb hXs hbl hbA hS (i := 1) (show ¬ ((1 : Int32) < 0 ∨ 6 ≤ (1 : Int32).toNatClampNeg) by decide) dL_law_412 ?_
  refine W.eq (g2 := F0 m 413 ls [.int (xs 1), .ref a1]) rfl ?_
  refine lv_aload_n hx hb dL_law_413 rfl (lv_at hl 5 rfl) ?_
  refine lv_iload hx hb dL_law_414 (lv_at hl 1 rfl) ?_
  refine lv_iconst (v := 2) hx hb dL_law_416 (by decide) ?_
  refine lv_iadd hx hb dL_law_417 ?_
  refine W.eq (g2 := F0 m 418 ls [.int 2, .ref b, .int (xs 1), .ref a1]) rfl ?_
  refine va_sld hx hb hXs hbl hbA hS (i := 2) (show ¬ ((2 : Int32) < 0 ∨ 6 ≤ (2 : Int32).toNatClampNeg) by decide) dL_law_418 ?_
  refine W.eq (g2 := F0 m 419 ls [.int (xs 2), .int (xs 1), .ref a1]) rfl ?_
  refine lv_aload_n hx hb dL_law_419 rfl (lv_at hl 5 rfl) ?_
  refine lv_iload hx hb dL_law_420 (lv_at hl 1 rfl) ?_
  refine lv_iconst (v := 3) hx hb dL_law_422 (by decide) ?_
  refine lv_iadd hx hb dL_law_423 ?_
  refine W.eq (g2 := F0 m 424 ls [.int 3, .ref b, .int (xs 2), .int (xs 1), .ref a1]) rfl ?_
  refine va_sld hx hb hXs hbl hbA hS (i := 3) (show ¬ ((3 : Int32) < 0 ∨ 6 ≤ (3 : Int32).toNatClampNeg) by decide) dL_law_424 ?_
  refine W.eq (g2 := F0 m 425 ls [.int (xs 3), .int (xs 2), .int (xs 1), .ref a1]) rfl ?_
  refine lv_aload_n hx hb dL_law_425 rfl (lv_at hl 5 rfl) ?_
  refine lv_iload hx hb dL_law_426 (lv_at hl 1 rfl) ?_
  refine lv_iconst (v := 4) hx hb dL_law_428 (by decide) ?_
  refine lv_iadd hx hb dL_law_429 ?_
  refine W.eq (g2 := F0 m 430 ls [.int 4, .ref b, .int (xs 3), .int (xs 2), .int (xs 1), .ref a1]) rfl ?_
  refine va_sld hx hb hXs hbl hbA hS (i := 4) (show ¬ ((4 : Int32) < 0 ∨ 6 ≤ (4 : Int32).toNatClampNeg) by decide) dL_law_430 ?_
  refine W.eq (g2 := F0 m 431 ls [.int (xs 4), .int (xs 3), .int (xs 2), .int (xs 1), .ref a1]) rfl ?_
  obtain ⟨hPc, hDc, hFc⟩ := xcut (wc := [(a1, .inr (5, [v11, v12, v13, v14, v15, v16, v17, v18, v19, v20, v21, v22, v23, v24, v25, v26, v27, v28, v29, v30, v31, v32, v33, v34, v35, v36, v37, v38, v39, v40, v41, v42]))]) hP hD hS hA [0] rfl rfl (by decide)
  refine va_callv (va_runV (C := "ValueBenchModel") (As := [.int (xs 1), .int (xs 2), .int (xs 3), .int (xs 4)]) (rest := []) ⟨hx, hb, hml, hown, htx⟩ (cM_binary0_4 l hl9 D cT aK aV H.size a1 (xs 1) (xs 2) (xs 3) (xs 4) v11 v12 v13 v14 v15 v16 v17 v18 v19 v20 v21 v22 v23 v24 v25 v26 v27 v28 v29 v30 v31 v32 v33 v34 v35 v36 v37 v38 v39 v40 v41 v42 hto1 hto2 hto3 hto4 hf1 hf2 hf3 ha1) ⟨callB_of 4 htx (xw_goodC kw_6_191) rfl rfl rfl (htx _ kw_1_5) (htx _ kw_6_188) ⟨by decide, by decide, by decide +kernel⟩ ⟨Nat.le_of_ble_eq_true rfl, Nat.le_of_ble_eq_true rfl⟩, (htx _ kw_6_189), (htx _ kw_6_190)⟩ ⟨xPre_blind, va_recv hK hP (ci := 5) rfl (q0 := 0) rfl, (fun U hU hW => ⟨rfl, xPre_of hZ hS hFc hPc hDc hK U hU hW⟩)⟩ rfl rfl hl.1 rfl (lv_room (Nat.le_of_ble_eq_true rfl)) dL_law_431 ⟨Nat.le_of_ble_eq_true rfl, Nat.le_of_ble_eq_true rfl⟩) hS (fun q _ h => hFc q h) hFc (fun u9 t H1 locs ht hvm hr9 hB hz1 hk1 hS => ?_)
  obtain ⟨hP1, hK1, hD1⟩ := hB
  rw [ht] at hP1
  obtain ⟨hP, hD⟩ := xjoin (W := [(a2, .inl (cT 2, 1, .inr (.inl f43))), (a0, .inr (0, [v3, v4, v5, v6, v7, v8, v9, v10])), (a1, .inr (5, [.int 1, v12, .int 0, v14, .int 0, v16, v17, .int 0, v19, .int 0, v21, v22, .int 0, v24, v25, v26, v27, v28, v29, v30, v31, v32, .int 0, .int 1000000000, v35, v36, v37, v38, v39, v40, v41, v42]))]) hP hD [0] [1, 2] 2 rfl rfl (by decide) (by decide) hk1 hFc hP1 hD1
  generalize H1 = H at hP hS ⊢
  refine lv_aload_n hx hb dL_law_434 rfl (lv_at hl 3 rfl) ?_
  obtain ⟨hPc, hDc, hFc⟩ := xcut (wc := [(a1, .inr (5, [.int 1, v12, .int 0, v14, .int 0, v16, v17, .int 0, v19, .int 0, v21, v22, .int 0, v24, v25, v26, v27, v28, v29, v30, v31, v32, .int 0, .int 1000000000, v35, v36, v37, v38, v39, v40, v41, v42]))]) hP hD hS hA [2] rfl rfl (by decide)
  refine va_calli (va_runV (C := "ValueBenchModel") (As := []) (rest := []) ⟨hx, hb, hml, hown, htx⟩ (cM_thrown_1 l hl9 D cT aK aV H.size a1 v12 (.int 0) v14 (.int 0) v16 v17 (.int 0) v19 (.int 0) v21 v22 (.int 0) v24 v25 v26 v27 v28 v29 v30 v31 v32 (.int 0) (.int 1000000000) v35 v36 v37 v38 v39 v40 v41 v42) ⟨callB_of 0 htx (xw_goodC kw_5_187) rfl rfl rfl (htx _ kw_1_5) (htx _ kw_5_184) ⟨by decide, by decide, by decide +kernel⟩ ⟨Nat.le_of_ble_eq_true rfl, Nat.le_of_ble_eq_true rfl⟩, (htx _ kw_5_185), (htx _ kw_5_186)⟩ ⟨xPre_blind, va_recv hK hP (ci := 5) rfl (q0 := 2) rfl, (fun U hU hW => ⟨rfl, xPre_of hZ hS hFc hPc hDc hK U hU hW⟩)⟩ rfl rfl hl.1 rfl (lv_room (Nat.le_of_ble_eq_true rfl)) dL_law_435 ⟨Nat.le_of_ble_eq_true rfl, Nat.le_of_ble_eq_true rfl⟩) hS (fun q _ h => hFc q h) hFc (fun r2 u9 t H1 locs ht hvm hr9 hB hz1 hk1 hS => ?_)
  obtain ⟨hP1, hK1, hD1⟩ := hB
  rw [ht] at hP1
  obtain ⟨hP, hD⟩ := xjoin (W := [(a2, .inl (cT 2, 1, .inr (.inl f43))), (a0, .inr (0, [v3, v4, v5, v6, v7, v8, v9, v10])), (a1, .inr (5, [.int 1, v12, .int 0, v14, .int 0, v16, v17, .int 0, v19, .int 0, v21, v22, .int 0, v24, v25, v26, v27, v28, v29, v30, v31, v32, .int 0, .int 1000000000, v35, v36, v37, v38, v39, v40, v41, v42]))]) hP hD [2] [0, 1] 2 rfl rfl (by decide) (by decide) hk1 hFc hP1 hD1
  generalize H1 = H at hP hS ⊢
  rw [hr9]
  refine W.eq (g2 := F0 m 438 ls [.int 1]) rfl ?_
  refine lv_iload hx hb dL_law_438 (lv_at hl 0 rfl) ?_
  refine lv_icmp_eq (tgt := 445) hx hb dL_law_440 (by decide) (fun _ => ?_) (fun h => ((by revert h; decide : False)).elim)
  refine lv_goto (tgt := 906) hx hb dL_law_445 (by decide) ?_
  refine lv_iinc (v := 6) (lv' := [(4, .int 6), (5, .int 1), (3, .ref a2), (2, .ref a1), (1, .ref a0), (0, .ref b)]) hx hb dL_law_906 hl (k := 1) rfl (by decide) (by decide) rfl (fun ls hl => ?_)
  refine lv_goto (tgt := 23) hx hb dL_law_909 (by decide) ?_
  refine lv_iload hx hb dL_law_23 (lv_at hl 0 rfl) ?_
  refine lv_aload_n hx hb dL_law_25 rfl (lv_at hl 5 rfl) ?_
  refine va_slen hx hb hXs hbl hbA hS dL_law_26 ?_
  refine W.eq (g2 := F0 m 27 ls [.int 6, .int 6]) rfl ?_
  refine lv_bipush (v := 6) hx hb dL_law_27 (by decide) ?_
  refine lv_isub hx hb dL_law_29 ?_
  refine W.eq (g2 := F0 m 30 ls [.int 0, .int 6]) rfl ?_
  refine lv_icmp_gt (tgt := 912) hx hb dL_law_30 (by decide) (fun _ => ?_) (fun h => ((by revert h; decide : False)).elim)
  refine lv_iconst (v := 1) hx hb dL_law_912 (by decide) ?_
  exact va_forget (fun q h => hA2 _ (hS.2.2 q h)) (W.widen (k := 600002) (n := 7302232) (Nat.le_of_ble_eq_true rfl) (Nat.le_of_ble_eq_true rfl) (lw_ret hx hb hr hlocks dL_law_913))
set_option maxHeartbeats 400000000 in
set_option maxRecDepth 100000 in
theorem lf_binary_ahi {p : Program} {e : Env} {s : State} {m : MethodId} {below : List Frame} {meth : Method} {c : Code} (l : Launch) (hl9 : l.stackTraces = false) (D : va_G) (cT : Nat → ClassId) (aK aV : Nat → Nat) {A : Nat → Prop} {b : Nat} {xs : Nat → Int32} (C : xLw p s m meth c b D cT aK aV A) {H : Heap} {locs : List Loc} {ls : Array Slot} (a0 : Nat) (a1 : Nat) (a2 : Nat) (v3 : Value) (v4 : Value) (v5 : Value) (v6 : Value) (v7 : Value) (v8 : Value) (v9 : Value) (v10 : Value) (v11 : Value) (v12 : Value) (v13 : Value) (v14 : Value) (v15 : Value) (v16 : Value) (v17 : Value) (v18 : Value) (v19 : Value) (v20 : Value) (v21 : Value) (v22 : Value) (v23 : Value) (v24 : Value) (v25 : Value) (v26 : Value) (v27 : Value) (v28 : Value) (v29 : Value) (v30 : Value) (v31 : Value) (v32 : Value) (v33 : Value) (v34 : Value) (v35 : Value) (v36 : Value) (v37 : Value) (v38 : Value) (v39 : Value) (v40 : Value) (v41 : Value) (v42 : Value) (f43 : Nat → Int64) (hto1 : ¬ (xs 1) < 0) (hto2 : ¬ 7 < (xs 1)) (hto3 : (xs 1) ≤ 7) (hto4 : vp_in (xs 1) 8) (hf1 : ¬ (xs 2) < 0) (hf2 : ¬ 4 < (xs 2)) (hf3 : (xs 2) ≤ 4) (ha1 : ¬ (xs 3) < 0) (ha2 : 7 < (xs 3)) (ha3 : ¬ (xs 3) ≤ 7) (hXs : va_X b 6 xs s s.heap) (hP : va_P D xcl [(a0, .inr (0, [v3, v4, v5, v6, v7, v8, v9, v10])), (a1, .inr (5, [v11, v12, v13, v14, v15, v16, v17, v18, v19, v20, v21, v22, v23, v24, v25, v26, v27, v28, v29, v30, v31, v32, v33, v34, v35, v36, v37, v38, v39, v40, v41, v42])), (a2, .inl (cT 2, 1, .inr (.inl f43)))] H) (hD : va_D A [(a0, .inr (0, [v3, v4, v5, v6, v7, v8, v9, v10])), (a1, .inr (5, [v11, v12, v13, v14, v15, v16, v17, v18, v19, v20, v21, v22, v23, v24, v25, v26, v27, v28, v29, v30, v31, v32, v33, v34, v35, v36, v37, v38, v39, v40, v41, v42])), (a2, .inl (cT 2, 1, .inr (.inl f43)))]) (hS : va_S A s.heap H locs) (hl : lv_has ls 8 [(4, .int 0), (3, .ref a2), (2, .ref a1), (1, .ref a0), (0, .ref b)]) : W p l e room_1 s m #[Value.ref b] below meth c H locs 54 107242 (lw_Z below #[Value.ref b] s) (F0 m 376 ls []) := by
  obtain ⟨hx, hb, hr, hml, hown, htx, hbl, hbA, hlocks, hK, hZ, hA, hA2⟩ := C
  refine lv_aload_n hx hb dL_law_376 rfl (lv_at hl 3 rfl) ?_
  refine lv_aload_n hx hb dL_law_377 rfl (lv_at hl 4 rfl) ?_
  refine lv_iload hx hb dL_law_378 (lv_at hl 0 rfl) ?_
  refine lv_iconst (v := 1) hx hb dL_law_380 (by decide) ?_
  refine lv_iadd hx hb dL_law_381 ?_
  refine W.eq (g2 := F0 m 382 ls [.int 1, .ref b, .ref a0]) rfl ?_
  refine va_sld hx hb hXs hbl hbA hS (i := 1) (show ¬ ((1 : Int32) < 0 ∨ 6 ≤ (1 : Int32).toNatClampNeg) by decide) dL_law_382 ?_
  refine W.eq (g2 := F0 m 383 ls [.int (xs 1), .ref a0]) rfl ?_
  refine lv_aload_n hx hb dL_law_383 rfl (lv_at hl 4 rfl) ?_
  refine lv_iload hx hb dL_law_384 (lv_at hl 0 rfl) ?_
  refine lv_iconst (v := 2) hx hb dL_law_386 (by decide) ?_
  refine lv_iadd hx hb dL_law_387 ?_
  refine W.eq (g2 := F0 m 388 ls [.int 2, .ref b, .int (xs 1), .ref a0]) rfl ?_
  refine va_sld hx hb hXs hbl hbA hS (i := 2) (show ¬ ((2 : Int32) < 0 ∨ 6 ≤ (2 : Int32).toNatClampNeg) by decide) dL_law_388 ?_
  refine W.eq (g2 := F0 m 389 ls [.int (xs 2), .int (xs 1), .ref a0]) rfl ?_
  refine lv_aload_n hx hb dL_law_389 rfl (lv_at hl 4 rfl) ?_
  refine lv_iload hx hb dL_law_390 (lv_at hl 0 rfl) ?_
  refine lv_iconst (v := 3) hx hb dL_law_392 (by decide) ?_
  refine lv_iadd hx hb dL_law_393 ?_
  refine W.eq (g2 := F0 m 394 ls [.int 3, .ref b, .int (xs 2), .int (xs 1), .ref a0]) rfl ?_
  refine va_sld hx hb hXs hbl hbA hS (i := 3) (show ¬ ((3 : Int32) < 0 ∨ 6 ≤ (3 : Int32).toNatClampNeg) by decide) dL_law_394 ?_
  refine W.eq (g2 := F0 m 395 ls [.int (xs 3), .int (xs 2), .int (xs 1), .ref a0]) rfl ?_
  refine lv_aload_n hx hb dL_law_395 rfl (lv_at hl 4 rfl) ?_
  refine lv_iload hx hb dL_law_396 (lv_at hl 0 rfl) ?_
  refine lv_iconst (v := 4) hx hb dL_law_398 (by decide) ?_
  refine lv_iadd hx hb dL_law_399 ?_
  refine W.eq (g2 := F0 m 400 ls [.int 4, .ref b, .int (xs 3), .int (xs 2), .int (xs 1), .ref a0]) rfl ?_
  refine va_sld hx hb hXs hbl hbA hS (i := 4) (show ¬ ((4 : Int32) < 0 ∨ 6 ≤ (4 : Int32).toNatClampNeg) by decide) dL_law_400 ?_
  refine W.eq (g2 := F0 m 401 ls [.int (xs 4), .int (xs 3), .int (xs 2), .int (xs 1), .ref a0]) rfl ?_
  obtain ⟨hPc, hDc, hFc⟩ := xcut (wc := [(a0, .inr (0, [v3, v4, v5, v6, v7, v8, v9, v10]))]) hP hD hS hA [0] rfl rfl (by decide)
  refine va_calli (vx_runSW (As := [.ref a0, .int (xs 1), .int (xs 2), .int (xs 3), .int (xs 4)]) (rest := []) ⟨hx, hb, hml, hown, htx⟩ (cL_binary_5 l hl9 D cT aK aV H.size a0 (xs 1) (xs 2) (xs 3) (xs 4) v3 v4 v5 v6 v7 v8 v9 v10 hto1 hto2 hto3 hto4 hf1 hf2 hf3 ha1 ha2 ha3) (xcSW 5 htx (xw_goodC kw_3_97) rfl rfl rfl (htx _ kw_1_0) (htx _ kw_3_95) ⟨by decide, by decide, by decide +kernel⟩ ⟨Nat.le_of_ble_eq_true rfl, Nat.le_of_ble_eq_true rfl⟩ (htx _ kw_3_96)) ⟨xPre_blind, (fun U hU hW => ⟨rfl, xPre_of hZ hS hFc hPc hDc hK U hU hW⟩)⟩ rfl rfl hl.1 rfl (lv_room (Nat.le_of_ble_eq_true rfl)) dL_law_401 ⟨Nat.le_of_ble_eq_true rfl, Nat.le_of_ble_eq_true rfl⟩) hS (fun q _ h => hFc q h) hFc (fun r1 u9 t H1 locs ht hvm hr9 hB hz1 hk1 hS => ?_)
  obtain ⟨hP1, hK1, hD1⟩ := hB
  rw [ht] at hP1
  obtain ⟨hP, hD⟩ := xjoin (W := [(a1, .inr (5, [v11, v12, v13, v14, v15, v16, v17, v18, v19, v20, v21, v22, v23, v24, v25, v26, v27, v28, v29, v30, v31, v32, v33, v34, v35, v36, v37, v38, v39, v40, v41, v42])), (a2, .inl (cT 2, 1, .inr (.inl f43))), (a0, .inr (0, [v3, v4, v5, v6, v7, v8, v9, v10]))]) hP hD [0] [1, 2] 2 rfl rfl (by decide) (by decide) hk1 hFc hP1 hD1
  generalize H1 = H at hP hS ⊢
  rw [hr9]
  refine W.eq (g2 := F0 m 404 ls [.int 1]) rfl ?_
  refine lv_istore (lv' := [(5, .int 1), (4, .int 0), (3, .ref a2), (2, .ref a1), (1, .ref a0), (0, .ref b)]) hx hb dL_law_404 hl (by decide) rfl (fun ls hl => ?_)
  refine lv_aload_n hx hb dL_law_406 rfl (lv_at hl 3 rfl) ?_
  refine lv_aload_n hx hb dL_law_407 rfl (lv_at hl 5 rfl) ?_
  refine lv_iload hx hb dL_law_408 (lv_at hl 1 rfl) ?_
  refine lv_iconst (v := 1) hx hb dL_law_410 (by decide) ?_
  refine lv_iadd hx hb dL_law_411 ?_
  refine W.eq (g2 := F0 m 412 ls [.int 1, .ref b, .ref a1]) rfl ?_
  refine va_sld hx hb hXs hbl hbA hS (i := 1) (show ¬ ((1 : Int32) < 0 ∨ 6 ≤ (1 : Int32).toNatClampNeg) by decide) dL_law_412 ?_
  refine W.eq (g2 := F0 m 413 ls [.int (xs 1), .ref a1]) rfl ?_
  refine lv_aload_n hx hb dL_law_413 rfl (lv_at hl 5 rfl) ?_
  refine lv_iload hx hb dL_law_414 (lv_at hl 1 rfl) ?_
  refine lv_iconst (v := 2) hx hb dL_law_416 (by decide) ?_
  refine lv_iadd hx hb dL_law_417 ?_
  refine W.eq (g2 := F0 m 418 ls [.int 2, .ref b, .int (xs 1), .ref a1]) rfl ?_
  refine va_sld hx hb hXs hbl hbA hS (i := 2) (show ¬ ((2 : Int32) < 0 ∨ 6 ≤ (2 : Int32).toNatClampNeg) by decide) dL_law_418 ?_
  refine W.eq (g2 := F0 m 419 ls [.int (xs 2), .int (xs 1), .ref a1]) rfl ?_
  refine lv_aload_n hx hb dL_law_419 rfl (lv_at hl 5 rfl) ?_
  refine lv_iload hx hb dL_law_420 (lv_at hl 1 rfl) ?_
  refine lv_iconst (v := 3) hx hb dL_law_422 (by decide) ?_
  refine lv_iadd hx hb dL_law_423 ?_
  refine W.eq (g2 := F0 m 424 ls [.int 3, .ref b, .int (xs 2), .int (xs 1), .ref a1]) rfl ?_
  refine va_sld hx hb hXs hbl hbA hS (i := 3) (show ¬ ((3 : Int32) < 0 ∨ 6 ≤ (3 : Int32).toNatClampNeg) by decide) dL_law_424 ?_
  refine W.eq (g2 := F0 m 425 ls [.int (xs 3), .int (xs 2), .int (xs 1), .ref a1]) rfl ?_
  refine lv_aload_n hx hb dL_law_425 rfl (lv_at hl 5 rfl) ?_
  refine lv_iload hx hb dL_law_426 (lv_at hl 1 rfl) ?_
  refine lv_iconst (v := 4) hx hb dL_law_428 (by decide) ?_
  refine lv_iadd hx hb dL_law_429 ?_
  refine W.eq (g2 := F0 m 430 ls [.int 4, .ref b, .int (xs 3), .int (xs 2), .int (xs 1), .ref a1]) rfl ?_
  refine va_sld hx hb hXs hbl hbA hS (i := 4) (show ¬ ((4 : Int32) < 0 ∨ 6 ≤ (4 : Int32).toNatClampNeg) by decide) dL_law_430 ?_
  refine W.eq (g2 := F0 m 431 ls [.int (xs 4), .int (xs 3), .int (xs 2), .int (xs 1), .ref a1]) rfl ?_
  obtain ⟨hPc, hDc, hFc⟩ := xcut (wc := [(a1, .inr (5, [v11, v12, v13, v14, v15, v16, v17, v18, v19, v20, v21, v22, v23, v24, v25, v26, v27, v28, v29, v30, v31, v32, v33, v34, v35, v36, v37, v38, v39, v40, v41, v42]))]) hP hD hS hA [0] rfl rfl (by decide)
  refine va_callv (va_runV (C := "ValueBenchModel") (As := [.int (xs 1), .int (xs 2), .int (xs 3), .int (xs 4)]) (rest := []) ⟨hx, hb, hml, hown, htx⟩ (cM_binary0_5 l hl9 D cT aK aV H.size a1 (xs 1) (xs 2) (xs 3) (xs 4) v11 v12 v13 v14 v15 v16 v17 v18 v19 v20 v21 v22 v23 v24 v25 v26 v27 v28 v29 v30 v31 v32 v33 v34 v35 v36 v37 v38 v39 v40 v41 v42 hto1 hto2 hto3 hto4 hf1 hf2 hf3 ha1 ha2 ha3) ⟨callB_of 4 htx (xw_goodC kw_6_191) rfl rfl rfl (htx _ kw_1_5) (htx _ kw_6_188) ⟨by decide, by decide, by decide +kernel⟩ ⟨Nat.le_of_ble_eq_true rfl, Nat.le_of_ble_eq_true rfl⟩, (htx _ kw_6_189), (htx _ kw_6_190)⟩ ⟨xPre_blind, va_recv hK hP (ci := 5) rfl (q0 := 0) rfl, (fun U hU hW => ⟨rfl, xPre_of hZ hS hFc hPc hDc hK U hU hW⟩)⟩ rfl rfl hl.1 rfl (lv_room (Nat.le_of_ble_eq_true rfl)) dL_law_431 ⟨Nat.le_of_ble_eq_true rfl, Nat.le_of_ble_eq_true rfl⟩) hS (fun q _ h => hFc q h) hFc (fun u9 t H1 locs ht hvm hr9 hB hz1 hk1 hS => ?_)
  obtain ⟨hP1, hK1, hD1⟩ := hB
  rw [ht] at hP1
  obtain ⟨hP, hD⟩ := xjoin (W := [(a2, .inl (cT 2, 1, .inr (.inl f43))), (a0, .inr (0, [v3, v4, v5, v6, v7, v8, v9, v10])), (a1, .inr (5, [.int 1, v12, .int 0, v14, .int 0, v16, v17, .int 0, v19, .int 0, v21, v22, .int 0, v24, v25, v26, v27, v28, v29, v30, v31, v32, .int 0, .int 1000000000, v35, v36, v37, v38, v39, v40, v41, v42]))]) hP hD [0] [1, 2] 2 rfl rfl (by decide) (by decide) hk1 hFc hP1 hD1
  generalize H1 = H at hP hS ⊢
  refine lv_aload_n hx hb dL_law_434 rfl (lv_at hl 3 rfl) ?_
  obtain ⟨hPc, hDc, hFc⟩ := xcut (wc := [(a1, .inr (5, [.int 1, v12, .int 0, v14, .int 0, v16, v17, .int 0, v19, .int 0, v21, v22, .int 0, v24, v25, v26, v27, v28, v29, v30, v31, v32, .int 0, .int 1000000000, v35, v36, v37, v38, v39, v40, v41, v42]))]) hP hD hS hA [2] rfl rfl (by decide)
  refine va_calli (va_runV (C := "ValueBenchModel") (As := []) (rest := []) ⟨hx, hb, hml, hown, htx⟩ (cM_thrown_1 l hl9 D cT aK aV H.size a1 v12 (.int 0) v14 (.int 0) v16 v17 (.int 0) v19 (.int 0) v21 v22 (.int 0) v24 v25 v26 v27 v28 v29 v30 v31 v32 (.int 0) (.int 1000000000) v35 v36 v37 v38 v39 v40 v41 v42) ⟨callB_of 0 htx (xw_goodC kw_5_187) rfl rfl rfl (htx _ kw_1_5) (htx _ kw_5_184) ⟨by decide, by decide, by decide +kernel⟩ ⟨Nat.le_of_ble_eq_true rfl, Nat.le_of_ble_eq_true rfl⟩, (htx _ kw_5_185), (htx _ kw_5_186)⟩ ⟨xPre_blind, va_recv hK hP (ci := 5) rfl (q0 := 2) rfl, (fun U hU hW => ⟨rfl, xPre_of hZ hS hFc hPc hDc hK U hU hW⟩)⟩ rfl rfl hl.1 rfl (lv_room (Nat.le_of_ble_eq_true rfl)) dL_law_435 ⟨Nat.le_of_ble_eq_true rfl, Nat.le_of_ble_eq_true rfl⟩) hS (fun q _ h => hFc q h) hFc (fun r2 u9 t H1 locs ht hvm hr9 hB hz1 hk1 hS => ?_)
  obtain ⟨hP1, hK1, hD1⟩ := hB
  rw [ht] at hP1
  obtain ⟨hP, hD⟩ := xjoin (W := [(a2, .inl (cT 2, 1, .inr (.inl f43))), (a0, .inr (0, [v3, v4, v5, v6, v7, v8, v9, v10])), (a1, .inr (5, [.int 1, v12, .int 0, v14, .int 0, v16, v17, .int 0, v19, .int 0, v21, v22, .int 0, v24, v25, v26, v27, v28, v29, v30, v31, v32, .int 0, .int 1000000000, v35, v36, v37, v38, v39, v40, v41, v42]))]) hP hD [2] [0, 1] 2 rfl rfl (by decide) (by decide) hk1 hFc hP1 hD1
  generalize H1 = H at hP hS ⊢
  rw [hr9]
  refine W.eq (g2 := F0 m 438 ls [.int 1]) rfl ?_
  refine lv_iload hx hb dL_law_438 (lv_at hl 0 rfl) ?_
  refine lv_icmp_eq (tgt := 445) hx hb dL_law_440 (by decide) (fun _ => ?_) (fun h => ((by revert h; decide : False)).elim)
  refine lv_goto (tgt := 906) hx hb dL_law_445 (by decide) ?_
  refine lv_iinc (v := 6) (lv' := [(4, .int 6), (5, .int 1), (3, .ref a2), (2, .ref a1), (1, .ref a0), (0, .ref b)]) hx hb dL_law_906 hl (k := 1) rfl (by decide) (by decide) rfl (fun ls hl => ?_)
  refine lv_goto (tgt := 23) hx hb dL_law_909 (by decide) ?_
  refine lv_iload hx hb dL_law_23 (lv_at hl 0 rfl) ?_
  refine lv_aload_n hx hb dL_law_25 rfl (lv_at hl 5 rfl) ?_
  refine va_slen hx hb hXs hbl hbA hS dL_law_26 ?_
  refine W.eq (g2 := F0 m 27 ls [.int 6, .int 6]) rfl ?_
  refine lv_bipush (v := 6) hx hb dL_law_27 (by decide) ?_
  refine lv_isub hx hb dL_law_29 ?_
  refine W.eq (g2 := F0 m 30 ls [.int 0, .int 6]) rfl ?_
  refine lv_icmp_gt (tgt := 912) hx hb dL_law_30 (by decide) (fun _ => ?_) (fun h => ((by revert h; decide : False)).elim)
  refine lv_iconst (v := 1) hx hb dL_law_912 (by decide) ?_
  exact va_forget (fun q h => hA2 _ (hS.2.2 q h)) (W.widen (k := 600002) (n := 7302232) (Nat.le_of_ble_eq_true rfl) (Nat.le_of_ble_eq_true rfl) (lw_ret hx hb hr hlocks dL_law_913))
set_option maxHeartbeats 400000000 in
set_option maxRecDepth 100000 in
theorem lf_binary_blo {p : Program} {e : Env} {s : State} {m : MethodId} {below : List Frame} {meth : Method} {c : Code} (l : Launch) (hl9 : l.stackTraces = false) (D : va_G) (cT : Nat → ClassId) (aK aV : Nat → Nat) {A : Nat → Prop} {b : Nat} {xs : Nat → Int32} (C : xLw p s m meth c b D cT aK aV A) {H : Heap} {locs : List Loc} {ls : Array Slot} (a0 : Nat) (a1 : Nat) (a2 : Nat) (v3 : Value) (v4 : Value) (v5 : Value) (v6 : Value) (v7 : Value) (v8 : Value) (v9 : Value) (v10 : Value) (v11 : Value) (v12 : Value) (v13 : Value) (v14 : Value) (v15 : Value) (v16 : Value) (v17 : Value) (v18 : Value) (v19 : Value) (v20 : Value) (v21 : Value) (v22 : Value) (v23 : Value) (v24 : Value) (v25 : Value) (v26 : Value) (v27 : Value) (v28 : Value) (v29 : Value) (v30 : Value) (v31 : Value) (v32 : Value) (v33 : Value) (v34 : Value) (v35 : Value) (v36 : Value) (v37 : Value) (v38 : Value) (v39 : Value) (v40 : Value) (v41 : Value) (v42 : Value) (f43 : Nat → Int64) (hto1 : ¬ (xs 1) < 0) (hto2 : ¬ 7 < (xs 1)) (hto3 : (xs 1) ≤ 7) (hto4 : vp_in (xs 1) 8) (hf1 : ¬ (xs 2) < 0) (hf2 : ¬ 4 < (xs 2)) (hf3 : (xs 2) ≤ 4) (ha1 : ¬ (xs 3) < 0) (ha2 : ¬ 7 < (xs 3)) (ha3 : (xs 3) ≤ 7) (ha4 : vp_in (xs 3) 8) (hb1 : (xs 4) < 0) (hXs : va_X b 6 xs s s.heap) (hP : va_P D xcl [(a0, .inr (0, [v3, v4, v5, v6, v7, v8, v9, v10])), (a1, .inr (5, [v11, v12, v13, v14, v15, v16, v17, v18, v19, v20, v21, v22, v23, v24, v25, v26, v27, v28, v29, v30, v31, v32, v33, v34, v35, v36, v37, v38, v39, v40, v41, v42])), (a2, .inl (cT 2, 1, .inr (.inl f43)))] H) (hD : va_D A [(a0, .inr (0, [v3, v4, v5, v6, v7, v8, v9, v10])), (a1, .inr (5, [v11, v12, v13, v14, v15, v16, v17, v18, v19, v20, v21, v22, v23, v24, v25, v26, v27, v28, v29, v30, v31, v32, v33, v34, v35, v36, v37, v38, v39, v40, v41, v42])), (a2, .inl (cT 2, 1, .inr (.inl f43)))]) (hS : va_S A s.heap H locs) (hl : lv_has ls 8 [(4, .int 0), (3, .ref a2), (2, .ref a1), (1, .ref a0), (0, .ref b)]) : W p l e room_1 s m #[Value.ref b] below meth c H locs 54 107242 (lw_Z below #[Value.ref b] s) (F0 m 376 ls []) := by
  obtain ⟨hx, hb, hr, hml, hown, htx, hbl, hbA, hlocks, hK, hZ, hA, hA2⟩ := C
  refine lv_aload_n hx hb dL_law_376 rfl (lv_at hl 3 rfl) ?_
  refine lv_aload_n hx hb dL_law_377 rfl (lv_at hl 4 rfl) ?_
  refine lv_iload hx hb dL_law_378 (lv_at hl 0 rfl) ?_
  refine lv_iconst (v := 1) hx hb dL_law_380 (by decide) ?_
  refine lv_iadd hx hb dL_law_381 ?_
  refine W.eq (g2 := F0 m 382 ls [.int 1, .ref b, .ref a0]) rfl ?_
  refine va_sld hx hb hXs hbl hbA hS (i := 1) (show ¬ ((1 : Int32) < 0 ∨ 6 ≤ (1 : Int32).toNatClampNeg) by decide) dL_law_382 ?_
  refine W.eq (g2 := F0 m 383 ls [.int (xs 1), .ref a0]) rfl ?_
  refine lv_aload_n hx hb dL_law_383 rfl (lv_at hl 4 rfl) ?_
  refine lv_iload hx hb dL_law_384 (lv_at hl 0 rfl) ?_
  refine lv_iconst (v := 2) hx hb dL_law_386 (by decide) ?_
  refine lv_iadd hx hb dL_law_387 ?_
  refine W.eq (g2 := F0 m 388 ls [.int 2, .ref b, .int (xs 1), .ref a0]) rfl ?_
  refine va_sld hx hb hXs hbl hbA hS (i := 2) (show ¬ ((2 : Int32) < 0 ∨ 6 ≤ (2 : Int32).toNatClampNeg) by decide) dL_law_388 ?_
  refine W.eq (g2 := F0 m 389 ls [.int (xs 2), .int (xs 1), .ref a0]) rfl ?_
  refine lv_aload_n hx hb dL_law_389 rfl (lv_at hl 4 rfl) ?_
  refine lv_iload hx hb dL_law_390 (lv_at hl 0 rfl) ?_
  refine lv_iconst (v := 3) hx hb dL_law_392 (by decide) ?_
  refine lv_iadd hx hb dL_law_393 ?_
  refine W.eq (g2 := F0 m 394 ls [.int 3, .ref b, .int (xs 2), .int (xs 1), .ref a0]) rfl ?_
  refine va_sld hx hb hXs hbl hbA hS (i := 3) (show ¬ ((3 : Int32) < 0 ∨ 6 ≤ (3 : Int32).toNatClampNeg) by decide) dL_law_394 ?_
  refine W.eq (g2 := F0 m 395 ls [.int (xs 3), .int (xs 2), .int (xs 1), .ref a0]) rfl ?_
  refine lv_aload_n hx hb dL_law_395 rfl (lv_at hl 4 rfl) ?_
  refine lv_iload hx hb dL_law_396 (lv_at hl 0 rfl) ?_
  refine lv_iconst (v := 4) hx hb dL_law_398 (by decide) ?_
  refine lv_iadd hx hb dL_law_399 ?_
  refine W.eq (g2 := F0 m 400 ls [.int 4, .ref b, .int (xs 3), .int (xs 2), .int (xs 1), .ref a0]) rfl ?_
  refine va_sld hx hb hXs hbl hbA hS (i := 4) (show ¬ ((4 : Int32) < 0 ∨ 6 ≤ (4 : Int32).toNatClampNeg) by decide) dL_law_400 ?_
  refine W.eq (g2 := F0 m 401 ls [.int (xs 4), .int (xs 3), .int (xs 2), .int (xs 1), .ref a0]) rfl ?_
  obtain ⟨hPc, hDc, hFc⟩ := xcut (wc := [(a0, .inr (0, [v3, v4, v5, v6, v7, v8, v9, v10]))]) hP hD hS hA [0] rfl rfl (by decide)
  refine va_calli (vx_runSW (As := [.ref a0, .int (xs 1), .int (xs 2), .int (xs 3), .int (xs 4)]) (rest := []) ⟨hx, hb, hml, hown, htx⟩ (cL_binary_6 l hl9 D cT aK aV H.size a0 (xs 1) (xs 2) (xs 3) (xs 4) v3 v4 v5 v6 v7 v8 v9 v10 hto1 hto2 hto3 hto4 hf1 hf2 hf3 ha1 ha2 ha3 ha4 hb1) (xcSW 5 htx (xw_goodC kw_3_97) rfl rfl rfl (htx _ kw_1_0) (htx _ kw_3_95) ⟨by decide, by decide, by decide +kernel⟩ ⟨Nat.le_of_ble_eq_true rfl, Nat.le_of_ble_eq_true rfl⟩ (htx _ kw_3_96)) ⟨xPre_blind, (fun U hU hW => ⟨rfl, xPre_of hZ hS hFc hPc hDc hK U hU hW⟩)⟩ rfl rfl hl.1 rfl (lv_room (Nat.le_of_ble_eq_true rfl)) dL_law_401 ⟨Nat.le_of_ble_eq_true rfl, Nat.le_of_ble_eq_true rfl⟩) hS (fun q _ h => hFc q h) hFc (fun r1 u9 t H1 locs ht hvm hr9 hB hz1 hk1 hS => ?_)
  obtain ⟨hP1, hK1, hD1⟩ := hB
  rw [ht] at hP1
  obtain ⟨hP, hD⟩ := xjoin (W := [(a1, .inr (5, [v11, v12, v13, v14, v15, v16, v17, v18, v19, v20, v21, v22, v23, v24, v25, v26, v27, v28, v29, v30, v31, v32, v33, v34, v35, v36, v37, v38, v39, v40, v41, v42])), (a2, .inl (cT 2, 1, .inr (.inl f43))), (a0, .inr (0, [v3, v4, v5, v6, v7, v8, v9, v10]))]) hP hD [0] [1, 2] 2 rfl rfl (by decide) (by decide) hk1 hFc hP1 hD1
  generalize H1 = H at hP hS ⊢
  rw [hr9]
  refine W.eq (g2 := F0 m 404 ls [.int 1]) rfl ?_
  refine lv_istore (lv' := [(5, .int 1), (4, .int 0), (3, .ref a2), (2, .ref a1), (1, .ref a0), (0, .ref b)]) hx hb dL_law_404 hl (by decide) rfl (fun ls hl => ?_)
  refine lv_aload_n hx hb dL_law_406 rfl (lv_at hl 3 rfl) ?_
  refine lv_aload_n hx hb dL_law_407 rfl (lv_at hl 5 rfl) ?_
  refine lv_iload hx hb dL_law_408 (lv_at hl 1 rfl) ?_
  refine lv_iconst (v := 1) hx hb dL_law_410 (by decide) ?_
  refine lv_iadd hx hb dL_law_411 ?_
  refine W.eq (g2 := F0 m 412 ls [.int 1, .ref b, .ref a1]) rfl ?_
  refine va_sld hx hb hXs hbl hbA hS (i := 1) (show ¬ ((1 : Int32) < 0 ∨ 6 ≤ (1 : Int32).toNatClampNeg) by decide) dL_law_412 ?_
  refine W.eq (g2 := F0 m 413 ls [.int (xs 1), .ref a1]) rfl ?_
  refine lv_aload_n hx hb dL_law_413 rfl (lv_at hl 5 rfl) ?_
  refine lv_iload hx hb dL_law_414 (lv_at hl 1 rfl) ?_
  refine lv_iconst (v := 2) hx hb dL_law_416 (by decide) ?_
  refine lv_iadd hx hb dL_law_417 ?_
  refine W.eq (g2 := F0 m 418 ls [.int 2, .ref b, .int (xs 1), .ref a1]) rfl ?_
  refine va_sld hx hb hXs hbl hbA hS (i := 2) (show ¬ ((2 : Int32) < 0 ∨ 6 ≤ (2 : Int32).toNatClampNeg) by decide) dL_law_418 ?_
  refine W.eq (g2 := F0 m 419 ls [.int (xs 2), .int (xs 1), .ref a1]) rfl ?_
  refine lv_aload_n hx hb dL_law_419 rfl (lv_at hl 5 rfl) ?_
  refine lv_iload hx hb dL_law_420 (lv_at hl 1 rfl) ?_
  refine lv_iconst (v := 3) hx hb dL_law_422 (by decide) ?_
  refine lv_iadd hx hb dL_law_423 ?_
  refine W.eq (g2 := F0 m 424 ls [.int 3, .ref b, .int (xs 2), .int (xs 1), .ref a1]) rfl ?_
  refine va_sld hx hb hXs hbl hbA hS (i := 3) (show ¬ ((3 : Int32) < 0 ∨ 6 ≤ (3 : Int32).toNatClampNeg) by decide) dL_law_424 ?_
  refine W.eq (g2 := F0 m 425 ls [.int (xs 3), .int (xs 2), .int (xs 1), .ref a1]) rfl ?_
  refine lv_aload_n hx hb dL_law_425 rfl (lv_at hl 5 rfl) ?_
  refine lv_iload hx hb dL_law_426 (lv_at hl 1 rfl) ?_
  refine lv_iconst (v := 4) hx hb dL_law_428 (by decide) ?_
  refine lv_iadd hx hb dL_law_429 ?_
  refine W.eq (g2 := F0 m 430 ls [.int 4, .ref b, .int (xs 3), .int (xs 2), .int (xs 1), .ref a1]) rfl ?_
  refine va_sld hx hb hXs hbl hbA hS (i := 4) (show ¬ ((4 : Int32) < 0 ∨ 6 ≤ (4 : Int32).toNatClampNeg) by decide) dL_law_430 ?_
  refine W.eq (g2 := F0 m 431 ls [.int (xs 4), .int (xs 3), .int (xs 2), .int (xs 1), .ref a1]) rfl ?_
  obtain ⟨hPc, hDc, hFc⟩ := xcut (wc := [(a1, .inr (5, [v11, v12, v13, v14, v15, v16, v17, v18, v19, v20, v21, v22, v23, v24, v25, v26, v27, v28, v29, v30, v31, v32, v33, v34, v35, v36, v37, v38, v39, v40, v41, v42]))]) hP hD hS hA [0] rfl rfl (by decide)
  refine va_callv (va_runV (C := "ValueBenchModel") (As := [.int (xs 1), .int (xs 2), .int (xs 3), .int (xs 4)]) (rest := []) ⟨hx, hb, hml, hown, htx⟩ (cM_binary0_6 l hl9 D cT aK aV H.size a1 (xs 1) (xs 2) (xs 3) (xs 4) v11 v12 v13 v14 v15 v16 v17 v18 v19 v20 v21 v22 v23 v24 v25 v26 v27 v28 v29 v30 v31 v32 v33 v34 v35 v36 v37 v38 v39 v40 v41 v42 hto1 hto2 hto3 hto4 hf1 hf2 hf3 ha1 ha2 ha3 ha4 hb1) ⟨callB_of 4 htx (xw_goodC kw_6_191) rfl rfl rfl (htx _ kw_1_5) (htx _ kw_6_188) ⟨by decide, by decide, by decide +kernel⟩ ⟨Nat.le_of_ble_eq_true rfl, Nat.le_of_ble_eq_true rfl⟩, (htx _ kw_6_189), (htx _ kw_6_190)⟩ ⟨xPre_blind, va_recv hK hP (ci := 5) rfl (q0 := 0) rfl, (fun U hU hW => ⟨rfl, xPre_of hZ hS hFc hPc hDc hK U hU hW⟩)⟩ rfl rfl hl.1 rfl (lv_room (Nat.le_of_ble_eq_true rfl)) dL_law_431 ⟨Nat.le_of_ble_eq_true rfl, Nat.le_of_ble_eq_true rfl⟩) hS (fun q _ h => hFc q h) hFc (fun u9 t H1 locs ht hvm hr9 hB hz1 hk1 hS => ?_)
  obtain ⟨hP1, hK1, hD1⟩ := hB
  rw [ht] at hP1
  obtain ⟨hP, hD⟩ := xjoin (W := [(a2, .inl (cT 2, 1, .inr (.inl f43))), (a0, .inr (0, [v3, v4, v5, v6, v7, v8, v9, v10])), (a1, .inr (5, [.int 1, v12, .int 0, v14, .int 0, v16, v17, .int 0, v19, .int 0, v21, v22, .int 0, v24, v25, v26, v27, v28, v29, v30, v31, v32, .int 0, .int 1000000000, v35, v36, v37, v38, v39, v40, v41, v42]))]) hP hD [0] [1, 2] 2 rfl rfl (by decide) (by decide) hk1 hFc hP1 hD1
  generalize H1 = H at hP hS ⊢
  refine lv_aload_n hx hb dL_law_434 rfl (lv_at hl 3 rfl) ?_
  obtain ⟨hPc, hDc, hFc⟩ := xcut (wc := [(a1, .inr (5, [.int 1, v12, .int 0, v14, .int 0, v16, v17, .int 0, v19, .int 0, v21, v22, .int 0, v24, v25, v26, v27, v28, v29, v30, v31, v32, .int 0, .int 1000000000, v35, v36, v37, v38, v39, v40, v41, v42]))]) hP hD hS hA [2] rfl rfl (by decide)
  refine va_calli (va_runV (C := "ValueBenchModel") (As := []) (rest := []) ⟨hx, hb, hml, hown, htx⟩ (cM_thrown_1 l hl9 D cT aK aV H.size a1 v12 (.int 0) v14 (.int 0) v16 v17 (.int 0) v19 (.int 0) v21 v22 (.int 0) v24 v25 v26 v27 v28 v29 v30 v31 v32 (.int 0) (.int 1000000000) v35 v36 v37 v38 v39 v40 v41 v42) ⟨callB_of 0 htx (xw_goodC kw_5_187) rfl rfl rfl (htx _ kw_1_5) (htx _ kw_5_184) ⟨by decide, by decide, by decide +kernel⟩ ⟨Nat.le_of_ble_eq_true rfl, Nat.le_of_ble_eq_true rfl⟩, (htx _ kw_5_185), (htx _ kw_5_186)⟩ ⟨xPre_blind, va_recv hK hP (ci := 5) rfl (q0 := 2) rfl, (fun U hU hW => ⟨rfl, xPre_of hZ hS hFc hPc hDc hK U hU hW⟩)⟩ rfl rfl hl.1 rfl (lv_room (Nat.le_of_ble_eq_true rfl)) dL_law_435 ⟨Nat.le_of_ble_eq_true rfl, Nat.le_of_ble_eq_true rfl⟩) hS (fun q _ h => hFc q h) hFc (fun r2 u9 t H1 locs ht hvm hr9 hB hz1 hk1 hS => ?_)
  obtain ⟨hP1, hK1, hD1⟩ := hB
  rw [ht] at hP1
  obtain ⟨hP, hD⟩ := xjoin (W := [(a2, .inl (cT 2, 1, .inr (.inl f43))), (a0, .inr (0, [v3, v4, v5, v6, v7, v8, v9, v10])), (a1, .inr (5, [.int 1, v12, .int 0, v14, .int 0, v16, v17, .int 0, v19, .int 0, v21, v22, .int 0, v24, v25, v26, v27, v28, v29, v30, v31, v32, .int 0, .int 1000000000, v35, v36, v37, v38, v39, v40, v41, v42]))]) hP hD [2] [0, 1] 2 rfl rfl (by decide) (by decide) hk1 hFc hP1 hD1
  generalize H1 = H at hP hS ⊢
  rw [hr9]
  refine W.eq (g2 := F0 m 438 ls [.int 1]) rfl ?_
  refine lv_iload hx hb dL_law_438 (lv_at hl 0 rfl) ?_
  refine lv_icmp_eq (tgt := 445) hx hb dL_law_440 (by decide) (fun _ => ?_) (fun h => ((by revert h; decide : False)).elim)
  refine lv_goto (tgt := 906) hx hb dL_law_445 (by decide) ?_
  refine lv_iinc (v := 6) (lv' := [(4, .int 6), (5, .int 1), (3, .ref a2), (2, .ref a1), (1, .ref a0), (0, .ref b)]) hx hb dL_law_906 hl (k := 1) rfl (by decide) (by decide) rfl (fun ls hl => ?_)
  refine lv_goto (tgt := 23) hx hb dL_law_909 (by decide) ?_
  refine lv_iload hx hb dL_law_23 (lv_at hl 0 rfl) ?_
  refine lv_aload_n hx hb dL_law_25 rfl (lv_at hl 5 rfl) ?_
  refine va_slen hx hb hXs hbl hbA hS dL_law_26 ?_
  refine W.eq (g2 := F0 m 27 ls [.int 6, .int 6]) rfl ?_
  refine lv_bipush (v := 6) hx hb dL_law_27 (by decide) ?_
  refine lv_isub hx hb dL_law_29 ?_
  refine W.eq (g2 := F0 m 30 ls [.int 0, .int 6]) rfl ?_
  refine lv_icmp_gt (tgt := 912) hx hb dL_law_30 (by decide) (fun _ => ?_) (fun h => ((by revert h; decide : False)).elim)
  refine lv_iconst (v := 1) hx hb dL_law_912 (by decide) ?_
  exact va_forget (fun q h => hA2 _ (hS.2.2 q h)) (W.widen (k := 600002) (n := 7302232) (Nat.le_of_ble_eq_true rfl) (Nat.le_of_ble_eq_true rfl) (lw_ret hx hb hr hlocks dL_law_913))
set_option maxHeartbeats 400000000 in
set_option maxRecDepth 100000 in
theorem lf_binary_bhi {p : Program} {e : Env} {s : State} {m : MethodId} {below : List Frame} {meth : Method} {c : Code} (l : Launch) (hl9 : l.stackTraces = false) (D : va_G) (cT : Nat → ClassId) (aK aV : Nat → Nat) {A : Nat → Prop} {b : Nat} {xs : Nat → Int32} (C : xLw p s m meth c b D cT aK aV A) {H : Heap} {locs : List Loc} {ls : Array Slot} (a0 : Nat) (a1 : Nat) (a2 : Nat) (v3 : Value) (v4 : Value) (v5 : Value) (v6 : Value) (v7 : Value) (v8 : Value) (v9 : Value) (v10 : Value) (v11 : Value) (v12 : Value) (v13 : Value) (v14 : Value) (v15 : Value) (v16 : Value) (v17 : Value) (v18 : Value) (v19 : Value) (v20 : Value) (v21 : Value) (v22 : Value) (v23 : Value) (v24 : Value) (v25 : Value) (v26 : Value) (v27 : Value) (v28 : Value) (v29 : Value) (v30 : Value) (v31 : Value) (v32 : Value) (v33 : Value) (v34 : Value) (v35 : Value) (v36 : Value) (v37 : Value) (v38 : Value) (v39 : Value) (v40 : Value) (v41 : Value) (v42 : Value) (f43 : Nat → Int64) (hto1 : ¬ (xs 1) < 0) (hto2 : ¬ 7 < (xs 1)) (hto3 : (xs 1) ≤ 7) (hto4 : vp_in (xs 1) 8) (hf1 : ¬ (xs 2) < 0) (hf2 : ¬ 4 < (xs 2)) (hf3 : (xs 2) ≤ 4) (ha1 : ¬ (xs 3) < 0) (ha2 : ¬ 7 < (xs 3)) (ha3 : (xs 3) ≤ 7) (ha4 : vp_in (xs 3) 8) (hb1 : ¬ (xs 4) < 0) (hb2 : 7 < (xs 4)) (hb3 : ¬ (xs 4) ≤ 7) (hXs : va_X b 6 xs s s.heap) (hP : va_P D xcl [(a0, .inr (0, [v3, v4, v5, v6, v7, v8, v9, v10])), (a1, .inr (5, [v11, v12, v13, v14, v15, v16, v17, v18, v19, v20, v21, v22, v23, v24, v25, v26, v27, v28, v29, v30, v31, v32, v33, v34, v35, v36, v37, v38, v39, v40, v41, v42])), (a2, .inl (cT 2, 1, .inr (.inl f43)))] H) (hD : va_D A [(a0, .inr (0, [v3, v4, v5, v6, v7, v8, v9, v10])), (a1, .inr (5, [v11, v12, v13, v14, v15, v16, v17, v18, v19, v20, v21, v22, v23, v24, v25, v26, v27, v28, v29, v30, v31, v32, v33, v34, v35, v36, v37, v38, v39, v40, v41, v42])), (a2, .inl (cT 2, 1, .inr (.inl f43)))]) (hS : va_S A s.heap H locs) (hl : lv_has ls 8 [(4, .int 0), (3, .ref a2), (2, .ref a1), (1, .ref a0), (0, .ref b)]) : W p l e room_1 s m #[Value.ref b] below meth c H locs 54 107242 (lw_Z below #[Value.ref b] s) (F0 m 376 ls []) := by
  obtain ⟨hx, hb, hr, hml, hown, htx, hbl, hbA, hlocks, hK, hZ, hA, hA2⟩ := C
  refine lv_aload_n hx hb dL_law_376 rfl (lv_at hl 3 rfl) ?_
  refine lv_aload_n hx hb dL_law_377 rfl (lv_at hl 4 rfl) ?_
  refine lv_iload hx hb dL_law_378 (lv_at hl 0 rfl) ?_
  refine lv_iconst (v := 1) hx hb dL_law_380 (by decide) ?_
  refine lv_iadd hx hb dL_law_381 ?_
  refine W.eq (g2 := F0 m 382 ls [.int 1, .ref b, .ref a0]) rfl ?_
  refine va_sld hx hb hXs hbl hbA hS (i := 1) (show ¬ ((1 : Int32) < 0 ∨ 6 ≤ (1 : Int32).toNatClampNeg) by decide) dL_law_382 ?_
  refine W.eq (g2 := F0 m 383 ls [.int (xs 1), .ref a0]) rfl ?_
  refine lv_aload_n hx hb dL_law_383 rfl (lv_at hl 4 rfl) ?_
  refine lv_iload hx hb dL_law_384 (lv_at hl 0 rfl) ?_
  refine lv_iconst (v := 2) hx hb dL_law_386 (by decide) ?_
  refine lv_iadd hx hb dL_law_387 ?_
  refine W.eq (g2 := F0 m 388 ls [.int 2, .ref b, .int (xs 1), .ref a0]) rfl ?_
  refine va_sld hx hb hXs hbl hbA hS (i := 2) (show ¬ ((2 : Int32) < 0 ∨ 6 ≤ (2 : Int32).toNatClampNeg) by decide) dL_law_388 ?_
  refine W.eq (g2 := F0 m 389 ls [.int (xs 2), .int (xs 1), .ref a0]) rfl ?_
  refine lv_aload_n hx hb dL_law_389 rfl (lv_at hl 4 rfl) ?_
  refine lv_iload hx hb dL_law_390 (lv_at hl 0 rfl) ?_
  refine lv_iconst (v := 3) hx hb dL_law_392 (by decide) ?_
  refine lv_iadd hx hb dL_law_393 ?_
  refine W.eq (g2 := F0 m 394 ls [.int 3, .ref b, .int (xs 2), .int (xs 1), .ref a0]) rfl ?_
  refine va_sld hx hb hXs hbl hbA hS (i := 3) (show ¬ ((3 : Int32) < 0 ∨ 6 ≤ (3 : Int32).toNatClampNeg) by decide) dL_law_394 ?_
  refine W.eq (g2 := F0 m 395 ls [.int (xs 3), .int (xs 2), .int (xs 1), .ref a0]) rfl ?_
  refine lv_aload_n hx hb dL_law_395 rfl (lv_at hl 4 rfl) ?_
  refine lv_iload hx hb dL_law_396 (lv_at hl 0 rfl) ?_
  refine lv_iconst (v := 4) hx hb dL_law_398 (by decide) ?_
  refine lv_iadd hx hb dL_law_399 ?_
  refine W.eq (g2 := F0 m 400 ls [.int 4, .ref b, .int (xs 3), .int (xs 2), .int (xs 1), .ref a0]) rfl ?_
  refine va_sld hx hb hXs hbl hbA hS (i := 4) (show ¬ ((4 : Int32) < 0 ∨ 6 ≤ (4 : Int32).toNatClampNeg) by decide) dL_law_400 ?_
  refine W.eq (g2 := F0 m 401 ls [.int (xs 4), .int (xs 3), .int (xs 2), .int (xs 1), .ref a0]) rfl ?_
  obtain ⟨hPc, hDc, hFc⟩ := xcut (wc := [(a0, .inr (0, [v3, v4, v5, v6, v7, v8, v9, v10]))]) hP hD hS hA [0] rfl rfl (by decide)
  refine va_calli (vx_runSW (As := [.ref a0, .int (xs 1), .int (xs 2), .int (xs 3), .int (xs 4)]) (rest := []) ⟨hx, hb, hml, hown, htx⟩ (cL_binary_7 l hl9 D cT aK aV H.size a0 (xs 1) (xs 2) (xs 3) (xs 4) v3 v4 v5 v6 v7 v8 v9 v10 hto1 hto2 hto3 hto4 hf1 hf2 hf3 ha1 ha2 ha3 ha4 hb1 hb2 hb3) (xcSW 5 htx (xw_goodC kw_3_97) rfl rfl rfl (htx _ kw_1_0) (htx _ kw_3_95) ⟨by decide, by decide, by decide +kernel⟩ ⟨Nat.le_of_ble_eq_true rfl, Nat.le_of_ble_eq_true rfl⟩ (htx _ kw_3_96)) ⟨xPre_blind, (fun U hU hW => ⟨rfl, xPre_of hZ hS hFc hPc hDc hK U hU hW⟩)⟩ rfl rfl hl.1 rfl (lv_room (Nat.le_of_ble_eq_true rfl)) dL_law_401 ⟨Nat.le_of_ble_eq_true rfl, Nat.le_of_ble_eq_true rfl⟩) hS (fun q _ h => hFc q h) hFc (fun r1 u9 t H1 locs ht hvm hr9 hB hz1 hk1 hS => ?_)
  obtain ⟨hP1, hK1, hD1⟩ := hB
  rw [ht] at hP1
  obtain ⟨hP, hD⟩ := xjoin (W := [(a1, .inr (5, [v11, v12, v13, v14, v15, v16, v17, v18, v19, v20, v21, v22, v23, v24, v25, v26, v27, v28, v29, v30, v31, v32, v33, v34, v35, v36, v37, v38, v39, v40, v41, v42])), (a2, .inl (cT 2, 1, .inr (.inl f43))), (a0, .inr (0, [v3, v4, v5, v6, v7, v8, v9, v10]))]) hP hD [0] [1, 2] 2 rfl rfl (by decide) (by decide) hk1 hFc hP1 hD1
  generalize H1 = H at hP hS ⊢
  rw [hr9]
  refine W.eq (g2 := F0 m 404 ls [.int 1]) rfl ?_
  refine lv_istore (lv' := [(5, .int 1), (4, .int 0), (3, .ref a2), (2, .ref a1), (1, .ref a0), (0, .ref b)]) hx hb dL_law_404 hl (by decide) rfl (fun ls hl => ?_)
  refine lv_aload_n hx hb dL_law_406 rfl (lv_at hl 3 rfl) ?_
  refine lv_aload_n hx hb dL_law_407 rfl (lv_at hl 5 rfl) ?_
  refine lv_iload hx hb dL_law_408 (lv_at hl 1 rfl) ?_
  refine lv_iconst (v := 1) hx hb dL_law_410 (by decide) ?_
  refine lv_iadd hx hb dL_law_411 ?_
  refine W.eq (g2 := F0 m 412 ls [.int 1, .ref b, .ref a1]) rfl ?_
  refine va_sld hx hb hXs hbl hbA hS (i := 1) (show ¬ ((1 : Int32) < 0 ∨ 6 ≤ (1 : Int32).toNatClampNeg) by decide) dL_law_412 ?_
  refine W.eq (g2 := F0 m 413 ls [.int (xs 1), .ref a1]) rfl ?_
  refine lv_aload_n hx hb dL_law_413 rfl (lv_at hl 5 rfl) ?_
  refine lv_iload hx hb dL_law_414 (lv_at hl 1 rfl) ?_
  refine lv_iconst (v := 2) hx hb dL_law_416 (by decide) ?_
  refine lv_iadd hx hb dL_law_417 ?_
  refine W.eq (g2 := F0 m 418 ls [.int 2, .ref b, .int (xs 1), .ref a1]) rfl ?_
  refine va_sld hx hb hXs hbl hbA hS (i := 2) (show ¬ ((2 : Int32) < 0 ∨ 6 ≤ (2 : Int32).toNatClampNeg) by decide) dL_law_418 ?_
  refine W.eq (g2 := F0 m 419 ls [.int (xs 2), .int (xs 1), .ref a1]) rfl ?_
  refine lv_aload_n hx hb dL_law_419 rfl (lv_at hl 5 rfl) ?_
  refine lv_iload hx hb dL_law_420 (lv_at hl 1 rfl) ?_
  refine lv_iconst (v := 3) hx hb dL_law_422 (by decide) ?_
  refine lv_iadd hx hb dL_law_423 ?_
  refine W.eq (g2 := F0 m 424 ls [.int 3, .ref b, .int (xs 2), .int (xs 1), .ref a1]) rfl ?_
  refine va_sld hx hb hXs hbl hbA hS (i := 3) (show ¬ ((3 : Int32) < 0 ∨ 6 ≤ (3 : Int32).toNatClampNeg) by decide) dL_law_424 ?_
  refine W.eq (g2 := F0 m 425 ls [.int (xs 3), .int (xs 2), .int (xs 1), .ref a1]) rfl ?_
  refine lv_aload_n hx hb dL_law_425 rfl (lv_at hl 5 rfl) ?_
  refine lv_iload hx hb dL_law_426 (lv_at hl 1 rfl) ?_
  refine lv_iconst (v := 4) hx hb dL_law_428 (by decide) ?_
  refine lv_iadd hx hb dL_law_429 ?_
  refine W.eq (g2 := F0 m 430 ls [.int 4, .ref b, .int (xs 3), .int (xs 2), .int (xs 1), .ref a1]) rfl ?_
  refine va_sld hx hb hXs hbl hbA hS (i := 4) (show ¬ ((4 : Int32) < 0 ∨ 6 ≤ (4 : Int32).toNatClampNeg) by decide) dL_law_430 ?_
  refine W.eq (g2 := F0 m 431 ls [.int (xs 4), .int (xs 3), .int (xs 2), .int (xs 1), .ref a1]) rfl ?_
  obtain ⟨hPc, hDc, hFc⟩ := xcut (wc := [(a1, .inr (5, [v11, v12, v13, v14, v15, v16, v17, v18, v19, v20, v21, v22, v23, v24, v25, v26, v27, v28, v29, v30, v31, v32, v33, v34, v35, v36, v37, v38, v39, v40, v41, v42]))]) hP hD hS hA [0] rfl rfl (by decide)
  refine va_callv (va_runV (C := "ValueBenchModel") (As := [.int (xs 1), .int (xs 2), .int (xs 3), .int (xs 4)]) (rest := []) ⟨hx, hb, hml, hown, htx⟩ (cM_binary0_7 l hl9 D cT aK aV H.size a1 (xs 1) (xs 2) (xs 3) (xs 4) v11 v12 v13 v14 v15 v16 v17 v18 v19 v20 v21 v22 v23 v24 v25 v26 v27 v28 v29 v30 v31 v32 v33 v34 v35 v36 v37 v38 v39 v40 v41 v42 hto1 hto2 hto3 hto4 hf1 hf2 hf3 ha1 ha2 ha3 ha4 hb1 hb2 hb3) ⟨callB_of 4 htx (xw_goodC kw_6_191) rfl rfl rfl (htx _ kw_1_5) (htx _ kw_6_188) ⟨by decide, by decide, by decide +kernel⟩ ⟨Nat.le_of_ble_eq_true rfl, Nat.le_of_ble_eq_true rfl⟩, (htx _ kw_6_189), (htx _ kw_6_190)⟩ ⟨xPre_blind, va_recv hK hP (ci := 5) rfl (q0 := 0) rfl, (fun U hU hW => ⟨rfl, xPre_of hZ hS hFc hPc hDc hK U hU hW⟩)⟩ rfl rfl hl.1 rfl (lv_room (Nat.le_of_ble_eq_true rfl)) dL_law_431 ⟨Nat.le_of_ble_eq_true rfl, Nat.le_of_ble_eq_true rfl⟩) hS (fun q _ h => hFc q h) hFc (fun u9 t H1 locs ht hvm hr9 hB hz1 hk1 hS => ?_)
  obtain ⟨hP1, hK1, hD1⟩ := hB
  rw [ht] at hP1
  obtain ⟨hP, hD⟩ := xjoin (W := [(a2, .inl (cT 2, 1, .inr (.inl f43))), (a0, .inr (0, [v3, v4, v5, v6, v7, v8, v9, v10])), (a1, .inr (5, [.int 1, v12, .int 0, v14, .int 0, v16, v17, .int 0, v19, .int 0, v21, v22, .int 0, v24, v25, v26, v27, v28, v29, v30, v31, v32, .int 0, .int 1000000000, v35, v36, v37, v38, v39, v40, v41, v42]))]) hP hD [0] [1, 2] 2 rfl rfl (by decide) (by decide) hk1 hFc hP1 hD1
  generalize H1 = H at hP hS ⊢
  refine lv_aload_n hx hb dL_law_434 rfl (lv_at hl 3 rfl) ?_
  obtain ⟨hPc, hDc, hFc⟩ := xcut (wc := [(a1, .inr (5, [.int 1, v12, .int 0, v14, .int 0, v16, v17, .int 0, v19, .int 0, v21, v22, .int 0, v24, v25, v26, v27, v28, v29, v30, v31, v32, .int 0, .int 1000000000, v35, v36, v37, v38, v39, v40, v41, v42]))]) hP hD hS hA [2] rfl rfl (by decide)
  refine va_calli (va_runV (C := "ValueBenchModel") (As := []) (rest := []) ⟨hx, hb, hml, hown, htx⟩ (cM_thrown_1 l hl9 D cT aK aV H.size a1 v12 (.int 0) v14 (.int 0) v16 v17 (.int 0) v19 (.int 0) v21 v22 (.int 0) v24 v25 v26 v27 v28 v29 v30 v31 v32 (.int 0) (.int 1000000000) v35 v36 v37 v38 v39 v40 v41 v42) ⟨callB_of 0 htx (xw_goodC kw_5_187) rfl rfl rfl (htx _ kw_1_5) (htx _ kw_5_184) ⟨by decide, by decide, by decide +kernel⟩ ⟨Nat.le_of_ble_eq_true rfl, Nat.le_of_ble_eq_true rfl⟩, (htx _ kw_5_185), (htx _ kw_5_186)⟩ ⟨xPre_blind, va_recv hK hP (ci := 5) rfl (q0 := 2) rfl, (fun U hU hW => ⟨rfl, xPre_of hZ hS hFc hPc hDc hK U hU hW⟩)⟩ rfl rfl hl.1 rfl (lv_room (Nat.le_of_ble_eq_true rfl)) dL_law_435 ⟨Nat.le_of_ble_eq_true rfl, Nat.le_of_ble_eq_true rfl⟩) hS (fun q _ h => hFc q h) hFc (fun r2 u9 t H1 locs ht hvm hr9 hB hz1 hk1 hS => ?_)
  obtain ⟨hP1, hK1, hD1⟩ := hB
  rw [ht] at hP1
  obtain ⟨hP, hD⟩ := xjoin (W := [(a2, .inl (cT 2, 1, .inr (.inl f43))), (a0, .inr (0, [v3, v4, v5, v6, v7, v8, v9, v10])), (a1, .inr (5, [.int 1, v12, .int 0, v14, .int 0, v16, v17, .int 0, v19, .int 0, v21, v22, .int 0, v24, v25, v26, v27, v28, v29, v30, v31, v32, .int 0, .int 1000000000, v35, v36, v37, v38, v39, v40, v41, v42]))]) hP hD [2] [0, 1] 2 rfl rfl (by decide) (by decide) hk1 hFc hP1 hD1
  generalize H1 = H at hP hS ⊢
  rw [hr9]
  refine W.eq (g2 := F0 m 438 ls [.int 1]) rfl ?_
  refine lv_iload hx hb dL_law_438 (lv_at hl 0 rfl) ?_
  refine lv_icmp_eq (tgt := 445) hx hb dL_law_440 (by decide) (fun _ => ?_) (fun h => ((by revert h; decide : False)).elim)
  refine lv_goto (tgt := 906) hx hb dL_law_445 (by decide) ?_
  refine lv_iinc (v := 6) (lv' := [(4, .int 6), (5, .int 1), (3, .ref a2), (2, .ref a1), (1, .ref a0), (0, .ref b)]) hx hb dL_law_906 hl (k := 1) rfl (by decide) (by decide) rfl (fun ls hl => ?_)
  refine lv_goto (tgt := 23) hx hb dL_law_909 (by decide) ?_
  refine lv_iload hx hb dL_law_23 (lv_at hl 0 rfl) ?_
  refine lv_aload_n hx hb dL_law_25 rfl (lv_at hl 5 rfl) ?_
  refine va_slen hx hb hXs hbl hbA hS dL_law_26 ?_
  refine W.eq (g2 := F0 m 27 ls [.int 6, .int 6]) rfl ?_
  refine lv_bipush (v := 6) hx hb dL_law_27 (by decide) ?_
  refine lv_isub hx hb dL_law_29 ?_
  refine W.eq (g2 := F0 m 30 ls [.int 0, .int 6]) rfl ?_
  refine lv_icmp_gt (tgt := 912) hx hb dL_law_30 (by decide) (fun _ => ?_) (fun h => ((by revert h; decide : False)).elim)
  refine lv_iconst (v := 1) hx hb dL_law_912 (by decide) ?_
  exact va_forget (fun q h => hA2 _ (hS.2.2 q h)) (W.widen (k := 600002) (n := 7302232) (Nat.le_of_ble_eq_true rfl) (Nat.le_of_ble_eq_true rfl) (lw_ret hx hb hr hlocks dL_law_913))
set_option maxHeartbeats 400000000 in
set_option maxRecDepth 100000 in
theorem lf_binary0_p4 {p : Program} {e : Env} {s : State} {m : MethodId} {below : List Frame} {meth : Method} {c : Code} (l : Launch) (hl9 : l.stackTraces = false) (D : va_G) (cT : Nat → ClassId) (aK aV : Nat → Nat) {A : Nat → Prop} {b : Nat} {xs : Nat → Int32} (C : xLw p s m meth c b D cT aK aV A) {H : Heap} {locs : List Loc} {ls : Array Slot} (a0 : Nat) (a1 : Nat) (a2 : Nat) (a3 : Nat) (a4 : Nat) (a5 : Nat) (a6 : Nat) (a7 : Nat) (a8 : Nat) (a9 : Nat) (a10 : Nat) (a11 : Nat) (a12 : Nat) (a13 : Nat) (a14 : Nat) (v15 : Value) (v16 : Value) (v17 : Value) (v18 : Value) (v19 : Value) (v20 : Value) (v21 : Value) (v22 : Value) (v23 : Value) (v24 : Value) (v25 : Value) (v26 : Value) (v27 : Value) (v28 : Value) (v29 : Value) (v30 : Value) (v31 : Value) (v32 : Value) (v33 : Value) (v34 : Value) (v35 : Value) (v36 : Value) (v37 : Value) (v38 : Value) (v39 : Value) (v40 : Value) (v41 : Value) (v42 : Value) (v43 : Value) (v44 : Value) (v45 : Value) (v46 : Value) (v47 : Value) (f48 : Nat → Int64) (v49 : Value) (v50 : Value) (f51 : Nat → Option Nat) (b54 : Nat) (v56 : Value) (f57 : Nat → Int64) (f59 : Nat → Int64) (v60 : Value) (v61 : Value) (f62 : Nat → Int32) (f63 : Nat → Option Nat) (f67 : Nat → Int32) (f70 : Nat → Int32) (f75 : Nat → Option Nat) (f78 : Nat → Int32) (h52 : f51 (xs 3).toNatClampNeg = some a5) (h53 : f51 (xs 4).toNatClampNeg = some a5) (h55 : f51 (xs 1).toNatClampNeg = some b54) (h58 : f57 0 = 0) (h64 : f63 (xs 3).toNatClampNeg = some a12) (h65 : f63 (xs 4).toNatClampNeg = some a12) (h66 : f63 (xs 1).toNatClampNeg = some a12) (h68 : f67 (xs 3).toNatClampNeg = 4) (h69 : f67 (xs 4).toNatClampNeg = 4) (h71 : f70 0 = 110) (h72 : f70 1 = 117) (h73 : f70 2 = 108) (h74 : f70 3 = 108) (h76 : f75 0 = none) (h77 : f75 1 = none) (hto1 : ¬ (xs 1) < 0) (hto2 : ¬ 7 < (xs 1)) (hto3 : (xs 1) ≤ 7) (hto4 : vp_in (xs 1) 8) (hf : xs 2 = 0) (ha1 : ¬ (xs 3) < 0) (ha2 : ¬ 7 < (xs 3)) (ha3 : (xs 3) ≤ 7) (ha4 : vp_in (xs 3) 8) (hb1 : ¬ (xs 4) < 0) (hb2 : ¬ 7 < (xs 4)) (hb3 : (xs 4) ≤ 7) (hb4 : vp_in (xs 4) 8) (hXs : va_X b 6 xs s s.heap) (hP : va_P D xcl [(a0, .inr (0, [v15, v16, .ref a8, .ref a4, v17, .ref a3, v18, v19])), (a1, .inr (5, [v20, .ref a13, v21, v22, v23, v24, v25, v26, v27, v28, v29, v30, v31, v32, v33, v34, v35, v36, v37, v38, v39, .ref a14, v40, v41, .ref a10, .ref a11, v42, v43, v44, v45, v46, v47])), (a2, .inl (cT 2, 1, .inr (.inl f48))), (a3, .inr (2, [.ref a7, v49, v50])), (a4, .inl (cT 3, 8, .inr (.inr (.inr (.inr f51))))), (a5, .inr (2, [.ref a6, .int 1, v56])), (a6, .inl (cT 2, 4096, .inr (.inl f57))), (a7, .inl (cT 2, 4096, .inr (.inl f59))), (a8, .inr (1, [.ref a9, v60, v61])), (a9, .inl (cT 0, 4096, .inl f62)), (a10, .inl (cT 5, 8, .inr (.inr (.inr (.inr f63))))), (a11, .inl (cT 1, 8, .inl f67)), (a12, .inl (cT 0, 4096, .inl f70)), (a13, .inl (cT 4, 1024, .inr (.inr (.inr (.inr f75))))), (a14, .inl (cT 0, 1024, .inl f78))] H) (hD : va_D A [(a0, .inr (0, [v15, v16, .ref a8, .ref a4, v17, .ref a3, v18, v19])), (a1, .inr (5, [v20, .ref a13, v21, v22, v23, v24, v25, v26, v27, v28, v29, v30, v31, v32, v33, v34, v35, v36, v37, v38, v39, .ref a14, v40, v41, .ref a10, .ref a11, v42, v43, v44, v45, v46, v47])), (a2, .inl (cT 2, 1, .inr (.inl f48))), (a3, .inr (2, [.ref a7, v49, v50])), (a4, .inl (cT 3, 8, .inr (.inr (.inr (.inr f51))))), (a5, .inr (2, [.ref a6, .int 1, v56])), (a6, .inl (cT 2, 4096, .inr (.inl f57))), (a7, .inl (cT 2, 4096, .inr (.inl f59))), (a8, .inr (1, [.ref a9, v60, v61])), (a9, .inl (cT 0, 4096, .inl f62)), (a10, .inl (cT 5, 8, .inr (.inr (.inr (.inr f63))))), (a11, .inl (cT 1, 8, .inl f67)), (a12, .inl (cT 0, 4096, .inl f70)), (a13, .inl (cT 4, 1024, .inr (.inr (.inr (.inr f75))))), (a14, .inl (cT 0, 1024, .inl f78))]) (hS : va_S A s.heap H locs) (hl : lv_has ls 8 [(4, .int 0), (3, .ref a2), (2, .ref a1), (1, .ref a0), (0, .ref b)]) : W p l e room_1 s m #[Value.ref b] below meth c H locs 54 107242 (lw_Z below #[Value.ref b] s) (F0 m 376 ls []) := by
  obtain ⟨hx, hb, hr, hml, hown, htx, hbl, hbA, hlocks, hK, hZ, hA, hA2⟩ := C
  refine lv_aload_n hx hb dL_law_376 rfl (lv_at hl 3 rfl) ?_
  refine lv_aload_n hx hb dL_law_377 rfl (lv_at hl 4 rfl) ?_
  refine lv_iload hx hb dL_law_378 (lv_at hl 0 rfl) ?_
  refine lv_iconst (v := 1) hx hb dL_law_380 (by decide) ?_
  refine lv_iadd hx hb dL_law_381 ?_
  refine W.eq (g2 := F0 m 382 ls [.int 1, .ref b, .ref a0]) rfl ?_
  refine va_sld hx hb hXs hbl hbA hS (i := 1) (show ¬ ((1 : Int32) < 0 ∨ 6 ≤ (1 : Int32).toNatClampNeg) by decide) dL_law_382 ?_
  refine W.eq (g2 := F0 m 383 ls [.int (xs 1), .ref a0]) rfl ?_
  refine lv_aload_n hx hb dL_law_383 rfl (lv_at hl 4 rfl) ?_
  refine lv_iload hx hb dL_law_384 (lv_at hl 0 rfl) ?_
  refine lv_iconst (v := 2) hx hb dL_law_386 (by decide) ?_
  refine lv_iadd hx hb dL_law_387 ?_
  refine W.eq (g2 := F0 m 388 ls [.int 2, .ref b, .int (xs 1), .ref a0]) rfl ?_
  refine va_sld hx hb hXs hbl hbA hS (i := 2) (show ¬ ((2 : Int32) < 0 ∨ 6 ≤ (2 : Int32).toNatClampNeg) by decide) dL_law_388 ?_
  refine W.eq (g2 := F0 m 389 ls [.int (xs 2), .int (xs 1), .ref a0]) rfl ?_
  rw [hf]
  refine W.eq (g2 := F0 m 389 ls [.int 0, .int (xs 1), .ref a0]) rfl ?_
  refine lv_aload_n hx hb dL_law_389 rfl (lv_at hl 4 rfl) ?_
  refine lv_iload hx hb dL_law_390 (lv_at hl 0 rfl) ?_
  refine lv_iconst (v := 3) hx hb dL_law_392 (by decide) ?_
  refine lv_iadd hx hb dL_law_393 ?_
  refine W.eq (g2 := F0 m 394 ls [.int 3, .ref b, .int 0, .int (xs 1), .ref a0]) rfl ?_
  refine va_sld hx hb hXs hbl hbA hS (i := 3) (show ¬ ((3 : Int32) < 0 ∨ 6 ≤ (3 : Int32).toNatClampNeg) by decide) dL_law_394 ?_
  refine W.eq (g2 := F0 m 395 ls [.int (xs 3), .int 0, .int (xs 1), .ref a0]) rfl ?_
  refine lv_aload_n hx hb dL_law_395 rfl (lv_at hl 4 rfl) ?_
  refine lv_iload hx hb dL_law_396 (lv_at hl 0 rfl) ?_
  refine lv_iconst (v := 4) hx hb dL_law_398 (by decide) ?_
  refine lv_iadd hx hb dL_law_399 ?_
  refine W.eq (g2 := F0 m 400 ls [.int 4, .ref b, .int (xs 3), .int 0, .int (xs 1), .ref a0]) rfl ?_
  refine va_sld hx hb hXs hbl hbA hS (i := 4) (show ¬ ((4 : Int32) < 0 ∨ 6 ≤ (4 : Int32).toNatClampNeg) by decide) dL_law_400 ?_
  refine W.eq (g2 := F0 m 401 ls [.int (xs 4), .int (xs 3), .int 0, .int (xs 1), .ref a0]) rfl ?_
  obtain ⟨hPc, hDc, hFc⟩ := xcut (wc := [(a0, .inr (0, [v15, v16, .ref a8, .ref a4, v17, .ref a3, v18, v19])), (a3, .inr (2, [.ref a7, v49, v50])), (a4, .inl (cT 3, 8, .inr (.inr (.inr (.inr f51))))), (a5, .inr (2, [.ref a6, .int 1, v56])), (a6, .inl (cT 2, 4096, .inr (.inl f57))), (a7, .inl (cT 2, 4096, .inr (.inl f59))), (a8, .inr (1, [.ref a9, v60, v61])), (a9, .inl (cT 0, 4096, .inl f62))]) hP hD hS hA [0, 3, 4, 5, 6, 7, 8, 9] rfl rfl (by decide)
  refine va_calli (vx_runSW (As := [.ref a0, .int (xs 1), .int 0, .int (xs 3), .int (xs 4)]) (rest := []) ⟨hx, hb, hml, hown, htx⟩ (cL_binary_8 l hl9 D cT aK aV H.size a0 a3 a4 a5 a6 a7 a8 a9 (xs 1) (xs 3) (xs 4) v15 v16 v17 v18 v19 v49 v50 f51 b54 v56 f57 f59 v60 v61 f62 hto1 hto2 hto3 hto4 ha1 ha2 ha3 ha4 hb1 hb2 hb3 hb4 (by first | rfl | exact h52 | exact h53 | exact h55 | exact h58 | exact h64 | exact h65 | exact h66 | exact h68 | exact h69 | exact h71 | exact h72 | exact h73 | exact h74 | exact h76 | exact h77) (by first | rfl | exact h52 | exact h53 | exact h55 | exact h58 | exact h64 | exact h65 | exact h66 | exact h68 | exact h69 | exact h71 | exact h72 | exact h73 | exact h74 | exact h76 | exact h77) (by first | rfl | exact h52 | exact h53 | exact h55 | exact h58 | exact h64 | exact h65 | exact h66 | exact h68 | exact h69 | exact h71 | exact h72 | exact h73 | exact h74 | exact h76 | exact h77) (by first | rfl | exact h52 | exact h53 | exact h55 | exact h58 | exact h64 | exact h65 | exact h66 | exact h68 | exact h69 | exact h71 | exact h72 | exact h73 | exact h74 | exact h76 | exact h77)) (xcSW 5 htx (xw_goodC kw_3_97) rfl rfl rfl (htx _ kw_1_0) (htx _ kw_3_95) ⟨by decide, by decide, by decide +kernel⟩ ⟨Nat.le_of_ble_eq_true rfl, Nat.le_of_ble_eq_true rfl⟩ (htx _ kw_3_96)) ⟨xPre_blind, (fun U hU hW => ⟨rfl, xPre_of hZ hS hFc hPc hDc hK U hU hW⟩)⟩ rfl rfl hl.1 rfl (lv_room (Nat.le_of_ble_eq_true rfl)) dL_law_401 ⟨Nat.le_of_ble_eq_true rfl, Nat.le_of_ble_eq_true rfl⟩) hS (fun q _ h => hFc q h) hFc (fun r1 u9 t H1 locs ht hvm hr9 hB hz1 hk1 hS => ?_)
  obtain ⟨y2, y3, y4, y5, hP1, hK1, hD1⟩ := hB
  rw [ht] at hP1
  obtain ⟨hP, hD⟩ := xjoin (W := [(a1, .inr (5, [v20, .ref a13, v21, v22, v23, v24, v25, v26, v27, v28, v29, v30, v31, v32, v33, v34, v35, v36, v37, v38, v39, .ref a14, v40, v41, .ref a10, .ref a11, v42, v43, v44, v45, v46, v47])), (a2, .inl (cT 2, 1, .inr (.inl f48))), (a10, .inl (cT 5, 8, .inr (.inr (.inr (.inr f63))))), (a11, .inl (cT 1, 8, .inl f67)), (a12, .inl (cT 0, 4096, .inl f70)), (a13, .inl (cT 4, 1024, .inr (.inr (.inr (.inr f75))))), (a14, .inl (cT 0, 1024, .inl f78)), (a0, .inr (0, [v15, v16, .ref a8, .ref a4, v17, .ref b54, v18, v19])), (a3, .inr (2, [.ref a7, .int 1, .int 0])), (a4, .inl (cT 3, 8, .inr (.inr (.inr (.inr (va_up f51 (xs 1).toNatClampNeg (some a3))))))), (a5, .inr (2, [.ref a6, .int 1, v56])), (a6, .inl (cT 2, 4096, .inr (.inl f57))), (a7, .inl (cT 2, 4096, .inr (.inl (vp_updL f59 0 0)))), (a8, .inr (1, [.ref a9, .int 4, .int 0])), (a9, .inl (cT 0, 4096, .inl (upd (upd (upd (upd f62 0 (vp_nar .byte y2)) 1 (vp_nar .byte y3)) 2 (vp_nar .byte y4)) 3 (vp_nar .byte y5))))]) hP hD [0, 3, 4, 5, 6, 7, 8, 9] [1, 2, 10, 11, 12, 13, 14] 7 rfl rfl (by decide) (by decide) hk1 hFc hP1 hD1
  generalize H1 = H at hP hS ⊢
  rw [hr9]
  refine W.eq (g2 := F0 m 404 ls [.int 0]) rfl ?_
  refine lv_istore (lv' := [(5, .int 0), (4, .int 0), (3, .ref a2), (2, .ref a1), (1, .ref a0), (0, .ref b)]) hx hb dL_law_404 hl (by decide) rfl (fun ls hl => ?_)
  refine lv_aload_n hx hb dL_law_406 rfl (lv_at hl 3 rfl) ?_
  refine lv_aload_n hx hb dL_law_407 rfl (lv_at hl 5 rfl) ?_
  refine lv_iload hx hb dL_law_408 (lv_at hl 1 rfl) ?_
  refine lv_iconst (v := 1) hx hb dL_law_410 (by decide) ?_
  refine lv_iadd hx hb dL_law_411 ?_
  refine W.eq (g2 := F0 m 412 ls [.int 1, .ref b, .ref a1]) rfl ?_
  refine va_sld hx hb hXs hbl hbA hS (i := 1) (show ¬ ((1 : Int32) < 0 ∨ 6 ≤ (1 : Int32).toNatClampNeg) by decide) dL_law_412 ?_
  refine W.eq (g2 := F0 m 413 ls [.int (xs 1), .ref a1]) rfl ?_
  refine lv_aload_n hx hb dL_law_413 rfl (lv_at hl 5 rfl) ?_
  refine lv_iload hx hb dL_law_414 (lv_at hl 1 rfl) ?_
  refine lv_iconst (v := 2) hx hb dL_law_416 (by decide) ?_
  refine lv_iadd hx hb dL_law_417 ?_
  refine W.eq (g2 := F0 m 418 ls [.int 2, .ref b, .int (xs 1), .ref a1]) rfl ?_
  refine va_sld hx hb hXs hbl hbA hS (i := 2) (show ¬ ((2 : Int32) < 0 ∨ 6 ≤ (2 : Int32).toNatClampNeg) by decide) dL_law_418 ?_
  refine W.eq (g2 := F0 m 419 ls [.int (xs 2), .int (xs 1), .ref a1]) rfl ?_
  rw [hf]
  refine W.eq (g2 := F0 m 419 ls [.int 0, .int (xs 1), .ref a1]) rfl ?_
  refine lv_aload_n hx hb dL_law_419 rfl (lv_at hl 5 rfl) ?_
  refine lv_iload hx hb dL_law_420 (lv_at hl 1 rfl) ?_
  refine lv_iconst (v := 3) hx hb dL_law_422 (by decide) ?_
  refine lv_iadd hx hb dL_law_423 ?_
  refine W.eq (g2 := F0 m 424 ls [.int 3, .ref b, .int 0, .int (xs 1), .ref a1]) rfl ?_
  refine va_sld hx hb hXs hbl hbA hS (i := 3) (show ¬ ((3 : Int32) < 0 ∨ 6 ≤ (3 : Int32).toNatClampNeg) by decide) dL_law_424 ?_
  refine W.eq (g2 := F0 m 425 ls [.int (xs 3), .int 0, .int (xs 1), .ref a1]) rfl ?_
  refine lv_aload_n hx hb dL_law_425 rfl (lv_at hl 5 rfl) ?_
  refine lv_iload hx hb dL_law_426 (lv_at hl 1 rfl) ?_
  refine lv_iconst (v := 4) hx hb dL_law_428 (by decide) ?_
  refine lv_iadd hx hb dL_law_429 ?_
  refine W.eq (g2 := F0 m 430 ls [.int 4, .ref b, .int (xs 3), .int 0, .int (xs 1), .ref a1]) rfl ?_
  refine va_sld hx hb hXs hbl hbA hS (i := 4) (show ¬ ((4 : Int32) < 0 ∨ 6 ≤ (4 : Int32).toNatClampNeg) by decide) dL_law_430 ?_
  refine W.eq (g2 := F0 m 431 ls [.int (xs 4), .int (xs 3), .int 0, .int (xs 1), .ref a1]) rfl ?_
  obtain ⟨hPc, hDc, hFc⟩ := xcut (wc := [(a1, .inr (5, [v20, .ref a13, v21, v22, v23, v24, v25, v26, v27, v28, v29, v30, v31, v32, v33, v34, v35, v36, v37, v38, v39, .ref a14, v40, v41, .ref a10, .ref a11, v42, v43, v44, v45, v46, v47])), (a10, .inl (cT 5, 8, .inr (.inr (.inr (.inr f63))))), (a11, .inl (cT 1, 8, .inl f67)), (a12, .inl (cT 0, 4096, .inl f70)), (a13, .inl (cT 4, 1024, .inr (.inr (.inr (.inr f75))))), (a14, .inl (cT 0, 1024, .inl f78))]) hP hD hS hA [0, 2, 3, 4, 5, 6] rfl rfl (by decide)
  refine va_callv (va_runV (C := "ValueBenchModel") (As := [.int (xs 1), .int 0, .int (xs 3), .int (xs 4)]) (rest := []) ⟨hx, hb, hml, hown, htx⟩ (cM_binary0_8 l hl9 D cT aK aV H.size a1 a10 a11 a12 a13 a14 (xs 1) (xs 3) (xs 4) v20 v21 v22 v23 v24 v25 v26 v27 v28 v29 v30 v31 v32 v33 v34 v35 v36 v37 v38 v39 v40 v41 v42 v43 v44 v45 v46 v47 f63 f67 f70 f75 f78 hto1 hto2 hto3 hto4 ha1 ha2 ha3 ha4 hb1 hb2 hb3 hb4 (by first | rfl | exact h52 | exact h53 | exact h58 | exact h64 | exact h65 | exact h66 | exact h68 | exact h69 | exact h71 | exact h72 | exact h73 | exact h74 | exact h76 | exact h77) (by first | rfl | exact h52 | exact h53 | exact h58 | exact h64 | exact h65 | exact h66 | exact h68 | exact h69 | exact h71 | exact h72 | exact h73 | exact h74 | exact h76 | exact h77) (by first | rfl | exact h52 | exact h53 | exact h58 | exact h64 | exact h65 | exact h66 | exact h68 | exact h69 | exact h71 | exact h72 | exact h73 | exact h74 | exact h76 | exact h77) (by first | rfl | exact h52 | exact h53 | exact h58 | exact h64 | exact h65 | exact h66 | exact h68 | exact h69 | exact h71 | exact h72 | exact h73 | exact h74 | exact h76 | exact h77) (by first | rfl | exact h52 | exact h53 | exact h58 | exact h64 | exact h65 | exact h66 | exact h68 | exact h69 | exact h71 | exact h72 | exact h73 | exact h74 | exact h76 | exact h77) (by first | rfl | exact h52 | exact h53 | exact h58 | exact h64 | exact h65 | exact h66 | exact h68 | exact h69 | exact h71 | exact h72 | exact h73 | exact h74 | exact h76 | exact h77) (by first | rfl | exact h52 | exact h53 | exact h58 | exact h64 | exact h65 | exact h66 | exact h68 | exact h69 | exact h71 | exact h72 | exact h73 | exact h74 | exact h76 | exact h77) (by first | rfl | exact h52 | exact h53 | exact h58 | exact h64 | exact h65 | exact h66 | exact h68 | exact h69 | exact h71 | exact h72 | exact h73 | exact h74 | exact h76 | exact h77) (by first | rfl | exact h52 | exact h53 | exact h58 | exact h64 | exact h65 | exact h66 | exact h68 | exact h69 | exact h71 | exact h72 | exact h73 | exact h74 | exact h76 | exact h77) (by first | rfl | exact h52 | exact h53 | exact h58 | exact h64 | exact h65 | exact h66 | exact h68 | exact h69 | exact h71 | exact h72 | exact h73 | exact h74 | exact h76 | exact h77) (by first | rfl | exact h52 | exact h53 | exact h58 | exact h64 | exact h65 | exact h66 | exact h68 | exact h69 | exact h71 | exact h72 | exact h73 | exact h74 | exact h76 | exact h77)) ⟨callB_of 4 htx (xw_goodC kw_6_191) rfl rfl rfl (htx _ kw_1_5) (htx _ kw_6_188) ⟨by decide, by decide, by decide +kernel⟩ ⟨Nat.le_of_ble_eq_true rfl, Nat.le_of_ble_eq_true rfl⟩, (htx _ kw_6_189), (htx _ kw_6_190)⟩ ⟨xPre_blind, va_recv hK hP (ci := 5) rfl (q0 := 0) rfl, (fun U hU hW => ⟨rfl, xPre_of hZ hS hFc hPc hDc hK U hU hW⟩)⟩ rfl rfl hl.1 rfl (lv_room (Nat.le_of_ble_eq_true rfl)) dL_law_431 ⟨Nat.le_of_ble_eq_true rfl, Nat.le_of_ble_eq_true rfl⟩) hS (fun q _ h => hFc q h) hFc (fun u9 t H1 locs ht hvm hr9 hB hz1 hk1 hS => ?_)
  obtain ⟨q6, q7, y8, y9, y10, y11, hP1, hK1, hD1⟩ := hB
  rw [ht] at hP1
  obtain ⟨hP, hD⟩ := xjoin (W := [(a2, .inl (cT 2, 1, .inr (.inl f48))), (a0, .inr (0, [v15, v16, .ref a8, .ref a4, v17, .ref b54, v18, v19])), (a3, .inr (2, [.ref a7, .int 1, .int 0])), (a4, .inl (cT 3, 8, .inr (.inr (.inr (.inr (va_up f51 (xs 1).toNatClampNeg (some a3))))))), (a5, .inr (2, [.ref a6, .int 1, v56])), (a6, .inl (cT 2, 4096, .inr (.inl f57))), (a7, .inl (cT 2, 4096, .inr (.inl (vp_updL f59 0 0)))), (a8, .inr (1, [.ref a9, .int 4, .int 0])), (a9, .inl (cT 0, 4096, .inl (upd (upd (upd (upd f62 0 (vp_nar .byte y2)) 1 (vp_nar .byte y3)) 2 (vp_nar .byte y4)) 3 (vp_nar .byte y5)))), (a1, .inr (5, [.int 0, .ref a13, .int 2, v22, .int 0, v24, v25, .int 0, v27, .int 0, v29, v30, .int 0, v32, v33, .ref a12, .int 4, .int 4, .int 0, .int 100, v39, .ref a14, .int 4, .int 4096, .ref a10, .ref a11, v42, v43, v44, v45, v46, v47])), (a10, .inl (cT 5, 8, .inr (.inr (.inr (.inr f63))))), (a11, .inl (cT 1, 8, .inl (upd f67 (xs 1).toNatClampNeg 4))), (a12, .inl (cT 0, 4096, .inl (upd (upd (upd (upd f70 0 (vp_nar .byte (vp_nar .byte y8))) 1 (vp_nar .byte (vp_nar .byte y9))) 2 (vp_nar .byte (vp_nar .byte y10))) 3 (vp_nar .byte (vp_nar .byte y11))))), (a13, .inl (cT 4, 1024, .inr (.inr (.inr (.inr (va_up (va_up f75 0 (some q6)) 1 (some q7))))))), (a14, .inl (cT 0, 1024, .inl (upd (upd (upd (upd f78 0 (vp_nar .byte y8)) 1 (vp_nar .byte y9)) 2 (vp_nar .byte y10)) 3 (vp_nar .byte y11)))), (q6, .inr (6, [.int 0, .long 0, .int 0, .int 0, .int 0, .int 1])), (q7, .inr (6, [.int 0, .long 0, .int 0, .int 0, .int 0, .int 1]))]) hP hD [0, 2, 3, 4, 5, 6] [1, 7, 8, 9, 10, 11, 12, 13, 14] 9 rfl rfl (by decide) (by decide) hk1 hFc hP1 hD1
  generalize H1 = H at hP hS ⊢
  refine lv_aload_n hx hb dL_law_434 rfl (lv_at hl 3 rfl) ?_
  obtain ⟨hPc, hDc, hFc⟩ := xcut (wc := [(a1, .inr (5, [.int 0, .ref a13, .int 2, v22, .int 0, v24, v25, .int 0, v27, .int 0, v29, v30, .int 0, v32, v33, .ref a12, .int 4, .int 4, .int 0, .int 100, v39, .ref a14, .int 4, .int 4096, .ref a10, .ref a11, v42, v43, v44, v45, v46, v47]))]) hP hD hS hA [9] rfl rfl (by decide)
  refine va_calli (va_runV (C := "ValueBenchModel") (As := []) (rest := []) ⟨hx, hb, hml, hown, htx⟩ (cM_thrown_0 l hl9 D cT aK aV H.size a1 (.ref a13) (.int 2) v22 (.int 0) v24 v25 (.int 0) v27 (.int 0) v29 v30 (.int 0) v32 v33 (.ref a12) (.int 4) (.int 4) (.int 0) (.int 100) v39 (.ref a14) (.int 4) (.int 4096) (.ref a10) (.ref a11) v42 v43 v44 v45 v46 v47) ⟨callB_of 0 htx (xw_goodC kw_5_187) rfl rfl rfl (htx _ kw_1_5) (htx _ kw_5_184) ⟨by decide, by decide, by decide +kernel⟩ ⟨Nat.le_of_ble_eq_true rfl, Nat.le_of_ble_eq_true rfl⟩, (htx _ kw_5_185), (htx _ kw_5_186)⟩ ⟨xPre_blind, va_recv hK hP (ci := 5) rfl (q0 := 9) rfl, (fun U hU hW => ⟨rfl, xPre_of hZ hS hFc hPc hDc hK U hU hW⟩)⟩ rfl rfl hl.1 rfl (lv_room (Nat.le_of_ble_eq_true rfl)) dL_law_435 ⟨Nat.le_of_ble_eq_true rfl, Nat.le_of_ble_eq_true rfl⟩) hS (fun q _ h => hFc q h) hFc (fun r12 u9 t H1 locs ht hvm hr9 hB hz1 hk1 hS => ?_)
  obtain ⟨hP1, hK1, hD1⟩ := hB
  rw [ht] at hP1
  obtain ⟨hP, hD⟩ := xjoin (W := [(a2, .inl (cT 2, 1, .inr (.inl f48))), (a0, .inr (0, [v15, v16, .ref a8, .ref a4, v17, .ref b54, v18, v19])), (a3, .inr (2, [.ref a7, .int 1, .int 0])), (a4, .inl (cT 3, 8, .inr (.inr (.inr (.inr (va_up f51 (xs 1).toNatClampNeg (some a3))))))), (a5, .inr (2, [.ref a6, .int 1, v56])), (a6, .inl (cT 2, 4096, .inr (.inl f57))), (a7, .inl (cT 2, 4096, .inr (.inl (vp_updL f59 0 0)))), (a8, .inr (1, [.ref a9, .int 4, .int 0])), (a9, .inl (cT 0, 4096, .inl (upd (upd (upd (upd f62 0 (vp_nar .byte y2)) 1 (vp_nar .byte y3)) 2 (vp_nar .byte y4)) 3 (vp_nar .byte y5)))), (a10, .inl (cT 5, 8, .inr (.inr (.inr (.inr f63))))), (a11, .inl (cT 1, 8, .inl (upd f67 (xs 1).toNatClampNeg 4))), (a12, .inl (cT 0, 4096, .inl (upd (upd (upd (upd f70 0 (vp_nar .byte (vp_nar .byte y8))) 1 (vp_nar .byte (vp_nar .byte y9))) 2 (vp_nar .byte (vp_nar .byte y10))) 3 (vp_nar .byte (vp_nar .byte y11))))), (a13, .inl (cT 4, 1024, .inr (.inr (.inr (.inr (va_up (va_up f75 0 (some q6)) 1 (some q7))))))), (a14, .inl (cT 0, 1024, .inl (upd (upd (upd (upd f78 0 (vp_nar .byte y8)) 1 (vp_nar .byte y9)) 2 (vp_nar .byte y10)) 3 (vp_nar .byte y11)))), (q6, .inr (6, [.int 0, .long 0, .int 0, .int 0, .int 0, .int 1])), (q7, .inr (6, [.int 0, .long 0, .int 0, .int 0, .int 0, .int 1])), (a1, .inr (5, [.int 0, .ref a13, .int 2, v22, .int 0, v24, v25, .int 0, v27, .int 0, v29, v30, .int 0, v32, v33, .ref a12, .int 4, .int 4, .int 0, .int 100, v39, .ref a14, .int 4, .int 4096, .ref a10, .ref a11, v42, v43, v44, v45, v46, v47]))]) hP hD [9] [0, 1, 2, 3, 4, 5, 6, 7, 8, 10, 11, 12, 13, 14, 15, 16] 16 rfl rfl (by decide) (by decide) hk1 hFc hP1 hD1
  generalize H1 = H at hP hS ⊢
  rw [hr9]
  refine W.eq (g2 := F0 m 438 ls [.int 0]) rfl ?_
  refine lv_iload hx hb dL_law_438 (lv_at hl 0 rfl) ?_
  refine lv_icmp_eq (tgt := 445) hx hb dL_law_440 (by decide) (fun _ => ?_) (fun h => ((by revert h; decide : False)).elim)
  refine lv_goto (tgt := 906) hx hb dL_law_445 (by decide) ?_
  refine lv_iinc (v := 6) (lv' := [(4, .int 6), (5, .int 0), (3, .ref a2), (2, .ref a1), (1, .ref a0), (0, .ref b)]) hx hb dL_law_906 hl (k := 1) rfl (by decide) (by decide) rfl (fun ls hl => ?_)
  refine lv_goto (tgt := 23) hx hb dL_law_909 (by decide) ?_
  refine lv_iload hx hb dL_law_23 (lv_at hl 0 rfl) ?_
  refine lv_aload_n hx hb dL_law_25 rfl (lv_at hl 5 rfl) ?_
  refine va_slen hx hb hXs hbl hbA hS dL_law_26 ?_
  refine W.eq (g2 := F0 m 27 ls [.int 6, .int 6]) rfl ?_
  refine lv_bipush (v := 6) hx hb dL_law_27 (by decide) ?_
  refine lv_isub hx hb dL_law_29 ?_
  refine W.eq (g2 := F0 m 30 ls [.int 0, .int 6]) rfl ?_
  refine lv_icmp_gt (tgt := 912) hx hb dL_law_30 (by decide) (fun _ => ?_) (fun h => ((by revert h; decide : False)).elim)
  refine lv_iconst (v := 1) hx hb dL_law_912 (by decide) ?_
  exact va_forget (fun q h => hA2 _ (hS.2.2 q h)) (W.widen (k := 600002) (n := 7302232) (Nat.le_of_ble_eq_true rfl) (Nat.le_of_ble_eq_true rfl) (lw_ret hx hb hr hlocks dL_law_913))
set_option maxHeartbeats 400000000 in
set_option maxRecDepth 100000 in
theorem lf_binary0_p1 {p : Program} {e : Env} {s : State} {m : MethodId} {below : List Frame} {meth : Method} {c : Code} (l : Launch) (hl9 : l.stackTraces = false) (D : va_G) (cT : Nat → ClassId) (aK aV : Nat → Nat) {A : Nat → Prop} {b : Nat} {xs : Nat → Int32} (C : xLw p s m meth c b D cT aK aV A) {H : Heap} {locs : List Loc} {ls : Array Slot} (a0 : Nat) (a1 : Nat) (a2 : Nat) (a3 : Nat) (a4 : Nat) (a5 : Nat) (a6 : Nat) (a7 : Nat) (a8 : Nat) (a9 : Nat) (a10 : Nat) (a11 : Nat) (a12 : Nat) (a13 : Nat) (a14 : Nat) (a15 : Nat) (v16 : Value) (v17 : Value) (v18 : Value) (v19 : Value) (v20 : Value) (v21 : Value) (v22 : Value) (v23 : Value) (v24 : Value) (v25 : Value) (v26 : Value) (v27 : Value) (v28 : Value) (v29 : Value) (v30 : Value) (v31 : Value) (v32 : Value) (v33 : Value) (v34 : Value) (v35 : Value) (v36 : Value) (v37 : Value) (v38 : Value) (v39 : Value) (v40 : Value) (v41 : Value) (v42 : Value) (v43 : Value) (v44 : Value) (v45 : Value) (v46 : Value) (v47 : Value) (v48 : Value) (f49 : Nat → Int64) (v50 : Value) (v51 : Value) (f52 : Nat → Option Nat) (b55 : Nat) (v57 : Value) (f58 : Nat → Int64) (f60 : Nat → Int64) (v61 : Value) (v62 : Value) (f63 : Nat → Int32) (f64 : Nat → Option Nat) (f68 : Nat → Int32) (f71 : Nat → Int32) (f76 : Nat → Option Nat) (f79 : Nat → Int32) (f80 : Nat → Int32) (h53 : f52 (xs 3).toNatClampNeg = some a5) (h54 : f52 (xs 4).toNatClampNeg = some a5) (h56 : f52 (xs 1).toNatClampNeg = some b55) (h59 : f58 0 = 0) (h65 : f64 (xs 3).toNatClampNeg = some a12) (h66 : f64 (xs 4).toNatClampNeg = some a12) (h67 : f64 (xs 1).toNatClampNeg = some a15) (h69 : f68 (xs 3).toNatClampNeg = 4) (h70 : f68 (xs 4).toNatClampNeg = 4) (h72 : f71 0 = 110) (h73 : f71 1 = 117) (h74 : f71 2 = 108) (h75 : f71 3 = 108) (h77 : f76 0 = none) (h78 : f76 1 = none) (hto1 : ¬ (xs 1) < 0) (hto2 : ¬ 7 < (xs 1)) (hto3 : (xs 1) ≤ 7) (hto4 : vp_in (xs 1) 8) (hf : xs 2 = 0) (ha1 : ¬ (xs 3) < 0) (ha2 : ¬ 7 < (xs 3)) (ha3 : (xs 3) ≤ 7) (ha4 : vp_in (xs 3) 8) (hb1 : ¬ (xs 4) < 0) (hb2 : ¬ 7 < (xs 4)) (hb3 : (xs 4) ≤ 7) (hb4 : vp_in (xs 4) 8) (hXs : va_X b 6 xs s s.heap) (hP : va_P D xcl [(a0, .inr (0, [v16, v17, .ref a8, .ref a4, v18, .ref a3, v19, v20])), (a1, .inr (5, [v21, .ref a13, v22, v23, v24, v25, v26, v27, v28, v29, v30, v31, v32, v33, v34, v35, v36, v37, v38, v39, v40, .ref a14, v41, v42, .ref a10, .ref a11, v43, v44, v45, v46, v47, v48])), (a2, .inl (cT 2, 1, .inr (.inl f49))), (a3, .inr (2, [.ref a7, v50, v51])), (a4, .inl (cT 3, 8, .inr (.inr (.inr (.inr f52))))), (a5, .inr (2, [.ref a6, .int 1, v57])), (a6, .inl (cT 2, 4096, .inr (.inl f58))), (a7, .inl (cT 2, 4096, .inr (.inl f60))), (a8, .inr (1, [.ref a9, v61, v62])), (a9, .inl (cT 0, 4096, .inl f63)), (a10, .inl (cT 5, 8, .inr (.inr (.inr (.inr f64))))), (a11, .inl (cT 1, 8, .inl f68)), (a12, .inl (cT 0, 4096, .inl f71)), (a13, .inl (cT 4, 1024, .inr (.inr (.inr (.inr f76))))), (a14, .inl (cT 0, 1024, .inl f79)), (a15, .inl (cT 0, 4096, .inl f80))] H) (hD : va_D A [(a0, .inr (0, [v16, v17, .ref a8, .ref a4, v18, .ref a3, v19, v20])), (a1, .inr (5, [v21, .ref a13, v22, v23, v24, v25, v26, v27, v28, v29, v30, v31, v32, v33, v34, v35, v36, v37, v38, v39, v40, .ref a14, v41, v42, .ref a10, .ref a11, v43, v44, v45, v46, v47, v48])), (a2, .inl (cT 2, 1, .inr (.inl f49))), (a3, .inr (2, [.ref a7, v50, v51])), (a4, .inl (cT 3, 8, .inr (.inr (.inr (.inr f52))))), (a5, .inr (2, [.ref a6, .int 1, v57])), (a6, .inl (cT 2, 4096, .inr (.inl f58))), (a7, .inl (cT 2, 4096, .inr (.inl f60))), (a8, .inr (1, [.ref a9, v61, v62])), (a9, .inl (cT 0, 4096, .inl f63)), (a10, .inl (cT 5, 8, .inr (.inr (.inr (.inr f64))))), (a11, .inl (cT 1, 8, .inl f68)), (a12, .inl (cT 0, 4096, .inl f71)), (a13, .inl (cT 4, 1024, .inr (.inr (.inr (.inr f76))))), (a14, .inl (cT 0, 1024, .inl f79)), (a15, .inl (cT 0, 4096, .inl f80))]) (hS : va_S A s.heap H locs) (hl : lv_has ls 8 [(4, .int 0), (3, .ref a2), (2, .ref a1), (1, .ref a0), (0, .ref b)]) : W p l e room_1 s m #[Value.ref b] below meth c H locs 54 107242 (lw_Z below #[Value.ref b] s) (F0 m 376 ls []) := by
  obtain ⟨hx, hb, hr, hml, hown, htx, hbl, hbA, hlocks, hK, hZ, hA, hA2⟩ := C
  refine lv_aload_n hx hb dL_law_376 rfl (lv_at hl 3 rfl) ?_
  refine lv_aload_n hx hb dL_law_377 rfl (lv_at hl 4 rfl) ?_
  refine lv_iload hx hb dL_law_378 (lv_at hl 0 rfl) ?_
  refine lv_iconst (v := 1) hx hb dL_law_380 (by decide) ?_
  refine lv_iadd hx hb dL_law_381 ?_
  refine W.eq (g2 := F0 m 382 ls [.int 1, .ref b, .ref a0]) rfl ?_
  refine va_sld hx hb hXs hbl hbA hS (i := 1) (show ¬ ((1 : Int32) < 0 ∨ 6 ≤ (1 : Int32).toNatClampNeg) by decide) dL_law_382 ?_
  refine W.eq (g2 := F0 m 383 ls [.int (xs 1), .ref a0]) rfl ?_
  refine lv_aload_n hx hb dL_law_383 rfl (lv_at hl 4 rfl) ?_
  refine lv_iload hx hb dL_law_384 (lv_at hl 0 rfl) ?_
  refine lv_iconst (v := 2) hx hb dL_law_386 (by decide) ?_
  refine lv_iadd hx hb dL_law_387 ?_
  refine W.eq (g2 := F0 m 388 ls [.int 2, .ref b, .int (xs 1), .ref a0]) rfl ?_
  refine va_sld hx hb hXs hbl hbA hS (i := 2) (show ¬ ((2 : Int32) < 0 ∨ 6 ≤ (2 : Int32).toNatClampNeg) by decide) dL_law_388 ?_
  refine W.eq (g2 := F0 m 389 ls [.int (xs 2), .int (xs 1), .ref a0]) rfl ?_
  rw [hf]
  refine W.eq (g2 := F0 m 389 ls [.int 0, .int (xs 1), .ref a0]) rfl ?_
  refine lv_aload_n hx hb dL_law_389 rfl (lv_at hl 4 rfl) ?_
  refine lv_iload hx hb dL_law_390 (lv_at hl 0 rfl) ?_
  refine lv_iconst (v := 3) hx hb dL_law_392 (by decide) ?_
  refine lv_iadd hx hb dL_law_393 ?_
  refine W.eq (g2 := F0 m 394 ls [.int 3, .ref b, .int 0, .int (xs 1), .ref a0]) rfl ?_
  refine va_sld hx hb hXs hbl hbA hS (i := 3) (show ¬ ((3 : Int32) < 0 ∨ 6 ≤ (3 : Int32).toNatClampNeg) by decide) dL_law_394 ?_
  refine W.eq (g2 := F0 m 395 ls [.int (xs 3), .int 0, .int (xs 1), .ref a0]) rfl ?_
  refine lv_aload_n hx hb dL_law_395 rfl (lv_at hl 4 rfl) ?_
  refine lv_iload hx hb dL_law_396 (lv_at hl 0 rfl) ?_
  refine lv_iconst (v := 4) hx hb dL_law_398 (by decide) ?_
  refine lv_iadd hx hb dL_law_399 ?_
  refine W.eq (g2 := F0 m 400 ls [.int 4, .ref b, .int (xs 3), .int 0, .int (xs 1), .ref a0]) rfl ?_
  refine va_sld hx hb hXs hbl hbA hS (i := 4) (show ¬ ((4 : Int32) < 0 ∨ 6 ≤ (4 : Int32).toNatClampNeg) by decide) dL_law_400 ?_
  refine W.eq (g2 := F0 m 401 ls [.int (xs 4), .int (xs 3), .int 0, .int (xs 1), .ref a0]) rfl ?_
  obtain ⟨hPc, hDc, hFc⟩ := xcut (wc := [(a0, .inr (0, [v16, v17, .ref a8, .ref a4, v18, .ref a3, v19, v20])), (a3, .inr (2, [.ref a7, v50, v51])), (a4, .inl (cT 3, 8, .inr (.inr (.inr (.inr f52))))), (a5, .inr (2, [.ref a6, .int 1, v57])), (a6, .inl (cT 2, 4096, .inr (.inl f58))), (a7, .inl (cT 2, 4096, .inr (.inl f60))), (a8, .inr (1, [.ref a9, v61, v62])), (a9, .inl (cT 0, 4096, .inl f63))]) hP hD hS hA [0, 3, 4, 5, 6, 7, 8, 9] rfl rfl (by decide)
  refine va_calli (vx_runSW (As := [.ref a0, .int (xs 1), .int 0, .int (xs 3), .int (xs 4)]) (rest := []) ⟨hx, hb, hml, hown, htx⟩ (cL_binary_8 l hl9 D cT aK aV H.size a0 a3 a4 a5 a6 a7 a8 a9 (xs 1) (xs 3) (xs 4) v16 v17 v18 v19 v20 v50 v51 f52 b55 v57 f58 f60 v61 v62 f63 hto1 hto2 hto3 hto4 ha1 ha2 ha3 ha4 hb1 hb2 hb3 hb4 (by first | rfl | exact h53 | exact h54 | exact h56 | exact h59 | exact h65 | exact h66 | exact h67 | exact h69 | exact h70 | exact h72 | exact h73 | exact h74 | exact h75 | exact h77 | exact h78) (by first | rfl | exact h53 | exact h54 | exact h56 | exact h59 | exact h65 | exact h66 | exact h67 | exact h69 | exact h70 | exact h72 | exact h73 | exact h74 | exact h75 | exact h77 | exact h78) (by first | rfl | exact h53 | exact h54 | exact h56 | exact h59 | exact h65 | exact h66 | exact h67 | exact h69 | exact h70 | exact h72 | exact h73 | exact h74 | exact h75 | exact h77 | exact h78) (by first | rfl | exact h53 | exact h54 | exact h56 | exact h59 | exact h65 | exact h66 | exact h67 | exact h69 | exact h70 | exact h72 | exact h73 | exact h74 | exact h75 | exact h77 | exact h78)) (xcSW 5 htx (xw_goodC kw_3_97) rfl rfl rfl (htx _ kw_1_0) (htx _ kw_3_95) ⟨by decide, by decide, by decide +kernel⟩ ⟨Nat.le_of_ble_eq_true rfl, Nat.le_of_ble_eq_true rfl⟩ (htx _ kw_3_96)) ⟨xPre_blind, (fun U hU hW => ⟨rfl, xPre_of hZ hS hFc hPc hDc hK U hU hW⟩)⟩ rfl rfl hl.1 rfl (lv_room (Nat.le_of_ble_eq_true rfl)) dL_law_401 ⟨Nat.le_of_ble_eq_true rfl, Nat.le_of_ble_eq_true rfl⟩) hS (fun q _ h => hFc q h) hFc (fun r1 u9 t H1 locs ht hvm hr9 hB hz1 hk1 hS => ?_)
  obtain ⟨y2, y3, y4, y5, hP1, hK1, hD1⟩ := hB
  rw [ht] at hP1
  obtain ⟨hP, hD⟩ := xjoin (W := [(a1, .inr (5, [v21, .ref a13, v22, v23, v24, v25, v26, v27, v28, v29, v30, v31, v32, v33, v34, v35, v36, v37, v38, v39, v40, .ref a14, v41, v42, .ref a10, .ref a11, v43, v44, v45, v46, v47, v48])), (a2, .inl (cT 2, 1, .inr (.inl f49))), (a10, .inl (cT 5, 8, .inr (.inr (.inr (.inr f64))))), (a11, .inl (cT 1, 8, .inl f68)), (a12, .inl (cT 0, 4096, .inl f71)), (a13, .inl (cT 4, 1024, .inr (.inr (.inr (.inr f76))))), (a14, .inl (cT 0, 1024, .inl f79)), (a15, .inl (cT 0, 4096, .inl f80)), (a0, .inr (0, [v16, v17, .ref a8, .ref a4, v18, .ref b55, v19, v20])), (a3, .inr (2, [.ref a7, .int 1, .int 0])), (a4, .inl (cT 3, 8, .inr (.inr (.inr (.inr (va_up f52 (xs 1).toNatClampNeg (some a3))))))), (a5, .inr (2, [.ref a6, .int 1, v57])), (a6, .inl (cT 2, 4096, .inr (.inl f58))), (a7, .inl (cT 2, 4096, .inr (.inl (vp_updL f60 0 0)))), (a8, .inr (1, [.ref a9, .int 4, .int 0])), (a9, .inl (cT 0, 4096, .inl (upd (upd (upd (upd f63 0 (vp_nar .byte y2)) 1 (vp_nar .byte y3)) 2 (vp_nar .byte y4)) 3 (vp_nar .byte y5))))]) hP hD [0, 3, 4, 5, 6, 7, 8, 9] [1, 2, 10, 11, 12, 13, 14, 15] 8 rfl rfl (by decide) (by decide) hk1 hFc hP1 hD1
  generalize H1 = H at hP hS ⊢
  rw [hr9]
  refine W.eq (g2 := F0 m 404 ls [.int 0]) rfl ?_
  refine lv_istore (lv' := [(5, .int 0), (4, .int 0), (3, .ref a2), (2, .ref a1), (1, .ref a0), (0, .ref b)]) hx hb dL_law_404 hl (by decide) rfl (fun ls hl => ?_)
  refine lv_aload_n hx hb dL_law_406 rfl (lv_at hl 3 rfl) ?_
  refine lv_aload_n hx hb dL_law_407 rfl (lv_at hl 5 rfl) ?_
  refine lv_iload hx hb dL_law_408 (lv_at hl 1 rfl) ?_
  refine lv_iconst (v := 1) hx hb dL_law_410 (by decide) ?_
  refine lv_iadd hx hb dL_law_411 ?_
  refine W.eq (g2 := F0 m 412 ls [.int 1, .ref b, .ref a1]) rfl ?_
  refine va_sld hx hb hXs hbl hbA hS (i := 1) (show ¬ ((1 : Int32) < 0 ∨ 6 ≤ (1 : Int32).toNatClampNeg) by decide) dL_law_412 ?_
  refine W.eq (g2 := F0 m 413 ls [.int (xs 1), .ref a1]) rfl ?_
  refine lv_aload_n hx hb dL_law_413 rfl (lv_at hl 5 rfl) ?_
  refine lv_iload hx hb dL_law_414 (lv_at hl 1 rfl) ?_
  refine lv_iconst (v := 2) hx hb dL_law_416 (by decide) ?_
  refine lv_iadd hx hb dL_law_417 ?_
  refine W.eq (g2 := F0 m 418 ls [.int 2, .ref b, .int (xs 1), .ref a1]) rfl ?_
  refine va_sld hx hb hXs hbl hbA hS (i := 2) (show ¬ ((2 : Int32) < 0 ∨ 6 ≤ (2 : Int32).toNatClampNeg) by decide) dL_law_418 ?_
  refine W.eq (g2 := F0 m 419 ls [.int (xs 2), .int (xs 1), .ref a1]) rfl ?_
  rw [hf]
  refine W.eq (g2 := F0 m 419 ls [.int 0, .int (xs 1), .ref a1]) rfl ?_
  refine lv_aload_n hx hb dL_law_419 rfl (lv_at hl 5 rfl) ?_
  refine lv_iload hx hb dL_law_420 (lv_at hl 1 rfl) ?_
  refine lv_iconst (v := 3) hx hb dL_law_422 (by decide) ?_
  refine lv_iadd hx hb dL_law_423 ?_
  refine W.eq (g2 := F0 m 424 ls [.int 3, .ref b, .int 0, .int (xs 1), .ref a1]) rfl ?_
  refine va_sld hx hb hXs hbl hbA hS (i := 3) (show ¬ ((3 : Int32) < 0 ∨ 6 ≤ (3 : Int32).toNatClampNeg) by decide) dL_law_424 ?_
  refine W.eq (g2 := F0 m 425 ls [.int (xs 3), .int 0, .int (xs 1), .ref a1]) rfl ?_
  refine lv_aload_n hx hb dL_law_425 rfl (lv_at hl 5 rfl) ?_
  refine lv_iload hx hb dL_law_426 (lv_at hl 1 rfl) ?_
  refine lv_iconst (v := 4) hx hb dL_law_428 (by decide) ?_
  refine lv_iadd hx hb dL_law_429 ?_
  refine W.eq (g2 := F0 m 430 ls [.int 4, .ref b, .int (xs 3), .int 0, .int (xs 1), .ref a1]) rfl ?_
  refine va_sld hx hb hXs hbl hbA hS (i := 4) (show ¬ ((4 : Int32) < 0 ∨ 6 ≤ (4 : Int32).toNatClampNeg) by decide) dL_law_430 ?_
  refine W.eq (g2 := F0 m 431 ls [.int (xs 4), .int (xs 3), .int 0, .int (xs 1), .ref a1]) rfl ?_
  obtain ⟨hPc, hDc, hFc⟩ := xcut (wc := [(a1, .inr (5, [v21, .ref a13, v22, v23, v24, v25, v26, v27, v28, v29, v30, v31, v32, v33, v34, v35, v36, v37, v38, v39, v40, .ref a14, v41, v42, .ref a10, .ref a11, v43, v44, v45, v46, v47, v48])), (a10, .inl (cT 5, 8, .inr (.inr (.inr (.inr f64))))), (a11, .inl (cT 1, 8, .inl f68)), (a12, .inl (cT 0, 4096, .inl f71)), (a13, .inl (cT 4, 1024, .inr (.inr (.inr (.inr f76))))), (a14, .inl (cT 0, 1024, .inl f79)), (a15, .inl (cT 0, 4096, .inl f80))]) hP hD hS hA [0, 2, 3, 4, 5, 6, 7] rfl rfl (by decide)
  refine va_callv (va_runV (C := "ValueBenchModel") (As := [.int (xs 1), .int 0, .int (xs 3), .int (xs 4)]) (rest := []) ⟨hx, hb, hml, hown, htx⟩ (cM_binary0_9 l hl9 D cT aK aV H.size a1 a10 a11 a12 a13 a14 a15 (xs 1) (xs 3) (xs 4) v21 v22 v23 v24 v25 v26 v27 v28 v29 v30 v31 v32 v33 v34 v35 v36 v37 v38 v39 v40 v41 v42 v43 v44 v45 v46 v47 v48 f64 f68 f71 f76 f79 f80 hto1 hto2 hto3 hto4 ha1 ha2 ha3 ha4 hb1 hb2 hb3 hb4 (by first | rfl | exact h53 | exact h54 | exact h59 | exact h65 | exact h66 | exact h67 | exact h69 | exact h70 | exact h72 | exact h73 | exact h74 | exact h75 | exact h77 | exact h78) (by first | rfl | exact h53 | exact h54 | exact h59 | exact h65 | exact h66 | exact h67 | exact h69 | exact h70 | exact h72 | exact h73 | exact h74 | exact h75 | exact h77 | exact h78) (by first | rfl | exact h53 | exact h54 | exact h59 | exact h65 | exact h66 | exact h67 | exact h69 | exact h70 | exact h72 | exact h73 | exact h74 | exact h75 | exact h77 | exact h78) (by first | rfl | exact h53 | exact h54 | exact h59 | exact h65 | exact h66 | exact h67 | exact h69 | exact h70 | exact h72 | exact h73 | exact h74 | exact h75 | exact h77 | exact h78) (by first | rfl | exact h53 | exact h54 | exact h59 | exact h65 | exact h66 | exact h67 | exact h69 | exact h70 | exact h72 | exact h73 | exact h74 | exact h75 | exact h77 | exact h78) (by first | rfl | exact h53 | exact h54 | exact h59 | exact h65 | exact h66 | exact h67 | exact h69 | exact h70 | exact h72 | exact h73 | exact h74 | exact h75 | exact h77 | exact h78) (by first | rfl | exact h53 | exact h54 | exact h59 | exact h65 | exact h66 | exact h67 | exact h69 | exact h70 | exact h72 | exact h73 | exact h74 | exact h75 | exact h77 | exact h78) (by first | rfl | exact h53 | exact h54 | exact h59 | exact h65 | exact h66 | exact h67 | exact h69 | exact h70 | exact h72 | exact h73 | exact h74 | exact h75 | exact h77 | exact h78) (by first | rfl | exact h53 | exact h54 | exact h59 | exact h65 | exact h66 | exact h67 | exact h69 | exact h70 | exact h72 | exact h73 | exact h74 | exact h75 | exact h77 | exact h78) (by first | rfl | exact h53 | exact h54 | exact h59 | exact h65 | exact h66 | exact h67 | exact h69 | exact h70 | exact h72 | exact h73 | exact h74 | exact h75 | exact h77 | exact h78) (by first | rfl | exact h53 | exact h54 | exact h59 | exact h65 | exact h66 | exact h67 | exact h69 | exact h70 | exact h72 | exact h73 | exact h74 | exact h75 | exact h77 | exact h78)) ⟨callB_of 4 htx (xw_goodC kw_6_191) rfl rfl rfl (htx _ kw_1_5) (htx _ kw_6_188) ⟨by decide, by decide, by decide +kernel⟩ ⟨Nat.le_of_ble_eq_true rfl, Nat.le_of_ble_eq_true rfl⟩, (htx _ kw_6_189), (htx _ kw_6_190)⟩ ⟨xPre_blind, va_recv hK hP (ci := 5) rfl (q0 := 0) rfl, (fun U hU hW => ⟨rfl, xPre_of hZ hS hFc hPc hDc hK U hU hW⟩)⟩ rfl rfl hl.1 rfl (lv_room (Nat.le_of_ble_eq_true rfl)) dL_law_431 ⟨Nat.le_of_ble_eq_true rfl, Nat.le_of_ble_eq_true rfl⟩) hS (fun q _ h => hFc q h) hFc (fun u9 t H1 locs ht hvm hr9 hB hz1 hk1 hS => ?_)
  obtain ⟨q6, q7, y8, y9, y10, y11, hP1, hK1, hD1⟩ := hB
  rw [ht] at hP1
  obtain ⟨hP, hD⟩ := xjoin (W := [(a2, .inl (cT 2, 1, .inr (.inl f49))), (a0, .inr (0, [v16, v17, .ref a8, .ref a4, v18, .ref b55, v19, v20])), (a3, .inr (2, [.ref a7, .int 1, .int 0])), (a4, .inl (cT 3, 8, .inr (.inr (.inr (.inr (va_up f52 (xs 1).toNatClampNeg (some a3))))))), (a5, .inr (2, [.ref a6, .int 1, v57])), (a6, .inl (cT 2, 4096, .inr (.inl f58))), (a7, .inl (cT 2, 4096, .inr (.inl (vp_updL f60 0 0)))), (a8, .inr (1, [.ref a9, .int 4, .int 0])), (a9, .inl (cT 0, 4096, .inl (upd (upd (upd (upd f63 0 (vp_nar .byte y2)) 1 (vp_nar .byte y3)) 2 (vp_nar .byte y4)) 3 (vp_nar .byte y5)))), (a1, .inr (5, [.int 0, .ref a13, .int 2, v23, .int 0, v25, v26, .int 0, v28, .int 0, v30, v31, .int 0, v33, v34, .ref a12, .int 4, .int 4, .int 0, .int 100, v40, .ref a14, .int 4, .int 4096, .ref a10, .ref a11, v43, v44, v45, v46, v47, v48])), (a10, .inl (cT 5, 8, .inr (.inr (.inr (.inr f64))))), (a11, .inl (cT 1, 8, .inl (upd f68 (xs 1).toNatClampNeg 4))), (a12, .inl (cT 0, 4096, .inl f71)), (a13, .inl (cT 4, 1024, .inr (.inr (.inr (.inr (va_up (va_up f76 0 (some q6)) 1 (some q7))))))), (a14, .inl (cT 0, 1024, .inl (upd (upd (upd (upd f79 0 (vp_nar .byte y8)) 1 (vp_nar .byte y9)) 2 (vp_nar .byte y10)) 3 (vp_nar .byte y11)))), (a15, .inl (cT 0, 4096, .inl (upd (upd (upd (upd f80 0 (vp_nar .byte (vp_nar .byte y8))) 1 (vp_nar .byte (vp_nar .byte y9))) 2 (vp_nar .byte (vp_nar .byte y10))) 3 (vp_nar .byte (vp_nar .byte y11))))), (q6, .inr (6, [.int 0, .long 0, .int 0, .int 0, .int 0, .int 1])), (q7, .inr (6, [.int 0, .long 0, .int 0, .int 0, .int 0, .int 1]))]) hP hD [0, 2, 3, 4, 5, 6, 7] [1, 8, 9, 10, 11, 12, 13, 14, 15] 9 rfl rfl (by decide) (by decide) hk1 hFc hP1 hD1
  generalize H1 = H at hP hS ⊢
  refine lv_aload_n hx hb dL_law_434 rfl (lv_at hl 3 rfl) ?_
  obtain ⟨hPc, hDc, hFc⟩ := xcut (wc := [(a1, .inr (5, [.int 0, .ref a13, .int 2, v23, .int 0, v25, v26, .int 0, v28, .int 0, v30, v31, .int 0, v33, v34, .ref a12, .int 4, .int 4, .int 0, .int 100, v40, .ref a14, .int 4, .int 4096, .ref a10, .ref a11, v43, v44, v45, v46, v47, v48]))]) hP hD hS hA [9] rfl rfl (by decide)
  refine va_calli (va_runV (C := "ValueBenchModel") (As := []) (rest := []) ⟨hx, hb, hml, hown, htx⟩ (cM_thrown_0 l hl9 D cT aK aV H.size a1 (.ref a13) (.int 2) v23 (.int 0) v25 v26 (.int 0) v28 (.int 0) v30 v31 (.int 0) v33 v34 (.ref a12) (.int 4) (.int 4) (.int 0) (.int 100) v40 (.ref a14) (.int 4) (.int 4096) (.ref a10) (.ref a11) v43 v44 v45 v46 v47 v48) ⟨callB_of 0 htx (xw_goodC kw_5_187) rfl rfl rfl (htx _ kw_1_5) (htx _ kw_5_184) ⟨by decide, by decide, by decide +kernel⟩ ⟨Nat.le_of_ble_eq_true rfl, Nat.le_of_ble_eq_true rfl⟩, (htx _ kw_5_185), (htx _ kw_5_186)⟩ ⟨xPre_blind, va_recv hK hP (ci := 5) rfl (q0 := 9) rfl, (fun U hU hW => ⟨rfl, xPre_of hZ hS hFc hPc hDc hK U hU hW⟩)⟩ rfl rfl hl.1 rfl (lv_room (Nat.le_of_ble_eq_true rfl)) dL_law_435 ⟨Nat.le_of_ble_eq_true rfl, Nat.le_of_ble_eq_true rfl⟩) hS (fun q _ h => hFc q h) hFc (fun r12 u9 t H1 locs ht hvm hr9 hB hz1 hk1 hS => ?_)
  obtain ⟨hP1, hK1, hD1⟩ := hB
  rw [ht] at hP1
  obtain ⟨hP, hD⟩ := xjoin (W := [(a2, .inl (cT 2, 1, .inr (.inl f49))), (a0, .inr (0, [v16, v17, .ref a8, .ref a4, v18, .ref b55, v19, v20])), (a3, .inr (2, [.ref a7, .int 1, .int 0])), (a4, .inl (cT 3, 8, .inr (.inr (.inr (.inr (va_up f52 (xs 1).toNatClampNeg (some a3))))))), (a5, .inr (2, [.ref a6, .int 1, v57])), (a6, .inl (cT 2, 4096, .inr (.inl f58))), (a7, .inl (cT 2, 4096, .inr (.inl (vp_updL f60 0 0)))), (a8, .inr (1, [.ref a9, .int 4, .int 0])), (a9, .inl (cT 0, 4096, .inl (upd (upd (upd (upd f63 0 (vp_nar .byte y2)) 1 (vp_nar .byte y3)) 2 (vp_nar .byte y4)) 3 (vp_nar .byte y5)))), (a10, .inl (cT 5, 8, .inr (.inr (.inr (.inr f64))))), (a11, .inl (cT 1, 8, .inl (upd f68 (xs 1).toNatClampNeg 4))), (a12, .inl (cT 0, 4096, .inl f71)), (a13, .inl (cT 4, 1024, .inr (.inr (.inr (.inr (va_up (va_up f76 0 (some q6)) 1 (some q7))))))), (a14, .inl (cT 0, 1024, .inl (upd (upd (upd (upd f79 0 (vp_nar .byte y8)) 1 (vp_nar .byte y9)) 2 (vp_nar .byte y10)) 3 (vp_nar .byte y11)))), (a15, .inl (cT 0, 4096, .inl (upd (upd (upd (upd f80 0 (vp_nar .byte (vp_nar .byte y8))) 1 (vp_nar .byte (vp_nar .byte y9))) 2 (vp_nar .byte (vp_nar .byte y10))) 3 (vp_nar .byte (vp_nar .byte y11))))), (q6, .inr (6, [.int 0, .long 0, .int 0, .int 0, .int 0, .int 1])), (q7, .inr (6, [.int 0, .long 0, .int 0, .int 0, .int 0, .int 1])), (a1, .inr (5, [.int 0, .ref a13, .int 2, v23, .int 0, v25, v26, .int 0, v28, .int 0, v30, v31, .int 0, v33, v34, .ref a12, .int 4, .int 4, .int 0, .int 100, v40, .ref a14, .int 4, .int 4096, .ref a10, .ref a11, v43, v44, v45, v46, v47, v48]))]) hP hD [9] [0, 1, 2, 3, 4, 5, 6, 7, 8, 10, 11, 12, 13, 14, 15, 16, 17] 17 rfl rfl (by decide) (by decide) hk1 hFc hP1 hD1
  generalize H1 = H at hP hS ⊢
  rw [hr9]
  refine W.eq (g2 := F0 m 438 ls [.int 0]) rfl ?_
  refine lv_iload hx hb dL_law_438 (lv_at hl 0 rfl) ?_
  refine lv_icmp_eq (tgt := 445) hx hb dL_law_440 (by decide) (fun _ => ?_) (fun h => ((by revert h; decide : False)).elim)
  refine lv_goto (tgt := 906) hx hb dL_law_445 (by decide) ?_
  refine lv_iinc (v := 6) (lv' := [(4, .int 6), (5, .int 0), (3, .ref a2), (2, .ref a1), (1, .ref a0), (0, .ref b)]) hx hb dL_law_906 hl (k := 1) rfl (by decide) (by decide) rfl (fun ls hl => ?_)
  refine lv_goto (tgt := 23) hx hb dL_law_909 (by decide) ?_
  refine lv_iload hx hb dL_law_23 (lv_at hl 0 rfl) ?_
  refine lv_aload_n hx hb dL_law_25 rfl (lv_at hl 5 rfl) ?_
  refine va_slen hx hb hXs hbl hbA hS dL_law_26 ?_
  refine W.eq (g2 := F0 m 27 ls [.int 6, .int 6]) rfl ?_
  refine lv_bipush (v := 6) hx hb dL_law_27 (by decide) ?_
  refine lv_isub hx hb dL_law_29 ?_
  refine W.eq (g2 := F0 m 30 ls [.int 0, .int 6]) rfl ?_
  refine lv_icmp_gt (tgt := 912) hx hb dL_law_30 (by decide) (fun _ => ?_) (fun h => ((by revert h; decide : False)).elim)
  refine lv_iconst (v := 1) hx hb dL_law_912 (by decide) ?_
  exact va_forget (fun q h => hA2 _ (hS.2.2 q h)) (W.widen (k := 600002) (n := 7302232) (Nat.le_of_ble_eq_true rfl) (Nat.le_of_ble_eq_true rfl) (lw_ret hx hb hr hlocks dL_law_913))
set_option maxHeartbeats 400000000 in
set_option maxRecDepth 100000 in
theorem lf_binary0_p2 {p : Program} {e : Env} {s : State} {m : MethodId} {below : List Frame} {meth : Method} {c : Code} (l : Launch) (hl9 : l.stackTraces = false) (D : va_G) (cT : Nat → ClassId) (aK aV : Nat → Nat) {A : Nat → Prop} {b : Nat} {xs : Nat → Int32} (C : xLw p s m meth c b D cT aK aV A) {H : Heap} {locs : List Loc} {ls : Array Slot} (a0 : Nat) (a1 : Nat) (a2 : Nat) (a3 : Nat) (a4 : Nat) (a5 : Nat) (a6 : Nat) (a7 : Nat) (a8 : Nat) (a9 : Nat) (a10 : Nat) (a11 : Nat) (a12 : Nat) (a13 : Nat) (a14 : Nat) (a15 : Nat) (a16 : Nat) (a17 : Nat) (v18 : Value) (v19 : Value) (v20 : Value) (v21 : Value) (v22 : Value) (v23 : Value) (v24 : Value) (v25 : Value) (v26 : Value) (v27 : Value) (v28 : Value) (v29 : Value) (v30 : Value) (v31 : Value) (v32 : Value) (v33 : Value) (v34 : Value) (v35 : Value) (v36 : Value) (v37 : Value) (v38 : Value) (v39 : Value) (v40 : Value) (v41 : Value) (v42 : Value) (v43 : Value) (v44 : Value) (v45 : Value) (v46 : Value) (v47 : Value) (v48 : Value) (v49 : Value) (v50 : Value) (f51 : Nat → Int64) (v52 : Value) (v53 : Value) (f54 : Nat → Option Nat) (b57 : Nat) (v59 : Value) (f60 : Nat → Int64) (v62 : Value) (f63 : Nat → Int64) (f65 : Nat → Int64) (v66 : Value) (v67 : Value) (f68 : Nat → Int32) (f69 : Nat → Option Nat) (f73 : Nat → Int32) (f76 : Nat → Int32) (f81 : Nat → Option Nat) (f84 : Nat → Int32) (f89 : Nat → Int32) (h55 : f54 (xs 3).toNatClampNeg = some a5) (h56 : f54 (xs 4).toNatClampNeg = some a7) (h58 : f54 (xs 1).toNatClampNeg = some b57) (h61 : f60 0 = 0) (h64 : f63 0 = 0) (h70 : f69 (xs 3).toNatClampNeg = some a14) (h71 : f69 (xs 4).toNatClampNeg = some a16) (h72 : f69 (xs 1).toNatClampNeg = some a14) (h74 : f73 (xs 3).toNatClampNeg = 4) (h75 : f73 (xs 4).toNatClampNeg = 4) (h77 : f76 0 = 110) (h78 : f76 1 = 117) (h79 : f76 2 = 108) (h80 : f76 3 = 108) (h82 : f81 0 = none) (h83 : f81 1 = none) (h85 : f84 0 = 110) (h86 : f84 1 = 117) (h87 : f84 2 = 108) (h88 : f84 3 = 108) (hto1 : ¬ (xs 1) < 0) (hto2 : ¬ 7 < (xs 1)) (hto3 : (xs 1) ≤ 7) (hto4 : vp_in (xs 1) 8) (hf : xs 2 = 0) (ha1 : ¬ (xs 3) < 0) (ha2 : ¬ 7 < (xs 3)) (ha3 : (xs 3) ≤ 7) (ha4 : vp_in (xs 3) 8) (hb1 : ¬ (xs 4) < 0) (hb2 : ¬ 7 < (xs 4)) (hb3 : (xs 4) ≤ 7) (hb4 : vp_in (xs 4) 8) (hXs : va_X b 6 xs s s.heap) (hP : va_P D xcl [(a0, .inr (0, [v18, v19, .ref a10, .ref a4, v20, .ref a3, v21, v22])), (a1, .inr (5, [v23, .ref a15, v24, v25, v26, v27, v28, v29, v30, v31, v32, v33, v34, v35, v36, v37, v38, v39, v40, v41, v42, .ref a17, v43, v44, .ref a12, .ref a13, v45, v46, v47, v48, v49, v50])), (a2, .inl (cT 2, 1, .inr (.inl f51))), (a3, .inr (2, [.ref a9, v52, v53])), (a4, .inl (cT 3, 8, .inr (.inr (.inr (.inr f54))))), (a5, .inr (2, [.ref a6, .int 1, v59])), (a6, .inl (cT 2, 4096, .inr (.inl f60))), (a7, .inr (2, [.ref a8, .int 1, v62])), (a8, .inl (cT 2, 4096, .inr (.inl f63))), (a9, .inl (cT 2, 4096, .inr (.inl f65))), (a10, .inr (1, [.ref a11, v66, v67])), (a11, .inl (cT 0, 4096, .inl f68)), (a12, .inl (cT 5, 8, .inr (.inr (.inr (.inr f69))))), (a13, .inl (cT 1, 8, .inl f73)), (a14, .inl (cT 0, 4096, .inl f76)), (a15, .inl (cT 4, 1024, .inr (.inr (.inr (.inr f81))))), (a16, .inl (cT 0, 4096, .inl f84)), (a17, .inl (cT 0, 1024, .inl f89))] H) (hD : va_D A [(a0, .inr (0, [v18, v19, .ref a10, .ref a4, v20, .ref a3, v21, v22])), (a1, .inr (5, [v23, .ref a15, v24, v25, v26, v27, v28, v29, v30, v31, v32, v33, v34, v35, v36, v37, v38, v39, v40, v41, v42, .ref a17, v43, v44, .ref a12, .ref a13, v45, v46, v47, v48, v49, v50])), (a2, .inl (cT 2, 1, .inr (.inl f51))), (a3, .inr (2, [.ref a9, v52, v53])), (a4, .inl (cT 3, 8, .inr (.inr (.inr (.inr f54))))), (a5, .inr (2, [.ref a6, .int 1, v59])), (a6, .inl (cT 2, 4096, .inr (.inl f60))), (a7, .inr (2, [.ref a8, .int 1, v62])), (a8, .inl (cT 2, 4096, .inr (.inl f63))), (a9, .inl (cT 2, 4096, .inr (.inl f65))), (a10, .inr (1, [.ref a11, v66, v67])), (a11, .inl (cT 0, 4096, .inl f68)), (a12, .inl (cT 5, 8, .inr (.inr (.inr (.inr f69))))), (a13, .inl (cT 1, 8, .inl f73)), (a14, .inl (cT 0, 4096, .inl f76)), (a15, .inl (cT 4, 1024, .inr (.inr (.inr (.inr f81))))), (a16, .inl (cT 0, 4096, .inl f84)), (a17, .inl (cT 0, 1024, .inl f89))]) (hS : va_S A s.heap H locs) (hl : lv_has ls 8 [(4, .int 0), (3, .ref a2), (2, .ref a1), (1, .ref a0), (0, .ref b)]) : W p l e room_1 s m #[Value.ref b] below meth c H locs 54 107242 (lw_Z below #[Value.ref b] s) (F0 m 376 ls []) := by
  obtain ⟨hx, hb, hr, hml, hown, htx, hbl, hbA, hlocks, hK, hZ, hA, hA2⟩ := C
  refine lv_aload_n hx hb dL_law_376 rfl (lv_at hl 3 rfl) ?_
  refine lv_aload_n hx hb dL_law_377 rfl (lv_at hl 4 rfl) ?_
  refine lv_iload hx hb dL_law_378 (lv_at hl 0 rfl) ?_
  refine lv_iconst (v := 1) hx hb dL_law_380 (by decide) ?_
  refine lv_iadd hx hb dL_law_381 ?_
  refine W.eq (g2 := F0 m 382 ls [.int 1, .ref b, .ref a0]) rfl ?_
  refine va_sld hx hb hXs hbl hbA hS (i := 1) (show ¬ ((1 : Int32) < 0 ∨ 6 ≤ (1 : Int32).toNatClampNeg) by decide) dL_law_382 ?_
  refine W.eq (g2 := F0 m 383 ls [.int (xs 1), .ref a0]) rfl ?_
  refine lv_aload_n hx hb dL_law_383 rfl (lv_at hl 4 rfl) ?_
  refine lv_iload hx hb dL_law_384 (lv_at hl 0 rfl) ?_
  refine lv_iconst (v := 2) hx hb dL_law_386 (by decide) ?_
  refine lv_iadd hx hb dL_law_387 ?_
  refine W.eq (g2 := F0 m 388 ls [.int 2, .ref b, .int (xs 1), .ref a0]) rfl ?_
  refine va_sld hx hb hXs hbl hbA hS (i := 2) (show ¬ ((2 : Int32) < 0 ∨ 6 ≤ (2 : Int32).toNatClampNeg) by decide) dL_law_388 ?_
  refine W.eq (g2 := F0 m 389 ls [.int (xs 2), .int (xs 1), .ref a0]) rfl ?_
  rw [hf]
  refine W.eq (g2 := F0 m 389 ls [.int 0, .int (xs 1), .ref a0]) rfl ?_
  refine lv_aload_n hx hb dL_law_389 rfl (lv_at hl 4 rfl) ?_
  refine lv_iload hx hb dL_law_390 (lv_at hl 0 rfl) ?_
  refine lv_iconst (v := 3) hx hb dL_law_392 (by decide) ?_
  refine lv_iadd hx hb dL_law_393 ?_
  refine W.eq (g2 := F0 m 394 ls [.int 3, .ref b, .int 0, .int (xs 1), .ref a0]) rfl ?_
  refine va_sld hx hb hXs hbl hbA hS (i := 3) (show ¬ ((3 : Int32) < 0 ∨ 6 ≤ (3 : Int32).toNatClampNeg) by decide) dL_law_394 ?_
  refine W.eq (g2 := F0 m 395 ls [.int (xs 3), .int 0, .int (xs 1), .ref a0]) rfl ?_
  refine lv_aload_n hx hb dL_law_395 rfl (lv_at hl 4 rfl) ?_
  refine lv_iload hx hb dL_law_396 (lv_at hl 0 rfl) ?_
  refine lv_iconst (v := 4) hx hb dL_law_398 (by decide) ?_
  refine lv_iadd hx hb dL_law_399 ?_
  refine W.eq (g2 := F0 m 400 ls [.int 4, .ref b, .int (xs 3), .int 0, .int (xs 1), .ref a0]) rfl ?_
  refine va_sld hx hb hXs hbl hbA hS (i := 4) (show ¬ ((4 : Int32) < 0 ∨ 6 ≤ (4 : Int32).toNatClampNeg) by decide) dL_law_400 ?_
  refine W.eq (g2 := F0 m 401 ls [.int (xs 4), .int (xs 3), .int 0, .int (xs 1), .ref a0]) rfl ?_
  obtain ⟨hPc, hDc, hFc⟩ := xcut (wc := [(a0, .inr (0, [v18, v19, .ref a10, .ref a4, v20, .ref a3, v21, v22])), (a3, .inr (2, [.ref a9, v52, v53])), (a4, .inl (cT 3, 8, .inr (.inr (.inr (.inr f54))))), (a5, .inr (2, [.ref a6, .int 1, v59])), (a6, .inl (cT 2, 4096, .inr (.inl f60))), (a7, .inr (2, [.ref a8, .int 1, v62])), (a8, .inl (cT 2, 4096, .inr (.inl f63))), (a9, .inl (cT 2, 4096, .inr (.inl f65))), (a10, .inr (1, [.ref a11, v66, v67])), (a11, .inl (cT 0, 4096, .inl f68))]) hP hD hS hA [0, 3, 4, 5, 6, 7, 8, 9, 10, 11] rfl rfl (by decide)
  refine va_calli (vx_runSW (As := [.ref a0, .int (xs 1), .int 0, .int (xs 3), .int (xs 4)]) (rest := []) ⟨hx, hb, hml, hown, htx⟩ (cL_binary_9 l hl9 D cT aK aV H.size a0 a3 a4 a5 a6 a7 a8 a9 a10 a11 (xs 1) (xs 3) (xs 4) v18 v19 v20 v21 v22 v52 v53 f54 b57 v59 f60 v62 f63 f65 v66 v67 f68 hto1 hto2 hto3 hto4 ha1 ha2 ha3 ha4 hb1 hb2 hb3 hb4 (by first | rfl | exact h55 | exact h56 | exact h58 | exact h61 | exact h64 | exact h70 | exact h71 | exact h72 | exact h74 | exact h75 | exact h77 | exact h78 | exact h79 | exact h80 | exact h82 | exact h83 | exact h85 | exact h86 | exact h87 | exact h88) (by first | rfl | exact h55 | exact h56 | exact h58 | exact h61 | exact h64 | exact h70 | exact h71 | exact h72 | exact h74 | exact h75 | exact h77 | exact h78 | exact h79 | exact h80 | exact h82 | exact h83 | exact h85 | exact h86 | exact h87 | exact h88) (by first | rfl | exact h55 | exact h56 | exact h58 | exact h61 | exact h64 | exact h70 | exact h71 | exact h72 | exact h74 | exact h75 | exact h77 | exact h78 | exact h79 | exact h80 | exact h82 | exact h83 | exact h85 | exact h86 | exact h87 | exact h88) (by first | rfl | exact h55 | exact h56 | exact h58 | exact h61 | exact h64 | exact h70 | exact h71 | exact h72 | exact h74 | exact h75 | exact h77 | exact h78 | exact h79 | exact h80 | exact h82 | exact h83 | exact h85 | exact h86 | exact h87 | exact h88) (by first | rfl | exact h55 | exact h56 | exact h58 | exact h61 | exact h64 | exact h70 | exact h71 | exact h72 | exact h74 | exact h75 | exact h77 | exact h78 | exact h79 | exact h80 | exact h82 | exact h83 | exact h85 | exact h86 | exact h87 | exact h88)) (xcSW 5 htx (xw_goodC kw_3_97) rfl rfl rfl (htx _ kw_1_0) (htx _ kw_3_95) ⟨by decide, by decide, by decide +kernel⟩ ⟨Nat.le_of_ble_eq_true rfl, Nat.le_of_ble_eq_true rfl⟩ (htx _ kw_3_96)) ⟨xPre_blind, (fun U hU hW => ⟨rfl, xPre_of hZ hS hFc hPc hDc hK U hU hW⟩)⟩ rfl rfl hl.1 rfl (lv_room (Nat.le_of_ble_eq_true rfl)) dL_law_401 ⟨Nat.le_of_ble_eq_true rfl, Nat.le_of_ble_eq_true rfl⟩) hS (fun q _ h => hFc q h) hFc (fun r1 u9 t H1 locs ht hvm hr9 hB hz1 hk1 hS => ?_)
  obtain ⟨y2, y3, y4, y5, hP1, hK1, hD1⟩ := hB
  rw [ht] at hP1
  obtain ⟨hP, hD⟩ := xjoin (W := [(a1, .inr (5, [v23, .ref a15, v24, v25, v26, v27, v28, v29, v30, v31, v32, v33, v34, v35, v36, v37, v38, v39, v40, v41, v42, .ref a17, v43, v44, .ref a12, .ref a13, v45, v46, v47, v48, v49, v50])), (a2, .inl (cT 2, 1, .inr (.inl f51))), (a12, .inl (cT 5, 8, .inr (.inr (.inr (.inr f69))))), (a13, .inl (cT 1, 8, .inl f73)), (a14, .inl (cT 0, 4096, .inl f76)), (a15, .inl (cT 4, 1024, .inr (.inr (.inr (.inr f81))))), (a16, .inl (cT 0, 4096, .inl f84)), (a17, .inl (cT 0, 1024, .inl f89)), (a0, .inr (0, [v18, v19, .ref a10, .ref a4, v20, .ref b57, v21, v22])), (a3, .inr (2, [.ref a9, .int 1, .int 0])), (a4, .inl (cT 3, 8, .inr (.inr (.inr (.inr (va_up f54 (xs 1).toNatClampNeg (some a3))))))), (a5, .inr (2, [.ref a6, .int 1, v59])), (a6, .inl (cT 2, 4096, .inr (.inl f60))), (a7, .inr (2, [.ref a8, .int 1, v62])), (a8, .inl (cT 2, 4096, .inr (.inl f63))), (a9, .inl (cT 2, 4096, .inr (.inl (vp_updL f65 0 0)))), (a10, .inr (1, [.ref a11, .int 4, .int 0])), (a11, .inl (cT 0, 4096, .inl (upd (upd (upd (upd f68 0 (vp_nar .byte y2)) 1 (vp_nar .byte y3)) 2 (vp_nar .byte y4)) 3 (vp_nar .byte y5))))]) hP hD [0, 3, 4, 5, 6, 7, 8, 9, 10, 11] [1, 2, 12, 13, 14, 15, 16, 17] 8 rfl rfl (by decide) (by decide) hk1 hFc hP1 hD1
  generalize H1 = H at hP hS ⊢
  rw [hr9]
  refine W.eq (g2 := F0 m 404 ls [.int 0]) rfl ?_
  refine lv_istore (lv' := [(5, .int 0), (4, .int 0), (3, .ref a2), (2, .ref a1), (1, .ref a0), (0, .ref b)]) hx hb dL_law_404 hl (by decide) rfl (fun ls hl => ?_)
  refine lv_aload_n hx hb dL_law_406 rfl (lv_at hl 3 rfl) ?_
  refine lv_aload_n hx hb dL_law_407 rfl (lv_at hl 5 rfl) ?_
  refine lv_iload hx hb dL_law_408 (lv_at hl 1 rfl) ?_
  refine lv_iconst (v := 1) hx hb dL_law_410 (by decide) ?_
  refine lv_iadd hx hb dL_law_411 ?_
  refine W.eq (g2 := F0 m 412 ls [.int 1, .ref b, .ref a1]) rfl ?_
  refine va_sld hx hb hXs hbl hbA hS (i := 1) (show ¬ ((1 : Int32) < 0 ∨ 6 ≤ (1 : Int32).toNatClampNeg) by decide) dL_law_412 ?_
  refine W.eq (g2 := F0 m 413 ls [.int (xs 1), .ref a1]) rfl ?_
  refine lv_aload_n hx hb dL_law_413 rfl (lv_at hl 5 rfl) ?_
  refine lv_iload hx hb dL_law_414 (lv_at hl 1 rfl) ?_
  refine lv_iconst (v := 2) hx hb dL_law_416 (by decide) ?_
  refine lv_iadd hx hb dL_law_417 ?_
  refine W.eq (g2 := F0 m 418 ls [.int 2, .ref b, .int (xs 1), .ref a1]) rfl ?_
  refine va_sld hx hb hXs hbl hbA hS (i := 2) (show ¬ ((2 : Int32) < 0 ∨ 6 ≤ (2 : Int32).toNatClampNeg) by decide) dL_law_418 ?_
  refine W.eq (g2 := F0 m 419 ls [.int (xs 2), .int (xs 1), .ref a1]) rfl ?_
  rw [hf]
  refine W.eq (g2 := F0 m 419 ls [.int 0, .int (xs 1), .ref a1]) rfl ?_
  refine lv_aload_n hx hb dL_law_419 rfl (lv_at hl 5 rfl) ?_
  refine lv_iload hx hb dL_law_420 (lv_at hl 1 rfl) ?_
  refine lv_iconst (v := 3) hx hb dL_law_422 (by decide) ?_
  refine lv_iadd hx hb dL_law_423 ?_
  refine W.eq (g2 := F0 m 424 ls [.int 3, .ref b, .int 0, .int (xs 1), .ref a1]) rfl ?_
  refine va_sld hx hb hXs hbl hbA hS (i := 3) (show ¬ ((3 : Int32) < 0 ∨ 6 ≤ (3 : Int32).toNatClampNeg) by decide) dL_law_424 ?_
  refine W.eq (g2 := F0 m 425 ls [.int (xs 3), .int 0, .int (xs 1), .ref a1]) rfl ?_
  refine lv_aload_n hx hb dL_law_425 rfl (lv_at hl 5 rfl) ?_
  refine lv_iload hx hb dL_law_426 (lv_at hl 1 rfl) ?_
  refine lv_iconst (v := 4) hx hb dL_law_428 (by decide) ?_
  refine lv_iadd hx hb dL_law_429 ?_
  refine W.eq (g2 := F0 m 430 ls [.int 4, .ref b, .int (xs 3), .int 0, .int (xs 1), .ref a1]) rfl ?_
  refine va_sld hx hb hXs hbl hbA hS (i := 4) (show ¬ ((4 : Int32) < 0 ∨ 6 ≤ (4 : Int32).toNatClampNeg) by decide) dL_law_430 ?_
  refine W.eq (g2 := F0 m 431 ls [.int (xs 4), .int (xs 3), .int 0, .int (xs 1), .ref a1]) rfl ?_
  obtain ⟨hPc, hDc, hFc⟩ := xcut (wc := [(a1, .inr (5, [v23, .ref a15, v24, v25, v26, v27, v28, v29, v30, v31, v32, v33, v34, v35, v36, v37, v38, v39, v40, v41, v42, .ref a17, v43, v44, .ref a12, .ref a13, v45, v46, v47, v48, v49, v50])), (a12, .inl (cT 5, 8, .inr (.inr (.inr (.inr f69))))), (a13, .inl (cT 1, 8, .inl f73)), (a14, .inl (cT 0, 4096, .inl f76)), (a15, .inl (cT 4, 1024, .inr (.inr (.inr (.inr f81))))), (a16, .inl (cT 0, 4096, .inl f84)), (a17, .inl (cT 0, 1024, .inl f89))]) hP hD hS hA [0, 2, 3, 4, 5, 6, 7] rfl rfl (by decide)
  refine va_callv (va_runV (C := "ValueBenchModel") (As := [.int (xs 1), .int 0, .int (xs 3), .int (xs 4)]) (rest := []) ⟨hx, hb, hml, hown, htx⟩ (cM_binary0_10 l hl9 D cT aK aV H.size a1 a12 a13 a14 a15 a16 a17 (xs 1) (xs 3) (xs 4) v23 v24 v25 v26 v27 v28 v29 v30 v31 v32 v33 v34 v35 v36 v37 v38 v39 v40 v41 v42 v43 v44 v45 v46 v47 v48 v49 v50 f69 f73 f76 f81 f84 f89 hto1 hto2 hto3 hto4 ha1 ha2 ha3 ha4 hb1 hb2 hb3 hb4 (by first | rfl | exact h55 | exact h56 | exact h61 | exact h64 | exact h70 | exact h71 | exact h72 | exact h74 | exact h75 | exact h77 | exact h78 | exact h79 | exact h80 | exact h82 | exact h83 | exact h85 | exact h86 | exact h87 | exact h88) (by first | rfl | exact h55 | exact h56 | exact h61 | exact h64 | exact h70 | exact h71 | exact h72 | exact h74 | exact h75 | exact h77 | exact h78 | exact h79 | exact h80 | exact h82 | exact h83 | exact h85 | exact h86 | exact h87 | exact h88) (by first | rfl | exact h55 | exact h56 | exact h61 | exact h64 | exact h70 | exact h71 | exact h72 | exact h74 | exact h75 | exact h77 | exact h78 | exact h79 | exact h80 | exact h82 | exact h83 | exact h85 | exact h86 | exact h87 | exact h88) (by first | rfl | exact h55 | exact h56 | exact h61 | exact h64 | exact h70 | exact h71 | exact h72 | exact h74 | exact h75 | exact h77 | exact h78 | exact h79 | exact h80 | exact h82 | exact h83 | exact h85 | exact h86 | exact h87 | exact h88) (by first | rfl | exact h55 | exact h56 | exact h61 | exact h64 | exact h70 | exact h71 | exact h72 | exact h74 | exact h75 | exact h77 | exact h78 | exact h79 | exact h80 | exact h82 | exact h83 | exact h85 | exact h86 | exact h87 | exact h88) (by first | rfl | exact h55 | exact h56 | exact h61 | exact h64 | exact h70 | exact h71 | exact h72 | exact h74 | exact h75 | exact h77 | exact h78 | exact h79 | exact h80 | exact h82 | exact h83 | exact h85 | exact h86 | exact h87 | exact h88) (by first | rfl | exact h55 | exact h56 | exact h61 | exact h64 | exact h70 | exact h71 | exact h72 | exact h74 | exact h75 | exact h77 | exact h78 | exact h79 | exact h80 | exact h82 | exact h83 | exact h85 | exact h86 | exact h87 | exact h88) (by first | rfl | exact h55 | exact h56 | exact h61 | exact h64 | exact h70 | exact h71 | exact h72 | exact h74 | exact h75 | exact h77 | exact h78 | exact h79 | exact h80 | exact h82 | exact h83 | exact h85 | exact h86 | exact h87 | exact h88) (by first | rfl | exact h55 | exact h56 | exact h61 | exact h64 | exact h70 | exact h71 | exact h72 | exact h74 | exact h75 | exact h77 | exact h78 | exact h79 | exact h80 | exact h82 | exact h83 | exact h85 | exact h86 | exact h87 | exact h88) (by first | rfl | exact h55 | exact h56 | exact h61 | exact h64 | exact h70 | exact h71 | exact h72 | exact h74 | exact h75 | exact h77 | exact h78 | exact h79 | exact h80 | exact h82 | exact h83 | exact h85 | exact h86 | exact h87 | exact h88) (by first | rfl | exact h55 | exact h56 | exact h61 | exact h64 | exact h70 | exact h71 | exact h72 | exact h74 | exact h75 | exact h77 | exact h78 | exact h79 | exact h80 | exact h82 | exact h83 | exact h85 | exact h86 | exact h87 | exact h88) (by first | rfl | exact h55 | exact h56 | exact h61 | exact h64 | exact h70 | exact h71 | exact h72 | exact h74 | exact h75 | exact h77 | exact h78 | exact h79 | exact h80 | exact h82 | exact h83 | exact h85 | exact h86 | exact h87 | exact h88) (by first | rfl | exact h55 | exact h56 | exact h61 | exact h64 | exact h70 | exact h71 | exact h72 | exact h74 | exact h75 | exact h77 | exact h78 | exact h79 | exact h80 | exact h82 | exact h83 | exact h85 | exact h86 | exact h87 | exact h88) (by first | rfl | exact h55 | exact h56 | exact h61 | exact h64 | exact h70 | exact h71 | exact h72 | exact h74 | exact h75 | exact h77 | exact h78 | exact h79 | exact h80 | exact h82 | exact h83 | exact h85 | exact h86 | exact h87 | exact h88) (by first | rfl | exact h55 | exact h56 | exact h61 | exact h64 | exact h70 | exact h71 | exact h72 | exact h74 | exact h75 | exact h77 | exact h78 | exact h79 | exact h80 | exact h82 | exact h83 | exact h85 | exact h86 | exact h87 | exact h88)) ⟨callB_of 4 htx (xw_goodC kw_6_191) rfl rfl rfl (htx _ kw_1_5) (htx _ kw_6_188) ⟨by decide, by decide, by decide +kernel⟩ ⟨Nat.le_of_ble_eq_true rfl, Nat.le_of_ble_eq_true rfl⟩, (htx _ kw_6_189), (htx _ kw_6_190)⟩ ⟨xPre_blind, va_recv hK hP (ci := 5) rfl (q0 := 0) rfl, (fun U hU hW => ⟨rfl, xPre_of hZ hS hFc hPc hDc hK U hU hW⟩)⟩ rfl rfl hl.1 rfl (lv_room (Nat.le_of_ble_eq_true rfl)) dL_law_431 ⟨Nat.le_of_ble_eq_true rfl, Nat.le_of_ble_eq_true rfl⟩) hS (fun q _ h => hFc q h) hFc (fun u9 t H1 locs ht hvm hr9 hB hz1 hk1 hS => ?_)
  obtain ⟨q6, q7, y8, y9, y10, y11, hP1, hK1, hD1⟩ := hB
  rw [ht] at hP1
  obtain ⟨hP, hD⟩ := xjoin (W := [(a2, .inl (cT 2, 1, .inr (.inl f51))), (a0, .inr (0, [v18, v19, .ref a10, .ref a4, v20, .ref b57, v21, v22])), (a3, .inr (2, [.ref a9, .int 1, .int 0])), (a4, .inl (cT 3, 8, .inr (.inr (.inr (.inr (va_up f54 (xs 1).toNatClampNeg (some a3))))))), (a5, .inr (2, [.ref a6, .int 1, v59])), (a6, .inl (cT 2, 4096, .inr (.inl f60))), (a7, .inr (2, [.ref a8, .int 1, v62])), (a8, .inl (cT 2, 4096, .inr (.inl f63))), (a9, .inl (cT 2, 4096, .inr (.inl (vp_updL f65 0 0)))), (a10, .inr (1, [.ref a11, .int 4, .int 0])), (a11, .inl (cT 0, 4096, .inl (upd (upd (upd (upd f68 0 (vp_nar .byte y2)) 1 (vp_nar .byte y3)) 2 (vp_nar .byte y4)) 3 (vp_nar .byte y5)))), (a1, .inr (5, [.int 0, .ref a15, .int 2, v25, .int 0, v27, v28, .int 0, v30, .int 0, v32, v33, .int 0, v35, v36, .ref a16, .int 4, .int 4, .int 0, .int 100, v42, .ref a17, .int 4, .int 4096, .ref a12, .ref a13, v45, v46, v47, v48, v49, v50])), (a12, .inl (cT 5, 8, .inr (.inr (.inr (.inr f69))))), (a13, .inl (cT 1, 8, .inl (upd f73 (xs 1).toNatClampNeg 4))), (a14, .inl (cT 0, 4096, .inl (upd (upd (upd (upd f76 0 (vp_nar .byte (vp_nar .byte y8))) 1 (vp_nar .byte (vp_nar .byte y9))) 2 (vp_nar .byte (vp_nar .byte y10))) 3 (vp_nar .byte (vp_nar .byte y11))))), (a15, .inl (cT 4, 1024, .inr (.inr (.inr (.inr (va_up (va_up f81 0 (some q6)) 1 (some q7))))))), (a16, .inl (cT 0, 4096, .inl f84)), (a17, .inl (cT 0, 1024, .inl (upd (upd (upd (upd f89 0 (vp_nar .byte y8)) 1 (vp_nar .byte y9)) 2 (vp_nar .byte y10)) 3 (vp_nar .byte y11)))), (q6, .inr (6, [.int 0, .long 0, .int 0, .int 0, .int 0, .int 1])), (q7, .inr (6, [.int 0, .long 0, .int 0, .int 0, .int 0, .int 1]))]) hP hD [0, 2, 3, 4, 5, 6, 7] [1, 8, 9, 10, 11, 12, 13, 14, 15, 16, 17] 11 rfl rfl (by decide) (by decide) hk1 hFc hP1 hD1
  generalize H1 = H at hP hS ⊢
  refine lv_aload_n hx hb dL_law_434 rfl (lv_at hl 3 rfl) ?_
  obtain ⟨hPc, hDc, hFc⟩ := xcut (wc := [(a1, .inr (5, [.int 0, .ref a15, .int 2, v25, .int 0, v27, v28, .int 0, v30, .int 0, v32, v33, .int 0, v35, v36, .ref a16, .int 4, .int 4, .int 0, .int 100, v42, .ref a17, .int 4, .int 4096, .ref a12, .ref a13, v45, v46, v47, v48, v49, v50]))]) hP hD hS hA [11] rfl rfl (by decide)
  refine va_calli (va_runV (C := "ValueBenchModel") (As := []) (rest := []) ⟨hx, hb, hml, hown, htx⟩ (cM_thrown_0 l hl9 D cT aK aV H.size a1 (.ref a15) (.int 2) v25 (.int 0) v27 v28 (.int 0) v30 (.int 0) v32 v33 (.int 0) v35 v36 (.ref a16) (.int 4) (.int 4) (.int 0) (.int 100) v42 (.ref a17) (.int 4) (.int 4096) (.ref a12) (.ref a13) v45 v46 v47 v48 v49 v50) ⟨callB_of 0 htx (xw_goodC kw_5_187) rfl rfl rfl (htx _ kw_1_5) (htx _ kw_5_184) ⟨by decide, by decide, by decide +kernel⟩ ⟨Nat.le_of_ble_eq_true rfl, Nat.le_of_ble_eq_true rfl⟩, (htx _ kw_5_185), (htx _ kw_5_186)⟩ ⟨xPre_blind, va_recv hK hP (ci := 5) rfl (q0 := 11) rfl, (fun U hU hW => ⟨rfl, xPre_of hZ hS hFc hPc hDc hK U hU hW⟩)⟩ rfl rfl hl.1 rfl (lv_room (Nat.le_of_ble_eq_true rfl)) dL_law_435 ⟨Nat.le_of_ble_eq_true rfl, Nat.le_of_ble_eq_true rfl⟩) hS (fun q _ h => hFc q h) hFc (fun r12 u9 t H1 locs ht hvm hr9 hB hz1 hk1 hS => ?_)
  obtain ⟨hP1, hK1, hD1⟩ := hB
  rw [ht] at hP1
  obtain ⟨hP, hD⟩ := xjoin (W := [(a2, .inl (cT 2, 1, .inr (.inl f51))), (a0, .inr (0, [v18, v19, .ref a10, .ref a4, v20, .ref b57, v21, v22])), (a3, .inr (2, [.ref a9, .int 1, .int 0])), (a4, .inl (cT 3, 8, .inr (.inr (.inr (.inr (va_up f54 (xs 1).toNatClampNeg (some a3))))))), (a5, .inr (2, [.ref a6, .int 1, v59])), (a6, .inl (cT 2, 4096, .inr (.inl f60))), (a7, .inr (2, [.ref a8, .int 1, v62])), (a8, .inl (cT 2, 4096, .inr (.inl f63))), (a9, .inl (cT 2, 4096, .inr (.inl (vp_updL f65 0 0)))), (a10, .inr (1, [.ref a11, .int 4, .int 0])), (a11, .inl (cT 0, 4096, .inl (upd (upd (upd (upd f68 0 (vp_nar .byte y2)) 1 (vp_nar .byte y3)) 2 (vp_nar .byte y4)) 3 (vp_nar .byte y5)))), (a12, .inl (cT 5, 8, .inr (.inr (.inr (.inr f69))))), (a13, .inl (cT 1, 8, .inl (upd f73 (xs 1).toNatClampNeg 4))), (a14, .inl (cT 0, 4096, .inl (upd (upd (upd (upd f76 0 (vp_nar .byte (vp_nar .byte y8))) 1 (vp_nar .byte (vp_nar .byte y9))) 2 (vp_nar .byte (vp_nar .byte y10))) 3 (vp_nar .byte (vp_nar .byte y11))))), (a15, .inl (cT 4, 1024, .inr (.inr (.inr (.inr (va_up (va_up f81 0 (some q6)) 1 (some q7))))))), (a16, .inl (cT 0, 4096, .inl f84)), (a17, .inl (cT 0, 1024, .inl (upd (upd (upd (upd f89 0 (vp_nar .byte y8)) 1 (vp_nar .byte y9)) 2 (vp_nar .byte y10)) 3 (vp_nar .byte y11)))), (q6, .inr (6, [.int 0, .long 0, .int 0, .int 0, .int 0, .int 1])), (q7, .inr (6, [.int 0, .long 0, .int 0, .int 0, .int 0, .int 1])), (a1, .inr (5, [.int 0, .ref a15, .int 2, v25, .int 0, v27, v28, .int 0, v30, .int 0, v32, v33, .int 0, v35, v36, .ref a16, .int 4, .int 4, .int 0, .int 100, v42, .ref a17, .int 4, .int 4096, .ref a12, .ref a13, v45, v46, v47, v48, v49, v50]))]) hP hD [11] [0, 1, 2, 3, 4, 5, 6, 7, 8, 9, 10, 12, 13, 14, 15, 16, 17, 18, 19] 19 rfl rfl (by decide) (by decide) hk1 hFc hP1 hD1
  generalize H1 = H at hP hS ⊢
  rw [hr9]
  refine W.eq (g2 := F0 m 438 ls [.int 0]) rfl ?_
  refine lv_iload hx hb dL_law_438 (lv_at hl 0 rfl) ?_
  refine lv_icmp_eq (tgt := 445) hx hb dL_law_440 (by decide) (fun _ => ?_) (fun h => ((by revert h; decide : False)).elim)
  refine lv_goto (tgt := 906) hx hb dL_law_445 (by decide) ?_
  refine lv_iinc (v := 6) (lv' := [(4, .int 6), (5, .int 0), (3, .ref a2), (2, .ref a1), (1, .ref a0), (0, .ref b)]) hx hb dL_law_906 hl (k := 1) rfl (by decide) (by decide) rfl (fun ls hl => ?_)
  refine lv_goto (tgt := 23) hx hb dL_law_909 (by decide) ?_
  refine lv_iload hx hb dL_law_23 (lv_at hl 0 rfl) ?_
  refine lv_aload_n hx hb dL_law_25 rfl (lv_at hl 5 rfl) ?_
  refine va_slen hx hb hXs hbl hbA hS dL_law_26 ?_
  refine W.eq (g2 := F0 m 27 ls [.int 6, .int 6]) rfl ?_
  refine lv_bipush (v := 6) hx hb dL_law_27 (by decide) ?_
  refine lv_isub hx hb dL_law_29 ?_
  refine W.eq (g2 := F0 m 30 ls [.int 0, .int 6]) rfl ?_
  refine lv_icmp_gt (tgt := 912) hx hb dL_law_30 (by decide) (fun _ => ?_) (fun h => ((by revert h; decide : False)).elim)
  refine lv_iconst (v := 1) hx hb dL_law_912 (by decide) ?_
  exact va_forget (fun q h => hA2 _ (hS.2.2 q h)) (W.widen (k := 600002) (n := 7302232) (Nat.le_of_ble_eq_true rfl) (Nat.le_of_ble_eq_true rfl) (lw_ret hx hb hr hlocks dL_law_913))
set_option maxHeartbeats 400000000 in
set_option maxRecDepth 100000 in
theorem lf_binary0_p3 {p : Program} {e : Env} {s : State} {m : MethodId} {below : List Frame} {meth : Method} {c : Code} (l : Launch) (hl9 : l.stackTraces = false) (D : va_G) (cT : Nat → ClassId) (aK aV : Nat → Nat) {A : Nat → Prop} {b : Nat} {xs : Nat → Int32} (C : xLw p s m meth c b D cT aK aV A) {H : Heap} {locs : List Loc} {ls : Array Slot} (a0 : Nat) (a1 : Nat) (a2 : Nat) (a3 : Nat) (a4 : Nat) (a5 : Nat) (a6 : Nat) (a7 : Nat) (a8 : Nat) (a9 : Nat) (a10 : Nat) (a11 : Nat) (a12 : Nat) (a13 : Nat) (a14 : Nat) (a15 : Nat) (a16 : Nat) (a17 : Nat) (v18 : Value) (v19 : Value) (v20 : Value) (v21 : Value) (v22 : Value) (v23 : Value) (v24 : Value) (v25 : Value) (v26 : Value) (v27 : Value) (v28 : Value) (v29 : Value) (v30 : Value) (v31 : Value) (v32 : Value) (v33 : Value) (v34 : Value) (v35 : Value) (v36 : Value) (v37 : Value) (v38 : Value) (v39 : Value) (v40 : Value) (v41 : Value) (v42 : Value) (v43 : Value) (v44 : Value) (v45 : Value) (v46 : Value) (v47 : Value) (v48 : Value) (v49 : Value) (v50 : Value) (f51 : Nat → Int64) (v52 : Value) (v53 : Value) (f54 : Nat → Option Nat) (b57 : Nat) (v59 : Value) (f60 : Nat → Int64) (v62 : Value) (f63 : Nat → Int64) (f65 : Nat → Int64) (v66 : Value) (v67 : Value) (f68 : Nat → Int32) (f69 : Nat → Option Nat) (f73 : Nat → Int32) (f76 : Nat → Int32) (f81 : Nat → Option Nat) (f84 : Nat → Int32) (f89 : Nat → Int32) (h55 : f54 (xs 3).toNatClampNeg = some a5) (h56 : f54 (xs 4).toNatClampNeg = some a7) (h58 : f54 (xs 1).toNatClampNeg = some b57) (h61 : f60 0 = 0) (h64 : f63 0 = 0) (h70 : f69 (xs 3).toNatClampNeg = some a14) (h71 : f69 (xs 4).toNatClampNeg = some a16) (h72 : f69 (xs 1).toNatClampNeg = some a16) (h74 : f73 (xs 3).toNatClampNeg = 4) (h75 : f73 (xs 4).toNatClampNeg = 4) (h77 : f76 0 = 110) (h78 : f76 1 = 117) (h79 : f76 2 = 108) (h80 : f76 3 = 108) (h82 : f81 0 = none) (h83 : f81 1 = none) (h85 : f84 0 = 110) (h86 : f84 1 = 117) (h87 : f84 2 = 108) (h88 : f84 3 = 108) (hto1 : ¬ (xs 1) < 0) (hto2 : ¬ 7 < (xs 1)) (hto3 : (xs 1) ≤ 7) (hto4 : vp_in (xs 1) 8) (hf : xs 2 = 0) (ha1 : ¬ (xs 3) < 0) (ha2 : ¬ 7 < (xs 3)) (ha3 : (xs 3) ≤ 7) (ha4 : vp_in (xs 3) 8) (hb1 : ¬ (xs 4) < 0) (hb2 : ¬ 7 < (xs 4)) (hb3 : (xs 4) ≤ 7) (hb4 : vp_in (xs 4) 8) (hXs : va_X b 6 xs s s.heap) (hP : va_P D xcl [(a0, .inr (0, [v18, v19, .ref a10, .ref a4, v20, .ref a3, v21, v22])), (a1, .inr (5, [v23, .ref a15, v24, v25, v26, v27, v28, v29, v30, v31, v32, v33, v34, v35, v36, v37, v38, v39, v40, v41, v42, .ref a17, v43, v44, .ref a12, .ref a13, v45, v46, v47, v48, v49, v50])), (a2, .inl (cT 2, 1, .inr (.inl f51))), (a3, .inr (2, [.ref a9, v52, v53])), (a4, .inl (cT 3, 8, .inr (.inr (.inr (.inr f54))))), (a5, .inr (2, [.ref a6, .int 1, v59])), (a6, .inl (cT 2, 4096, .inr (.inl f60))), (a7, .inr (2, [.ref a8, .int 1, v62])), (a8, .inl (cT 2, 4096, .inr (.inl f63))), (a9, .inl (cT 2, 4096, .inr (.inl f65))), (a10, .inr (1, [.ref a11, v66, v67])), (a11, .inl (cT 0, 4096, .inl f68)), (a12, .inl (cT 5, 8, .inr (.inr (.inr (.inr f69))))), (a13, .inl (cT 1, 8, .inl f73)), (a14, .inl (cT 0, 4096, .inl f76)), (a15, .inl (cT 4, 1024, .inr (.inr (.inr (.inr f81))))), (a16, .inl (cT 0, 4096, .inl f84)), (a17, .inl (cT 0, 1024, .inl f89))] H) (hD : va_D A [(a0, .inr (0, [v18, v19, .ref a10, .ref a4, v20, .ref a3, v21, v22])), (a1, .inr (5, [v23, .ref a15, v24, v25, v26, v27, v28, v29, v30, v31, v32, v33, v34, v35, v36, v37, v38, v39, v40, v41, v42, .ref a17, v43, v44, .ref a12, .ref a13, v45, v46, v47, v48, v49, v50])), (a2, .inl (cT 2, 1, .inr (.inl f51))), (a3, .inr (2, [.ref a9, v52, v53])), (a4, .inl (cT 3, 8, .inr (.inr (.inr (.inr f54))))), (a5, .inr (2, [.ref a6, .int 1, v59])), (a6, .inl (cT 2, 4096, .inr (.inl f60))), (a7, .inr (2, [.ref a8, .int 1, v62])), (a8, .inl (cT 2, 4096, .inr (.inl f63))), (a9, .inl (cT 2, 4096, .inr (.inl f65))), (a10, .inr (1, [.ref a11, v66, v67])), (a11, .inl (cT 0, 4096, .inl f68)), (a12, .inl (cT 5, 8, .inr (.inr (.inr (.inr f69))))), (a13, .inl (cT 1, 8, .inl f73)), (a14, .inl (cT 0, 4096, .inl f76)), (a15, .inl (cT 4, 1024, .inr (.inr (.inr (.inr f81))))), (a16, .inl (cT 0, 4096, .inl f84)), (a17, .inl (cT 0, 1024, .inl f89))]) (hS : va_S A s.heap H locs) (hl : lv_has ls 8 [(4, .int 0), (3, .ref a2), (2, .ref a1), (1, .ref a0), (0, .ref b)]) : W p l e room_1 s m #[Value.ref b] below meth c H locs 54 107242 (lw_Z below #[Value.ref b] s) (F0 m 376 ls []) := by
  obtain ⟨hx, hb, hr, hml, hown, htx, hbl, hbA, hlocks, hK, hZ, hA, hA2⟩ := C
  refine lv_aload_n hx hb dL_law_376 rfl (lv_at hl 3 rfl) ?_
  refine lv_aload_n hx hb dL_law_377 rfl (lv_at hl 4 rfl) ?_
  refine lv_iload hx hb dL_law_378 (lv_at hl 0 rfl) ?_
  refine lv_iconst (v := 1) hx hb dL_law_380 (by decide) ?_
  refine lv_iadd hx hb dL_law_381 ?_
  refine W.eq (g2 := F0 m 382 ls [.int 1, .ref b, .ref a0]) rfl ?_
  refine va_sld hx hb hXs hbl hbA hS (i := 1) (show ¬ ((1 : Int32) < 0 ∨ 6 ≤ (1 : Int32).toNatClampNeg) by decide) dL_law_382 ?_
  refine W.eq (g2 := F0 m 383 ls [.int (xs 1), .ref a0]) rfl ?_
  refine lv_aload_n hx hb dL_law_383 rfl (lv_at hl 4 rfl) ?_
  refine lv_iload hx hb dL_law_384 (lv_at hl 0 rfl) ?_
  refine lv_iconst (v := 2) hx hb dL_law_386 (by decide) ?_
  refine lv_iadd hx hb dL_law_387 ?_
  refine W.eq (g2 := F0 m 388 ls [.int 2, .ref b, .int (xs 1), .ref a0]) rfl ?_
  refine va_sld hx hb hXs hbl hbA hS (i := 2) (show ¬ ((2 : Int32) < 0 ∨ 6 ≤ (2 : Int32).toNatClampNeg) by decide) dL_law_388 ?_
  refine W.eq (g2 := F0 m 389 ls [.int (xs 2), .int (xs 1), .ref a0]) rfl ?_
  rw [hf]
  refine W.eq (g2 := F0 m 389 ls [.int 0, .int (xs 1), .ref a0]) rfl ?_
  refine lv_aload_n hx hb dL_law_389 rfl (lv_at hl 4 rfl) ?_
  refine lv_iload hx hb dL_law_390 (lv_at hl 0 rfl) ?_
  refine lv_iconst (v := 3) hx hb dL_law_392 (by decide) ?_
  refine lv_iadd hx hb dL_law_393 ?_
  refine W.eq (g2 := F0 m 394 ls [.int 3, .ref b, .int 0, .int (xs 1), .ref a0]) rfl ?_
  refine va_sld hx hb hXs hbl hbA hS (i := 3) (show ¬ ((3 : Int32) < 0 ∨ 6 ≤ (3 : Int32).toNatClampNeg) by decide) dL_law_394 ?_
  refine W.eq (g2 := F0 m 395 ls [.int (xs 3), .int 0, .int (xs 1), .ref a0]) rfl ?_
  refine lv_aload_n hx hb dL_law_395 rfl (lv_at hl 4 rfl) ?_
  refine lv_iload hx hb dL_law_396 (lv_at hl 0 rfl) ?_
  refine lv_iconst (v := 4) hx hb dL_law_398 (by decide) ?_
  refine lv_iadd hx hb dL_law_399 ?_
  refine W.eq (g2 := F0 m 400 ls [.int 4, .ref b, .int (xs 3), .int 0, .int (xs 1), .ref a0]) rfl ?_
  refine va_sld hx hb hXs hbl hbA hS (i := 4) (show ¬ ((4 : Int32) < 0 ∨ 6 ≤ (4 : Int32).toNatClampNeg) by decide) dL_law_400 ?_
  refine W.eq (g2 := F0 m 401 ls [.int (xs 4), .int (xs 3), .int 0, .int (xs 1), .ref a0]) rfl ?_
  obtain ⟨hPc, hDc, hFc⟩ := xcut (wc := [(a0, .inr (0, [v18, v19, .ref a10, .ref a4, v20, .ref a3, v21, v22])), (a3, .inr (2, [.ref a9, v52, v53])), (a4, .inl (cT 3, 8, .inr (.inr (.inr (.inr f54))))), (a5, .inr (2, [.ref a6, .int 1, v59])), (a6, .inl (cT 2, 4096, .inr (.inl f60))), (a7, .inr (2, [.ref a8, .int 1, v62])), (a8, .inl (cT 2, 4096, .inr (.inl f63))), (a9, .inl (cT 2, 4096, .inr (.inl f65))), (a10, .inr (1, [.ref a11, v66, v67])), (a11, .inl (cT 0, 4096, .inl f68))]) hP hD hS hA [0, 3, 4, 5, 6, 7, 8, 9, 10, 11] rfl rfl (by decide)
  refine va_calli (vx_runSW (As := [.ref a0, .int (xs 1), .int 0, .int (xs 3), .int (xs 4)]) (rest := []) ⟨hx, hb, hml, hown, htx⟩ (cL_binary_9 l hl9 D cT aK aV H.size a0 a3 a4 a5 a6 a7 a8 a9 a10 a11 (xs 1) (xs 3) (xs 4) v18 v19 v20 v21 v22 v52 v53 f54 b57 v59 f60 v62 f63 f65 v66 v67 f68 hto1 hto2 hto3 hto4 ha1 ha2 ha3 ha4 hb1 hb2 hb3 hb4 (by first | rfl | exact h55 | exact h56 | exact h58 | exact h61 | exact h64 | exact h70 | exact h71 | exact h72 | exact h74 | exact h75 | exact h77 | exact h78 | exact h79 | exact h80 | exact h82 | exact h83 | exact h85 | exact h86 | exact h87 | exact h88) (by first | rfl | exact h55 | exact h56 | exact h58 | exact h61 | exact h64 | exact h70 | exact h71 | exact h72 | exact h74 | exact h75 | exact h77 | exact h78 | exact h79 | exact h80 | exact h82 | exact h83 | exact h85 | exact h86 | exact h87 | exact h88) (by first | rfl | exact h55 | exact h56 | exact h58 | exact h61 | exact h64 | exact h70 | exact h71 | exact h72 | exact h74 | exact h75 | exact h77 | exact h78 | exact h79 | exact h80 | exact h82 | exact h83 | exact h85 | exact h86 | exact h87 | exact h88) (by first | rfl | exact h55 | exact h56 | exact h58 | exact h61 | exact h64 | exact h70 | exact h71 | exact h72 | exact h74 | exact h75 | exact h77 | exact h78 | exact h79 | exact h80 | exact h82 | exact h83 | exact h85 | exact h86 | exact h87 | exact h88) (by first | rfl | exact h55 | exact h56 | exact h58 | exact h61 | exact h64 | exact h70 | exact h71 | exact h72 | exact h74 | exact h75 | exact h77 | exact h78 | exact h79 | exact h80 | exact h82 | exact h83 | exact h85 | exact h86 | exact h87 | exact h88)) (xcSW 5 htx (xw_goodC kw_3_97) rfl rfl rfl (htx _ kw_1_0) (htx _ kw_3_95) ⟨by decide, by decide, by decide +kernel⟩ ⟨Nat.le_of_ble_eq_true rfl, Nat.le_of_ble_eq_true rfl⟩ (htx _ kw_3_96)) ⟨xPre_blind, (fun U hU hW => ⟨rfl, xPre_of hZ hS hFc hPc hDc hK U hU hW⟩)⟩ rfl rfl hl.1 rfl (lv_room (Nat.le_of_ble_eq_true rfl)) dL_law_401 ⟨Nat.le_of_ble_eq_true rfl, Nat.le_of_ble_eq_true rfl⟩) hS (fun q _ h => hFc q h) hFc (fun r1 u9 t H1 locs ht hvm hr9 hB hz1 hk1 hS => ?_)
  obtain ⟨y2, y3, y4, y5, hP1, hK1, hD1⟩ := hB
  rw [ht] at hP1
  obtain ⟨hP, hD⟩ := xjoin (W := [(a1, .inr (5, [v23, .ref a15, v24, v25, v26, v27, v28, v29, v30, v31, v32, v33, v34, v35, v36, v37, v38, v39, v40, v41, v42, .ref a17, v43, v44, .ref a12, .ref a13, v45, v46, v47, v48, v49, v50])), (a2, .inl (cT 2, 1, .inr (.inl f51))), (a12, .inl (cT 5, 8, .inr (.inr (.inr (.inr f69))))), (a13, .inl (cT 1, 8, .inl f73)), (a14, .inl (cT 0, 4096, .inl f76)), (a15, .inl (cT 4, 1024, .inr (.inr (.inr (.inr f81))))), (a16, .inl (cT 0, 4096, .inl f84)), (a17, .inl (cT 0, 1024, .inl f89)), (a0, .inr (0, [v18, v19, .ref a10, .ref a4, v20, .ref b57, v21, v22])), (a3, .inr (2, [.ref a9, .int 1, .int 0])), (a4, .inl (cT 3, 8, .inr (.inr (.inr (.inr (va_up f54 (xs 1).toNatClampNeg (some a3))))))), (a5, .inr (2, [.ref a6, .int 1, v59])), (a6, .inl (cT 2, 4096, .inr (.inl f60))), (a7, .inr (2, [.ref a8, .int 1, v62])), (a8, .inl (cT 2, 4096, .inr (.inl f63))), (a9, .inl (cT 2, 4096, .inr (.inl (vp_updL f65 0 0)))), (a10, .inr (1, [.ref a11, .int 4, .int 0])), (a11, .inl (cT 0, 4096, .inl (upd (upd (upd (upd f68 0 (vp_nar .byte y2)) 1 (vp_nar .byte y3)) 2 (vp_nar .byte y4)) 3 (vp_nar .byte y5))))]) hP hD [0, 3, 4, 5, 6, 7, 8, 9, 10, 11] [1, 2, 12, 13, 14, 15, 16, 17] 8 rfl rfl (by decide) (by decide) hk1 hFc hP1 hD1
  generalize H1 = H at hP hS ⊢
  rw [hr9]
  refine W.eq (g2 := F0 m 404 ls [.int 0]) rfl ?_
  refine lv_istore (lv' := [(5, .int 0), (4, .int 0), (3, .ref a2), (2, .ref a1), (1, .ref a0), (0, .ref b)]) hx hb dL_law_404 hl (by decide) rfl (fun ls hl => ?_)
  refine lv_aload_n hx hb dL_law_406 rfl (lv_at hl 3 rfl) ?_
  refine lv_aload_n hx hb dL_law_407 rfl (lv_at hl 5 rfl) ?_
  refine lv_iload hx hb dL_law_408 (lv_at hl 1 rfl) ?_
  refine lv_iconst (v := 1) hx hb dL_law_410 (by decide) ?_
  refine lv_iadd hx hb dL_law_411 ?_
  refine W.eq (g2 := F0 m 412 ls [.int 1, .ref b, .ref a1]) rfl ?_
  refine va_sld hx hb hXs hbl hbA hS (i := 1) (show ¬ ((1 : Int32) < 0 ∨ 6 ≤ (1 : Int32).toNatClampNeg) by decide) dL_law_412 ?_
  refine W.eq (g2 := F0 m 413 ls [.int (xs 1), .ref a1]) rfl ?_
  refine lv_aload_n hx hb dL_law_413 rfl (lv_at hl 5 rfl) ?_
  refine lv_iload hx hb dL_law_414 (lv_at hl 1 rfl) ?_
  refine lv_iconst (v := 2) hx hb dL_law_416 (by decide) ?_
  refine lv_iadd hx hb dL_law_417 ?_
  refine W.eq (g2 := F0 m 418 ls [.int 2, .ref b, .int (xs 1), .ref a1]) rfl ?_
  refine va_sld hx hb hXs hbl hbA hS (i := 2) (show ¬ ((2 : Int32) < 0 ∨ 6 ≤ (2 : Int32).toNatClampNeg) by decide) dL_law_418 ?_
  refine W.eq (g2 := F0 m 419 ls [.int (xs 2), .int (xs 1), .ref a1]) rfl ?_
  rw [hf]
  refine W.eq (g2 := F0 m 419 ls [.int 0, .int (xs 1), .ref a1]) rfl ?_
  refine lv_aload_n hx hb dL_law_419 rfl (lv_at hl 5 rfl) ?_
  refine lv_iload hx hb dL_law_420 (lv_at hl 1 rfl) ?_
  refine lv_iconst (v := 3) hx hb dL_law_422 (by decide) ?_
  refine lv_iadd hx hb dL_law_423 ?_
  refine W.eq (g2 := F0 m 424 ls [.int 3, .ref b, .int 0, .int (xs 1), .ref a1]) rfl ?_
  refine va_sld hx hb hXs hbl hbA hS (i := 3) (show ¬ ((3 : Int32) < 0 ∨ 6 ≤ (3 : Int32).toNatClampNeg) by decide) dL_law_424 ?_
  refine W.eq (g2 := F0 m 425 ls [.int (xs 3), .int 0, .int (xs 1), .ref a1]) rfl ?_
  refine lv_aload_n hx hb dL_law_425 rfl (lv_at hl 5 rfl) ?_
  refine lv_iload hx hb dL_law_426 (lv_at hl 1 rfl) ?_
  refine lv_iconst (v := 4) hx hb dL_law_428 (by decide) ?_
  refine lv_iadd hx hb dL_law_429 ?_
  refine W.eq (g2 := F0 m 430 ls [.int 4, .ref b, .int (xs 3), .int 0, .int (xs 1), .ref a1]) rfl ?_
  refine va_sld hx hb hXs hbl hbA hS (i := 4) (show ¬ ((4 : Int32) < 0 ∨ 6 ≤ (4 : Int32).toNatClampNeg) by decide) dL_law_430 ?_
  refine W.eq (g2 := F0 m 431 ls [.int (xs 4), .int (xs 3), .int 0, .int (xs 1), .ref a1]) rfl ?_
  obtain ⟨hPc, hDc, hFc⟩ := xcut (wc := [(a1, .inr (5, [v23, .ref a15, v24, v25, v26, v27, v28, v29, v30, v31, v32, v33, v34, v35, v36, v37, v38, v39, v40, v41, v42, .ref a17, v43, v44, .ref a12, .ref a13, v45, v46, v47, v48, v49, v50])), (a12, .inl (cT 5, 8, .inr (.inr (.inr (.inr f69))))), (a13, .inl (cT 1, 8, .inl f73)), (a14, .inl (cT 0, 4096, .inl f76)), (a15, .inl (cT 4, 1024, .inr (.inr (.inr (.inr f81))))), (a16, .inl (cT 0, 4096, .inl f84)), (a17, .inl (cT 0, 1024, .inl f89))]) hP hD hS hA [0, 2, 3, 4, 5, 6, 7] rfl rfl (by decide)
  refine va_callv (va_runV (C := "ValueBenchModel") (As := [.int (xs 1), .int 0, .int (xs 3), .int (xs 4)]) (rest := []) ⟨hx, hb, hml, hown, htx⟩ (cM_binary0_11 l hl9 D cT aK aV H.size a1 a12 a13 a14 a15 a16 a17 (xs 1) (xs 3) (xs 4) v23 v24 v25 v26 v27 v28 v29 v30 v31 v32 v33 v34 v35 v36 v37 v38 v39 v40 v41 v42 v43 v44 v45 v46 v47 v48 v49 v50 f69 f73 f76 f81 f84 f89 hto1 hto2 hto3 hto4 ha1 ha2 ha3 ha4 hb1 hb2 hb3 hb4 (by first | rfl | exact h55 | exact h56 | exact h61 | exact h64 | exact h70 | exact h71 | exact h72 | exact h74 | exact h75 | exact h77 | exact h78 | exact h79 | exact h80 | exact h82 | exact h83 | exact h85 | exact h86 | exact h87 | exact h88) (by first | rfl | exact h55 | exact h56 | exact h61 | exact h64 | exact h70 | exact h71 | exact h72 | exact h74 | exact h75 | exact h77 | exact h78 | exact h79 | exact h80 | exact h82 | exact h83 | exact h85 | exact h86 | exact h87 | exact h88) (by first | rfl | exact h55 | exact h56 | exact h61 | exact h64 | exact h70 | exact h71 | exact h72 | exact h74 | exact h75 | exact h77 | exact h78 | exact h79 | exact h80 | exact h82 | exact h83 | exact h85 | exact h86 | exact h87 | exact h88) (by first | rfl | exact h55 | exact h56 | exact h61 | exact h64 | exact h70 | exact h71 | exact h72 | exact h74 | exact h75 | exact h77 | exact h78 | exact h79 | exact h80 | exact h82 | exact h83 | exact h85 | exact h86 | exact h87 | exact h88) (by first | rfl | exact h55 | exact h56 | exact h61 | exact h64 | exact h70 | exact h71 | exact h72 | exact h74 | exact h75 | exact h77 | exact h78 | exact h79 | exact h80 | exact h82 | exact h83 | exact h85 | exact h86 | exact h87 | exact h88) (by first | rfl | exact h55 | exact h56 | exact h61 | exact h64 | exact h70 | exact h71 | exact h72 | exact h74 | exact h75 | exact h77 | exact h78 | exact h79 | exact h80 | exact h82 | exact h83 | exact h85 | exact h86 | exact h87 | exact h88) (by first | rfl | exact h55 | exact h56 | exact h61 | exact h64 | exact h70 | exact h71 | exact h72 | exact h74 | exact h75 | exact h77 | exact h78 | exact h79 | exact h80 | exact h82 | exact h83 | exact h85 | exact h86 | exact h87 | exact h88) (by first | rfl | exact h55 | exact h56 | exact h61 | exact h64 | exact h70 | exact h71 | exact h72 | exact h74 | exact h75 | exact h77 | exact h78 | exact h79 | exact h80 | exact h82 | exact h83 | exact h85 | exact h86 | exact h87 | exact h88) (by first | rfl | exact h55 | exact h56 | exact h61 | exact h64 | exact h70 | exact h71 | exact h72 | exact h74 | exact h75 | exact h77 | exact h78 | exact h79 | exact h80 | exact h82 | exact h83 | exact h85 | exact h86 | exact h87 | exact h88) (by first | rfl | exact h55 | exact h56 | exact h61 | exact h64 | exact h70 | exact h71 | exact h72 | exact h74 | exact h75 | exact h77 | exact h78 | exact h79 | exact h80 | exact h82 | exact h83 | exact h85 | exact h86 | exact h87 | exact h88) (by first | rfl | exact h55 | exact h56 | exact h61 | exact h64 | exact h70 | exact h71 | exact h72 | exact h74 | exact h75 | exact h77 | exact h78 | exact h79 | exact h80 | exact h82 | exact h83 | exact h85 | exact h86 | exact h87 | exact h88) (by first | rfl | exact h55 | exact h56 | exact h61 | exact h64 | exact h70 | exact h71 | exact h72 | exact h74 | exact h75 | exact h77 | exact h78 | exact h79 | exact h80 | exact h82 | exact h83 | exact h85 | exact h86 | exact h87 | exact h88) (by first | rfl | exact h55 | exact h56 | exact h61 | exact h64 | exact h70 | exact h71 | exact h72 | exact h74 | exact h75 | exact h77 | exact h78 | exact h79 | exact h80 | exact h82 | exact h83 | exact h85 | exact h86 | exact h87 | exact h88) (by first | rfl | exact h55 | exact h56 | exact h61 | exact h64 | exact h70 | exact h71 | exact h72 | exact h74 | exact h75 | exact h77 | exact h78 | exact h79 | exact h80 | exact h82 | exact h83 | exact h85 | exact h86 | exact h87 | exact h88) (by first | rfl | exact h55 | exact h56 | exact h61 | exact h64 | exact h70 | exact h71 | exact h72 | exact h74 | exact h75 | exact h77 | exact h78 | exact h79 | exact h80 | exact h82 | exact h83 | exact h85 | exact h86 | exact h87 | exact h88)) ⟨callB_of 4 htx (xw_goodC kw_6_191) rfl rfl rfl (htx _ kw_1_5) (htx _ kw_6_188) ⟨by decide, by decide, by decide +kernel⟩ ⟨Nat.le_of_ble_eq_true rfl, Nat.le_of_ble_eq_true rfl⟩, (htx _ kw_6_189), (htx _ kw_6_190)⟩ ⟨xPre_blind, va_recv hK hP (ci := 5) rfl (q0 := 0) rfl, (fun U hU hW => ⟨rfl, xPre_of hZ hS hFc hPc hDc hK U hU hW⟩)⟩ rfl rfl hl.1 rfl (lv_room (Nat.le_of_ble_eq_true rfl)) dL_law_431 ⟨Nat.le_of_ble_eq_true rfl, Nat.le_of_ble_eq_true rfl⟩) hS (fun q _ h => hFc q h) hFc (fun u9 t H1 locs ht hvm hr9 hB hz1 hk1 hS => ?_)
  obtain ⟨q6, q7, y8, y9, y10, y11, hP1, hK1, hD1⟩ := hB
  rw [ht] at hP1
  obtain ⟨hP, hD⟩ := xjoin (W := [(a2, .inl (cT 2, 1, .inr (.inl f51))), (a0, .inr (0, [v18, v19, .ref a10, .ref a4, v20, .ref b57, v21, v22])), (a3, .inr (2, [.ref a9, .int 1, .int 0])), (a4, .inl (cT 3, 8, .inr (.inr (.inr (.inr (va_up f54 (xs 1).toNatClampNeg (some a3))))))), (a5, .inr (2, [.ref a6, .int 1, v59])), (a6, .inl (cT 2, 4096, .inr (.inl f60))), (a7, .inr (2, [.ref a8, .int 1, v62])), (a8, .inl (cT 2, 4096, .inr (.inl f63))), (a9, .inl (cT 2, 4096, .inr (.inl (vp_updL f65 0 0)))), (a10, .inr (1, [.ref a11, .int 4, .int 0])), (a11, .inl (cT 0, 4096, .inl (upd (upd (upd (upd f68 0 (vp_nar .byte y2)) 1 (vp_nar .byte y3)) 2 (vp_nar .byte y4)) 3 (vp_nar .byte y5)))), (a1, .inr (5, [.int 0, .ref a15, .int 2, v25, .int 0, v27, v28, .int 0, v30, .int 0, v32, v33, .int 0, v35, v36, .ref a16, .int 4, .int 4, .int 0, .int 100, v42, .ref a17, .int 4, .int 4096, .ref a12, .ref a13, v45, v46, v47, v48, v49, v50])), (a12, .inl (cT 5, 8, .inr (.inr (.inr (.inr f69))))), (a13, .inl (cT 1, 8, .inl (upd f73 (xs 1).toNatClampNeg 4))), (a14, .inl (cT 0, 4096, .inl f76)), (a15, .inl (cT 4, 1024, .inr (.inr (.inr (.inr (va_up (va_up f81 0 (some q6)) 1 (some q7))))))), (a16, .inl (cT 0, 4096, .inl (upd (upd (upd (upd f84 0 (vp_nar .byte (vp_nar .byte y8))) 1 (vp_nar .byte (vp_nar .byte y9))) 2 (vp_nar .byte (vp_nar .byte y10))) 3 (vp_nar .byte (vp_nar .byte y11))))), (a17, .inl (cT 0, 1024, .inl (upd (upd (upd (upd f89 0 (vp_nar .byte y8)) 1 (vp_nar .byte y9)) 2 (vp_nar .byte y10)) 3 (vp_nar .byte y11)))), (q6, .inr (6, [.int 0, .long 0, .int 0, .int 0, .int 0, .int 1])), (q7, .inr (6, [.int 0, .long 0, .int 0, .int 0, .int 0, .int 1]))]) hP hD [0, 2, 3, 4, 5, 6, 7] [1, 8, 9, 10, 11, 12, 13, 14, 15, 16, 17] 11 rfl rfl (by decide) (by decide) hk1 hFc hP1 hD1
  generalize H1 = H at hP hS ⊢
  refine lv_aload_n hx hb dL_law_434 rfl (lv_at hl 3 rfl) ?_
  obtain ⟨hPc, hDc, hFc⟩ := xcut (wc := [(a1, .inr (5, [.int 0, .ref a15, .int 2, v25, .int 0, v27, v28, .int 0, v30, .int 0, v32, v33, .int 0, v35, v36, .ref a16, .int 4, .int 4, .int 0, .int 100, v42, .ref a17, .int 4, .int 4096, .ref a12, .ref a13, v45, v46, v47, v48, v49, v50]))]) hP hD hS hA [11] rfl rfl (by decide)
  refine va_calli (va_runV (C := "ValueBenchModel") (As := []) (rest := []) ⟨hx, hb, hml, hown, htx⟩ (cM_thrown_0 l hl9 D cT aK aV H.size a1 (.ref a15) (.int 2) v25 (.int 0) v27 v28 (.int 0) v30 (.int 0) v32 v33 (.int 0) v35 v36 (.ref a16) (.int 4) (.int 4) (.int 0) (.int 100) v42 (.ref a17) (.int 4) (.int 4096) (.ref a12) (.ref a13) v45 v46 v47 v48 v49 v50) ⟨callB_of 0 htx (xw_goodC kw_5_187) rfl rfl rfl (htx _ kw_1_5) (htx _ kw_5_184) ⟨by decide, by decide, by decide +kernel⟩ ⟨Nat.le_of_ble_eq_true rfl, Nat.le_of_ble_eq_true rfl⟩, (htx _ kw_5_185), (htx _ kw_5_186)⟩ ⟨xPre_blind, va_recv hK hP (ci := 5) rfl (q0 := 11) rfl, (fun U hU hW => ⟨rfl, xPre_of hZ hS hFc hPc hDc hK U hU hW⟩)⟩ rfl rfl hl.1 rfl (lv_room (Nat.le_of_ble_eq_true rfl)) dL_law_435 ⟨Nat.le_of_ble_eq_true rfl, Nat.le_of_ble_eq_true rfl⟩) hS (fun q _ h => hFc q h) hFc (fun r12 u9 t H1 locs ht hvm hr9 hB hz1 hk1 hS => ?_)
  obtain ⟨hP1, hK1, hD1⟩ := hB
  rw [ht] at hP1
  obtain ⟨hP, hD⟩ := xjoin (W := [(a2, .inl (cT 2, 1, .inr (.inl f51))), (a0, .inr (0, [v18, v19, .ref a10, .ref a4, v20, .ref b57, v21, v22])), (a3, .inr (2, [.ref a9, .int 1, .int 0])), (a4, .inl (cT 3, 8, .inr (.inr (.inr (.inr (va_up f54 (xs 1).toNatClampNeg (some a3))))))), (a5, .inr (2, [.ref a6, .int 1, v59])), (a6, .inl (cT 2, 4096, .inr (.inl f60))), (a7, .inr (2, [.ref a8, .int 1, v62])), (a8, .inl (cT 2, 4096, .inr (.inl f63))), (a9, .inl (cT 2, 4096, .inr (.inl (vp_updL f65 0 0)))), (a10, .inr (1, [.ref a11, .int 4, .int 0])), (a11, .inl (cT 0, 4096, .inl (upd (upd (upd (upd f68 0 (vp_nar .byte y2)) 1 (vp_nar .byte y3)) 2 (vp_nar .byte y4)) 3 (vp_nar .byte y5)))), (a12, .inl (cT 5, 8, .inr (.inr (.inr (.inr f69))))), (a13, .inl (cT 1, 8, .inl (upd f73 (xs 1).toNatClampNeg 4))), (a14, .inl (cT 0, 4096, .inl f76)), (a15, .inl (cT 4, 1024, .inr (.inr (.inr (.inr (va_up (va_up f81 0 (some q6)) 1 (some q7))))))), (a16, .inl (cT 0, 4096, .inl (upd (upd (upd (upd f84 0 (vp_nar .byte (vp_nar .byte y8))) 1 (vp_nar .byte (vp_nar .byte y9))) 2 (vp_nar .byte (vp_nar .byte y10))) 3 (vp_nar .byte (vp_nar .byte y11))))), (a17, .inl (cT 0, 1024, .inl (upd (upd (upd (upd f89 0 (vp_nar .byte y8)) 1 (vp_nar .byte y9)) 2 (vp_nar .byte y10)) 3 (vp_nar .byte y11)))), (q6, .inr (6, [.int 0, .long 0, .int 0, .int 0, .int 0, .int 1])), (q7, .inr (6, [.int 0, .long 0, .int 0, .int 0, .int 0, .int 1])), (a1, .inr (5, [.int 0, .ref a15, .int 2, v25, .int 0, v27, v28, .int 0, v30, .int 0, v32, v33, .int 0, v35, v36, .ref a16, .int 4, .int 4, .int 0, .int 100, v42, .ref a17, .int 4, .int 4096, .ref a12, .ref a13, v45, v46, v47, v48, v49, v50]))]) hP hD [11] [0, 1, 2, 3, 4, 5, 6, 7, 8, 9, 10, 12, 13, 14, 15, 16, 17, 18, 19] 19 rfl rfl (by decide) (by decide) hk1 hFc hP1 hD1
  generalize H1 = H at hP hS ⊢
  rw [hr9]
  refine W.eq (g2 := F0 m 438 ls [.int 0]) rfl ?_
  refine lv_iload hx hb dL_law_438 (lv_at hl 0 rfl) ?_
  refine lv_icmp_eq (tgt := 445) hx hb dL_law_440 (by decide) (fun _ => ?_) (fun h => ((by revert h; decide : False)).elim)
  refine lv_goto (tgt := 906) hx hb dL_law_445 (by decide) ?_
  refine lv_iinc (v := 6) (lv' := [(4, .int 6), (5, .int 0), (3, .ref a2), (2, .ref a1), (1, .ref a0), (0, .ref b)]) hx hb dL_law_906 hl (k := 1) rfl (by decide) (by decide) rfl (fun ls hl => ?_)
  refine lv_goto (tgt := 23) hx hb dL_law_909 (by decide) ?_
  refine lv_iload hx hb dL_law_23 (lv_at hl 0 rfl) ?_
  refine lv_aload_n hx hb dL_law_25 rfl (lv_at hl 5 rfl) ?_
  refine va_slen hx hb hXs hbl hbA hS dL_law_26 ?_
  refine W.eq (g2 := F0 m 27 ls [.int 6, .int 6]) rfl ?_
  refine lv_bipush (v := 6) hx hb dL_law_27 (by decide) ?_
  refine lv_isub hx hb dL_law_29 ?_
  refine W.eq (g2 := F0 m 30 ls [.int 0, .int 6]) rfl ?_
  refine lv_icmp_gt (tgt := 912) hx hb dL_law_30 (by decide) (fun _ => ?_) (fun h => ((by revert h; decide : False)).elim)
  refine lv_iconst (v := 1) hx hb dL_law_912 (by decide) ?_
  exact va_forget (fun q h => hA2 _ (hS.2.2 q h)) (W.widen (k := 600002) (n := 7302232) (Nat.le_of_ble_eq_true rfl) (Nat.le_of_ble_eq_true rfl) (lw_ret hx hb hr hlocks dL_law_913))
set_option maxHeartbeats 400000000 in
set_option maxRecDepth 100000 in
theorem lf_binary0_p0 {p : Program} {e : Env} {s : State} {m : MethodId} {below : List Frame} {meth : Method} {c : Code} (l : Launch) (hl9 : l.stackTraces = false) (D : va_G) (cT : Nat → ClassId) (aK aV : Nat → Nat) {A : Nat → Prop} {b : Nat} {xs : Nat → Int32} (C : xLw p s m meth c b D cT aK aV A) {H : Heap} {locs : List Loc} {ls : Array Slot} (a0 : Nat) (a1 : Nat) (a2 : Nat) (a3 : Nat) (a4 : Nat) (a5 : Nat) (a6 : Nat) (a7 : Nat) (a8 : Nat) (a9 : Nat) (a10 : Nat) (a11 : Nat) (a12 : Nat) (a13 : Nat) (a14 : Nat) (a15 : Nat) (a16 : Nat) (a17 : Nat) (a18 : Nat) (v19 : Value) (v20 : Value) (v21 : Value) (v22 : Value) (v23 : Value) (v24 : Value) (v25 : Value) (v26 : Value) (v27 : Value) (v28 : Value) (v29 : Value) (v30 : Value) (v31 : Value) (v32 : Value) (v33 : Value) (v34 : Value) (v35 : Value) (v36 : Value) (v37 : Value) (v38 : Value) (v39 : Value) (v40 : Value) (v41 : Value) (v42 : Value) (v43 : Value) (v44 : Value) (v45 : Value) (v46 : Value) (v47 : Value) (v48 : Value) (v49 : Value) (v50 : Value) (v51 : Value) (f52 : Nat → Int64) (v53 : Value) (v54 : Value) (f55 : Nat → Option Nat) (b58 : Nat) (v60 : Value) (f61 : Nat → Int64) (v63 : Value) (f64 : Nat → Int64) (f66 : Nat → Int64) (v67 : Value) (v68 : Value) (f69 : Nat → Int32) (f70 : Nat → Option Nat) (f74 : Nat → Int32) (f77 : Nat → Int32) (f82 : Nat → Option Nat) (f85 : Nat → Int32) (f90 : Nat → Int32) (f91 : Nat → Int32) (h56 : f55 (xs 3).toNatClampNeg = some a5) (h57 : f55 (xs 4).toNatClampNeg = some a7) (h59 : f55 (xs 1).toNatClampNeg = some b58) (h62 : f61 0 = 0) (h65 : f64 0 = 0) (h71 : f70 (xs 3).toNatClampNeg = some a14) (h72 : f70 (xs 4).toNatClampNeg = some a16) (h73 : f70 (xs 1).toNatClampNeg = some a18) (h75 : f74 (xs 3).toNatClampNeg = 4) (h76 : f74 (xs 4).toNatClampNeg = 4) (h78 : f77 0 = 110) (h79 : f77 1 = 117) (h80 : f77 2 = 108) (h81 : f77 3 = 108) (h83 : f82 0 = none) (h84 : f82 1 = none) (h86 : f85 0 = 110) (h87 : f85 1 = 117) (h88 : f85 2 = 108) (h89 : f85 3 = 108) (hto1 : ¬ (xs 1) < 0) (hto2 : ¬ 7 < (xs 1)) (hto3 : (xs 1) ≤ 7) (hto4 : vp_in (xs 1) 8) (hf : xs 2 = 0) (ha1 : ¬ (xs 3) < 0) (ha2 : ¬ 7 < (xs 3)) (ha3 : (xs 3) ≤ 7) (ha4 : vp_in (xs 3) 8) (hb1 : ¬ (xs 4) < 0) (hb2 : ¬ 7 < (xs 4)) (hb3 : (xs 4) ≤ 7) (hb4 : vp_in (xs 4) 8) (hXs : va_X b 6 xs s s.heap) (hP : va_P D xcl [(a0, .inr (0, [v19, v20, .ref a10, .ref a4, v21, .ref a3, v22, v23])), (a1, .inr (5, [v24, .ref a15, v25, v26, v27, v28, v29, v30, v31, v32, v33, v34, v35, v36, v37, v38, v39, v40, v41, v42, v43, .ref a17, v44, v45, .ref a12, .ref a13, v46, v47, v48, v49, v50, v51])), (a2, .inl (cT 2, 1, .inr (.inl f52))), (a3, .inr (2, [.ref a9, v53, v54])), (a4, .inl (cT 3, 8, .inr (.inr (.inr (.inr f55))))), (a5, .inr (2, [.ref a6, .int 1, v60])), (a6, .inl (cT 2, 4096, .inr (.inl f61))), (a7, .inr (2, [.ref a8, .int 1, v63])), (a8, .inl (cT 2, 4096, .inr (.inl f64))), (a9, .inl (cT 2, 4096, .inr (.inl f66))), (a10, .inr (1, [.ref a11, v67, v68])), (a11, .inl (cT 0, 4096, .inl f69)), (a12, .inl (cT 5, 8, .inr (.inr (.inr (.inr f70))))), (a13, .inl (cT 1, 8, .inl f74)), (a14, .inl (cT 0, 4096, .inl f77)), (a15, .inl (cT 4, 1024, .inr (.inr (.inr (.inr f82))))), (a16, .inl (cT 0, 4096, .inl f85)), (a17, .inl (cT 0, 1024, .inl f90)), (a18, .inl (cT 0, 4096, .inl f91))] H) (hD : va_D A [(a0, .inr (0, [v19, v20, .ref a10, .ref a4, v21, .ref a3, v22, v23])), (a1, .inr (5, [v24, .ref a15, v25, v26, v27, v28, v29, v30, v31, v32, v33, v34, v35, v36, v37, v38, v39, v40, v41, v42, v43, .ref a17, v44, v45, .ref a12, .ref a13, v46, v47, v48, v49, v50, v51])), (a2, .inl (cT 2, 1, .inr (.inl f52))), (a3, .inr (2, [.ref a9, v53, v54])), (a4, .inl (cT 3, 8, .inr (.inr (.inr (.inr f55))))), (a5, .inr (2, [.ref a6, .int 1, v60])), (a6, .inl (cT 2, 4096, .inr (.inl f61))), (a7, .inr (2, [.ref a8, .int 1, v63])), (a8, .inl (cT 2, 4096, .inr (.inl f64))), (a9, .inl (cT 2, 4096, .inr (.inl f66))), (a10, .inr (1, [.ref a11, v67, v68])), (a11, .inl (cT 0, 4096, .inl f69)), (a12, .inl (cT 5, 8, .inr (.inr (.inr (.inr f70))))), (a13, .inl (cT 1, 8, .inl f74)), (a14, .inl (cT 0, 4096, .inl f77)), (a15, .inl (cT 4, 1024, .inr (.inr (.inr (.inr f82))))), (a16, .inl (cT 0, 4096, .inl f85)), (a17, .inl (cT 0, 1024, .inl f90)), (a18, .inl (cT 0, 4096, .inl f91))]) (hS : va_S A s.heap H locs) (hl : lv_has ls 8 [(4, .int 0), (3, .ref a2), (2, .ref a1), (1, .ref a0), (0, .ref b)]) : W p l e room_1 s m #[Value.ref b] below meth c H locs 54 107242 (lw_Z below #[Value.ref b] s) (F0 m 376 ls []) := by
  obtain ⟨hx, hb, hr, hml, hown, htx, hbl, hbA, hlocks, hK, hZ, hA, hA2⟩ := C
  refine lv_aload_n hx hb dL_law_376 rfl (lv_at hl 3 rfl) ?_
  refine lv_aload_n hx hb dL_law_377 rfl (lv_at hl 4 rfl) ?_
  refine lv_iload hx hb dL_law_378 (lv_at hl 0 rfl) ?_
  refine lv_iconst (v := 1) hx hb dL_law_380 (by decide) ?_
  refine lv_iadd hx hb dL_law_381 ?_
  refine W.eq (g2 := F0 m 382 ls [.int 1, .ref b, .ref a0]) rfl ?_
  refine va_sld hx hb hXs hbl hbA hS (i := 1) (show ¬ ((1 : Int32) < 0 ∨ 6 ≤ (1 : Int32).toNatClampNeg) by decide) dL_law_382 ?_
  refine W.eq (g2 := F0 m 383 ls [.int (xs 1), .ref a0]) rfl ?_
  refine lv_aload_n hx hb dL_law_383 rfl (lv_at hl 4 rfl) ?_
  refine lv_iload hx hb dL_law_384 (lv_at hl 0 rfl) ?_
  refine lv_iconst (v := 2) hx hb dL_law_386 (by decide) ?_
  refine lv_iadd hx hb dL_law_387 ?_
  refine W.eq (g2 := F0 m 388 ls [.int 2, .ref b, .int (xs 1), .ref a0]) rfl ?_
  refine va_sld hx hb hXs hbl hbA hS (i := 2) (show ¬ ((2 : Int32) < 0 ∨ 6 ≤ (2 : Int32).toNatClampNeg) by decide) dL_law_388 ?_
  refine W.eq (g2 := F0 m 389 ls [.int (xs 2), .int (xs 1), .ref a0]) rfl ?_
  rw [hf]
  refine W.eq (g2 := F0 m 389 ls [.int 0, .int (xs 1), .ref a0]) rfl ?_
  refine lv_aload_n hx hb dL_law_389 rfl (lv_at hl 4 rfl) ?_
  refine lv_iload hx hb dL_law_390 (lv_at hl 0 rfl) ?_
  refine lv_iconst (v := 3) hx hb dL_law_392 (by decide) ?_
  refine lv_iadd hx hb dL_law_393 ?_
  refine W.eq (g2 := F0 m 394 ls [.int 3, .ref b, .int 0, .int (xs 1), .ref a0]) rfl ?_
  refine va_sld hx hb hXs hbl hbA hS (i := 3) (show ¬ ((3 : Int32) < 0 ∨ 6 ≤ (3 : Int32).toNatClampNeg) by decide) dL_law_394 ?_
  refine W.eq (g2 := F0 m 395 ls [.int (xs 3), .int 0, .int (xs 1), .ref a0]) rfl ?_
  refine lv_aload_n hx hb dL_law_395 rfl (lv_at hl 4 rfl) ?_
  refine lv_iload hx hb dL_law_396 (lv_at hl 0 rfl) ?_
  refine lv_iconst (v := 4) hx hb dL_law_398 (by decide) ?_
  refine lv_iadd hx hb dL_law_399 ?_
  refine W.eq (g2 := F0 m 400 ls [.int 4, .ref b, .int (xs 3), .int 0, .int (xs 1), .ref a0]) rfl ?_
  refine va_sld hx hb hXs hbl hbA hS (i := 4) (show ¬ ((4 : Int32) < 0 ∨ 6 ≤ (4 : Int32).toNatClampNeg) by decide) dL_law_400 ?_
  refine W.eq (g2 := F0 m 401 ls [.int (xs 4), .int (xs 3), .int 0, .int (xs 1), .ref a0]) rfl ?_
  obtain ⟨hPc, hDc, hFc⟩ := xcut (wc := [(a0, .inr (0, [v19, v20, .ref a10, .ref a4, v21, .ref a3, v22, v23])), (a3, .inr (2, [.ref a9, v53, v54])), (a4, .inl (cT 3, 8, .inr (.inr (.inr (.inr f55))))), (a5, .inr (2, [.ref a6, .int 1, v60])), (a6, .inl (cT 2, 4096, .inr (.inl f61))), (a7, .inr (2, [.ref a8, .int 1, v63])), (a8, .inl (cT 2, 4096, .inr (.inl f64))), (a9, .inl (cT 2, 4096, .inr (.inl f66))), (a10, .inr (1, [.ref a11, v67, v68])), (a11, .inl (cT 0, 4096, .inl f69))]) hP hD hS hA [0, 3, 4, 5, 6, 7, 8, 9, 10, 11] rfl rfl (by decide)
  refine va_calli (vx_runSW (As := [.ref a0, .int (xs 1), .int 0, .int (xs 3), .int (xs 4)]) (rest := []) ⟨hx, hb, hml, hown, htx⟩ (cL_binary_9 l hl9 D cT aK aV H.size a0 a3 a4 a5 a6 a7 a8 a9 a10 a11 (xs 1) (xs 3) (xs 4) v19 v20 v21 v22 v23 v53 v54 f55 b58 v60 f61 v63 f64 f66 v67 v68 f69 hto1 hto2 hto3 hto4 ha1 ha2 ha3 ha4 hb1 hb2 hb3 hb4 (by first | rfl | exact h56 | exact h57 | exact h59 | exact h62 | exact h65 | exact h71 | exact h72 | exact h73 | exact h75 | exact h76 | exact h78 | exact h79 | exact h80 | exact h81 | exact h83 | exact h84 | exact h86 | exact h87 | exact h88 | exact h89) (by first | rfl | exact h56 | exact h57 | exact h59 | exact h62 | exact h65 | exact h71 | exact h72 | exact h73 | exact h75 | exact h76 | exact h78 | exact h79 | exact h80 | exact h81 | exact h83 | exact h84 | exact h86 | exact h87 | exact h88 | exact h89) (by first | rfl | exact h56 | exact h57 | exact h59 | exact h62 | exact h65 | exact h71 | exact h72 | exact h73 | exact h75 | exact h76 | exact h78 | exact h79 | exact h80 | exact h81 | exact h83 | exact h84 | exact h86 | exact h87 | exact h88 | exact h89) (by first | rfl | exact h56 | exact h57 | exact h59 | exact h62 | exact h65 | exact h71 | exact h72 | exact h73 | exact h75 | exact h76 | exact h78 | exact h79 | exact h80 | exact h81 | exact h83 | exact h84 | exact h86 | exact h87 | exact h88 | exact h89) (by first | rfl | exact h56 | exact h57 | exact h59 | exact h62 | exact h65 | exact h71 | exact h72 | exact h73 | exact h75 | exact h76 | exact h78 | exact h79 | exact h80 | exact h81 | exact h83 | exact h84 | exact h86 | exact h87 | exact h88 | exact h89)) (xcSW 5 htx (xw_goodC kw_3_97) rfl rfl rfl (htx _ kw_1_0) (htx _ kw_3_95) ⟨by decide, by decide, by decide +kernel⟩ ⟨Nat.le_of_ble_eq_true rfl, Nat.le_of_ble_eq_true rfl⟩ (htx _ kw_3_96)) ⟨xPre_blind, (fun U hU hW => ⟨rfl, xPre_of hZ hS hFc hPc hDc hK U hU hW⟩)⟩ rfl rfl hl.1 rfl (lv_room (Nat.le_of_ble_eq_true rfl)) dL_law_401 ⟨Nat.le_of_ble_eq_true rfl, Nat.le_of_ble_eq_true rfl⟩) hS (fun q _ h => hFc q h) hFc (fun r1 u9 t H1 locs ht hvm hr9 hB hz1 hk1 hS => ?_)
  obtain ⟨y2, y3, y4, y5, hP1, hK1, hD1⟩ := hB
  rw [ht] at hP1
  obtain ⟨hP, hD⟩ := xjoin (W := [(a1, .inr (5, [v24, .ref a15, v25, v26, v27, v28, v29, v30, v31, v32, v33, v34, v35, v36, v37, v38, v39, v40, v41, v42, v43, .ref a17, v44, v45, .ref a12, .ref a13, v46, v47, v48, v49, v50, v51])), (a2, .inl (cT 2, 1, .inr (.inl f52))), (a12, .inl (cT 5, 8, .inr (.inr (.inr (.inr f70))))), (a13, .inl (cT 1, 8, .inl f74)), (a14, .inl (cT 0, 4096, .inl f77)), (a15, .inl (cT 4, 1024, .inr (.inr (.inr (.inr f82))))), (a16, .inl (cT 0, 4096, .inl f85)), (a17, .inl (cT 0, 1024, .inl f90)), (a18, .inl (cT 0, 4096, .inl f91)), (a0, .inr (0, [v19, v20, .ref a10, .ref a4, v21, .ref b58, v22, v23])), (a3, .inr (2, [.ref a9, .int 1, .int 0])), (a4, .inl (cT 3, 8, .inr (.inr (.inr (.inr (va_up f55 (xs 1).toNatClampNeg (some a3))))))), (a5, .inr (2, [.ref a6, .int 1, v60])), (a6, .inl (cT 2, 4096, .inr (.inl f61))), (a7, .inr (2, [.ref a8, .int 1, v63])), (a8, .inl (cT 2, 4096, .inr (.inl f64))), (a9, .inl (cT 2, 4096, .inr (.inl (vp_updL f66 0 0)))), (a10, .inr (1, [.ref a11, .int 4, .int 0])), (a11, .inl (cT 0, 4096, .inl (upd (upd (upd (upd f69 0 (vp_nar .byte y2)) 1 (vp_nar .byte y3)) 2 (vp_nar .byte y4)) 3 (vp_nar .byte y5))))]) hP hD [0, 3, 4, 5, 6, 7, 8, 9, 10, 11] [1, 2, 12, 13, 14, 15, 16, 17, 18] 9 rfl rfl (by decide) (by decide) hk1 hFc hP1 hD1
  generalize H1 = H at hP hS ⊢
  rw [hr9]
  refine W.eq (g2 := F0 m 404 ls [.int 0]) rfl ?_
  refine lv_istore (lv' := [(5, .int 0), (4, .int 0), (3, .ref a2), (2, .ref a1), (1, .ref a0), (0, .ref b)]) hx hb dL_law_404 hl (by decide) rfl (fun ls hl => ?_)
  refine lv_aload_n hx hb dL_law_406 rfl (lv_at hl 3 rfl) ?_
  refine lv_aload_n hx hb dL_law_407 rfl (lv_at hl 5 rfl) ?_
  refine lv_iload hx hb dL_law_408 (lv_at hl 1 rfl) ?_
  refine lv_iconst (v := 1) hx hb dL_law_410 (by decide) ?_
  refine lv_iadd hx hb dL_law_411 ?_
  refine W.eq (g2 := F0 m 412 ls [.int 1, .ref b, .ref a1]) rfl ?_
  refine va_sld hx hb hXs hbl hbA hS (i := 1) (show ¬ ((1 : Int32) < 0 ∨ 6 ≤ (1 : Int32).toNatClampNeg) by decide) dL_law_412 ?_
  refine W.eq (g2 := F0 m 413 ls [.int (xs 1), .ref a1]) rfl ?_
  refine lv_aload_n hx hb dL_law_413 rfl (lv_at hl 5 rfl) ?_
  refine lv_iload hx hb dL_law_414 (lv_at hl 1 rfl) ?_
  refine lv_iconst (v := 2) hx hb dL_law_416 (by decide) ?_
  refine lv_iadd hx hb dL_law_417 ?_
  refine W.eq (g2 := F0 m 418 ls [.int 2, .ref b, .int (xs 1), .ref a1]) rfl ?_
  refine va_sld hx hb hXs hbl hbA hS (i := 2) (show ¬ ((2 : Int32) < 0 ∨ 6 ≤ (2 : Int32).toNatClampNeg) by decide) dL_law_418 ?_
  refine W.eq (g2 := F0 m 419 ls [.int (xs 2), .int (xs 1), .ref a1]) rfl ?_
  rw [hf]
  refine W.eq (g2 := F0 m 419 ls [.int 0, .int (xs 1), .ref a1]) rfl ?_
  refine lv_aload_n hx hb dL_law_419 rfl (lv_at hl 5 rfl) ?_
  refine lv_iload hx hb dL_law_420 (lv_at hl 1 rfl) ?_
  refine lv_iconst (v := 3) hx hb dL_law_422 (by decide) ?_
  refine lv_iadd hx hb dL_law_423 ?_
  refine W.eq (g2 := F0 m 424 ls [.int 3, .ref b, .int 0, .int (xs 1), .ref a1]) rfl ?_
  refine va_sld hx hb hXs hbl hbA hS (i := 3) (show ¬ ((3 : Int32) < 0 ∨ 6 ≤ (3 : Int32).toNatClampNeg) by decide) dL_law_424 ?_
  refine W.eq (g2 := F0 m 425 ls [.int (xs 3), .int 0, .int (xs 1), .ref a1]) rfl ?_
  refine lv_aload_n hx hb dL_law_425 rfl (lv_at hl 5 rfl) ?_
  refine lv_iload hx hb dL_law_426 (lv_at hl 1 rfl) ?_
  refine lv_iconst (v := 4) hx hb dL_law_428 (by decide) ?_
  refine lv_iadd hx hb dL_law_429 ?_
  refine W.eq (g2 := F0 m 430 ls [.int 4, .ref b, .int (xs 3), .int 0, .int (xs 1), .ref a1]) rfl ?_
  refine va_sld hx hb hXs hbl hbA hS (i := 4) (show ¬ ((4 : Int32) < 0 ∨ 6 ≤ (4 : Int32).toNatClampNeg) by decide) dL_law_430 ?_
  refine W.eq (g2 := F0 m 431 ls [.int (xs 4), .int (xs 3), .int 0, .int (xs 1), .ref a1]) rfl ?_
  obtain ⟨hPc, hDc, hFc⟩ := xcut (wc := [(a1, .inr (5, [v24, .ref a15, v25, v26, v27, v28, v29, v30, v31, v32, v33, v34, v35, v36, v37, v38, v39, v40, v41, v42, v43, .ref a17, v44, v45, .ref a12, .ref a13, v46, v47, v48, v49, v50, v51])), (a12, .inl (cT 5, 8, .inr (.inr (.inr (.inr f70))))), (a13, .inl (cT 1, 8, .inl f74)), (a14, .inl (cT 0, 4096, .inl f77)), (a15, .inl (cT 4, 1024, .inr (.inr (.inr (.inr f82))))), (a16, .inl (cT 0, 4096, .inl f85)), (a17, .inl (cT 0, 1024, .inl f90)), (a18, .inl (cT 0, 4096, .inl f91))]) hP hD hS hA [0, 2, 3, 4, 5, 6, 7, 8] rfl rfl (by decide)
  refine va_callv (va_runV (C := "ValueBenchModel") (As := [.int (xs 1), .int 0, .int (xs 3), .int (xs 4)]) (rest := []) ⟨hx, hb, hml, hown, htx⟩ (cM_binary0_12 l hl9 D cT aK aV H.size a1 a12 a13 a14 a15 a16 a17 a18 (xs 1) (xs 3) (xs 4) v24 v25 v26 v27 v28 v29 v30 v31 v32 v33 v34 v35 v36 v37 v38 v39 v40 v41 v42 v43 v44 v45 v46 v47 v48 v49 v50 v51 f70 f74 f77 f82 f85 f90 f91 hto1 hto2 hto3 hto4 ha1 ha2 ha3 ha4 hb1 hb2 hb3 hb4 (by first | rfl | exact h56 | exact h57 | exact h62 | exact h65 | exact h71 | exact h72 | exact h73 | exact h75 | exact h76 | exact h78 | exact h79 | exact h80 | exact h81 | exact h83 | exact h84 | exact h86 | exact h87 | exact h88 | exact h89) (by first | rfl | exact h56 | exact h57 | exact h62 | exact h65 | exact h71 | exact h72 | exact h73 | exact h75 | exact h76 | exact h78 | exact h79 | exact h80 | exact h81 | exact h83 | exact h84 | exact h86 | exact h87 | exact h88 | exact h89) (by first | rfl | exact h56 | exact h57 | exact h62 | exact h65 | exact h71 | exact h72 | exact h73 | exact h75 | exact h76 | exact h78 | exact h79 | exact h80 | exact h81 | exact h83 | exact h84 | exact h86 | exact h87 | exact h88 | exact h89) (by first | rfl | exact h56 | exact h57 | exact h62 | exact h65 | exact h71 | exact h72 | exact h73 | exact h75 | exact h76 | exact h78 | exact h79 | exact h80 | exact h81 | exact h83 | exact h84 | exact h86 | exact h87 | exact h88 | exact h89) (by first | rfl | exact h56 | exact h57 | exact h62 | exact h65 | exact h71 | exact h72 | exact h73 | exact h75 | exact h76 | exact h78 | exact h79 | exact h80 | exact h81 | exact h83 | exact h84 | exact h86 | exact h87 | exact h88 | exact h89) (by first | rfl | exact h56 | exact h57 | exact h62 | exact h65 | exact h71 | exact h72 | exact h73 | exact h75 | exact h76 | exact h78 | exact h79 | exact h80 | exact h81 | exact h83 | exact h84 | exact h86 | exact h87 | exact h88 | exact h89) (by first | rfl | exact h56 | exact h57 | exact h62 | exact h65 | exact h71 | exact h72 | exact h73 | exact h75 | exact h76 | exact h78 | exact h79 | exact h80 | exact h81 | exact h83 | exact h84 | exact h86 | exact h87 | exact h88 | exact h89) (by first | rfl | exact h56 | exact h57 | exact h62 | exact h65 | exact h71 | exact h72 | exact h73 | exact h75 | exact h76 | exact h78 | exact h79 | exact h80 | exact h81 | exact h83 | exact h84 | exact h86 | exact h87 | exact h88 | exact h89) (by first | rfl | exact h56 | exact h57 | exact h62 | exact h65 | exact h71 | exact h72 | exact h73 | exact h75 | exact h76 | exact h78 | exact h79 | exact h80 | exact h81 | exact h83 | exact h84 | exact h86 | exact h87 | exact h88 | exact h89) (by first | rfl | exact h56 | exact h57 | exact h62 | exact h65 | exact h71 | exact h72 | exact h73 | exact h75 | exact h76 | exact h78 | exact h79 | exact h80 | exact h81 | exact h83 | exact h84 | exact h86 | exact h87 | exact h88 | exact h89) (by first | rfl | exact h56 | exact h57 | exact h62 | exact h65 | exact h71 | exact h72 | exact h73 | exact h75 | exact h76 | exact h78 | exact h79 | exact h80 | exact h81 | exact h83 | exact h84 | exact h86 | exact h87 | exact h88 | exact h89) (by first | rfl | exact h56 | exact h57 | exact h62 | exact h65 | exact h71 | exact h72 | exact h73 | exact h75 | exact h76 | exact h78 | exact h79 | exact h80 | exact h81 | exact h83 | exact h84 | exact h86 | exact h87 | exact h88 | exact h89) (by first | rfl | exact h56 | exact h57 | exact h62 | exact h65 | exact h71 | exact h72 | exact h73 | exact h75 | exact h76 | exact h78 | exact h79 | exact h80 | exact h81 | exact h83 | exact h84 | exact h86 | exact h87 | exact h88 | exact h89) (by first | rfl | exact h56 | exact h57 | exact h62 | exact h65 | exact h71 | exact h72 | exact h73 | exact h75 | exact h76 | exact h78 | exact h79 | exact h80 | exact h81 | exact h83 | exact h84 | exact h86 | exact h87 | exact h88 | exact h89) (by first | rfl | exact h56 | exact h57 | exact h62 | exact h65 | exact h71 | exact h72 | exact h73 | exact h75 | exact h76 | exact h78 | exact h79 | exact h80 | exact h81 | exact h83 | exact h84 | exact h86 | exact h87 | exact h88 | exact h89)) ⟨callB_of 4 htx (xw_goodC kw_6_191) rfl rfl rfl (htx _ kw_1_5) (htx _ kw_6_188) ⟨by decide, by decide, by decide +kernel⟩ ⟨Nat.le_of_ble_eq_true rfl, Nat.le_of_ble_eq_true rfl⟩, (htx _ kw_6_189), (htx _ kw_6_190)⟩ ⟨xPre_blind, va_recv hK hP (ci := 5) rfl (q0 := 0) rfl, (fun U hU hW => ⟨rfl, xPre_of hZ hS hFc hPc hDc hK U hU hW⟩)⟩ rfl rfl hl.1 rfl (lv_room (Nat.le_of_ble_eq_true rfl)) dL_law_431 ⟨Nat.le_of_ble_eq_true rfl, Nat.le_of_ble_eq_true rfl⟩) hS (fun q _ h => hFc q h) hFc (fun u9 t H1 locs ht hvm hr9 hB hz1 hk1 hS => ?_)
  obtain ⟨q6, q7, y8, y9, y10, y11, hP1, hK1, hD1⟩ := hB
  rw [ht] at hP1
  obtain ⟨hP, hD⟩ := xjoin (W := [(a2, .inl (cT 2, 1, .inr (.inl f52))), (a0, .inr (0, [v19, v20, .ref a10, .ref a4, v21, .ref b58, v22, v23])), (a3, .inr (2, [.ref a9, .int 1, .int 0])), (a4, .inl (cT 3, 8, .inr (.inr (.inr (.inr (va_up f55 (xs 1).toNatClampNeg (some a3))))))), (a5, .inr (2, [.ref a6, .int 1, v60])), (a6, .inl (cT 2, 4096, .inr (.inl f61))), (a7, .inr (2, [.ref a8, .int 1, v63])), (a8, .inl (cT 2, 4096, .inr (.inl f64))), (a9, .inl (cT 2, 4096, .inr (.inl (vp_updL f66 0 0)))), (a10, .inr (1, [.ref a11, .int 4, .int 0])), (a11, .inl (cT 0, 4096, .inl (upd (upd (upd (upd f69 0 (vp_nar .byte y2)) 1 (vp_nar .byte y3)) 2 (vp_nar .byte y4)) 3 (vp_nar .byte y5)))), (a1, .inr (5, [.int 0, .ref a15, .int 2, v26, .int 0, v28, v29, .int 0, v31, .int 0, v33, v34, .int 0, v36, v37, .ref a16, .int 4, .int 4, .int 0, .int 100, v43, .ref a17, .int 4, .int 4096, .ref a12, .ref a13, v46, v47, v48, v49, v50, v51])), (a12, .inl (cT 5, 8, .inr (.inr (.inr (.inr f70))))), (a13, .inl (cT 1, 8, .inl (upd f74 (xs 1).toNatClampNeg 4))), (a14, .inl (cT 0, 4096, .inl f77)), (a15, .inl (cT 4, 1024, .inr (.inr (.inr (.inr (va_up (va_up f82 0 (some q6)) 1 (some q7))))))), (a16, .inl (cT 0, 4096, .inl f85)), (a17, .inl (cT 0, 1024, .inl (upd (upd (upd (upd f90 0 (vp_nar .byte y8)) 1 (vp_nar .byte y9)) 2 (vp_nar .byte y10)) 3 (vp_nar .byte y11)))), (a18, .inl (cT 0, 4096, .inl (upd (upd (upd (upd f91 0 (vp_nar .byte (vp_nar .byte y8))) 1 (vp_nar .byte (vp_nar .byte y9))) 2 (vp_nar .byte (vp_nar .byte y10))) 3 (vp_nar .byte (vp_nar .byte y11))))), (q6, .inr (6, [.int 0, .long 0, .int 0, .int 0, .int 0, .int 1])), (q7, .inr (6, [.int 0, .long 0, .int 0, .int 0, .int 0, .int 1]))]) hP hD [0, 2, 3, 4, 5, 6, 7, 8] [1, 9, 10, 11, 12, 13, 14, 15, 16, 17, 18] 11 rfl rfl (by decide) (by decide) hk1 hFc hP1 hD1
  generalize H1 = H at hP hS ⊢
  refine lv_aload_n hx hb dL_law_434 rfl (lv_at hl 3 rfl) ?_
  obtain ⟨hPc, hDc, hFc⟩ := xcut (wc := [(a1, .inr (5, [.int 0, .ref a15, .int 2, v26, .int 0, v28, v29, .int 0, v31, .int 0, v33, v34, .int 0, v36, v37, .ref a16, .int 4, .int 4, .int 0, .int 100, v43, .ref a17, .int 4, .int 4096, .ref a12, .ref a13, v46, v47, v48, v49, v50, v51]))]) hP hD hS hA [11] rfl rfl (by decide)
  refine va_calli (va_runV (C := "ValueBenchModel") (As := []) (rest := []) ⟨hx, hb, hml, hown, htx⟩ (cM_thrown_0 l hl9 D cT aK aV H.size a1 (.ref a15) (.int 2) v26 (.int 0) v28 v29 (.int 0) v31 (.int 0) v33 v34 (.int 0) v36 v37 (.ref a16) (.int 4) (.int 4) (.int 0) (.int 100) v43 (.ref a17) (.int 4) (.int 4096) (.ref a12) (.ref a13) v46 v47 v48 v49 v50 v51) ⟨callB_of 0 htx (xw_goodC kw_5_187) rfl rfl rfl (htx _ kw_1_5) (htx _ kw_5_184) ⟨by decide, by decide, by decide +kernel⟩ ⟨Nat.le_of_ble_eq_true rfl, Nat.le_of_ble_eq_true rfl⟩, (htx _ kw_5_185), (htx _ kw_5_186)⟩ ⟨xPre_blind, va_recv hK hP (ci := 5) rfl (q0 := 11) rfl, (fun U hU hW => ⟨rfl, xPre_of hZ hS hFc hPc hDc hK U hU hW⟩)⟩ rfl rfl hl.1 rfl (lv_room (Nat.le_of_ble_eq_true rfl)) dL_law_435 ⟨Nat.le_of_ble_eq_true rfl, Nat.le_of_ble_eq_true rfl⟩) hS (fun q _ h => hFc q h) hFc (fun r12 u9 t H1 locs ht hvm hr9 hB hz1 hk1 hS => ?_)
  obtain ⟨hP1, hK1, hD1⟩ := hB
  rw [ht] at hP1
  obtain ⟨hP, hD⟩ := xjoin (W := [(a2, .inl (cT 2, 1, .inr (.inl f52))), (a0, .inr (0, [v19, v20, .ref a10, .ref a4, v21, .ref b58, v22, v23])), (a3, .inr (2, [.ref a9, .int 1, .int 0])), (a4, .inl (cT 3, 8, .inr (.inr (.inr (.inr (va_up f55 (xs 1).toNatClampNeg (some a3))))))), (a5, .inr (2, [.ref a6, .int 1, v60])), (a6, .inl (cT 2, 4096, .inr (.inl f61))), (a7, .inr (2, [.ref a8, .int 1, v63])), (a8, .inl (cT 2, 4096, .inr (.inl f64))), (a9, .inl (cT 2, 4096, .inr (.inl (vp_updL f66 0 0)))), (a10, .inr (1, [.ref a11, .int 4, .int 0])), (a11, .inl (cT 0, 4096, .inl (upd (upd (upd (upd f69 0 (vp_nar .byte y2)) 1 (vp_nar .byte y3)) 2 (vp_nar .byte y4)) 3 (vp_nar .byte y5)))), (a12, .inl (cT 5, 8, .inr (.inr (.inr (.inr f70))))), (a13, .inl (cT 1, 8, .inl (upd f74 (xs 1).toNatClampNeg 4))), (a14, .inl (cT 0, 4096, .inl f77)), (a15, .inl (cT 4, 1024, .inr (.inr (.inr (.inr (va_up (va_up f82 0 (some q6)) 1 (some q7))))))), (a16, .inl (cT 0, 4096, .inl f85)), (a17, .inl (cT 0, 1024, .inl (upd (upd (upd (upd f90 0 (vp_nar .byte y8)) 1 (vp_nar .byte y9)) 2 (vp_nar .byte y10)) 3 (vp_nar .byte y11)))), (a18, .inl (cT 0, 4096, .inl (upd (upd (upd (upd f91 0 (vp_nar .byte (vp_nar .byte y8))) 1 (vp_nar .byte (vp_nar .byte y9))) 2 (vp_nar .byte (vp_nar .byte y10))) 3 (vp_nar .byte (vp_nar .byte y11))))), (q6, .inr (6, [.int 0, .long 0, .int 0, .int 0, .int 0, .int 1])), (q7, .inr (6, [.int 0, .long 0, .int 0, .int 0, .int 0, .int 1])), (a1, .inr (5, [.int 0, .ref a15, .int 2, v26, .int 0, v28, v29, .int 0, v31, .int 0, v33, v34, .int 0, v36, v37, .ref a16, .int 4, .int 4, .int 0, .int 100, v43, .ref a17, .int 4, .int 4096, .ref a12, .ref a13, v46, v47, v48, v49, v50, v51]))]) hP hD [11] [0, 1, 2, 3, 4, 5, 6, 7, 8, 9, 10, 12, 13, 14, 15, 16, 17, 18, 19, 20] 20 rfl rfl (by decide) (by decide) hk1 hFc hP1 hD1
  generalize H1 = H at hP hS ⊢
  rw [hr9]
  refine W.eq (g2 := F0 m 438 ls [.int 0]) rfl ?_
  refine lv_iload hx hb dL_law_438 (lv_at hl 0 rfl) ?_
  refine lv_icmp_eq (tgt := 445) hx hb dL_law_440 (by decide) (fun _ => ?_) (fun h => ((by revert h; decide : False)).elim)
  refine lv_goto (tgt := 906) hx hb dL_law_445 (by decide) ?_
  refine lv_iinc (v := 6) (lv' := [(4, .int 6), (5, .int 0), (3, .ref a2), (2, .ref a1), (1, .ref a0), (0, .ref b)]) hx hb dL_law_906 hl (k := 1) rfl (by decide) (by decide) rfl (fun ls hl => ?_)
  refine lv_goto (tgt := 23) hx hb dL_law_909 (by decide) ?_
  refine lv_iload hx hb dL_law_23 (lv_at hl 0 rfl) ?_
  refine lv_aload_n hx hb dL_law_25 rfl (lv_at hl 5 rfl) ?_
  refine va_slen hx hb hXs hbl hbA hS dL_law_26 ?_
  refine W.eq (g2 := F0 m 27 ls [.int 6, .int 6]) rfl ?_
  refine lv_bipush (v := 6) hx hb dL_law_27 (by decide) ?_
  refine lv_isub hx hb dL_law_29 ?_
  refine W.eq (g2 := F0 m 30 ls [.int 0, .int 6]) rfl ?_
  refine lv_icmp_gt (tgt := 912) hx hb dL_law_30 (by decide) (fun _ => ?_) (fun h => ((by revert h; decide : False)).elim)
  refine lv_iconst (v := 1) hx hb dL_law_912 (by decide) ?_
  exact va_forget (fun q h => hA2 _ (hS.2.2 q h)) (W.widen (k := 600002) (n := 7302232) (Nat.le_of_ble_eq_true rfl) (Nat.le_of_ble_eq_true rfl) (lw_ret hx hb hr hlocks dL_law_913))
set_option maxHeartbeats 400000000 in
set_option maxRecDepth 100000 in
theorem lf_binary1_p4 {p : Program} {e : Env} {s : State} {m : MethodId} {below : List Frame} {meth : Method} {c : Code} (l : Launch) (hl9 : l.stackTraces = false) (D : va_G) (cT : Nat → ClassId) (aK aV : Nat → Nat) {A : Nat → Prop} {b : Nat} {xs : Nat → Int32} (C : xLw p s m meth c b D cT aK aV A) {H : Heap} {locs : List Loc} {ls : Array Slot} (a0 : Nat) (a1 : Nat) (a2 : Nat) (a3 : Nat) (a4 : Nat) (a5 : Nat) (a6 : Nat) (a7 : Nat) (a8 : Nat) (a9 : Nat) (a10 : Nat) (v11 : Value) (v12 : Value) (v13 : Value) (v14 : Value) (v15 : Value) (v16 : Value) (v17 : Value) (v18 : Value) (v19 : Value) (v20 : Value) (v21 : Value) (v22 : Value) (v23 : Value) (v24 : Value) (v25 : Value) (v26 : Value) (v27 : Value) (v28 : Value) (v29 : Value) (v30 : Value) (v31 : Value) (v32 : Value) (v33 : Value) (v34 : Value) (v35 : Value) (v36 : Value) (v37 : Value) (v38 : Value) (v39 : Value) (v40 : Value) (v41 : Value) (v42 : Value) (v43 : Value) (v44 : Value) (v45 : Value) (f46 : Nat → Int64) (v47 : Value) (v48 : Value) (v49 : Value) (f50 : Nat → Option Nat) (v53 : Value) (f54 : Nat → Int64) (f56 : Nat → Option Nat) (f59 : Nat → Int32) (f62 : Nat → Int32) (f67 : Nat → Option Nat) (h51 : f50 (xs 3).toNatClampNeg = some a5) (h52 : f50 (xs 4).toNatClampNeg = some a5) (h55 : f54 0 = 0) (h57 : f56 (xs 3).toNatClampNeg = some a9) (h58 : f56 (xs 4).toNatClampNeg = some a9) (h60 : f59 (xs 3).toNatClampNeg = 4) (h61 : f59 (xs 4).toNatClampNeg = 4) (h63 : f62 0 = 110) (h64 : f62 1 = 117) (h65 : f62 2 = 108) (h66 : f62 3 = 108) (h68 : f67 0 = none) (h69 : f67 1 = none) (hto1 : ¬ (xs 1) < 0) (hto2 : ¬ 7 < (xs 1)) (hto3 : (xs 1) ≤ 7) (hto4 : vp_in (xs 1) 8) (hf : xs 2 = 1) (ha1 : ¬ (xs 3) < 0) (ha2 : ¬ 7 < (xs 3)) (ha3 : (xs 3) ≤ 7) (ha4 : vp_in (xs 3) 8) (hb1 : ¬ (xs 4) < 0) (hb2 : ¬ 7 < (xs 4)) (hb3 : (xs 4) ≤ 7) (hb4 : vp_in (xs 4) 8) (hXs : va_X b 6 xs s s.heap) (hP : va_P D xcl [(a0, .inr (0, [v11, v12, v13, .ref a4, v14, .ref a3, v15, v16])), (a1, .inr (5, [v17, .ref a10, v18, v19, v20, v21, v22, v23, v24, v25, v26, v27, v28, v29, v30, v31, v32, v33, v34, v35, v36, v37, v38, v39, .ref a7, .ref a8, v40, v41, v42, v43, v44, v45])), (a2, .inl (cT 2, 1, .inr (.inl f46))), (a3, .inr (2, [v47, v48, v49])), (a4, .inl (cT 3, 8, .inr (.inr (.inr (.inr f50))))), (a5, .inr (2, [.ref a6, .int 1, v53])), (a6, .inl (cT 2, 4096, .inr (.inl f54))), (a7, .inl (cT 5, 8, .inr (.inr (.inr (.inr f56))))), (a8, .inl (cT 1, 8, .inl f59)), (a9, .inl (cT 0, 4096, .inl f62)), (a10, .inl (cT 4, 1024, .inr (.inr (.inr (.inr f67)))))] H) (hD : va_D A [(a0, .inr (0, [v11, v12, v13, .ref a4, v14, .ref a3, v15, v16])), (a1, .inr (5, [v17, .ref a10, v18, v19, v20, v21, v22, v23, v24, v25, v26, v27, v28, v29, v30, v31, v32, v33, v34, v35, v36, v37, v38, v39, .ref a7, .ref a8, v40, v41, v42, v43, v44, v45])), (a2, .inl (cT 2, 1, .inr (.inl f46))), (a3, .inr (2, [v47, v48, v49])), (a4, .inl (cT 3, 8, .inr (.inr (.inr (.inr f50))))), (a5, .inr (2, [.ref a6, .int 1, v53])), (a6, .inl (cT 2, 4096, .inr (.inl f54))), (a7, .inl (cT 5, 8, .inr (.inr (.inr (.inr f56))))), (a8, .inl (cT 1, 8, .inl f59)), (a9, .inl (cT 0, 4096, .inl f62)), (a10, .inl (cT 4, 1024, .inr (.inr (.inr (.inr f67)))))]) (hS : va_S A s.heap H locs) (hl : lv_has ls 8 [(4, .int 0), (3, .ref a2), (2, .ref a1), (1, .ref a0), (0, .ref b)]) : W p l e room_1 s m #[Value.ref b] below meth c H locs 54 107242 (lw_Z below #[Value.ref b] s) (F0 m 376 ls []) := by
  obtain ⟨hx, hb, hr, hml, hown, htx, hbl, hbA, hlocks, hK, hZ, hA, hA2⟩ := C
  refine lv_aload_n hx hb dL_law_376 rfl (lv_at hl 3 rfl) ?_
  refine lv_aload_n hx hb dL_law_377 rfl (lv_at hl 4 rfl) ?_
  refine lv_iload hx hb dL_law_378 (lv_at hl 0 rfl) ?_
  refine lv_iconst (v := 1) hx hb dL_law_380 (by decide) ?_
  refine lv_iadd hx hb dL_law_381 ?_
  refine W.eq (g2 := F0 m 382 ls [.int 1, .ref b, .ref a0]) rfl ?_
  refine va_sld hx hb hXs hbl hbA hS (i := 1) (show ¬ ((1 : Int32) < 0 ∨ 6 ≤ (1 : Int32).toNatClampNeg) by decide) dL_law_382 ?_
  refine W.eq (g2 := F0 m 383 ls [.int (xs 1), .ref a0]) rfl ?_
  refine lv_aload_n hx hb dL_law_383 rfl (lv_at hl 4 rfl) ?_
  refine lv_iload hx hb dL_law_384 (lv_at hl 0 rfl) ?_
  refine lv_iconst (v := 2) hx hb dL_law_386 (by decide) ?_
  refine lv_iadd hx hb dL_law_387 ?_
  refine W.eq (g2 := F0 m 388 ls [.int 2, .ref b, .int (xs 1), .ref a0]) rfl ?_
  refine va_sld hx hb hXs hbl hbA hS (i := 2) (show ¬ ((2 : Int32) < 0 ∨ 6 ≤ (2 : Int32).toNatClampNeg) by decide) dL_law_388 ?_
  refine W.eq (g2 := F0 m 389 ls [.int (xs 2), .int (xs 1), .ref a0]) rfl ?_
  rw [hf]
  refine W.eq (g2 := F0 m 389 ls [.int 1, .int (xs 1), .ref a0]) rfl ?_
  refine lv_aload_n hx hb dL_law_389 rfl (lv_at hl 4 rfl) ?_
  refine lv_iload hx hb dL_law_390 (lv_at hl 0 rfl) ?_
  refine lv_iconst (v := 3) hx hb dL_law_392 (by decide) ?_
  refine lv_iadd hx hb dL_law_393 ?_
  refine W.eq (g2 := F0 m 394 ls [.int 3, .ref b, .int 1, .int (xs 1), .ref a0]) rfl ?_
  refine va_sld hx hb hXs hbl hbA hS (i := 3) (show ¬ ((3 : Int32) < 0 ∨ 6 ≤ (3 : Int32).toNatClampNeg) by decide) dL_law_394 ?_
  refine W.eq (g2 := F0 m 395 ls [.int (xs 3), .int 1, .int (xs 1), .ref a0]) rfl ?_
  refine lv_aload_n hx hb dL_law_395 rfl (lv_at hl 4 rfl) ?_
  refine lv_iload hx hb dL_law_396 (lv_at hl 0 rfl) ?_
  refine lv_iconst (v := 4) hx hb dL_law_398 (by decide) ?_
  refine lv_iadd hx hb dL_law_399 ?_
  refine W.eq (g2 := F0 m 400 ls [.int 4, .ref b, .int (xs 3), .int 1, .int (xs 1), .ref a0]) rfl ?_
  refine va_sld hx hb hXs hbl hbA hS (i := 4) (show ¬ ((4 : Int32) < 0 ∨ 6 ≤ (4 : Int32).toNatClampNeg) by decide) dL_law_400 ?_
  refine W.eq (g2 := F0 m 401 ls [.int (xs 4), .int (xs 3), .int 1, .int (xs 1), .ref a0]) rfl ?_
  obtain ⟨hPc, hDc, hFc⟩ := xcut (wc := [(a0, .inr (0, [v11, v12, v13, .ref a4, v14, .ref a3, v15, v16])), (a3, .inr (2, [v47, v48, v49])), (a4, .inl (cT 3, 8, .inr (.inr (.inr (.inr f50))))), (a5, .inr (2, [.ref a6, .int 1, v53])), (a6, .inl (cT 2, 4096, .inr (.inl f54)))]) hP hD hS hA [0, 3, 4, 5, 6] rfl rfl (by decide)
  refine va_calli (vx_runSW (As := [.ref a0, .int (xs 1), .int 1, .int (xs 3), .int (xs 4)]) (rest := []) ⟨hx, hb, hml, hown, htx⟩ (cL_binary_10 l hl9 D cT aK aV H.size a0 a3 a4 a5 a6 (xs 1) (xs 3) (xs 4) v11 v12 v13 v14 v15 v16 v47 v48 v49 f50 v53 f54 hto1 hto2 hto3 hto4 ha1 ha2 ha3 ha4 hb1 hb2 hb3 hb4 (by first | rfl | exact h51 | exact h52 | exact h55 | exact h57 | exact h58 | exact h60 | exact h61 | exact h63 | exact h64 | exact h65 | exact h66 | exact h68 | exact h69) (by first | rfl | exact h51 | exact h52 | exact h55 | exact h57 | exact h58 | exact h60 | exact h61 | exact h63 | exact h64 | exact h65 | exact h66 | exact h68 | exact h69) (by first | rfl | exact h51 | exact h52 | exact h55 | exact h57 | exact h58 | exact h60 | exact h61 | exact h63 | exact h64 | exact h65 | exact h66 | exact h68 | exact h69)) (xcSW 5 htx (xw_goodC kw_3_97) rfl rfl rfl (htx _ kw_1_0) (htx _ kw_3_95) ⟨by decide, by decide, by decide +kernel⟩ ⟨Nat.le_of_ble_eq_true rfl, Nat.le_of_ble_eq_true rfl⟩ (htx _ kw_3_96)) ⟨xPre_blind, (fun U hU hW => ⟨rfl, xPre_of hZ hS hFc hPc hDc hK U hU hW⟩)⟩ rfl rfl hl.1 rfl (lv_room (Nat.le_of_ble_eq_true rfl)) dL_law_401 ⟨Nat.le_of_ble_eq_true rfl, Nat.le_of_ble_eq_true rfl⟩) hS (fun q _ h => hFc q h) hFc (fun r1 u9 t H1 locs ht hvm hr9 hB hz1 hk1 hS => ?_)
  obtain ⟨hP1, hK1, hD1⟩ := hB
  rw [ht] at hP1
  obtain ⟨hP, hD⟩ := xjoin (W := [(a1, .inr (5, [v17, .ref a10, v18, v19, v20, v21, v22, v23, v24, v25, v26, v27, v28, v29, v30, v31, v32, v33, v34, v35, v36, v37, v38, v39, .ref a7, .ref a8, v40, v41, v42, v43, v44, v45])), (a2, .inl (cT 2, 1, .inr (.inl f46))), (a7, .inl (cT 5, 8, .inr (.inr (.inr (.inr f56))))), (a8, .inl (cT 1, 8, .inl f59)), (a9, .inl (cT 0, 4096, .inl f62)), (a10, .inl (cT 4, 1024, .inr (.inr (.inr (.inr f67))))), (a0, .inr (0, [v11, v12, v13, .ref a4, v14, .ref a3, v15, .int 1])), (a3, .inr (2, [v47, .int 0, .int 0])), (a4, .inl (cT 3, 8, .inr (.inr (.inr (.inr f50))))), (a5, .inr (2, [.ref a6, .int 1, v53])), (a6, .inl (cT 2, 4096, .inr (.inl f54)))]) hP hD [0, 3, 4, 5, 6] [1, 2, 7, 8, 9, 10] 6 rfl rfl (by decide) (by decide) hk1 hFc hP1 hD1
  generalize H1 = H at hP hS ⊢
  rw [hr9]
  refine W.eq (g2 := F0 m 404 ls [.int 2]) rfl ?_
  refine lv_istore (lv' := [(5, .int 2), (4, .int 0), (3, .ref a2), (2, .ref a1), (1, .ref a0), (0, .ref b)]) hx hb dL_law_404 hl (by decide) rfl (fun ls hl => ?_)
  refine lv_aload_n hx hb dL_law_406 rfl (lv_at hl 3 rfl) ?_
  refine lv_aload_n hx hb dL_law_407 rfl (lv_at hl 5 rfl) ?_
  refine lv_iload hx hb dL_law_408 (lv_at hl 1 rfl) ?_
  refine lv_iconst (v := 1) hx hb dL_law_410 (by decide) ?_
  refine lv_iadd hx hb dL_law_411 ?_
  refine W.eq (g2 := F0 m 412 ls [.int 1, .ref b, .ref a1]) rfl ?_
  refine va_sld hx hb hXs hbl hbA hS (i := 1) (show ¬ ((1 : Int32) < 0 ∨ 6 ≤ (1 : Int32).toNatClampNeg) by decide) dL_law_412 ?_
  refine W.eq (g2 := F0 m 413 ls [.int (xs 1), .ref a1]) rfl ?_
  refine lv_aload_n hx hb dL_law_413 rfl (lv_at hl 5 rfl) ?_
  refine lv_iload hx hb dL_law_414 (lv_at hl 1 rfl) ?_
  refine lv_iconst (v := 2) hx hb dL_law_416 (by decide) ?_
  refine lv_iadd hx hb dL_law_417 ?_
  refine W.eq (g2 := F0 m 418 ls [.int 2, .ref b, .int (xs 1), .ref a1]) rfl ?_
  refine va_sld hx hb hXs hbl hbA hS (i := 2) (show ¬ ((2 : Int32) < 0 ∨ 6 ≤ (2 : Int32).toNatClampNeg) by decide) dL_law_418 ?_
  refine W.eq (g2 := F0 m 419 ls [.int (xs 2), .int (xs 1), .ref a1]) rfl ?_
  rw [hf]
  refine W.eq (g2 := F0 m 419 ls [.int 1, .int (xs 1), .ref a1]) rfl ?_
  refine lv_aload_n hx hb dL_law_419 rfl (lv_at hl 5 rfl) ?_
  refine lv_iload hx hb dL_law_420 (lv_at hl 1 rfl) ?_
  refine lv_iconst (v := 3) hx hb dL_law_422 (by decide) ?_
  refine lv_iadd hx hb dL_law_423 ?_
  refine W.eq (g2 := F0 m 424 ls [.int 3, .ref b, .int 1, .int (xs 1), .ref a1]) rfl ?_
  refine va_sld hx hb hXs hbl hbA hS (i := 3) (show ¬ ((3 : Int32) < 0 ∨ 6 ≤ (3 : Int32).toNatClampNeg) by decide) dL_law_424 ?_
  refine W.eq (g2 := F0 m 425 ls [.int (xs 3), .int 1, .int (xs 1), .ref a1]) rfl ?_
  refine lv_aload_n hx hb dL_law_425 rfl (lv_at hl 5 rfl) ?_
  refine lv_iload hx hb dL_law_426 (lv_at hl 1 rfl) ?_
  refine lv_iconst (v := 4) hx hb dL_law_428 (by decide) ?_
  refine lv_iadd hx hb dL_law_429 ?_
  refine W.eq (g2 := F0 m 430 ls [.int 4, .ref b, .int (xs 3), .int 1, .int (xs 1), .ref a1]) rfl ?_
  refine va_sld hx hb hXs hbl hbA hS (i := 4) (show ¬ ((4 : Int32) < 0 ∨ 6 ≤ (4 : Int32).toNatClampNeg) by decide) dL_law_430 ?_
  refine W.eq (g2 := F0 m 431 ls [.int (xs 4), .int (xs 3), .int 1, .int (xs 1), .ref a1]) rfl ?_
  obtain ⟨hPc, hDc, hFc⟩ := xcut (wc := [(a1, .inr (5, [v17, .ref a10, v18, v19, v20, v21, v22, v23, v24, v25, v26, v27, v28, v29, v30, v31, v32, v33, v34, v35, v36, v37, v38, v39, .ref a7, .ref a8, v40, v41, v42, v43, v44, v45])), (a7, .inl (cT 5, 8, .inr (.inr (.inr (.inr f56))))), (a8, .inl (cT 1, 8, .inl f59)), (a9, .inl (cT 0, 4096, .inl f62)), (a10, .inl (cT 4, 1024, .inr (.inr (.inr (.inr f67)))))]) hP hD hS hA [0, 2, 3, 4, 5] rfl rfl (by decide)
  refine va_callv (va_runV (C := "ValueBenchModel") (As := [.int (xs 1), .int 1, .int (xs 3), .int (xs 4)]) (rest := []) ⟨hx, hb, hml, hown, htx⟩ (cM_binary0_13 l hl9 D cT aK aV H.size a1 a7 a8 a9 a10 (xs 1) (xs 3) (xs 4) v17 v18 v19 v20 v21 v22 v23 v24 v25 v26 v27 v28 v29 v30 v31 v32 v33 v34 v35 v36 v37 v38 v39 v40 v41 v42 v43 v44 v45 f56 f59 f62 f67 hto1 hto2 hto3 hto4 ha1 ha2 ha3 ha4 hb1 hb2 hb3 hb4 (by first | rfl | exact h51 | exact h52 | exact h55 | exact h57 | exact h58 | exact h60 | exact h61 | exact h63 | exact h64 | exact h65 | exact h66 | exact h68 | exact h69) (by first | rfl | exact h51 | exact h52 | exact h55 | exact h57 | exact h58 | exact h60 | exact h61 | exact h63 | exact h64 | exact h65 | exact h66 | exact h68 | exact h69) (by first | rfl | exact h51 | exact h52 | exact h55 | exact h57 | exact h58 | exact h60 | exact h61 | exact h63 | exact h64 | exact h65 | exact h66 | exact h68 | exact h69) (by first | rfl | exact h51 | exact h52 | exact h55 | exact h57 | exact h58 | exact h60 | exact h61 | exact h63 | exact h64 | exact h65 | exact h66 | exact h68 | exact h69) (by first | rfl | exact h51 | exact h52 | exact h55 | exact h57 | exact h58 | exact h60 | exact h61 | exact h63 | exact h64 | exact h65 | exact h66 | exact h68 | exact h69) (by first | rfl | exact h51 | exact h52 | exact h55 | exact h57 | exact h58 | exact h60 | exact h61 | exact h63 | exact h64 | exact h65 | exact h66 | exact h68 | exact h69) (by first | rfl | exact h51 | exact h52 | exact h55 | exact h57 | exact h58 | exact h60 | exact h61 | exact h63 | exact h64 | exact h65 | exact h66 | exact h68 | exact h69) (by first | rfl | exact h51 | exact h52 | exact h55 | exact h57 | exact h58 | exact h60 | exact h61 | exact h63 | exact h64 | exact h65 | exact h66 | exact h68 | exact h69) (by first | rfl | exact h51 | exact h52 | exact h55 | exact h57 | exact h58 | exact h60 | exact h61 | exact h63 | exact h64 | exact h65 | exact h66 | exact h68 | exact h69) (by first | rfl | exact h51 | exact h52 | exact h55 | exact h57 | exact h58 | exact h60 | exact h61 | exact h63 | exact h64 | exact h65 | exact h66 | exact h68 | exact h69)) ⟨callB_of 4 htx (xw_goodC kw_6_191) rfl rfl rfl (htx _ kw_1_5) (htx _ kw_6_188) ⟨by decide, by decide, by decide +kernel⟩ ⟨Nat.le_of_ble_eq_true rfl, Nat.le_of_ble_eq_true rfl⟩, (htx _ kw_6_189), (htx _ kw_6_190)⟩ ⟨xPre_blind, va_recv hK hP (ci := 5) rfl (q0 := 0) rfl, (fun U hU hW => ⟨rfl, xPre_of hZ hS hFc hPc hDc hK U hU hW⟩)⟩ rfl rfl hl.1 rfl (lv_room (Nat.le_of_ble_eq_true rfl)) dL_law_431 ⟨Nat.le_of_ble_eq_true rfl, Nat.le_of_ble_eq_true rfl⟩) hS (fun q _ h => hFc q h) hFc (fun u9 t H1 locs ht hvm hr9 hB hz1 hk1 hS => ?_)
  obtain ⟨q2, q3, hP1, hK1, hD1⟩ := hB
  rw [ht] at hP1
  obtain ⟨hP, hD⟩ := xjoin (W := [(a2, .inl (cT 2, 1, .inr (.inl f46))), (a0, .inr (0, [v11, v12, v13, .ref a4, v14, .ref a3, v15, .int 1])), (a3, .inr (2, [v47, .int 0, .int 0])), (a4, .inl (cT 3, 8, .inr (.inr (.inr (.inr f50))))), (a5, .inr (2, [.ref a6, .int 1, v53])), (a6, .inl (cT 2, 4096, .inr (.inl f54))), (a1, .inr (5, [.int 2, .ref a10, .int 2, v19, .int 0, v21, v22, .int 0, .int 1, .int 0, v26, v27, .int 0, v29, v30, .ref a9, .int 4, .int 4, .int 0, .int 100, v36, v37, .int 0, .int 1000000000, .ref a7, .ref a8, v40, v41, v42, v43, .int 1, v45])), (a7, .inl (cT 5, 8, .inr (.inr (.inr (.inr f56))))), (a8, .inl (cT 1, 8, .inl f59)), (a9, .inl (cT 0, 4096, .inl f62)), (a10, .inl (cT 4, 1024, .inr (.inr (.inr (.inr (va_up (va_up f67 0 (some q2)) 1 (some q3))))))), (q2, .inr (6, [.int 0, .long 0, .int 0, .int 0, .int 0, .int 1])), (q3, .inr (6, [.int 0, .long 0, .int 0, .int 0, .int 0, .int 1]))]) hP hD [0, 2, 3, 4, 5] [1, 6, 7, 8, 9, 10] 6 rfl rfl (by decide) (by decide) hk1 hFc hP1 hD1
  generalize H1 = H at hP hS ⊢
  refine lv_aload_n hx hb dL_law_434 rfl (lv_at hl 3 rfl) ?_
  obtain ⟨hPc, hDc, hFc⟩ := xcut (wc := [(a1, .inr (5, [.int 2, .ref a10, .int 2, v19, .int 0, v21, v22, .int 0, .int 1, .int 0, v26, v27, .int 0, v29, v30, .ref a9, .int 4, .int 4, .int 0, .int 100, v36, v37, .int 0, .int 1000000000, .ref a7, .ref a8, v40, v41, v42, v43, .int 1, v45]))]) hP hD hS hA [6] rfl rfl (by decide)
  refine va_calli (va_runV (C := "ValueBenchModel") (As := []) (rest := []) ⟨hx, hb, hml, hown, htx⟩ (cM_thrown_2 l hl9 D cT aK aV H.size a1 (.ref a10) (.int 2) v19 (.int 0) v21 v22 (.int 0) (.int 1) (.int 0) v26 v27 (.int 0) v29 v30 (.ref a9) (.int 4) (.int 4) (.int 0) (.int 100) v36 v37 (.int 0) (.int 1000000000) (.ref a7) (.ref a8) v40 v41 v42 v43 (.int 1) v45) ⟨callB_of 0 htx (xw_goodC kw_5_187) rfl rfl rfl (htx _ kw_1_5) (htx _ kw_5_184) ⟨by decide, by decide, by decide +kernel⟩ ⟨Nat.le_of_ble_eq_true rfl, Nat.le_of_ble_eq_true rfl⟩, (htx _ kw_5_185), (htx _ kw_5_186)⟩ ⟨xPre_blind, va_recv hK hP (ci := 5) rfl (q0 := 6) rfl, (fun U hU hW => ⟨rfl, xPre_of hZ hS hFc hPc hDc hK U hU hW⟩)⟩ rfl rfl hl.1 rfl (lv_room (Nat.le_of_ble_eq_true rfl)) dL_law_435 ⟨Nat.le_of_ble_eq_true rfl, Nat.le_of_ble_eq_true rfl⟩) hS (fun q _ h => hFc q h) hFc (fun r4 u9 t H1 locs ht hvm hr9 hB hz1 hk1 hS => ?_)
  obtain ⟨hP1, hK1, hD1⟩ := hB
  rw [ht] at hP1
  obtain ⟨hP, hD⟩ := xjoin (W := [(a2, .inl (cT 2, 1, .inr (.inl f46))), (a0, .inr (0, [v11, v12, v13, .ref a4, v14, .ref a3, v15, .int 1])), (a3, .inr (2, [v47, .int 0, .int 0])), (a4, .inl (cT 3, 8, .inr (.inr (.inr (.inr f50))))), (a5, .inr (2, [.ref a6, .int 1, v53])), (a6, .inl (cT 2, 4096, .inr (.inl f54))), (a7, .inl (cT 5, 8, .inr (.inr (.inr (.inr f56))))), (a8, .inl (cT 1, 8, .inl f59)), (a9, .inl (cT 0, 4096, .inl f62)), (a10, .inl (cT 4, 1024, .inr (.inr (.inr (.inr (va_up (va_up f67 0 (some q2)) 1 (some q3))))))), (q2, .inr (6, [.int 0, .long 0, .int 0, .int 0, .int 0, .int 1])), (q3, .inr (6, [.int 0, .long 0, .int 0, .int 0, .int 0, .int 1])), (a1, .inr (5, [.int 2, .ref a10, .int 2, v19, .int 0, v21, v22, .int 0, .int 1, .int 0, v26, v27, .int 0, v29, v30, .ref a9, .int 4, .int 4, .int 0, .int 100, v36, v37, .int 0, .int 1000000000, .ref a7, .ref a8, v40, v41, v42, v43, .int 1, v45]))]) hP hD [6] [0, 1, 2, 3, 4, 5, 7, 8, 9, 10, 11, 12] 12 rfl rfl (by decide) (by decide) hk1 hFc hP1 hD1
  generalize H1 = H at hP hS ⊢
  rw [hr9]
  refine W.eq (g2 := F0 m 438 ls [.int 2]) rfl ?_
  refine lv_iload hx hb dL_law_438 (lv_at hl 0 rfl) ?_
  refine lv_icmp_eq (tgt := 445) hx hb dL_law_440 (by decide) (fun _ => ?_) (fun h => ((by revert h; decide : False)).elim)
  refine lv_goto (tgt := 906) hx hb dL_law_445 (by decide) ?_
  refine lv_iinc (v := 6) (lv' := [(4, .int 6), (5, .int 2), (3, .ref a2), (2, .ref a1), (1, .ref a0), (0, .ref b)]) hx hb dL_law_906 hl (k := 1) rfl (by decide) (by decide) rfl (fun ls hl => ?_)
  refine lv_goto (tgt := 23) hx hb dL_law_909 (by decide) ?_
  refine lv_iload hx hb dL_law_23 (lv_at hl 0 rfl) ?_
  refine lv_aload_n hx hb dL_law_25 rfl (lv_at hl 5 rfl) ?_
  refine va_slen hx hb hXs hbl hbA hS dL_law_26 ?_
  refine W.eq (g2 := F0 m 27 ls [.int 6, .int 6]) rfl ?_
  refine lv_bipush (v := 6) hx hb dL_law_27 (by decide) ?_
  refine lv_isub hx hb dL_law_29 ?_
  refine W.eq (g2 := F0 m 30 ls [.int 0, .int 6]) rfl ?_
  refine lv_icmp_gt (tgt := 912) hx hb dL_law_30 (by decide) (fun _ => ?_) (fun h => ((by revert h; decide : False)).elim)
  refine lv_iconst (v := 1) hx hb dL_law_912 (by decide) ?_
  exact va_forget (fun q h => hA2 _ (hS.2.2 q h)) (W.widen (k := 600002) (n := 7302232) (Nat.le_of_ble_eq_true rfl) (Nat.le_of_ble_eq_true rfl) (lw_ret hx hb hr hlocks dL_law_913))
set_option maxHeartbeats 400000000 in
set_option maxRecDepth 100000 in
theorem lf_binary1_p1 {p : Program} {e : Env} {s : State} {m : MethodId} {below : List Frame} {meth : Method} {c : Code} (l : Launch) (hl9 : l.stackTraces = false) (D : va_G) (cT : Nat → ClassId) (aK aV : Nat → Nat) {A : Nat → Prop} {b : Nat} {xs : Nat → Int32} (C : xLw p s m meth c b D cT aK aV A) {H : Heap} {locs : List Loc} {ls : Array Slot} (a0 : Nat) (a1 : Nat) (a2 : Nat) (a3 : Nat) (a4 : Nat) (a5 : Nat) (a6 : Nat) (a7 : Nat) (a8 : Nat) (a9 : Nat) (a10 : Nat) (v11 : Value) (v12 : Value) (v13 : Value) (v14 : Value) (v15 : Value) (v16 : Value) (v17 : Value) (v18 : Value) (v19 : Value) (v20 : Value) (v21 : Value) (v22 : Value) (v23 : Value) (v24 : Value) (v25 : Value) (v26 : Value) (v27 : Value) (v28 : Value) (v29 : Value) (v30 : Value) (v31 : Value) (v32 : Value) (v33 : Value) (v34 : Value) (v35 : Value) (v36 : Value) (v37 : Value) (v38 : Value) (v39 : Value) (v40 : Value) (v41 : Value) (v42 : Value) (v43 : Value) (v44 : Value) (v45 : Value) (f46 : Nat → Int64) (v47 : Value) (v48 : Value) (v49 : Value) (f50 : Nat → Option Nat) (v53 : Value) (f54 : Nat → Int64) (f56 : Nat → Option Nat) (f59 : Nat → Int32) (f62 : Nat → Int32) (f67 : Nat → Option Nat) (h51 : f50 (xs 3).toNatClampNeg = some a5) (h52 : f50 (xs 4).toNatClampNeg = some a5) (h55 : f54 0 = 0) (h57 : f56 (xs 3).toNatClampNeg = some a9) (h58 : f56 (xs 4).toNatClampNeg = some a9) (h60 : f59 (xs 3).toNatClampNeg = 4) (h61 : f59 (xs 4).toNatClampNeg = 4) (h63 : f62 0 = 110) (h64 : f62 1 = 117) (h65 : f62 2 = 108) (h66 : f62 3 = 108) (h68 : f67 0 = none) (h69 : f67 1 = none) (hto1 : ¬ (xs 1) < 0) (hto2 : ¬ 7 < (xs 1)) (hto3 : (xs 1) ≤ 7) (hto4 : vp_in (xs 1) 8) (hf : xs 2 = 1) (ha1 : ¬ (xs 3) < 0) (ha2 : ¬ 7 < (xs 3)) (ha3 : (xs 3) ≤ 7) (ha4 : vp_in (xs 3) 8) (hb1 : ¬ (xs 4) < 0) (hb2 : ¬ 7 < (xs 4)) (hb3 : (xs 4) ≤ 7) (hb4 : vp_in (xs 4) 8) (hXs : va_X b 6 xs s s.heap) (hP : va_P D xcl [(a0, .inr (0, [v11, v12, v13, .ref a4, v14, .ref a3, v15, v16])), (a1, .inr (5, [v17, .ref a10, v18, v19, v20, v21, v22, v23, v24, v25, v26, v27, v28, v29, v30, v31, v32, v33, v34, v35, v36, v37, v38, v39, .ref a7, .ref a8, v40, v41, v42, v43, v44, v45])), (a2, .inl (cT 2, 1, .inr (.inl f46))), (a3, .inr (2, [v47, v48, v49])), (a4, .inl (cT 3, 8, .inr (.inr (.inr (.inr f50))))), (a5, .inr (2, [.ref a6, .int 1, v53])), (a6, .inl (cT 2, 4096, .inr (.inl f54))), (a7, .inl (cT 5, 8, .inr (.inr (.inr (.inr f56))))), (a8, .inl (cT 1, 8, .inl f59)), (a9, .inl (cT 0, 4096, .inl f62)), (a10, .inl (cT 4, 1024, .inr (.inr (.inr (.inr f67)))))] H) (hD : va_D A [(a0, .inr (0, [v11, v12, v13, .ref a4, v14, .ref a3, v15, v16])), (a1, .inr (5, [v17, .ref a10, v18, v19, v20, v21, v22, v23, v24, v25, v26, v27, v28, v29, v30, v31, v32, v33, v34, v35, v36, v37, v38, v39, .ref a7, .ref a8, v40, v41, v42, v43, v44, v45])), (a2, .inl (cT 2, 1, .inr (.inl f46))), (a3, .inr (2, [v47, v48, v49])), (a4, .inl (cT 3, 8, .inr (.inr (.inr (.inr f50))))), (a5, .inr (2, [.ref a6, .int 1, v53])), (a6, .inl (cT 2, 4096, .inr (.inl f54))), (a7, .inl (cT 5, 8, .inr (.inr (.inr (.inr f56))))), (a8, .inl (cT 1, 8, .inl f59)), (a9, .inl (cT 0, 4096, .inl f62)), (a10, .inl (cT 4, 1024, .inr (.inr (.inr (.inr f67)))))]) (hS : va_S A s.heap H locs) (hl : lv_has ls 8 [(4, .int 0), (3, .ref a2), (2, .ref a1), (1, .ref a0), (0, .ref b)]) : W p l e room_1 s m #[Value.ref b] below meth c H locs 54 107242 (lw_Z below #[Value.ref b] s) (F0 m 376 ls []) := by
  obtain ⟨hx, hb, hr, hml, hown, htx, hbl, hbA, hlocks, hK, hZ, hA, hA2⟩ := C
  refine lv_aload_n hx hb dL_law_376 rfl (lv_at hl 3 rfl) ?_
  refine lv_aload_n hx hb dL_law_377 rfl (lv_at hl 4 rfl) ?_
  refine lv_iload hx hb dL_law_378 (lv_at hl 0 rfl) ?_
  refine lv_iconst (v := 1) hx hb dL_law_380 (by decide) ?_
  refine lv_iadd hx hb dL_law_381 ?_
  refine W.eq (g2 := F0 m 382 ls [.int 1, .ref b, .ref a0]) rfl ?_
  refine va_sld hx hb hXs hbl hbA hS (i := 1) (show ¬ ((1 : Int32) < 0 ∨ 6 ≤ (1 : Int32).toNatClampNeg) by decide) dL_law_382 ?_
  refine W.eq (g2 := F0 m 383 ls [.int (xs 1), .ref a0]) rfl ?_
  refine lv_aload_n hx hb dL_law_383 rfl (lv_at hl 4 rfl) ?_
  refine lv_iload hx hb dL_law_384 (lv_at hl 0 rfl) ?_
  refine lv_iconst (v := 2) hx hb dL_law_386 (by decide) ?_
  refine lv_iadd hx hb dL_law_387 ?_
  refine W.eq (g2 := F0 m 388 ls [.int 2, .ref b, .int (xs 1), .ref a0]) rfl ?_
  refine va_sld hx hb hXs hbl hbA hS (i := 2) (show ¬ ((2 : Int32) < 0 ∨ 6 ≤ (2 : Int32).toNatClampNeg) by decide) dL_law_388 ?_
  refine W.eq (g2 := F0 m 389 ls [.int (xs 2), .int (xs 1), .ref a0]) rfl ?_
  rw [hf]
  refine W.eq (g2 := F0 m 389 ls [.int 1, .int (xs 1), .ref a0]) rfl ?_
  refine lv_aload_n hx hb dL_law_389 rfl (lv_at hl 4 rfl) ?_
  refine lv_iload hx hb dL_law_390 (lv_at hl 0 rfl) ?_
  refine lv_iconst (v := 3) hx hb dL_law_392 (by decide) ?_
  refine lv_iadd hx hb dL_law_393 ?_
  refine W.eq (g2 := F0 m 394 ls [.int 3, .ref b, .int 1, .int (xs 1), .ref a0]) rfl ?_
  refine va_sld hx hb hXs hbl hbA hS (i := 3) (show ¬ ((3 : Int32) < 0 ∨ 6 ≤ (3 : Int32).toNatClampNeg) by decide) dL_law_394 ?_
  refine W.eq (g2 := F0 m 395 ls [.int (xs 3), .int 1, .int (xs 1), .ref a0]) rfl ?_
  refine lv_aload_n hx hb dL_law_395 rfl (lv_at hl 4 rfl) ?_
  refine lv_iload hx hb dL_law_396 (lv_at hl 0 rfl) ?_
  refine lv_iconst (v := 4) hx hb dL_law_398 (by decide) ?_
  refine lv_iadd hx hb dL_law_399 ?_
  refine W.eq (g2 := F0 m 400 ls [.int 4, .ref b, .int (xs 3), .int 1, .int (xs 1), .ref a0]) rfl ?_
  refine va_sld hx hb hXs hbl hbA hS (i := 4) (show ¬ ((4 : Int32) < 0 ∨ 6 ≤ (4 : Int32).toNatClampNeg) by decide) dL_law_400 ?_
  refine W.eq (g2 := F0 m 401 ls [.int (xs 4), .int (xs 3), .int 1, .int (xs 1), .ref a0]) rfl ?_
  obtain ⟨hPc, hDc, hFc⟩ := xcut (wc := [(a0, .inr (0, [v11, v12, v13, .ref a4, v14, .ref a3, v15, v16])), (a3, .inr (2, [v47, v48, v49])), (a4, .inl (cT 3, 8, .inr (.inr (.inr (.inr f50))))), (a5, .inr (2, [.ref a6, .int 1, v53])), (a6, .inl (cT 2, 4096, .inr (.inl f54)))]) hP hD hS hA [0, 3, 4, 5, 6] rfl rfl (by decide)
  refine va_calli (vx_runSW (As := [.ref a0, .int (xs 1), .int 1, .int (xs 3), .int (xs 4)]) (rest := []) ⟨hx, hb, hml, hown, htx⟩ (cL_binary_10 l hl9 D cT aK aV H.size a0 a3 a4 a5 a6 (xs 1) (xs 3) (xs 4) v11 v12 v13 v14 v15 v16 v47 v48 v49 f50 v53 f54 hto1 hto2 hto3 hto4 ha1 ha2 ha3 ha4 hb1 hb2 hb3 hb4 (by first | rfl | exact h51 | exact h52 | exact h55 | exact h57 | exact h58 | exact h60 | exact h61 | exact h63 | exact h64 | exact h65 | exact h66 | exact h68 | exact h69) (by first | rfl | exact h51 | exact h52 | exact h55 | exact h57 | exact h58 | exact h60 | exact h61 | exact h63 | exact h64 | exact h65 | exact h66 | exact h68 | exact h69) (by first | rfl | exact h51 | exact h52 | exact h55 | exact h57 | exact h58 | exact h60 | exact h61 | exact h63 | exact h64 | exact h65 | exact h66 | exact h68 | exact h69)) (xcSW 5 htx (xw_goodC kw_3_97) rfl rfl rfl (htx _ kw_1_0) (htx _ kw_3_95) ⟨by decide, by decide, by decide +kernel⟩ ⟨Nat.le_of_ble_eq_true rfl, Nat.le_of_ble_eq_true rfl⟩ (htx _ kw_3_96)) ⟨xPre_blind, (fun U hU hW => ⟨rfl, xPre_of hZ hS hFc hPc hDc hK U hU hW⟩)⟩ rfl rfl hl.1 rfl (lv_room (Nat.le_of_ble_eq_true rfl)) dL_law_401 ⟨Nat.le_of_ble_eq_true rfl, Nat.le_of_ble_eq_true rfl⟩) hS (fun q _ h => hFc q h) hFc (fun r1 u9 t H1 locs ht hvm hr9 hB hz1 hk1 hS => ?_)
  obtain ⟨hP1, hK1, hD1⟩ := hB
  rw [ht] at hP1
  obtain ⟨hP, hD⟩ := xjoin (W := [(a1, .inr (5, [v17, .ref a10, v18, v19, v20, v21, v22, v23, v24, v25, v26, v27, v28, v29, v30, v31, v32, v33, v34, v35, v36, v37, v38, v39, .ref a7, .ref a8, v40, v41, v42, v43, v44, v45])), (a2, .inl (cT 2, 1, .inr (.inl f46))), (a7, .inl (cT 5, 8, .inr (.inr (.inr (.inr f56))))), (a8, .inl (cT 1, 8, .inl f59)), (a9, .inl (cT 0, 4096, .inl f62)), (a10, .inl (cT 4, 1024, .inr (.inr (.inr (.inr f67))))), (a0, .inr (0, [v11, v12, v13, .ref a4, v14, .ref a3, v15, .int 1])), (a3, .inr (2, [v47, .int 0, .int 0])), (a4, .inl (cT 3, 8, .inr (.inr (.inr (.inr f50))))), (a5, .inr (2, [.ref a6, .int 1, v53])), (a6, .inl (cT 2, 4096, .inr (.inl f54)))]) hP hD [0, 3, 4, 5, 6] [1, 2, 7, 8, 9, 10] 6 rfl rfl (by decide) (by decide) hk1 hFc hP1 hD1
  generalize H1 = H at hP hS ⊢
  rw [hr9]
  refine W.eq (g2 := F0 m 404 ls [.int 2]) rfl ?_
  refine lv_istore (lv' := [(5, .int 2), (4, .int 0), (3, .ref a2), (2, .ref a1), (1, .ref a0), (0, .ref b)]) hx hb dL_law_404 hl (by decide) rfl (fun ls hl => ?_)
  refine lv_aload_n hx hb dL_law_406 rfl (lv_at hl 3 rfl) ?_
  refine lv_aload_n hx hb dL_law_407 rfl (lv_at hl 5 rfl) ?_
  refine lv_iload hx hb dL_law_408 (lv_at hl 1 rfl) ?_
  refine lv_iconst (v := 1) hx hb dL_law_410 (by decide) ?_
  refine lv_iadd hx hb dL_law_411 ?_
  refine W.eq (g2 := F0 m 412 ls [.int 1, .ref b, .ref a1]) rfl ?_
  refine va_sld hx hb hXs hbl hbA hS (i := 1) (show ¬ ((1 : Int32) < 0 ∨ 6 ≤ (1 : Int32).toNatClampNeg) by decide) dL_law_412 ?_
  refine W.eq (g2 := F0 m 413 ls [.int (xs 1), .ref a1]) rfl ?_
  refine lv_aload_n hx hb dL_law_413 rfl (lv_at hl 5 rfl) ?_
  refine lv_iload hx hb dL_law_414 (lv_at hl 1 rfl) ?_
  refine lv_iconst (v := 2) hx hb dL_law_416 (by decide) ?_
  refine lv_iadd hx hb dL_law_417 ?_
  refine W.eq (g2 := F0 m 418 ls [.int 2, .ref b, .int (xs 1), .ref a1]) rfl ?_
  refine va_sld hx hb hXs hbl hbA hS (i := 2) (show ¬ ((2 : Int32) < 0 ∨ 6 ≤ (2 : Int32).toNatClampNeg) by decide) dL_law_418 ?_
  refine W.eq (g2 := F0 m 419 ls [.int (xs 2), .int (xs 1), .ref a1]) rfl ?_
  rw [hf]
  refine W.eq (g2 := F0 m 419 ls [.int 1, .int (xs 1), .ref a1]) rfl ?_
  refine lv_aload_n hx hb dL_law_419 rfl (lv_at hl 5 rfl) ?_
  refine lv_iload hx hb dL_law_420 (lv_at hl 1 rfl) ?_
  refine lv_iconst (v := 3) hx hb dL_law_422 (by decide) ?_
  refine lv_iadd hx hb dL_law_423 ?_
  refine W.eq (g2 := F0 m 424 ls [.int 3, .ref b, .int 1, .int (xs 1), .ref a1]) rfl ?_
  refine va_sld hx hb hXs hbl hbA hS (i := 3) (show ¬ ((3 : Int32) < 0 ∨ 6 ≤ (3 : Int32).toNatClampNeg) by decide) dL_law_424 ?_
  refine W.eq (g2 := F0 m 425 ls [.int (xs 3), .int 1, .int (xs 1), .ref a1]) rfl ?_
  refine lv_aload_n hx hb dL_law_425 rfl (lv_at hl 5 rfl) ?_
  refine lv_iload hx hb dL_law_426 (lv_at hl 1 rfl) ?_
  refine lv_iconst (v := 4) hx hb dL_law_428 (by decide) ?_
  refine lv_iadd hx hb dL_law_429 ?_
  refine W.eq (g2 := F0 m 430 ls [.int 4, .ref b, .int (xs 3), .int 1, .int (xs 1), .ref a1]) rfl ?_
  refine va_sld hx hb hXs hbl hbA hS (i := 4) (show ¬ ((4 : Int32) < 0 ∨ 6 ≤ (4 : Int32).toNatClampNeg) by decide) dL_law_430 ?_
  refine W.eq (g2 := F0 m 431 ls [.int (xs 4), .int (xs 3), .int 1, .int (xs 1), .ref a1]) rfl ?_
  obtain ⟨hPc, hDc, hFc⟩ := xcut (wc := [(a1, .inr (5, [v17, .ref a10, v18, v19, v20, v21, v22, v23, v24, v25, v26, v27, v28, v29, v30, v31, v32, v33, v34, v35, v36, v37, v38, v39, .ref a7, .ref a8, v40, v41, v42, v43, v44, v45])), (a7, .inl (cT 5, 8, .inr (.inr (.inr (.inr f56))))), (a8, .inl (cT 1, 8, .inl f59)), (a9, .inl (cT 0, 4096, .inl f62)), (a10, .inl (cT 4, 1024, .inr (.inr (.inr (.inr f67)))))]) hP hD hS hA [0, 2, 3, 4, 5] rfl rfl (by decide)
  refine va_callv (va_runV (C := "ValueBenchModel") (As := [.int (xs 1), .int 1, .int (xs 3), .int (xs 4)]) (rest := []) ⟨hx, hb, hml, hown, htx⟩ (cM_binary0_13 l hl9 D cT aK aV H.size a1 a7 a8 a9 a10 (xs 1) (xs 3) (xs 4) v17 v18 v19 v20 v21 v22 v23 v24 v25 v26 v27 v28 v29 v30 v31 v32 v33 v34 v35 v36 v37 v38 v39 v40 v41 v42 v43 v44 v45 f56 f59 f62 f67 hto1 hto2 hto3 hto4 ha1 ha2 ha3 ha4 hb1 hb2 hb3 hb4 (by first | rfl | exact h51 | exact h52 | exact h55 | exact h57 | exact h58 | exact h60 | exact h61 | exact h63 | exact h64 | exact h65 | exact h66 | exact h68 | exact h69) (by first | rfl | exact h51 | exact h52 | exact h55 | exact h57 | exact h58 | exact h60 | exact h61 | exact h63 | exact h64 | exact h65 | exact h66 | exact h68 | exact h69) (by first | rfl | exact h51 | exact h52 | exact h55 | exact h57 | exact h58 | exact h60 | exact h61 | exact h63 | exact h64 | exact h65 | exact h66 | exact h68 | exact h69) (by first | rfl | exact h51 | exact h52 | exact h55 | exact h57 | exact h58 | exact h60 | exact h61 | exact h63 | exact h64 | exact h65 | exact h66 | exact h68 | exact h69) (by first | rfl | exact h51 | exact h52 | exact h55 | exact h57 | exact h58 | exact h60 | exact h61 | exact h63 | exact h64 | exact h65 | exact h66 | exact h68 | exact h69) (by first | rfl | exact h51 | exact h52 | exact h55 | exact h57 | exact h58 | exact h60 | exact h61 | exact h63 | exact h64 | exact h65 | exact h66 | exact h68 | exact h69) (by first | rfl | exact h51 | exact h52 | exact h55 | exact h57 | exact h58 | exact h60 | exact h61 | exact h63 | exact h64 | exact h65 | exact h66 | exact h68 | exact h69) (by first | rfl | exact h51 | exact h52 | exact h55 | exact h57 | exact h58 | exact h60 | exact h61 | exact h63 | exact h64 | exact h65 | exact h66 | exact h68 | exact h69) (by first | rfl | exact h51 | exact h52 | exact h55 | exact h57 | exact h58 | exact h60 | exact h61 | exact h63 | exact h64 | exact h65 | exact h66 | exact h68 | exact h69) (by first | rfl | exact h51 | exact h52 | exact h55 | exact h57 | exact h58 | exact h60 | exact h61 | exact h63 | exact h64 | exact h65 | exact h66 | exact h68 | exact h69)) ⟨callB_of 4 htx (xw_goodC kw_6_191) rfl rfl rfl (htx _ kw_1_5) (htx _ kw_6_188) ⟨by decide, by decide, by decide +kernel⟩ ⟨Nat.le_of_ble_eq_true rfl, Nat.le_of_ble_eq_true rfl⟩, (htx _ kw_6_189), (htx _ kw_6_190)⟩ ⟨xPre_blind, va_recv hK hP (ci := 5) rfl (q0 := 0) rfl, (fun U hU hW => ⟨rfl, xPre_of hZ hS hFc hPc hDc hK U hU hW⟩)⟩ rfl rfl hl.1 rfl (lv_room (Nat.le_of_ble_eq_true rfl)) dL_law_431 ⟨Nat.le_of_ble_eq_true rfl, Nat.le_of_ble_eq_true rfl⟩) hS (fun q _ h => hFc q h) hFc (fun u9 t H1 locs ht hvm hr9 hB hz1 hk1 hS => ?_)
  obtain ⟨q2, q3, hP1, hK1, hD1⟩ := hB
  rw [ht] at hP1
  obtain ⟨hP, hD⟩ := xjoin (W := [(a2, .inl (cT 2, 1, .inr (.inl f46))), (a0, .inr (0, [v11, v12, v13, .ref a4, v14, .ref a3, v15, .int 1])), (a3, .inr (2, [v47, .int 0, .int 0])), (a4, .inl (cT 3, 8, .inr (.inr (.inr (.inr f50))))), (a5, .inr (2, [.ref a6, .int 1, v53])), (a6, .inl (cT 2, 4096, .inr (.inl f54))), (a1, .inr (5, [.int 2, .ref a10, .int 2, v19, .int 0, v21, v22, .int 0, .int 1, .int 0, v26, v27, .int 0, v29, v30, .ref a9, .int 4, .int 4, .int 0, .int 100, v36, v37, .int 0, .int 1000000000, .ref a7, .ref a8, v40, v41, v42, v43, .int 1, v45])), (a7, .inl (cT 5, 8, .inr (.inr (.inr (.inr f56))))), (a8, .inl (cT 1, 8, .inl f59)), (a9, .inl (cT 0, 4096, .inl f62)), (a10, .inl (cT 4, 1024, .inr (.inr (.inr (.inr (va_up (va_up f67 0 (some q2)) 1 (some q3))))))), (q2, .inr (6, [.int 0, .long 0, .int 0, .int 0, .int 0, .int 1])), (q3, .inr (6, [.int 0, .long 0, .int 0, .int 0, .int 0, .int 1]))]) hP hD [0, 2, 3, 4, 5] [1, 6, 7, 8, 9, 10] 6 rfl rfl (by decide) (by decide) hk1 hFc hP1 hD1
  generalize H1 = H at hP hS ⊢
  refine lv_aload_n hx hb dL_law_434 rfl (lv_at hl 3 rfl) ?_
  obtain ⟨hPc, hDc, hFc⟩ := xcut (wc := [(a1, .inr (5, [.int 2, .ref a10, .int 2, v19, .int 0, v21, v22, .int 0, .int 1, .int 0, v26, v27, .int 0, v29, v30, .ref a9, .int 4, .int 4, .int 0, .int 100, v36, v37, .int 0, .int 1000000000, .ref a7, .ref a8, v40, v41, v42, v43, .int 1, v45]))]) hP hD hS hA [6] rfl rfl (by decide)
  refine va_calli (va_runV (C := "ValueBenchModel") (As := []) (rest := []) ⟨hx, hb, hml, hown, htx⟩ (cM_thrown_2 l hl9 D cT aK aV H.size a1 (.ref a10) (.int 2) v19 (.int 0) v21 v22 (.int 0) (.int 1) (.int 0) v26 v27 (.int 0) v29 v30 (.ref a9) (.int 4) (.int 4) (.int 0) (.int 100) v36 v37 (.int 0) (.int 1000000000) (.ref a7) (.ref a8) v40 v41 v42 v43 (.int 1) v45) ⟨callB_of 0 htx (xw_goodC kw_5_187) rfl rfl rfl (htx _ kw_1_5) (htx _ kw_5_184) ⟨by decide, by decide, by decide +kernel⟩ ⟨Nat.le_of_ble_eq_true rfl, Nat.le_of_ble_eq_true rfl⟩, (htx _ kw_5_185), (htx _ kw_5_186)⟩ ⟨xPre_blind, va_recv hK hP (ci := 5) rfl (q0 := 6) rfl, (fun U hU hW => ⟨rfl, xPre_of hZ hS hFc hPc hDc hK U hU hW⟩)⟩ rfl rfl hl.1 rfl (lv_room (Nat.le_of_ble_eq_true rfl)) dL_law_435 ⟨Nat.le_of_ble_eq_true rfl, Nat.le_of_ble_eq_true rfl⟩) hS (fun q _ h => hFc q h) hFc (fun r4 u9 t H1 locs ht hvm hr9 hB hz1 hk1 hS => ?_)
  obtain ⟨hP1, hK1, hD1⟩ := hB
  rw [ht] at hP1
  obtain ⟨hP, hD⟩ := xjoin (W := [(a2, .inl (cT 2, 1, .inr (.inl f46))), (a0, .inr (0, [v11, v12, v13, .ref a4, v14, .ref a3, v15, .int 1])), (a3, .inr (2, [v47, .int 0, .int 0])), (a4, .inl (cT 3, 8, .inr (.inr (.inr (.inr f50))))), (a5, .inr (2, [.ref a6, .int 1, v53])), (a6, .inl (cT 2, 4096, .inr (.inl f54))), (a7, .inl (cT 5, 8, .inr (.inr (.inr (.inr f56))))), (a8, .inl (cT 1, 8, .inl f59)), (a9, .inl (cT 0, 4096, .inl f62)), (a10, .inl (cT 4, 1024, .inr (.inr (.inr (.inr (va_up (va_up f67 0 (some q2)) 1 (some q3))))))), (q2, .inr (6, [.int 0, .long 0, .int 0, .int 0, .int 0, .int 1])), (q3, .inr (6, [.int 0, .long 0, .int 0, .int 0, .int 0, .int 1])), (a1, .inr (5, [.int 2, .ref a10, .int 2, v19, .int 0, v21, v22, .int 0, .int 1, .int 0, v26, v27, .int 0, v29, v30, .ref a9, .int 4, .int 4, .int 0, .int 100, v36, v37, .int 0, .int 1000000000, .ref a7, .ref a8, v40, v41, v42, v43, .int 1, v45]))]) hP hD [6] [0, 1, 2, 3, 4, 5, 7, 8, 9, 10, 11, 12] 12 rfl rfl (by decide) (by decide) hk1 hFc hP1 hD1
  generalize H1 = H at hP hS ⊢
  rw [hr9]
  refine W.eq (g2 := F0 m 438 ls [.int 2]) rfl ?_
  refine lv_iload hx hb dL_law_438 (lv_at hl 0 rfl) ?_
  refine lv_icmp_eq (tgt := 445) hx hb dL_law_440 (by decide) (fun _ => ?_) (fun h => ((by revert h; decide : False)).elim)
  refine lv_goto (tgt := 906) hx hb dL_law_445 (by decide) ?_
  refine lv_iinc (v := 6) (lv' := [(4, .int 6), (5, .int 2), (3, .ref a2), (2, .ref a1), (1, .ref a0), (0, .ref b)]) hx hb dL_law_906 hl (k := 1) rfl (by decide) (by decide) rfl (fun ls hl => ?_)
  refine lv_goto (tgt := 23) hx hb dL_law_909 (by decide) ?_
  refine lv_iload hx hb dL_law_23 (lv_at hl 0 rfl) ?_
  refine lv_aload_n hx hb dL_law_25 rfl (lv_at hl 5 rfl) ?_
  refine va_slen hx hb hXs hbl hbA hS dL_law_26 ?_
  refine W.eq (g2 := F0 m 27 ls [.int 6, .int 6]) rfl ?_
  refine lv_bipush (v := 6) hx hb dL_law_27 (by decide) ?_
  refine lv_isub hx hb dL_law_29 ?_
  refine W.eq (g2 := F0 m 30 ls [.int 0, .int 6]) rfl ?_
  refine lv_icmp_gt (tgt := 912) hx hb dL_law_30 (by decide) (fun _ => ?_) (fun h => ((by revert h; decide : False)).elim)
  refine lv_iconst (v := 1) hx hb dL_law_912 (by decide) ?_
  exact va_forget (fun q h => hA2 _ (hS.2.2 q h)) (W.widen (k := 600002) (n := 7302232) (Nat.le_of_ble_eq_true rfl) (Nat.le_of_ble_eq_true rfl) (lw_ret hx hb hr hlocks dL_law_913))
set_option maxHeartbeats 400000000 in
set_option maxRecDepth 100000 in
theorem lf_binary1_p2 {p : Program} {e : Env} {s : State} {m : MethodId} {below : List Frame} {meth : Method} {c : Code} (l : Launch) (hl9 : l.stackTraces = false) (D : va_G) (cT : Nat → ClassId) (aK aV : Nat → Nat) {A : Nat → Prop} {b : Nat} {xs : Nat → Int32} (C : xLw p s m meth c b D cT aK aV A) {H : Heap} {locs : List Loc} {ls : Array Slot} (a0 : Nat) (a1 : Nat) (a2 : Nat) (a3 : Nat) (a4 : Nat) (a5 : Nat) (a6 : Nat) (a7 : Nat) (a8 : Nat) (a9 : Nat) (a10 : Nat) (a11 : Nat) (v12 : Value) (v13 : Value) (v14 : Value) (v15 : Value) (v16 : Value) (v17 : Value) (v18 : Value) (v19 : Value) (v20 : Value) (v21 : Value) (v22 : Value) (v23 : Value) (v24 : Value) (v25 : Value) (v26 : Value) (v27 : Value) (v28 : Value) (v29 : Value) (v30 : Value) (v31 : Value) (v32 : Value) (v33 : Value) (v34 : Value) (v35 : Value) (v36 : Value) (v37 : Value) (v38 : Value) (v39 : Value) (v40 : Value) (v41 : Value) (v42 : Value) (v43 : Value) (v44 : Value) (v45 : Value) (v46 : Value) (f47 : Nat → Int64) (v48 : Value) (v49 : Value) (v50 : Value) (f51 : Nat → Option Nat) (b53 : Nat) (v55 : Value) (f56 : Nat → Int64) (f58 : Nat → Option Nat) (f61 : Nat → Int32) (f64 : Nat → Int32) (f69 : Nat → Option Nat) (f72 : Nat → Int32) (h52 : f51 (xs 3).toNatClampNeg = some a5) (h54 : f51 (xs 4).toNatClampNeg = some b53) (h57 : f56 0 = 0) (h59 : f58 (xs 3).toNatClampNeg = some a9) (h60 : f58 (xs 4).toNatClampNeg = some a11) (h62 : f61 (xs 3).toNatClampNeg = 4) (h63 : f61 (xs 4).toNatClampNeg = 4) (h65 : f64 0 = 110) (h66 : f64 1 = 117) (h67 : f64 2 = 108) (h68 : f64 3 = 108) (h70 : f69 0 = none) (h71 : f69 1 = none) (h73 : f72 0 = 110) (h74 : f72 1 = 117) (h75 : f72 2 = 108) (h76 : f72 3 = 108) (hto1 : ¬ (xs 1) < 0) (hto2 : ¬ 7 < (xs 1)) (hto3 : (xs 1) ≤ 7) (hto4 : vp_in (xs 1) 8) (hf : xs 2 = 1) (ha1 : ¬ (xs 3) < 0) (ha2 : ¬ 7 < (xs 3)) (ha3 : (xs 3) ≤ 7) (ha4 : vp_in (xs 3) 8) (hb1 : ¬ (xs 4) < 0) (hb2 : ¬ 7 < (xs 4)) (hb3 : (xs 4) ≤ 7) (hb4 : vp_in (xs 4) 8) (hXs : va_X b 6 xs s s.heap) (hP : va_P D xcl [(a0, .inr (0, [v12, v13, v14, .ref a4, v15, .ref a3, v16, v17])), (a1, .inr (5, [v18, .ref a10, v19, v20, v21, v22, v23, v24, v25, v26, v27, v28, v29, v30, v31, v32, v33, v34, v35, v36, v37, v38, v39, v40, .ref a7, .ref a8, v41, v42, v43, v44, v45, v46])), (a2, .inl (cT 2, 1, .inr (.inl f47))), (a3, .inr (2, [v48, v49, v50])), (a4, .inl (cT 3, 8, .inr (.inr (.inr (.inr f51))))), (a5, .inr (2, [.ref a6, .int 1, v55])), (a6, .inl (cT 2, 4096, .inr (.inl f56))), (a7, .inl (cT 5, 8, .inr (.inr (.inr (.inr f58))))), (a8, .inl (cT 1, 8, .inl f61)), (a9, .inl (cT 0, 4096, .inl f64)), (a10, .inl (cT 4, 1024, .inr (.inr (.inr (.inr f69))))), (a11, .inl (cT 0, 4096, .inl f72))] H) (hD : va_D A [(a0, .inr (0, [v12, v13, v14, .ref a4, v15, .ref a3, v16, v17])), (a1, .inr (5, [v18, .ref a10, v19, v20, v21, v22, v23, v24, v25, v26, v27, v28, v29, v30, v31, v32, v33, v34, v35, v36, v37, v38, v39, v40, .ref a7, .ref a8, v41, v42, v43, v44, v45, v46])), (a2, .inl (cT 2, 1, .inr (.inl f47))), (a3, .inr (2, [v48, v49, v50])), (a4, .inl (cT 3, 8, .inr (.inr (.inr (.inr f51))))), (a5, .inr (2, [.ref a6, .int 1, v55])), (a6, .inl (cT 2, 4096, .inr (.inl f56))), (a7, .inl (cT 5, 8, .inr (.inr (.inr (.inr f58))))), (a8, .inl (cT 1, 8, .inl f61)), (a9, .inl (cT 0, 4096, .inl f64)), (a10, .inl (cT 4, 1024, .inr (.inr (.inr (.inr f69))))), (a11, .inl (cT 0, 4096, .inl f72))]) (hS : va_S A s.heap H locs) (hl : lv_has ls 8 [(4, .int 0), (3, .ref a2), (2, .ref a1), (1, .ref a0), (0, .ref b)]) : W p l e room_1 s m #[Value.ref b] below meth c H locs 54 107242 (lw_Z below #[Value.ref b] s) (F0 m 376 ls []) := by
  obtain ⟨hx, hb, hr, hml, hown, htx, hbl, hbA, hlocks, hK, hZ, hA, hA2⟩ := C
  refine lv_aload_n hx hb dL_law_376 rfl (lv_at hl 3 rfl) ?_
  refine lv_aload_n hx hb dL_law_377 rfl (lv_at hl 4 rfl) ?_
  refine lv_iload hx hb dL_law_378 (lv_at hl 0 rfl) ?_
  refine lv_iconst (v := 1) hx hb dL_law_380 (by decide) ?_
  refine lv_iadd hx hb dL_law_381 ?_
  refine W.eq (g2 := F0 m 382 ls [.int 1, .ref b, .ref a0]) rfl ?_
  refine va_sld hx hb hXs hbl hbA hS (i := 1) (show ¬ ((1 : Int32) < 0 ∨ 6 ≤ (1 : Int32).toNatClampNeg) by decide) dL_law_382 ?_
  refine W.eq (g2 := F0 m 383 ls [.int (xs 1), .ref a0]) rfl ?_
  refine lv_aload_n hx hb dL_law_383 rfl (lv_at hl 4 rfl) ?_
  refine lv_iload hx hb dL_law_384 (lv_at hl 0 rfl) ?_
  refine lv_iconst (v := 2) hx hb dL_law_386 (by decide) ?_
  refine lv_iadd hx hb dL_law_387 ?_
  refine W.eq (g2 := F0 m 388 ls [.int 2, .ref b, .int (xs 1), .ref a0]) rfl ?_
  refine va_sld hx hb hXs hbl hbA hS (i := 2) (show ¬ ((2 : Int32) < 0 ∨ 6 ≤ (2 : Int32).toNatClampNeg) by decide) dL_law_388 ?_
  refine W.eq (g2 := F0 m 389 ls [.int (xs 2), .int (xs 1), .ref a0]) rfl ?_
  rw [hf]
  refine W.eq (g2 := F0 m 389 ls [.int 1, .int (xs 1), .ref a0]) rfl ?_
  refine lv_aload_n hx hb dL_law_389 rfl (lv_at hl 4 rfl) ?_
  refine lv_iload hx hb dL_law_390 (lv_at hl 0 rfl) ?_
  refine lv_iconst (v := 3) hx hb dL_law_392 (by decide) ?_
  refine lv_iadd hx hb dL_law_393 ?_
  refine W.eq (g2 := F0 m 394 ls [.int 3, .ref b, .int 1, .int (xs 1), .ref a0]) rfl ?_
  refine va_sld hx hb hXs hbl hbA hS (i := 3) (show ¬ ((3 : Int32) < 0 ∨ 6 ≤ (3 : Int32).toNatClampNeg) by decide) dL_law_394 ?_
  refine W.eq (g2 := F0 m 395 ls [.int (xs 3), .int 1, .int (xs 1), .ref a0]) rfl ?_
  refine lv_aload_n hx hb dL_law_395 rfl (lv_at hl 4 rfl) ?_
  refine lv_iload hx hb dL_law_396 (lv_at hl 0 rfl) ?_
  refine lv_iconst (v := 4) hx hb dL_law_398 (by decide) ?_
  refine lv_iadd hx hb dL_law_399 ?_
  refine W.eq (g2 := F0 m 400 ls [.int 4, .ref b, .int (xs 3), .int 1, .int (xs 1), .ref a0]) rfl ?_
  refine va_sld hx hb hXs hbl hbA hS (i := 4) (show ¬ ((4 : Int32) < 0 ∨ 6 ≤ (4 : Int32).toNatClampNeg) by decide) dL_law_400 ?_
  refine W.eq (g2 := F0 m 401 ls [.int (xs 4), .int (xs 3), .int 1, .int (xs 1), .ref a0]) rfl ?_
  obtain ⟨hPc, hDc, hFc⟩ := xcut (wc := [(a0, .inr (0, [v12, v13, v14, .ref a4, v15, .ref a3, v16, v17])), (a3, .inr (2, [v48, v49, v50])), (a4, .inl (cT 3, 8, .inr (.inr (.inr (.inr f51))))), (a5, .inr (2, [.ref a6, .int 1, v55])), (a6, .inl (cT 2, 4096, .inr (.inl f56)))]) hP hD hS hA [0, 3, 4, 5, 6] rfl rfl (by decide)
  refine va_calli (vx_runSW (As := [.ref a0, .int (xs 1), .int 1, .int (xs 3), .int (xs 4)]) (rest := []) ⟨hx, hb, hml, hown, htx⟩ (cL_binary_11 l hl9 D cT aK aV H.size a0 a3 a4 a5 a6 (xs 1) (xs 3) (xs 4) v12 v13 v14 v15 v16 v17 v48 v49 v50 f51 b53 v55 f56 hto1 hto2 hto3 hto4 ha1 ha2 ha3 ha4 hb1 hb2 hb3 hb4 (by first | rfl | exact h52 | exact h54 | exact h57 | exact h59 | exact h60 | exact h62 | exact h63 | exact h65 | exact h66 | exact h67 | exact h68 | exact h70 | exact h71 | exact h73 | exact h74 | exact h75 | exact h76) (by first | rfl | exact h52 | exact h54 | exact h57 | exact h59 | exact h60 | exact h62 | exact h63 | exact h65 | exact h66 | exact h67 | exact h68 | exact h70 | exact h71 | exact h73 | exact h74 | exact h75 | exact h76) (by first | rfl | exact h52 | exact h54 | exact h57 | exact h59 | exact h60 | exact h62 | exact h63 | exact h65 | exact h66 | exact h67 | exact h68 | exact h70 | exact h71 | exact h73 | exact h74 | exact h75 | exact h76)) (xcSW 5 htx (xw_goodC kw_3_97) rfl rfl rfl (htx _ kw_1_0) (htx _ kw_3_95) ⟨by decide, by decide, by decide +kernel⟩ ⟨Nat.le_of_ble_eq_true rfl, Nat.le_of_ble_eq_true rfl⟩ (htx _ kw_3_96)) ⟨xPre_blind, (fun U hU hW => ⟨rfl, xPre_of hZ hS hFc hPc hDc hK U hU hW⟩)⟩ rfl rfl hl.1 rfl (lv_room (Nat.le_of_ble_eq_true rfl)) dL_law_401 ⟨Nat.le_of_ble_eq_true rfl, Nat.le_of_ble_eq_true rfl⟩) hS (fun q _ h => hFc q h) hFc (fun r1 u9 t H1 locs ht hvm hr9 hB hz1 hk1 hS => ?_)
  obtain ⟨hP1, hK1, hD1⟩ := hB
  rw [ht] at hP1
  obtain ⟨hP, hD⟩ := xjoin (W := [(a1, .inr (5, [v18, .ref a10, v19, v20, v21, v22, v23, v24, v25, v26, v27, v28, v29, v30, v31, v32, v33, v34, v35, v36, v37, v38, v39, v40, .ref a7, .ref a8, v41, v42, v43, v44, v45, v46])), (a2, .inl (cT 2, 1, .inr (.inl f47))), (a7, .inl (cT 5, 8, .inr (.inr (.inr (.inr f58))))), (a8, .inl (cT 1, 8, .inl f61)), (a9, .inl (cT 0, 4096, .inl f64)), (a10, .inl (cT 4, 1024, .inr (.inr (.inr (.inr f69))))), (a11, .inl (cT 0, 4096, .inl f72)), (a0, .inr (0, [v12, v13, v14, .ref a4, v15, .ref a3, v16, .int 1])), (a3, .inr (2, [v48, .int 0, .int 0])), (a4, .inl (cT 3, 8, .inr (.inr (.inr (.inr f51))))), (a5, .inr (2, [.ref a6, .int 1, v55])), (a6, .inl (cT 2, 4096, .inr (.inl f56)))]) hP hD [0, 3, 4, 5, 6] [1, 2, 7, 8, 9, 10, 11] 7 rfl rfl (by decide) (by decide) hk1 hFc hP1 hD1
  generalize H1 = H at hP hS ⊢
  rw [hr9]
  refine W.eq (g2 := F0 m 404 ls [.int 2]) rfl ?_
  refine lv_istore (lv' := [(5, .int 2), (4, .int 0), (3, .ref a2), (2, .ref a1), (1, .ref a0), (0, .ref b)]) hx hb dL_law_404 hl (by decide) rfl (fun ls hl => ?_)
  refine lv_aload_n hx hb dL_law_406 rfl (lv_at hl 3 rfl) ?_
  refine lv_aload_n hx hb dL_law_407 rfl (lv_at hl 5 rfl) ?_
  refine lv_iload hx hb dL_law_408 (lv_at hl 1 rfl) ?_
  refine lv_iconst (v := 1) hx hb dL_law_410 (by decide) ?_
  refine lv_iadd hx hb dL_law_411 ?_
  refine W.eq (g2 := F0 m 412 ls [.int 1, .ref b, .ref a1]) rfl ?_
  refine va_sld hx hb hXs hbl hbA hS (i := 1) (show ¬ ((1 : Int32) < 0 ∨ 6 ≤ (1 : Int32).toNatClampNeg) by decide) dL_law_412 ?_
  refine W.eq (g2 := F0 m 413 ls [.int (xs 1), .ref a1]) rfl ?_
  refine lv_aload_n hx hb dL_law_413 rfl (lv_at hl 5 rfl) ?_
  refine lv_iload hx hb dL_law_414 (lv_at hl 1 rfl) ?_
  refine lv_iconst (v := 2) hx hb dL_law_416 (by decide) ?_
  refine lv_iadd hx hb dL_law_417 ?_
  refine W.eq (g2 := F0 m 418 ls [.int 2, .ref b, .int (xs 1), .ref a1]) rfl ?_
  refine va_sld hx hb hXs hbl hbA hS (i := 2) (show ¬ ((2 : Int32) < 0 ∨ 6 ≤ (2 : Int32).toNatClampNeg) by decide) dL_law_418 ?_
  refine W.eq (g2 := F0 m 419 ls [.int (xs 2), .int (xs 1), .ref a1]) rfl ?_
  rw [hf]
  refine W.eq (g2 := F0 m 419 ls [.int 1, .int (xs 1), .ref a1]) rfl ?_
  refine lv_aload_n hx hb dL_law_419 rfl (lv_at hl 5 rfl) ?_
  refine lv_iload hx hb dL_law_420 (lv_at hl 1 rfl) ?_
  refine lv_iconst (v := 3) hx hb dL_law_422 (by decide) ?_
  refine lv_iadd hx hb dL_law_423 ?_
  refine W.eq (g2 := F0 m 424 ls [.int 3, .ref b, .int 1, .int (xs 1), .ref a1]) rfl ?_
  refine va_sld hx hb hXs hbl hbA hS (i := 3) (show ¬ ((3 : Int32) < 0 ∨ 6 ≤ (3 : Int32).toNatClampNeg) by decide) dL_law_424 ?_
  refine W.eq (g2 := F0 m 425 ls [.int (xs 3), .int 1, .int (xs 1), .ref a1]) rfl ?_
  refine lv_aload_n hx hb dL_law_425 rfl (lv_at hl 5 rfl) ?_
  refine lv_iload hx hb dL_law_426 (lv_at hl 1 rfl) ?_
  refine lv_iconst (v := 4) hx hb dL_law_428 (by decide) ?_
  refine lv_iadd hx hb dL_law_429 ?_
  refine W.eq (g2 := F0 m 430 ls [.int 4, .ref b, .int (xs 3), .int 1, .int (xs 1), .ref a1]) rfl ?_
  refine va_sld hx hb hXs hbl hbA hS (i := 4) (show ¬ ((4 : Int32) < 0 ∨ 6 ≤ (4 : Int32).toNatClampNeg) by decide) dL_law_430 ?_
  refine W.eq (g2 := F0 m 431 ls [.int (xs 4), .int (xs 3), .int 1, .int (xs 1), .ref a1]) rfl ?_
  obtain ⟨hPc, hDc, hFc⟩ := xcut (wc := [(a1, .inr (5, [v18, .ref a10, v19, v20, v21, v22, v23, v24, v25, v26, v27, v28, v29, v30, v31, v32, v33, v34, v35, v36, v37, v38, v39, v40, .ref a7, .ref a8, v41, v42, v43, v44, v45, v46])), (a7, .inl (cT 5, 8, .inr (.inr (.inr (.inr f58))))), (a8, .inl (cT 1, 8, .inl f61)), (a9, .inl (cT 0, 4096, .inl f64)), (a10, .inl (cT 4, 1024, .inr (.inr (.inr (.inr f69))))), (a11, .inl (cT 0, 4096, .inl f72))]) hP hD hS hA [0, 2, 3, 4, 5, 6] rfl rfl (by decide)
  refine va_callv (va_runV (C := "ValueBenchModel") (As := [.int (xs 1), .int 1, .int (xs 3), .int (xs 4)]) (rest := []) ⟨hx, hb, hml, hown, htx⟩ (cM_binary0_14 l hl9 D cT aK aV H.size a1 a7 a8 a9 a10 a11 (xs 1) (xs 3) (xs 4) v18 v19 v20 v21 v22 v23 v24 v25 v26 v27 v28 v29 v30 v31 v32 v33 v34 v35 v36 v37 v38 v39 v40 v41 v42 v43 v44 v45 v46 f58 f61 f64 f69 f72 hto1 hto2 hto3 hto4 ha1 ha2 ha3 ha4 hb1 hb2 hb3 hb4 (by first | rfl | exact h52 | exact h54 | exact h57 | exact h59 | exact h60 | exact h62 | exact h63 | exact h65 | exact h66 | exact h67 | exact h68 | exact h70 | exact h71 | exact h73 | exact h74 | exact h75 | exact h76) (by first | rfl | exact h52 | exact h54 | exact h57 | exact h59 | exact h60 | exact h62 | exact h63 | exact h65 | exact h66 | exact h67 | exact h68 | exact h70 | exact h71 | exact h73 | exact h74 | exact h75 | exact h76) (by first | rfl | exact h52 | exact h54 | exact h57 | exact h59 | exact h60 | exact h62 | exact h63 | exact h65 | exact h66 | exact h67 | exact h68 | exact h70 | exact h71 | exact h73 | exact h74 | exact h75 | exact h76) (by first | rfl | exact h52 | exact h54 | exact h57 | exact h59 | exact h60 | exact h62 | exact h63 | exact h65 | exact h66 | exact h67 | exact h68 | exact h70 | exact h71 | exact h73 | exact h74 | exact h75 | exact h76) (by first | rfl | exact h52 | exact h54 | exact h57 | exact h59 | exact h60 | exact h62 | exact h63 | exact h65 | exact h66 | exact h67 | exact h68 | exact h70 | exact h71 | exact h73 | exact h74 | exact h75 | exact h76) (by first | rfl | exact h52 | exact h54 | exact h57 | exact h59 | exact h60 | exact h62 | exact h63 | exact h65 | exact h66 | exact h67 | exact h68 | exact h70 | exact h71 | exact h73 | exact h74 | exact h75 | exact h76) (by first | rfl | exact h52 | exact h54 | exact h57 | exact h59 | exact h60 | exact h62 | exact h63 | exact h65 | exact h66 | exact h67 | exact h68 | exact h70 | exact h71 | exact h73 | exact h74 | exact h75 | exact h76) (by first | rfl | exact h52 | exact h54 | exact h57 | exact h59 | exact h60 | exact h62 | exact h63 | exact h65 | exact h66 | exact h67 | exact h68 | exact h70 | exact h71 | exact h73 | exact h74 | exact h75 | exact h76) (by first | rfl | exact h52 | exact h54 | exact h57 | exact h59 | exact h60 | exact h62 | exact h63 | exact h65 | exact h66 | exact h67 | exact h68 | exact h70 | exact h71 | exact h73 | exact h74 | exact h75 | exact h76) (by first | rfl | exact h52 | exact h54 | exact h57 | exact h59 | exact h60 | exact h62 | exact h63 | exact h65 | exact h66 | exact h67 | exact h68 | exact h70 | exact h71 | exact h73 | exact h74 | exact h75 | exact h76) (by first | rfl | exact h52 | exact h54 | exact h57 | exact h59 | exact h60 | exact h62 | exact h63 | exact h65 | exact h66 | exact h67 | exact h68 | exact h70 | exact h71 | exact h73 | exact h74 | exact h75 | exact h76) (by first | rfl | exact h52 | exact h54 | exact h57 | exact h59 | exact h60 | exact h62 | exact h63 | exact h65 | exact h66 | exact h67 | exact h68 | exact h70 | exact h71 | exact h73 | exact h74 | exact h75 | exact h76) (by first | rfl | exact h52 | exact h54 | exact h57 | exact h59 | exact h60 | exact h62 | exact h63 | exact h65 | exact h66 | exact h67 | exact h68 | exact h70 | exact h71 | exact h73 | exact h74 | exact h75 | exact h76) (by first | rfl | exact h52 | exact h54 | exact h57 | exact h59 | exact h60 | exact h62 | exact h63 | exact h65 | exact h66 | exact h67 | exact h68 | exact h70 | exact h71 | exact h73 | exact h74 | exact h75 | exact h76)) ⟨callB_of 4 htx (xw_goodC kw_6_191) rfl rfl rfl (htx _ kw_1_5) (htx _ kw_6_188) ⟨by decide, by decide, by decide +kernel⟩ ⟨Nat.le_of_ble_eq_true rfl, Nat.le_of_ble_eq_true rfl⟩, (htx _ kw_6_189), (htx _ kw_6_190)⟩ ⟨xPre_blind, va_recv hK hP (ci := 5) rfl (q0 := 0) rfl, (fun U hU hW => ⟨rfl, xPre_of hZ hS hFc hPc hDc hK U hU hW⟩)⟩ rfl rfl hl.1 rfl (lv_room (Nat.le_of_ble_eq_true rfl)) dL_law_431 ⟨Nat.le_of_ble_eq_true rfl, Nat.le_of_ble_eq_true rfl⟩) hS (fun q _ h => hFc q h) hFc (fun u9 t H1 locs ht hvm hr9 hB hz1 hk1 hS => ?_)
  obtain ⟨q2, q3, hP1, hK1, hD1⟩ := hB
  rw [ht] at hP1
  obtain ⟨hP, hD⟩ := xjoin (W := [(a2, .inl (cT 2, 1, .inr (.inl f47))), (a0, .inr (0, [v12, v13, v14, .ref a4, v15, .ref a3, v16, .int 1])), (a3, .inr (2, [v48, .int 0, .int 0])), (a4, .inl (cT 3, 8, .inr (.inr (.inr (.inr f51))))), (a5, .inr (2, [.ref a6, .int 1, v55])), (a6, .inl (cT 2, 4096, .inr (.inl f56))), (a1, .inr (5, [.int 2, .ref a10, .int 2, v20, .int 0, v22, v23, .int 0, .int 1, .int 0, v27, v28, .int 0, v30, v31, .ref a11, .int 4, .int 4, .int 0, .int 100, v37, v38, .int 0, .int 1000000000, .ref a7, .ref a8, v41, v42, v43, v44, .int 1, v46])), (a7, .inl (cT 5, 8, .inr (.inr (.inr (.inr f58))))), (a8, .inl (cT 1, 8, .inl f61)), (a9, .inl (cT 0, 4096, .inl f64)), (a10, .inl (cT 4, 1024, .inr (.inr (.inr (.inr (va_up (va_up f69 0 (some q2)) 1 (some q3))))))), (a11, .inl (cT 0, 4096, .inl f72)), (q2, .inr (6, [.int 0, .long 0, .int 0, .int 0, .int 0, .int 1])), (q3, .inr (6, [.int 0, .long 0, .int 0, .int 0, .int 0, .int 1]))]) hP hD [0, 2, 3, 4, 5, 6] [1, 7, 8, 9, 10, 11] 6 rfl rfl (by decide) (by decide) hk1 hFc hP1 hD1
  generalize H1 = H at hP hS ⊢
  refine lv_aload_n hx hb dL_law_434 rfl (lv_at hl 3 rfl) ?_
  obtain ⟨hPc, hDc, hFc⟩ := xcut (wc := [(a1, .inr (5, [.int 2, .ref a10, .int 2, v20, .int 0, v22, v23, .int 0, .int 1, .int 0, v27, v28, .int 0, v30, v31, .ref a11, .int 4, .int 4, .int 0, .int 100, v37, v38, .int 0, .int 1000000000, .ref a7, .ref a8, v41, v42, v43, v44, .int 1, v46]))]) hP hD hS hA [6] rfl rfl (by decide)
  refine va_calli (va_runV (C := "ValueBenchModel") (As := []) (rest := []) ⟨hx, hb, hml, hown, htx⟩ (cM_thrown_2 l hl9 D cT aK aV H.size a1 (.ref a10) (.int 2) v20 (.int 0) v22 v23 (.int 0) (.int 1) (.int 0) v27 v28 (.int 0) v30 v31 (.ref a11) (.int 4) (.int 4) (.int 0) (.int 100) v37 v38 (.int 0) (.int 1000000000) (.ref a7) (.ref a8) v41 v42 v43 v44 (.int 1) v46) ⟨callB_of 0 htx (xw_goodC kw_5_187) rfl rfl rfl (htx _ kw_1_5) (htx _ kw_5_184) ⟨by decide, by decide, by decide +kernel⟩ ⟨Nat.le_of_ble_eq_true rfl, Nat.le_of_ble_eq_true rfl⟩, (htx _ kw_5_185), (htx _ kw_5_186)⟩ ⟨xPre_blind, va_recv hK hP (ci := 5) rfl (q0 := 6) rfl, (fun U hU hW => ⟨rfl, xPre_of hZ hS hFc hPc hDc hK U hU hW⟩)⟩ rfl rfl hl.1 rfl (lv_room (Nat.le_of_ble_eq_true rfl)) dL_law_435 ⟨Nat.le_of_ble_eq_true rfl, Nat.le_of_ble_eq_true rfl⟩) hS (fun q _ h => hFc q h) hFc (fun r4 u9 t H1 locs ht hvm hr9 hB hz1 hk1 hS => ?_)
  obtain ⟨hP1, hK1, hD1⟩ := hB
  rw [ht] at hP1
  obtain ⟨hP, hD⟩ := xjoin (W := [(a2, .inl (cT 2, 1, .inr (.inl f47))), (a0, .inr (0, [v12, v13, v14, .ref a4, v15, .ref a3, v16, .int 1])), (a3, .inr (2, [v48, .int 0, .int 0])), (a4, .inl (cT 3, 8, .inr (.inr (.inr (.inr f51))))), (a5, .inr (2, [.ref a6, .int 1, v55])), (a6, .inl (cT 2, 4096, .inr (.inl f56))), (a7, .inl (cT 5, 8, .inr (.inr (.inr (.inr f58))))), (a8, .inl (cT 1, 8, .inl f61)), (a9, .inl (cT 0, 4096, .inl f64)), (a10, .inl (cT 4, 1024, .inr (.inr (.inr (.inr (va_up (va_up f69 0 (some q2)) 1 (some q3))))))), (a11, .inl (cT 0, 4096, .inl f72)), (q2, .inr (6, [.int 0, .long 0, .int 0, .int 0, .int 0, .int 1])), (q3, .inr (6, [.int 0, .long 0, .int 0, .int 0, .int 0, .int 1])), (a1, .inr (5, [.int 2, .ref a10, .int 2, v20, .int 0, v22, v23, .int 0, .int 1, .int 0, v27, v28, .int 0, v30, v31, .ref a11, .int 4, .int 4, .int 0, .int 100, v37, v38, .int 0, .int 1000000000, .ref a7, .ref a8, v41, v42, v43, v44, .int 1, v46]))]) hP hD [6] [0, 1, 2, 3, 4, 5, 7, 8, 9, 10, 11, 12, 13] 13 rfl rfl (by decide) (by decide) hk1 hFc hP1 hD1
  generalize H1 = H at hP hS ⊢
  rw [hr9]
  refine W.eq (g2 := F0 m 438 ls [.int 2]) rfl ?_
  refine lv_iload hx hb dL_law_438 (lv_at hl 0 rfl) ?_
  refine lv_icmp_eq (tgt := 445) hx hb dL_law_440 (by decide) (fun _ => ?_) (fun h => ((by revert h; decide : False)).elim)
  refine lv_goto (tgt := 906) hx hb dL_law_445 (by decide) ?_
  refine lv_iinc (v := 6) (lv' := [(4, .int 6), (5, .int 2), (3, .ref a2), (2, .ref a1), (1, .ref a0), (0, .ref b)]) hx hb dL_law_906 hl (k := 1) rfl (by decide) (by decide) rfl (fun ls hl => ?_)
  refine lv_goto (tgt := 23) hx hb dL_law_909 (by decide) ?_
  refine lv_iload hx hb dL_law_23 (lv_at hl 0 rfl) ?_
  refine lv_aload_n hx hb dL_law_25 rfl (lv_at hl 5 rfl) ?_
  refine va_slen hx hb hXs hbl hbA hS dL_law_26 ?_
  refine W.eq (g2 := F0 m 27 ls [.int 6, .int 6]) rfl ?_
  refine lv_bipush (v := 6) hx hb dL_law_27 (by decide) ?_
  refine lv_isub hx hb dL_law_29 ?_
  refine W.eq (g2 := F0 m 30 ls [.int 0, .int 6]) rfl ?_
  refine lv_icmp_gt (tgt := 912) hx hb dL_law_30 (by decide) (fun _ => ?_) (fun h => ((by revert h; decide : False)).elim)
  refine lv_iconst (v := 1) hx hb dL_law_912 (by decide) ?_
  exact va_forget (fun q h => hA2 _ (hS.2.2 q h)) (W.widen (k := 600002) (n := 7302232) (Nat.le_of_ble_eq_true rfl) (Nat.le_of_ble_eq_true rfl) (lw_ret hx hb hr hlocks dL_law_913))
set_option maxHeartbeats 400000000 in
set_option maxRecDepth 100000 in
theorem lf_binary1_p3 {p : Program} {e : Env} {s : State} {m : MethodId} {below : List Frame} {meth : Method} {c : Code} (l : Launch) (hl9 : l.stackTraces = false) (D : va_G) (cT : Nat → ClassId) (aK aV : Nat → Nat) {A : Nat → Prop} {b : Nat} {xs : Nat → Int32} (C : xLw p s m meth c b D cT aK aV A) {H : Heap} {locs : List Loc} {ls : Array Slot} (a0 : Nat) (a1 : Nat) (a2 : Nat) (a3 : Nat) (a4 : Nat) (a5 : Nat) (a6 : Nat) (a7 : Nat) (a8 : Nat) (a9 : Nat) (a10 : Nat) (a11 : Nat) (v12 : Value) (v13 : Value) (v14 : Value) (v15 : Value) (v16 : Value) (v17 : Value) (v18 : Value) (v19 : Value) (v20 : Value) (v21 : Value) (v22 : Value) (v23 : Value) (v24 : Value) (v25 : Value) (v26 : Value) (v27 : Value) (v28 : Value) (v29 : Value) (v30 : Value) (v31 : Value) (v32 : Value) (v33 : Value) (v34 : Value) (v35 : Value) (v36 : Value) (v37 : Value) (v38 : Value) (v39 : Value) (v40 : Value) (v41 : Value) (v42 : Value) (v43 : Value) (v44 : Value) (v45 : Value) (v46 : Value) (f47 : Nat → Int64) (v48 : Value) (v49 : Value) (v50 : Value) (f51 : Nat → Option Nat) (b53 : Nat) (v55 : Value) (f56 : Nat → Int64) (f58 : Nat → Option Nat) (f61 : Nat → Int32) (f64 : Nat → Int32) (f69 : Nat → Option Nat) (f72 : Nat → Int32) (h52 : f51 (xs 3).toNatClampNeg = some a5) (h54 : f51 (xs 4).toNatClampNeg = some b53) (h57 : f56 0 = 0) (h59 : f58 (xs 3).toNatClampNeg = some a9) (h60 : f58 (xs 4).toNatClampNeg = some a11) (h62 : f61 (xs 3).toNatClampNeg = 4) (h63 : f61 (xs 4).toNatClampNeg = 4) (h65 : f64 0 = 110) (h66 : f64 1 = 117) (h67 : f64 2 = 108) (h68 : f64 3 = 108) (h70 : f69 0 = none) (h71 : f69 1 = none) (h73 : f72 0 = 110) (h74 : f72 1 = 117) (h75 : f72 2 = 108) (h76 : f72 3 = 108) (hto1 : ¬ (xs 1) < 0) (hto2 : ¬ 7 < (xs 1)) (hto3 : (xs 1) ≤ 7) (hto4 : vp_in (xs 1) 8) (hf : xs 2 = 1) (ha1 : ¬ (xs 3) < 0) (ha2 : ¬ 7 < (xs 3)) (ha3 : (xs 3) ≤ 7) (ha4 : vp_in (xs 3) 8) (hb1 : ¬ (xs 4) < 0) (hb2 : ¬ 7 < (xs 4)) (hb3 : (xs 4) ≤ 7) (hb4 : vp_in (xs 4) 8) (hXs : va_X b 6 xs s s.heap) (hP : va_P D xcl [(a0, .inr (0, [v12, v13, v14, .ref a4, v15, .ref a3, v16, v17])), (a1, .inr (5, [v18, .ref a10, v19, v20, v21, v22, v23, v24, v25, v26, v27, v28, v29, v30, v31, v32, v33, v34, v35, v36, v37, v38, v39, v40, .ref a7, .ref a8, v41, v42, v43, v44, v45, v46])), (a2, .inl (cT 2, 1, .inr (.inl f47))), (a3, .inr (2, [v48, v49, v50])), (a4, .inl (cT 3, 8, .inr (.inr (.inr (.inr f51))))), (a5, .inr (2, [.ref a6, .int 1, v55])), (a6, .inl (cT 2, 4096, .inr (.inl f56))), (a7, .inl (cT 5, 8, .inr (.inr (.inr (.inr f58))))), (a8, .inl (cT 1, 8, .inl f61)), (a9, .inl (cT 0, 4096, .inl f64)), (a10, .inl (cT 4, 1024, .inr (.inr (.inr (.inr f69))))), (a11, .inl (cT 0, 4096, .inl f72))] H) (hD : va_D A [(a0, .inr (0, [v12, v13, v14, .ref a4, v15, .ref a3, v16, v17])), (a1, .inr (5, [v18, .ref a10, v19, v20, v21, v22, v23, v24, v25, v26, v27, v28, v29, v30, v31, v32, v33, v34, v35, v36, v37, v38, v39, v40, .ref a7, .ref a8, v41, v42, v43, v44, v45, v46])), (a2, .inl (cT 2, 1, .inr (.inl f47))), (a3, .inr (2, [v48, v49, v50])), (a4, .inl (cT 3, 8, .inr (.inr (.inr (.inr f51))))), (a5, .inr (2, [.ref a6, .int 1, v55])), (a6, .inl (cT 2, 4096, .inr (.inl f56))), (a7, .inl (cT 5, 8, .inr (.inr (.inr (.inr f58))))), (a8, .inl (cT 1, 8, .inl f61)), (a9, .inl (cT 0, 4096, .inl f64)), (a10, .inl (cT 4, 1024, .inr (.inr (.inr (.inr f69))))), (a11, .inl (cT 0, 4096, .inl f72))]) (hS : va_S A s.heap H locs) (hl : lv_has ls 8 [(4, .int 0), (3, .ref a2), (2, .ref a1), (1, .ref a0), (0, .ref b)]) : W p l e room_1 s m #[Value.ref b] below meth c H locs 54 107242 (lw_Z below #[Value.ref b] s) (F0 m 376 ls []) := by
  obtain ⟨hx, hb, hr, hml, hown, htx, hbl, hbA, hlocks, hK, hZ, hA, hA2⟩ := C
  refine lv_aload_n hx hb dL_law_376 rfl (lv_at hl 3 rfl) ?_
  refine lv_aload_n hx hb dL_law_377 rfl (lv_at hl 4 rfl) ?_
  refine lv_iload hx hb dL_law_378 (lv_at hl 0 rfl) ?_
  refine lv_iconst (v := 1) hx hb dL_law_380 (by decide) ?_
  refine lv_iadd hx hb dL_law_381 ?_
  refine W.eq (g2 := F0 m 382 ls [.int 1, .ref b, .ref a0]) rfl ?_
  refine va_sld hx hb hXs hbl hbA hS (i := 1) (show ¬ ((1 : Int32) < 0 ∨ 6 ≤ (1 : Int32).toNatClampNeg) by decide) dL_law_382 ?_
  refine W.eq (g2 := F0 m 383 ls [.int (xs 1), .ref a0]) rfl ?_
  refine lv_aload_n hx hb dL_law_383 rfl (lv_at hl 4 rfl) ?_
  refine lv_iload hx hb dL_law_384 (lv_at hl 0 rfl) ?_
  refine lv_iconst (v := 2) hx hb dL_law_386 (by decide) ?_
  refine lv_iadd hx hb dL_law_387 ?_
  refine W.eq (g2 := F0 m 388 ls [.int 2, .ref b, .int (xs 1), .ref a0]) rfl ?_
  refine va_sld hx hb hXs hbl hbA hS (i := 2) (show ¬ ((2 : Int32) < 0 ∨ 6 ≤ (2 : Int32).toNatClampNeg) by decide) dL_law_388 ?_
  refine W.eq (g2 := F0 m 389 ls [.int (xs 2), .int (xs 1), .ref a0]) rfl ?_
  rw [hf]
  refine W.eq (g2 := F0 m 389 ls [.int 1, .int (xs 1), .ref a0]) rfl ?_
  refine lv_aload_n hx hb dL_law_389 rfl (lv_at hl 4 rfl) ?_
  refine lv_iload hx hb dL_law_390 (lv_at hl 0 rfl) ?_
  refine lv_iconst (v := 3) hx hb dL_law_392 (by decide) ?_
  refine lv_iadd hx hb dL_law_393 ?_
  refine W.eq (g2 := F0 m 394 ls [.int 3, .ref b, .int 1, .int (xs 1), .ref a0]) rfl ?_
  refine va_sld hx hb hXs hbl hbA hS (i := 3) (show ¬ ((3 : Int32) < 0 ∨ 6 ≤ (3 : Int32).toNatClampNeg) by decide) dL_law_394 ?_
  refine W.eq (g2 := F0 m 395 ls [.int (xs 3), .int 1, .int (xs 1), .ref a0]) rfl ?_
  refine lv_aload_n hx hb dL_law_395 rfl (lv_at hl 4 rfl) ?_
  refine lv_iload hx hb dL_law_396 (lv_at hl 0 rfl) ?_
  refine lv_iconst (v := 4) hx hb dL_law_398 (by decide) ?_
  refine lv_iadd hx hb dL_law_399 ?_
  refine W.eq (g2 := F0 m 400 ls [.int 4, .ref b, .int (xs 3), .int 1, .int (xs 1), .ref a0]) rfl ?_
  refine va_sld hx hb hXs hbl hbA hS (i := 4) (show ¬ ((4 : Int32) < 0 ∨ 6 ≤ (4 : Int32).toNatClampNeg) by decide) dL_law_400 ?_
  refine W.eq (g2 := F0 m 401 ls [.int (xs 4), .int (xs 3), .int 1, .int (xs 1), .ref a0]) rfl ?_
  obtain ⟨hPc, hDc, hFc⟩ := xcut (wc := [(a0, .inr (0, [v12, v13, v14, .ref a4, v15, .ref a3, v16, v17])), (a3, .inr (2, [v48, v49, v50])), (a4, .inl (cT 3, 8, .inr (.inr (.inr (.inr f51))))), (a5, .inr (2, [.ref a6, .int 1, v55])), (a6, .inl (cT 2, 4096, .inr (.inl f56)))]) hP hD hS hA [0, 3, 4, 5, 6] rfl rfl (by decide)
  refine va_calli (vx_runSW (As := [.ref a0, .int (xs 1), .int 1, .int (xs 3), .int (xs 4)]) (rest := []) ⟨hx, hb, hml, hown, htx⟩ (cL_binary_11 l hl9 D cT aK aV H.size a0 a3 a4 a5 a6 (xs 1) (xs 3) (xs 4) v12 v13 v14 v15 v16 v17 v48 v49 v50 f51 b53 v55 f56 hto1 hto2 hto3 hto4 ha1 ha2 ha3 ha4 hb1 hb2 hb3 hb4 (by first | rfl | exact h52 | exact h54 | exact h57 | exact h59 | exact h60 | exact h62 | exact h63 | exact h65 | exact h66 | exact h67 | exact h68 | exact h70 | exact h71 | exact h73 | exact h74 | exact h75 | exact h76) (by first | rfl | exact h52 | exact h54 | exact h57 | exact h59 | exact h60 | exact h62 | exact h63 | exact h65 | exact h66 | exact h67 | exact h68 | exact h70 | exact h71 | exact h73 | exact h74 | exact h75 | exact h76) (by first | rfl | exact h52 | exact h54 | exact h57 | exact h59 | exact h60 | exact h62 | exact h63 | exact h65 | exact h66 | exact h67 | exact h68 | exact h70 | exact h71 | exact h73 | exact h74 | exact h75 | exact h76)) (xcSW 5 htx (xw_goodC kw_3_97) rfl rfl rfl (htx _ kw_1_0) (htx _ kw_3_95) ⟨by decide, by decide, by decide +kernel⟩ ⟨Nat.le_of_ble_eq_true rfl, Nat.le_of_ble_eq_true rfl⟩ (htx _ kw_3_96)) ⟨xPre_blind, (fun U hU hW => ⟨rfl, xPre_of hZ hS hFc hPc hDc hK U hU hW⟩)⟩ rfl rfl hl.1 rfl (lv_room (Nat.le_of_ble_eq_true rfl)) dL_law_401 ⟨Nat.le_of_ble_eq_true rfl, Nat.le_of_ble_eq_true rfl⟩) hS (fun q _ h => hFc q h) hFc (fun r1 u9 t H1 locs ht hvm hr9 hB hz1 hk1 hS => ?_)
  obtain ⟨hP1, hK1, hD1⟩ := hB
  rw [ht] at hP1
  obtain ⟨hP, hD⟩ := xjoin (W := [(a1, .inr (5, [v18, .ref a10, v19, v20, v21, v22, v23, v24, v25, v26, v27, v28, v29, v30, v31, v32, v33, v34, v35, v36, v37, v38, v39, v40, .ref a7, .ref a8, v41, v42, v43, v44, v45, v46])), (a2, .inl (cT 2, 1, .inr (.inl f47))), (a7, .inl (cT 5, 8, .inr (.inr (.inr (.inr f58))))), (a8, .inl (cT 1, 8, .inl f61)), (a9, .inl (cT 0, 4096, .inl f64)), (a10, .inl (cT 4, 1024, .inr (.inr (.inr (.inr f69))))), (a11, .inl (cT 0, 4096, .inl f72)), (a0, .inr (0, [v12, v13, v14, .ref a4, v15, .ref a3, v16, .int 1])), (a3, .inr (2, [v48, .int 0, .int 0])), (a4, .inl (cT 3, 8, .inr (.inr (.inr (.inr f51))))), (a5, .inr (2, [.ref a6, .int 1, v55])), (a6, .inl (cT 2, 4096, .inr (.inl f56)))]) hP hD [0, 3, 4, 5, 6] [1, 2, 7, 8, 9, 10, 11] 7 rfl rfl (by decide) (by decide) hk1 hFc hP1 hD1
  generalize H1 = H at hP hS ⊢
  rw [hr9]
  refine W.eq (g2 := F0 m 404 ls [.int 2]) rfl ?_
  refine lv_istore (lv' := [(5, .int 2), (4, .int 0), (3, .ref a2), (2, .ref a1), (1, .ref a0), (0, .ref b)]) hx hb dL_law_404 hl (by decide) rfl (fun ls hl => ?_)
  refine lv_aload_n hx hb dL_law_406 rfl (lv_at hl 3 rfl) ?_
  refine lv_aload_n hx hb dL_law_407 rfl (lv_at hl 5 rfl) ?_
  refine lv_iload hx hb dL_law_408 (lv_at hl 1 rfl) ?_
  refine lv_iconst (v := 1) hx hb dL_law_410 (by decide) ?_
  refine lv_iadd hx hb dL_law_411 ?_
  refine W.eq (g2 := F0 m 412 ls [.int 1, .ref b, .ref a1]) rfl ?_
  refine va_sld hx hb hXs hbl hbA hS (i := 1) (show ¬ ((1 : Int32) < 0 ∨ 6 ≤ (1 : Int32).toNatClampNeg) by decide) dL_law_412 ?_
  refine W.eq (g2 := F0 m 413 ls [.int (xs 1), .ref a1]) rfl ?_
  refine lv_aload_n hx hb dL_law_413 rfl (lv_at hl 5 rfl) ?_
  refine lv_iload hx hb dL_law_414 (lv_at hl 1 rfl) ?_
  refine lv_iconst (v := 2) hx hb dL_law_416 (by decide) ?_
  refine lv_iadd hx hb dL_law_417 ?_
  refine W.eq (g2 := F0 m 418 ls [.int 2, .ref b, .int (xs 1), .ref a1]) rfl ?_
  refine va_sld hx hb hXs hbl hbA hS (i := 2) (show ¬ ((2 : Int32) < 0 ∨ 6 ≤ (2 : Int32).toNatClampNeg) by decide) dL_law_418 ?_
  refine W.eq (g2 := F0 m 419 ls [.int (xs 2), .int (xs 1), .ref a1]) rfl ?_
  rw [hf]
  refine W.eq (g2 := F0 m 419 ls [.int 1, .int (xs 1), .ref a1]) rfl ?_
  refine lv_aload_n hx hb dL_law_419 rfl (lv_at hl 5 rfl) ?_
  refine lv_iload hx hb dL_law_420 (lv_at hl 1 rfl) ?_
  refine lv_iconst (v := 3) hx hb dL_law_422 (by decide) ?_
  refine lv_iadd hx hb dL_law_423 ?_
  refine W.eq (g2 := F0 m 424 ls [.int 3, .ref b, .int 1, .int (xs 1), .ref a1]) rfl ?_
  refine va_sld hx hb hXs hbl hbA hS (i := 3) (show ¬ ((3 : Int32) < 0 ∨ 6 ≤ (3 : Int32).toNatClampNeg) by decide) dL_law_424 ?_
  refine W.eq (g2 := F0 m 425 ls [.int (xs 3), .int 1, .int (xs 1), .ref a1]) rfl ?_
  refine lv_aload_n hx hb dL_law_425 rfl (lv_at hl 5 rfl) ?_
  refine lv_iload hx hb dL_law_426 (lv_at hl 1 rfl) ?_
  refine lv_iconst (v := 4) hx hb dL_law_428 (by decide) ?_
  refine lv_iadd hx hb dL_law_429 ?_
  refine W.eq (g2 := F0 m 430 ls [.int 4, .ref b, .int (xs 3), .int 1, .int (xs 1), .ref a1]) rfl ?_
  refine va_sld hx hb hXs hbl hbA hS (i := 4) (show ¬ ((4 : Int32) < 0 ∨ 6 ≤ (4 : Int32).toNatClampNeg) by decide) dL_law_430 ?_
  refine W.eq (g2 := F0 m 431 ls [.int (xs 4), .int (xs 3), .int 1, .int (xs 1), .ref a1]) rfl ?_
  obtain ⟨hPc, hDc, hFc⟩ := xcut (wc := [(a1, .inr (5, [v18, .ref a10, v19, v20, v21, v22, v23, v24, v25, v26, v27, v28, v29, v30, v31, v32, v33, v34, v35, v36, v37, v38, v39, v40, .ref a7, .ref a8, v41, v42, v43, v44, v45, v46])), (a7, .inl (cT 5, 8, .inr (.inr (.inr (.inr f58))))), (a8, .inl (cT 1, 8, .inl f61)), (a9, .inl (cT 0, 4096, .inl f64)), (a10, .inl (cT 4, 1024, .inr (.inr (.inr (.inr f69))))), (a11, .inl (cT 0, 4096, .inl f72))]) hP hD hS hA [0, 2, 3, 4, 5, 6] rfl rfl (by decide)
  refine va_callv (va_runV (C := "ValueBenchModel") (As := [.int (xs 1), .int 1, .int (xs 3), .int (xs 4)]) (rest := []) ⟨hx, hb, hml, hown, htx⟩ (cM_binary0_14 l hl9 D cT aK aV H.size a1 a7 a8 a9 a10 a11 (xs 1) (xs 3) (xs 4) v18 v19 v20 v21 v22 v23 v24 v25 v26 v27 v28 v29 v30 v31 v32 v33 v34 v35 v36 v37 v38 v39 v40 v41 v42 v43 v44 v45 v46 f58 f61 f64 f69 f72 hto1 hto2 hto3 hto4 ha1 ha2 ha3 ha4 hb1 hb2 hb3 hb4 (by first | rfl | exact h52 | exact h54 | exact h57 | exact h59 | exact h60 | exact h62 | exact h63 | exact h65 | exact h66 | exact h67 | exact h68 | exact h70 | exact h71 | exact h73 | exact h74 | exact h75 | exact h76) (by first | rfl | exact h52 | exact h54 | exact h57 | exact h59 | exact h60 | exact h62 | exact h63 | exact h65 | exact h66 | exact h67 | exact h68 | exact h70 | exact h71 | exact h73 | exact h74 | exact h75 | exact h76) (by first | rfl | exact h52 | exact h54 | exact h57 | exact h59 | exact h60 | exact h62 | exact h63 | exact h65 | exact h66 | exact h67 | exact h68 | exact h70 | exact h71 | exact h73 | exact h74 | exact h75 | exact h76) (by first | rfl | exact h52 | exact h54 | exact h57 | exact h59 | exact h60 | exact h62 | exact h63 | exact h65 | exact h66 | exact h67 | exact h68 | exact h70 | exact h71 | exact h73 | exact h74 | exact h75 | exact h76) (by first | rfl | exact h52 | exact h54 | exact h57 | exact h59 | exact h60 | exact h62 | exact h63 | exact h65 | exact h66 | exact h67 | exact h68 | exact h70 | exact h71 | exact h73 | exact h74 | exact h75 | exact h76) (by first | rfl | exact h52 | exact h54 | exact h57 | exact h59 | exact h60 | exact h62 | exact h63 | exact h65 | exact h66 | exact h67 | exact h68 | exact h70 | exact h71 | exact h73 | exact h74 | exact h75 | exact h76) (by first | rfl | exact h52 | exact h54 | exact h57 | exact h59 | exact h60 | exact h62 | exact h63 | exact h65 | exact h66 | exact h67 | exact h68 | exact h70 | exact h71 | exact h73 | exact h74 | exact h75 | exact h76) (by first | rfl | exact h52 | exact h54 | exact h57 | exact h59 | exact h60 | exact h62 | exact h63 | exact h65 | exact h66 | exact h67 | exact h68 | exact h70 | exact h71 | exact h73 | exact h74 | exact h75 | exact h76) (by first | rfl | exact h52 | exact h54 | exact h57 | exact h59 | exact h60 | exact h62 | exact h63 | exact h65 | exact h66 | exact h67 | exact h68 | exact h70 | exact h71 | exact h73 | exact h74 | exact h75 | exact h76) (by first | rfl | exact h52 | exact h54 | exact h57 | exact h59 | exact h60 | exact h62 | exact h63 | exact h65 | exact h66 | exact h67 | exact h68 | exact h70 | exact h71 | exact h73 | exact h74 | exact h75 | exact h76) (by first | rfl | exact h52 | exact h54 | exact h57 | exact h59 | exact h60 | exact h62 | exact h63 | exact h65 | exact h66 | exact h67 | exact h68 | exact h70 | exact h71 | exact h73 | exact h74 | exact h75 | exact h76) (by first | rfl | exact h52 | exact h54 | exact h57 | exact h59 | exact h60 | exact h62 | exact h63 | exact h65 | exact h66 | exact h67 | exact h68 | exact h70 | exact h71 | exact h73 | exact h74 | exact h75 | exact h76) (by first | rfl | exact h52 | exact h54 | exact h57 | exact h59 | exact h60 | exact h62 | exact h63 | exact h65 | exact h66 | exact h67 | exact h68 | exact h70 | exact h71 | exact h73 | exact h74 | exact h75 | exact h76) (by first | rfl | exact h52 | exact h54 | exact h57 | exact h59 | exact h60 | exact h62 | exact h63 | exact h65 | exact h66 | exact h67 | exact h68 | exact h70 | exact h71 | exact h73 | exact h74 | exact h75 | exact h76)) ⟨callB_of 4 htx (xw_goodC kw_6_191) rfl rfl rfl (htx _ kw_1_5) (htx _ kw_6_188) ⟨by decide, by decide, by decide +kernel⟩ ⟨Nat.le_of_ble_eq_true rfl, Nat.le_of_ble_eq_true rfl⟩, (htx _ kw_6_189), (htx _ kw_6_190)⟩ ⟨xPre_blind, va_recv hK hP (ci := 5) rfl (q0 := 0) rfl, (fun U hU hW => ⟨rfl, xPre_of hZ hS hFc hPc hDc hK U hU hW⟩)⟩ rfl rfl hl.1 rfl (lv_room (Nat.le_of_ble_eq_true rfl)) dL_law_431 ⟨Nat.le_of_ble_eq_true rfl, Nat.le_of_ble_eq_true rfl⟩) hS (fun q _ h => hFc q h) hFc (fun u9 t H1 locs ht hvm hr9 hB hz1 hk1 hS => ?_)
  obtain ⟨q2, q3, hP1, hK1, hD1⟩ := hB
  rw [ht] at hP1
  obtain ⟨hP, hD⟩ := xjoin (W := [(a2, .inl (cT 2, 1, .inr (.inl f47))), (a0, .inr (0, [v12, v13, v14, .ref a4, v15, .ref a3, v16, .int 1])), (a3, .inr (2, [v48, .int 0, .int 0])), (a4, .inl (cT 3, 8, .inr (.inr (.inr (.inr f51))))), (a5, .inr (2, [.ref a6, .int 1, v55])), (a6, .inl (cT 2, 4096, .inr (.inl f56))), (a1, .inr (5, [.int 2, .ref a10, .int 2, v20, .int 0, v22, v23, .int 0, .int 1, .int 0, v27, v28, .int 0, v30, v31, .ref a11, .int 4, .int 4, .int 0, .int 100, v37, v38, .int 0, .int 1000000000, .ref a7, .ref a8, v41, v42, v43, v44, .int 1, v46])), (a7, .inl (cT 5, 8, .inr (.inr (.inr (.inr f58))))), (a8, .inl (cT 1, 8, .inl f61)), (a9, .inl (cT 0, 4096, .inl f64)), (a10, .inl (cT 4, 1024, .inr (.inr (.inr (.inr (va_up (va_up f69 0 (some q2)) 1 (some q3))))))), (a11, .inl (cT 0, 4096, .inl f72)), (q2, .inr (6, [.int 0, .long 0, .int 0, .int 0, .int 0, .int 1])), (q3, .inr (6, [.int 0, .long 0, .int 0, .int 0, .int 0, .int 1]))]) hP hD [0, 2, 3, 4, 5, 6] [1, 7, 8, 9, 10, 11] 6 rfl rfl (by decide) (by decide) hk1 hFc hP1 hD1
  generalize H1 = H at hP hS ⊢
  refine lv_aload_n hx hb dL_law_434 rfl (lv_at hl 3 rfl) ?_
  obtain ⟨hPc, hDc, hFc⟩ := xcut (wc := [(a1, .inr (5, [.int 2, .ref a10, .int 2, v20, .int 0, v22, v23, .int 0, .int 1, .int 0, v27, v28, .int 0, v30, v31, .ref a11, .int 4, .int 4, .int 0, .int 100, v37, v38, .int 0, .int 1000000000, .ref a7, .ref a8, v41, v42, v43, v44, .int 1, v46]))]) hP hD hS hA [6] rfl rfl (by decide)
  refine va_calli (va_runV (C := "ValueBenchModel") (As := []) (rest := []) ⟨hx, hb, hml, hown, htx⟩ (cM_thrown_2 l hl9 D cT aK aV H.size a1 (.ref a10) (.int 2) v20 (.int 0) v22 v23 (.int 0) (.int 1) (.int 0) v27 v28 (.int 0) v30 v31 (.ref a11) (.int 4) (.int 4) (.int 0) (.int 100) v37 v38 (.int 0) (.int 1000000000) (.ref a7) (.ref a8) v41 v42 v43 v44 (.int 1) v46) ⟨callB_of 0 htx (xw_goodC kw_5_187) rfl rfl rfl (htx _ kw_1_5) (htx _ kw_5_184) ⟨by decide, by decide, by decide +kernel⟩ ⟨Nat.le_of_ble_eq_true rfl, Nat.le_of_ble_eq_true rfl⟩, (htx _ kw_5_185), (htx _ kw_5_186)⟩ ⟨xPre_blind, va_recv hK hP (ci := 5) rfl (q0 := 6) rfl, (fun U hU hW => ⟨rfl, xPre_of hZ hS hFc hPc hDc hK U hU hW⟩)⟩ rfl rfl hl.1 rfl (lv_room (Nat.le_of_ble_eq_true rfl)) dL_law_435 ⟨Nat.le_of_ble_eq_true rfl, Nat.le_of_ble_eq_true rfl⟩) hS (fun q _ h => hFc q h) hFc (fun r4 u9 t H1 locs ht hvm hr9 hB hz1 hk1 hS => ?_)
  obtain ⟨hP1, hK1, hD1⟩ := hB
  rw [ht] at hP1
  obtain ⟨hP, hD⟩ := xjoin (W := [(a2, .inl (cT 2, 1, .inr (.inl f47))), (a0, .inr (0, [v12, v13, v14, .ref a4, v15, .ref a3, v16, .int 1])), (a3, .inr (2, [v48, .int 0, .int 0])), (a4, .inl (cT 3, 8, .inr (.inr (.inr (.inr f51))))), (a5, .inr (2, [.ref a6, .int 1, v55])), (a6, .inl (cT 2, 4096, .inr (.inl f56))), (a7, .inl (cT 5, 8, .inr (.inr (.inr (.inr f58))))), (a8, .inl (cT 1, 8, .inl f61)), (a9, .inl (cT 0, 4096, .inl f64)), (a10, .inl (cT 4, 1024, .inr (.inr (.inr (.inr (va_up (va_up f69 0 (some q2)) 1 (some q3))))))), (a11, .inl (cT 0, 4096, .inl f72)), (q2, .inr (6, [.int 0, .long 0, .int 0, .int 0, .int 0, .int 1])), (q3, .inr (6, [.int 0, .long 0, .int 0, .int 0, .int 0, .int 1])), (a1, .inr (5, [.int 2, .ref a10, .int 2, v20, .int 0, v22, v23, .int 0, .int 1, .int 0, v27, v28, .int 0, v30, v31, .ref a11, .int 4, .int 4, .int 0, .int 100, v37, v38, .int 0, .int 1000000000, .ref a7, .ref a8, v41, v42, v43, v44, .int 1, v46]))]) hP hD [6] [0, 1, 2, 3, 4, 5, 7, 8, 9, 10, 11, 12, 13] 13 rfl rfl (by decide) (by decide) hk1 hFc hP1 hD1
  generalize H1 = H at hP hS ⊢
  rw [hr9]
  refine W.eq (g2 := F0 m 438 ls [.int 2]) rfl ?_
  refine lv_iload hx hb dL_law_438 (lv_at hl 0 rfl) ?_
  refine lv_icmp_eq (tgt := 445) hx hb dL_law_440 (by decide) (fun _ => ?_) (fun h => ((by revert h; decide : False)).elim)
  refine lv_goto (tgt := 906) hx hb dL_law_445 (by decide) ?_
  refine lv_iinc (v := 6) (lv' := [(4, .int 6), (5, .int 2), (3, .ref a2), (2, .ref a1), (1, .ref a0), (0, .ref b)]) hx hb dL_law_906 hl (k := 1) rfl (by decide) (by decide) rfl (fun ls hl => ?_)
  refine lv_goto (tgt := 23) hx hb dL_law_909 (by decide) ?_
  refine lv_iload hx hb dL_law_23 (lv_at hl 0 rfl) ?_
  refine lv_aload_n hx hb dL_law_25 rfl (lv_at hl 5 rfl) ?_
  refine va_slen hx hb hXs hbl hbA hS dL_law_26 ?_
  refine W.eq (g2 := F0 m 27 ls [.int 6, .int 6]) rfl ?_
  refine lv_bipush (v := 6) hx hb dL_law_27 (by decide) ?_
  refine lv_isub hx hb dL_law_29 ?_
  refine W.eq (g2 := F0 m 30 ls [.int 0, .int 6]) rfl ?_
  refine lv_icmp_gt (tgt := 912) hx hb dL_law_30 (by decide) (fun _ => ?_) (fun h => ((by revert h; decide : False)).elim)
  refine lv_iconst (v := 1) hx hb dL_law_912 (by decide) ?_
  exact va_forget (fun q h => hA2 _ (hS.2.2 q h)) (W.widen (k := 600002) (n := 7302232) (Nat.le_of_ble_eq_true rfl) (Nat.le_of_ble_eq_true rfl) (lw_ret hx hb hr hlocks dL_law_913))
set_option maxHeartbeats 400000000 in
set_option maxRecDepth 100000 in
theorem lf_binary1_p0 {p : Program} {e : Env} {s : State} {m : MethodId} {below : List Frame} {meth : Method} {c : Code} (l : Launch) (hl9 : l.stackTraces = false) (D : va_G) (cT : Nat → ClassId) (aK aV : Nat → Nat) {A : Nat → Prop} {b : Nat} {xs : Nat → Int32} (C : xLw p s m meth c b D cT aK aV A) {H : Heap} {locs : List Loc} {ls : Array Slot} (a0 : Nat) (a1 : Nat) (a2 : Nat) (a3 : Nat) (a4 : Nat) (a5 : Nat) (a6 : Nat) (a7 : Nat) (a8 : Nat) (a9 : Nat) (a10 : Nat) (a11 : Nat) (v12 : Value) (v13 : Value) (v14 : Value) (v15 : Value) (v16 : Value) (v17 : Value) (v18 : Value) (v19 : Value) (v20 : Value) (v21 : Value) (v22 : Value) (v23 : Value) (v24 : Value) (v25 : Value) (v26 : Value) (v27 : Value) (v28 : Value) (v29 : Value) (v30 : Value) (v31 : Value) (v32 : Value) (v33 : Value) (v34 : Value) (v35 : Value) (v36 : Value) (v37 : Value) (v38 : Value) (v39 : Value) (v40 : Value) (v41 : Value) (v42 : Value) (v43 : Value) (v44 : Value) (v45 : Value) (v46 : Value) (f47 : Nat → Int64) (v48 : Value) (v49 : Value) (v50 : Value) (f51 : Nat → Option Nat) (b53 : Nat) (v55 : Value) (f56 : Nat → Int64) (f58 : Nat → Option Nat) (f61 : Nat → Int32) (f64 : Nat → Int32) (f69 : Nat → Option Nat) (f72 : Nat → Int32) (h52 : f51 (xs 3).toNatClampNeg = some a5) (h54 : f51 (xs 4).toNatClampNeg = some b53) (h57 : f56 0 = 0) (h59 : f58 (xs 3).toNatClampNeg = some a9) (h60 : f58 (xs 4).toNatClampNeg = some a11) (h62 : f61 (xs 3).toNatClampNeg = 4) (h63 : f61 (xs 4).toNatClampNeg = 4) (h65 : f64 0 = 110) (h66 : f64 1 = 117) (h67 : f64 2 = 108) (h68 : f64 3 = 108) (h70 : f69 0 = none) (h71 : f69 1 = none) (h73 : f72 0 = 110) (h74 : f72 1 = 117) (h75 : f72 2 = 108) (h76 : f72 3 = 108) (hto1 : ¬ (xs 1) < 0) (hto2 : ¬ 7 < (xs 1)) (hto3 : (xs 1) ≤ 7) (hto4 : vp_in (xs 1) 8) (hf : xs 2 = 1) (ha1 : ¬ (xs 3) < 0) (ha2 : ¬ 7 < (xs 3)) (ha3 : (xs 3) ≤ 7) (ha4 : vp_in (xs 3) 8) (hb1 : ¬ (xs 4) < 0) (hb2 : ¬ 7 < (xs 4)) (hb3 : (xs 4) ≤ 7) (hb4 : vp_in (xs 4) 8) (hXs : va_X b 6 xs s s.heap) (hP : va_P D xcl [(a0, .inr (0, [v12, v13, v14, .ref a4, v15, .ref a3, v16, v17])), (a1, .inr (5, [v18, .ref a10, v19, v20, v21, v22, v23, v24, v25, v26, v27, v28, v29, v30, v31, v32, v33, v34, v35, v36, v37, v38, v39, v40, .ref a7, .ref a8, v41, v42, v43, v44, v45, v46])), (a2, .inl (cT 2, 1, .inr (.inl f47))), (a3, .inr (2, [v48, v49, v50])), (a4, .inl (cT 3, 8, .inr (.inr (.inr (.inr f51))))), (a5, .inr (2, [.ref a6, .int 1, v55])), (a6, .inl (cT 2, 4096, .inr (.inl f56))), (a7, .inl (cT 5, 8, .inr (.inr (.inr (.inr f58))))), (a8, .inl (cT 1, 8, .inl f61)), (a9, .inl (cT 0, 4096, .inl f64)), (a10, .inl (cT 4, 1024, .inr (.inr (.inr (.inr f69))))), (a11, .inl (cT 0, 4096, .inl f72))] H) (hD : va_D A [(a0, .inr (0, [v12, v13, v14, .ref a4, v15, .ref a3, v16, v17])), (a1, .inr (5, [v18, .ref a10, v19, v20, v21, v22, v23, v24, v25, v26, v27, v28, v29, v30, v31, v32, v33, v34, v35, v36, v37, v38, v39, v40, .ref a7, .ref a8, v41, v42, v43, v44, v45, v46])), (a2, .inl (cT 2, 1, .inr (.inl f47))), (a3, .inr (2, [v48, v49, v50])), (a4, .inl (cT 3, 8, .inr (.inr (.inr (.inr f51))))), (a5, .inr (2, [.ref a6, .int 1, v55])), (a6, .inl (cT 2, 4096, .inr (.inl f56))), (a7, .inl (cT 5, 8, .inr (.inr (.inr (.inr f58))))), (a8, .inl (cT 1, 8, .inl f61)), (a9, .inl (cT 0, 4096, .inl f64)), (a10, .inl (cT 4, 1024, .inr (.inr (.inr (.inr f69))))), (a11, .inl (cT 0, 4096, .inl f72))]) (hS : va_S A s.heap H locs) (hl : lv_has ls 8 [(4, .int 0), (3, .ref a2), (2, .ref a1), (1, .ref a0), (0, .ref b)]) : W p l e room_1 s m #[Value.ref b] below meth c H locs 54 107242 (lw_Z below #[Value.ref b] s) (F0 m 376 ls []) := by
  obtain ⟨hx, hb, hr, hml, hown, htx, hbl, hbA, hlocks, hK, hZ, hA, hA2⟩ := C
  refine lv_aload_n hx hb dL_law_376 rfl (lv_at hl 3 rfl) ?_
  refine lv_aload_n hx hb dL_law_377 rfl (lv_at hl 4 rfl) ?_
  refine lv_iload hx hb dL_law_378 (lv_at hl 0 rfl) ?_
  refine lv_iconst (v := 1) hx hb dL_law_380 (by decide) ?_
  refine lv_iadd hx hb dL_law_381 ?_
  refine W.eq (g2 := F0 m 382 ls [.int 1, .ref b, .ref a0]) rfl ?_
  refine va_sld hx hb hXs hbl hbA hS (i := 1) (show ¬ ((1 : Int32) < 0 ∨ 6 ≤ (1 : Int32).toNatClampNeg) by decide) dL_law_382 ?_
  refine W.eq (g2 := F0 m 383 ls [.int (xs 1), .ref a0]) rfl ?_
  refine lv_aload_n hx hb dL_law_383 rfl (lv_at hl 4 rfl) ?_
  refine lv_iload hx hb dL_law_384 (lv_at hl 0 rfl) ?_
  refine lv_iconst (v := 2) hx hb dL_law_386 (by decide) ?_
  refine lv_iadd hx hb dL_law_387 ?_
  refine W.eq (g2 := F0 m 388 ls [.int 2, .ref b, .int (xs 1), .ref a0]) rfl ?_
  refine va_sld hx hb hXs hbl hbA hS (i := 2) (show ¬ ((2 : Int32) < 0 ∨ 6 ≤ (2 : Int32).toNatClampNeg) by decide) dL_law_388 ?_
  refine W.eq (g2 := F0 m 389 ls [.int (xs 2), .int (xs 1), .ref a0]) rfl ?_
  rw [hf]
  refine W.eq (g2 := F0 m 389 ls [.int 1, .int (xs 1), .ref a0]) rfl ?_
  refine lv_aload_n hx hb dL_law_389 rfl (lv_at hl 4 rfl) ?_
  refine lv_iload hx hb dL_law_390 (lv_at hl 0 rfl) ?_
  refine lv_iconst (v := 3) hx hb dL_law_392 (by decide) ?_
  refine lv_iadd hx hb dL_law_393 ?_
  refine W.eq (g2 := F0 m 394 ls [.int 3, .ref b, .int 1, .int (xs 1), .ref a0]) rfl ?_
  refine va_sld hx hb hXs hbl hbA hS (i := 3) (show ¬ ((3 : Int32) < 0 ∨ 6 ≤ (3 : Int32).toNatClampNeg) by decide) dL_law_394 ?_
  refine W.eq (g2 := F0 m 395 ls [.int (xs 3), .int 1, .int (xs 1), .ref a0]) rfl ?_
  refine lv_aload_n hx hb dL_law_395 rfl (lv_at hl 4 rfl) ?_
  refine lv_iload hx hb dL_law_396 (lv_at hl 0 rfl) ?_
  refine lv_iconst (v := 4) hx hb dL_law_398 (by decide) ?_
  refine lv_iadd hx hb dL_law_399 ?_
  refine W.eq (g2 := F0 m 400 ls [.int 4, .ref b, .int (xs 3), .int 1, .int (xs 1), .ref a0]) rfl ?_
  refine va_sld hx hb hXs hbl hbA hS (i := 4) (show ¬ ((4 : Int32) < 0 ∨ 6 ≤ (4 : Int32).toNatClampNeg) by decide) dL_law_400 ?_
  refine W.eq (g2 := F0 m 401 ls [.int (xs 4), .int (xs 3), .int 1, .int (xs 1), .ref a0]) rfl ?_
  obtain ⟨hPc, hDc, hFc⟩ := xcut (wc := [(a0, .inr (0, [v12, v13, v14, .ref a4, v15, .ref a3, v16, v17])), (a3, .inr (2, [v48, v49, v50])), (a4, .inl (cT 3, 8, .inr (.inr (.inr (.inr f51))))), (a5, .inr (2, [.ref a6, .int 1, v55])), (a6, .inl (cT 2, 4096, .inr (.inl f56)))]) hP hD hS hA [0, 3, 4, 5, 6] rfl rfl (by decide)
  refine va_calli (vx_runSW (As := [.ref a0, .int (xs 1), .int 1, .int (xs 3), .int (xs 4)]) (rest := []) ⟨hx, hb, hml, hown, htx⟩ (cL_binary_11 l hl9 D cT aK aV H.size a0 a3 a4 a5 a6 (xs 1) (xs 3) (xs 4) v12 v13 v14 v15 v16 v17 v48 v49 v50 f51 b53 v55 f56 hto1 hto2 hto3 hto4 ha1 ha2 ha3 ha4 hb1 hb2 hb3 hb4 (by first | rfl | exact h52 | exact h54 | exact h57 | exact h59 | exact h60 | exact h62 | exact h63 | exact h65 | exact h66 | exact h67 | exact h68 | exact h70 | exact h71 | exact h73 | exact h74 | exact h75 | exact h76) (by first | rfl | exact h52 | exact h54 | exact h57 | exact h59 | exact h60 | exact h62 | exact h63 | exact h65 | exact h66 | exact h67 | exact h68 | exact h70 | exact h71 | exact h73 | exact h74 | exact h75 | exact h76) (by first | rfl | exact h52 | exact h54 | exact h57 | exact h59 | exact h60 | exact h62 | exact h63 | exact h65 | exact h66 | exact h67 | exact h68 | exact h70 | exact h71 | exact h73 | exact h74 | exact h75 | exact h76)) (xcSW 5 htx (xw_goodC kw_3_97) rfl rfl rfl (htx _ kw_1_0) (htx _ kw_3_95) ⟨by decide, by decide, by decide +kernel⟩ ⟨Nat.le_of_ble_eq_true rfl, Nat.le_of_ble_eq_true rfl⟩ (htx _ kw_3_96)) ⟨xPre_blind, (fun U hU hW => ⟨rfl, xPre_of hZ hS hFc hPc hDc hK U hU hW⟩)⟩ rfl rfl hl.1 rfl (lv_room (Nat.le_of_ble_eq_true rfl)) dL_law_401 ⟨Nat.le_of_ble_eq_true rfl, Nat.le_of_ble_eq_true rfl⟩) hS (fun q _ h => hFc q h) hFc (fun r1 u9 t H1 locs ht hvm hr9 hB hz1 hk1 hS => ?_)
  obtain ⟨hP1, hK1, hD1⟩ := hB
  rw [ht] at hP1
  obtain ⟨hP, hD⟩ := xjoin (W := [(a1, .inr (5, [v18, .ref a10, v19, v20, v21, v22, v23, v24, v25, v26, v27, v28, v29, v30, v31, v32, v33, v34, v35, v36, v37, v38, v39, v40, .ref a7, .ref a8, v41, v42, v43, v44, v45, v46])), (a2, .inl (cT 2, 1, .inr (.inl f47))), (a7, .inl (cT 5, 8, .inr (.inr (.inr (.inr f58))))), (a8, .inl (cT 1, 8, .inl f61)), (a9, .inl (cT 0, 4096, .inl f64)), (a10, .inl (cT 4, 1024, .inr (.inr (.inr (.inr f69))))), (a11, .inl (cT 0, 4096, .inl f72)), (a0, .inr (0, [v12, v13, v14, .ref a4, v15, .ref a3, v16, .int 1])), (a3, .inr (2, [v48, .int 0, .int 0])), (a4, .inl (cT 3, 8, .inr (.inr (.inr (.inr f51))))), (a5, .inr (2, [.ref a6, .int 1, v55])), (a6, .inl (cT 2, 4096, .inr (.inl f56)))]) hP hD [0, 3, 4, 5, 6] [1, 2, 7, 8, 9, 10, 11] 7 rfl rfl (by decide) (by decide) hk1 hFc hP1 hD1
  generalize H1 = H at hP hS ⊢
  rw [hr9]
  refine W.eq (g2 := F0 m 404 ls [.int 2]) rfl ?_
  refine lv_istore (lv' := [(5, .int 2), (4, .int 0), (3, .ref a2), (2, .ref a1), (1, .ref a0), (0, .ref b)]) hx hb dL_law_404 hl (by decide) rfl (fun ls hl => ?_)
  refine lv_aload_n hx hb dL_law_406 rfl (lv_at hl 3 rfl) ?_
  refine lv_aload_n hx hb dL_law_407 rfl (lv_at hl 5 rfl) ?_
  refine lv_iload hx hb dL_law_408 (lv_at hl 1 rfl) ?_
  refine lv_iconst (v := 1) hx hb dL_law_410 (by decide) ?_
  refine lv_iadd hx hb dL_law_411 ?_
  refine W.eq (g2 := F0 m 412 ls [.int 1, .ref b, .ref a1]) rfl ?_
  refine va_sld hx hb hXs hbl hbA hS (i := 1) (show ¬ ((1 : Int32) < 0 ∨ 6 ≤ (1 : Int32).toNatClampNeg) by decide) dL_law_412 ?_
  refine W.eq (g2 := F0 m 413 ls [.int (xs 1), .ref a1]) rfl ?_
  refine lv_aload_n hx hb dL_law_413 rfl (lv_at hl 5 rfl) ?_
  refine lv_iload hx hb dL_law_414 (lv_at hl 1 rfl) ?_
  refine lv_iconst (v := 2) hx hb dL_law_416 (by decide) ?_
  refine lv_iadd hx hb dL_law_417 ?_
  refine W.eq (g2 := F0 m 418 ls [.int 2, .ref b, .int (xs 1), .ref a1]) rfl ?_
  refine va_sld hx hb hXs hbl hbA hS (i := 2) (show ¬ ((2 : Int32) < 0 ∨ 6 ≤ (2 : Int32).toNatClampNeg) by decide) dL_law_418 ?_
  refine W.eq (g2 := F0 m 419 ls [.int (xs 2), .int (xs 1), .ref a1]) rfl ?_
  rw [hf]
  refine W.eq (g2 := F0 m 419 ls [.int 1, .int (xs 1), .ref a1]) rfl ?_
  refine lv_aload_n hx hb dL_law_419 rfl (lv_at hl 5 rfl) ?_
  refine lv_iload hx hb dL_law_420 (lv_at hl 1 rfl) ?_
  refine lv_iconst (v := 3) hx hb dL_law_422 (by decide) ?_
  refine lv_iadd hx hb dL_law_423 ?_
  refine W.eq (g2 := F0 m 424 ls [.int 3, .ref b, .int 1, .int (xs 1), .ref a1]) rfl ?_
  refine va_sld hx hb hXs hbl hbA hS (i := 3) (show ¬ ((3 : Int32) < 0 ∨ 6 ≤ (3 : Int32).toNatClampNeg) by decide) dL_law_424 ?_
  refine W.eq (g2 := F0 m 425 ls [.int (xs 3), .int 1, .int (xs 1), .ref a1]) rfl ?_
  refine lv_aload_n hx hb dL_law_425 rfl (lv_at hl 5 rfl) ?_
  refine lv_iload hx hb dL_law_426 (lv_at hl 1 rfl) ?_
  refine lv_iconst (v := 4) hx hb dL_law_428 (by decide) ?_
  refine lv_iadd hx hb dL_law_429 ?_
  refine W.eq (g2 := F0 m 430 ls [.int 4, .ref b, .int (xs 3), .int 1, .int (xs 1), .ref a1]) rfl ?_
  refine va_sld hx hb hXs hbl hbA hS (i := 4) (show ¬ ((4 : Int32) < 0 ∨ 6 ≤ (4 : Int32).toNatClampNeg) by decide) dL_law_430 ?_
  refine W.eq (g2 := F0 m 431 ls [.int (xs 4), .int (xs 3), .int 1, .int (xs 1), .ref a1]) rfl ?_
  obtain ⟨hPc, hDc, hFc⟩ := xcut (wc := [(a1, .inr (5, [v18, .ref a10, v19, v20, v21, v22, v23, v24, v25, v26, v27, v28, v29, v30, v31, v32, v33, v34, v35, v36, v37, v38, v39, v40, .ref a7, .ref a8, v41, v42, v43, v44, v45, v46])), (a7, .inl (cT 5, 8, .inr (.inr (.inr (.inr f58))))), (a8, .inl (cT 1, 8, .inl f61)), (a9, .inl (cT 0, 4096, .inl f64)), (a10, .inl (cT 4, 1024, .inr (.inr (.inr (.inr f69))))), (a11, .inl (cT 0, 4096, .inl f72))]) hP hD hS hA [0, 2, 3, 4, 5, 6] rfl rfl (by decide)
  refine va_callv (va_runV (C := "ValueBenchModel") (As := [.int (xs 1), .int 1, .int (xs 3), .int (xs 4)]) (rest := []) ⟨hx, hb, hml, hown, htx⟩ (cM_binary0_14 l hl9 D cT aK aV H.size a1 a7 a8 a9 a10 a11 (xs 1) (xs 3) (xs 4) v18 v19 v20 v21 v22 v23 v24 v25 v26 v27 v28 v29 v30 v31 v32 v33 v34 v35 v36 v37 v38 v39 v40 v41 v42 v43 v44 v45 v46 f58 f61 f64 f69 f72 hto1 hto2 hto3 hto4 ha1 ha2 ha3 ha4 hb1 hb2 hb3 hb4 (by first | rfl | exact h52 | exact h54 | exact h57 | exact h59 | exact h60 | exact h62 | exact h63 | exact h65 | exact h66 | exact h67 | exact h68 | exact h70 | exact h71 | exact h73 | exact h74 | exact h75 | exact h76) (by first | rfl | exact h52 | exact h54 | exact h57 | exact h59 | exact h60 | exact h62 | exact h63 | exact h65 | exact h66 | exact h67 | exact h68 | exact h70 | exact h71 | exact h73 | exact h74 | exact h75 | exact h76) (by first | rfl | exact h52 | exact h54 | exact h57 | exact h59 | exact h60 | exact h62 | exact h63 | exact h65 | exact h66 | exact h67 | exact h68 | exact h70 | exact h71 | exact h73 | exact h74 | exact h75 | exact h76) (by first | rfl | exact h52 | exact h54 | exact h57 | exact h59 | exact h60 | exact h62 | exact h63 | exact h65 | exact h66 | exact h67 | exact h68 | exact h70 | exact h71 | exact h73 | exact h74 | exact h75 | exact h76) (by first | rfl | exact h52 | exact h54 | exact h57 | exact h59 | exact h60 | exact h62 | exact h63 | exact h65 | exact h66 | exact h67 | exact h68 | exact h70 | exact h71 | exact h73 | exact h74 | exact h75 | exact h76) (by first | rfl | exact h52 | exact h54 | exact h57 | exact h59 | exact h60 | exact h62 | exact h63 | exact h65 | exact h66 | exact h67 | exact h68 | exact h70 | exact h71 | exact h73 | exact h74 | exact h75 | exact h76) (by first | rfl | exact h52 | exact h54 | exact h57 | exact h59 | exact h60 | exact h62 | exact h63 | exact h65 | exact h66 | exact h67 | exact h68 | exact h70 | exact h71 | exact h73 | exact h74 | exact h75 | exact h76) (by first | rfl | exact h52 | exact h54 | exact h57 | exact h59 | exact h60 | exact h62 | exact h63 | exact h65 | exact h66 | exact h67 | exact h68 | exact h70 | exact h71 | exact h73 | exact h74 | exact h75 | exact h76) (by first | rfl | exact h52 | exact h54 | exact h57 | exact h59 | exact h60 | exact h62 | exact h63 | exact h65 | exact h66 | exact h67 | exact h68 | exact h70 | exact h71 | exact h73 | exact h74 | exact h75 | exact h76) (by first | rfl | exact h52 | exact h54 | exact h57 | exact h59 | exact h60 | exact h62 | exact h63 | exact h65 | exact h66 | exact h67 | exact h68 | exact h70 | exact h71 | exact h73 | exact h74 | exact h75 | exact h76) (by first | rfl | exact h52 | exact h54 | exact h57 | exact h59 | exact h60 | exact h62 | exact h63 | exact h65 | exact h66 | exact h67 | exact h68 | exact h70 | exact h71 | exact h73 | exact h74 | exact h75 | exact h76) (by first | rfl | exact h52 | exact h54 | exact h57 | exact h59 | exact h60 | exact h62 | exact h63 | exact h65 | exact h66 | exact h67 | exact h68 | exact h70 | exact h71 | exact h73 | exact h74 | exact h75 | exact h76) (by first | rfl | exact h52 | exact h54 | exact h57 | exact h59 | exact h60 | exact h62 | exact h63 | exact h65 | exact h66 | exact h67 | exact h68 | exact h70 | exact h71 | exact h73 | exact h74 | exact h75 | exact h76) (by first | rfl | exact h52 | exact h54 | exact h57 | exact h59 | exact h60 | exact h62 | exact h63 | exact h65 | exact h66 | exact h67 | exact h68 | exact h70 | exact h71 | exact h73 | exact h74 | exact h75 | exact h76)) ⟨callB_of 4 htx (xw_goodC kw_6_191) rfl rfl rfl (htx _ kw_1_5) (htx _ kw_6_188) ⟨by decide, by decide, by decide +kernel⟩ ⟨Nat.le_of_ble_eq_true rfl, Nat.le_of_ble_eq_true rfl⟩, (htx _ kw_6_189), (htx _ kw_6_190)⟩ ⟨xPre_blind, va_recv hK hP (ci := 5) rfl (q0 := 0) rfl, (fun U hU hW => ⟨rfl, xPre_of hZ hS hFc hPc hDc hK U hU hW⟩)⟩ rfl rfl hl.1 rfl (lv_room (Nat.le_of_ble_eq_true rfl)) dL_law_431 ⟨Nat.le_of_ble_eq_true rfl, Nat.le_of_ble_eq_true rfl⟩) hS (fun q _ h => hFc q h) hFc (fun u9 t H1 locs ht hvm hr9 hB hz1 hk1 hS => ?_)
  obtain ⟨q2, q3, hP1, hK1, hD1⟩ := hB
  rw [ht] at hP1
  obtain ⟨hP, hD⟩ := xjoin (W := [(a2, .inl (cT 2, 1, .inr (.inl f47))), (a0, .inr (0, [v12, v13, v14, .ref a4, v15, .ref a3, v16, .int 1])), (a3, .inr (2, [v48, .int 0, .int 0])), (a4, .inl (cT 3, 8, .inr (.inr (.inr (.inr f51))))), (a5, .inr (2, [.ref a6, .int 1, v55])), (a6, .inl (cT 2, 4096, .inr (.inl f56))), (a1, .inr (5, [.int 2, .ref a10, .int 2, v20, .int 0, v22, v23, .int 0, .int 1, .int 0, v27, v28, .int 0, v30, v31, .ref a11, .int 4, .int 4, .int 0, .int 100, v37, v38, .int 0, .int 1000000000, .ref a7, .ref a8, v41, v42, v43, v44, .int 1, v46])), (a7, .inl (cT 5, 8, .inr (.inr (.inr (.inr f58))))), (a8, .inl (cT 1, 8, .inl f61)), (a9, .inl (cT 0, 4096, .inl f64)), (a10, .inl (cT 4, 1024, .inr (.inr (.inr (.inr (va_up (va_up f69 0 (some q2)) 1 (some q3))))))), (a11, .inl (cT 0, 4096, .inl f72)), (q2, .inr (6, [.int 0, .long 0, .int 0, .int 0, .int 0, .int 1])), (q3, .inr (6, [.int 0, .long 0, .int 0, .int 0, .int 0, .int 1]))]) hP hD [0, 2, 3, 4, 5, 6] [1, 7, 8, 9, 10, 11] 6 rfl rfl (by decide) (by decide) hk1 hFc hP1 hD1
  generalize H1 = H at hP hS ⊢
  refine lv_aload_n hx hb dL_law_434 rfl (lv_at hl 3 rfl) ?_
  obtain ⟨hPc, hDc, hFc⟩ := xcut (wc := [(a1, .inr (5, [.int 2, .ref a10, .int 2, v20, .int 0, v22, v23, .int 0, .int 1, .int 0, v27, v28, .int 0, v30, v31, .ref a11, .int 4, .int 4, .int 0, .int 100, v37, v38, .int 0, .int 1000000000, .ref a7, .ref a8, v41, v42, v43, v44, .int 1, v46]))]) hP hD hS hA [6] rfl rfl (by decide)
  refine va_calli (va_runV (C := "ValueBenchModel") (As := []) (rest := []) ⟨hx, hb, hml, hown, htx⟩ (cM_thrown_2 l hl9 D cT aK aV H.size a1 (.ref a10) (.int 2) v20 (.int 0) v22 v23 (.int 0) (.int 1) (.int 0) v27 v28 (.int 0) v30 v31 (.ref a11) (.int 4) (.int 4) (.int 0) (.int 100) v37 v38 (.int 0) (.int 1000000000) (.ref a7) (.ref a8) v41 v42 v43 v44 (.int 1) v46) ⟨callB_of 0 htx (xw_goodC kw_5_187) rfl rfl rfl (htx _ kw_1_5) (htx _ kw_5_184) ⟨by decide, by decide, by decide +kernel⟩ ⟨Nat.le_of_ble_eq_true rfl, Nat.le_of_ble_eq_true rfl⟩, (htx _ kw_5_185), (htx _ kw_5_186)⟩ ⟨xPre_blind, va_recv hK hP (ci := 5) rfl (q0 := 6) rfl, (fun U hU hW => ⟨rfl, xPre_of hZ hS hFc hPc hDc hK U hU hW⟩)⟩ rfl rfl hl.1 rfl (lv_room (Nat.le_of_ble_eq_true rfl)) dL_law_435 ⟨Nat.le_of_ble_eq_true rfl, Nat.le_of_ble_eq_true rfl⟩) hS (fun q _ h => hFc q h) hFc (fun r4 u9 t H1 locs ht hvm hr9 hB hz1 hk1 hS => ?_)
  obtain ⟨hP1, hK1, hD1⟩ := hB
  rw [ht] at hP1
  obtain ⟨hP, hD⟩ := xjoin (W := [(a2, .inl (cT 2, 1, .inr (.inl f47))), (a0, .inr (0, [v12, v13, v14, .ref a4, v15, .ref a3, v16, .int 1])), (a3, .inr (2, [v48, .int 0, .int 0])), (a4, .inl (cT 3, 8, .inr (.inr (.inr (.inr f51))))), (a5, .inr (2, [.ref a6, .int 1, v55])), (a6, .inl (cT 2, 4096, .inr (.inl f56))), (a7, .inl (cT 5, 8, .inr (.inr (.inr (.inr f58))))), (a8, .inl (cT 1, 8, .inl f61)), (a9, .inl (cT 0, 4096, .inl f64)), (a10, .inl (cT 4, 1024, .inr (.inr (.inr (.inr (va_up (va_up f69 0 (some q2)) 1 (some q3))))))), (a11, .inl (cT 0, 4096, .inl f72)), (q2, .inr (6, [.int 0, .long 0, .int 0, .int 0, .int 0, .int 1])), (q3, .inr (6, [.int 0, .long 0, .int 0, .int 0, .int 0, .int 1])), (a1, .inr (5, [.int 2, .ref a10, .int 2, v20, .int 0, v22, v23, .int 0, .int 1, .int 0, v27, v28, .int 0, v30, v31, .ref a11, .int 4, .int 4, .int 0, .int 100, v37, v38, .int 0, .int 1000000000, .ref a7, .ref a8, v41, v42, v43, v44, .int 1, v46]))]) hP hD [6] [0, 1, 2, 3, 4, 5, 7, 8, 9, 10, 11, 12, 13] 13 rfl rfl (by decide) (by decide) hk1 hFc hP1 hD1
  generalize H1 = H at hP hS ⊢
  rw [hr9]
  refine W.eq (g2 := F0 m 438 ls [.int 2]) rfl ?_
  refine lv_iload hx hb dL_law_438 (lv_at hl 0 rfl) ?_
  refine lv_icmp_eq (tgt := 445) hx hb dL_law_440 (by decide) (fun _ => ?_) (fun h => ((by revert h; decide : False)).elim)
  refine lv_goto (tgt := 906) hx hb dL_law_445 (by decide) ?_
  refine lv_iinc (v := 6) (lv' := [(4, .int 6), (5, .int 2), (3, .ref a2), (2, .ref a1), (1, .ref a0), (0, .ref b)]) hx hb dL_law_906 hl (k := 1) rfl (by decide) (by decide) rfl (fun ls hl => ?_)
  refine lv_goto (tgt := 23) hx hb dL_law_909 (by decide) ?_
  refine lv_iload hx hb dL_law_23 (lv_at hl 0 rfl) ?_
  refine lv_aload_n hx hb dL_law_25 rfl (lv_at hl 5 rfl) ?_
  refine va_slen hx hb hXs hbl hbA hS dL_law_26 ?_
  refine W.eq (g2 := F0 m 27 ls [.int 6, .int 6]) rfl ?_
  refine lv_bipush (v := 6) hx hb dL_law_27 (by decide) ?_
  refine lv_isub hx hb dL_law_29 ?_
  refine W.eq (g2 := F0 m 30 ls [.int 0, .int 6]) rfl ?_
  refine lv_icmp_gt (tgt := 912) hx hb dL_law_30 (by decide) (fun _ => ?_) (fun h => ((by revert h; decide : False)).elim)
  refine lv_iconst (v := 1) hx hb dL_law_912 (by decide) ?_
  exact va_forget (fun q h => hA2 _ (hS.2.2 q h)) (W.widen (k := 600002) (n := 7302232) (Nat.le_of_ble_eq_true rfl) (Nat.le_of_ble_eq_true rfl) (lw_ret hx hb hr hlocks dL_law_913))
