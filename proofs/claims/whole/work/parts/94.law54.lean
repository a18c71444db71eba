set_option maxHeartbeats 400000000 in
set_option maxRecDepth 100000 in
theorem gLaw {p : Program} {e : Env} {s : State} {m : MethodId} {below : List Frame} {meth : Method} {c : Code} (l : Launch) (hl9 : l.stackTraces = false) (D : va_G) (cT : Nat → ClassId) (aK aV : Nat → Nat) {A : Nat → Prop} {b : Nat} {xs : Nat → Int32} {L : Nat} (C : xLw p s m meth c b D cT aK aV A) (hXs : va_X b L xs s s.heap) (N : Nat) : ∀ (n : Nat) (i : Int32) (k : xC) (ov : Nat → Int64) (st : xS) (wc wn : Nat) (zb : Nat → Nat) (tp mp : Nat) (ra rb : Nat → Nat) (rf : Nat → Option Nat) (aM : Nat) (ad rd gd vad : Nat → Nat) (H : Heap) (locs : List Loc) (ls : Array Slot), fLaw xs L N n i k ov st wc wn tp mp = some 1 → va_P D xcl (xGw cT zb tp mp ra rb rf k ov (xMw cT aM ad rd gd vad st [])) H → va_D A (xGw cT zb tp mp ra rb rf k ov (xMw cT aM ad rd gd vad st [])) → va_S A s.heap H locs → lv_has ls 8 [(4, .int i), (3, .ref (zb 15)), (2, .ref aM), (1, .ref (zb 0)), (0, .ref b)] → (∀ r, r < 8 → rf r = some (ra r)) → W p l e room_1 s m #[Value.ref b] below meth c H locs wc wn (lw_Z below #[Value.ref b] s) (F0 m 23 ls []) := by
  obtain ⟨hx, hb, hr, hml, hown, htx, hbl, hbA, hlocks, hK, hZ, hA, hA2⟩ := C
  intro n
  induction n with
  | zero =>
    intro i k ov st wc wn zb tp mp ra rb rf aM ad rd gd vad H locs ls hf
    rw [fLaw] at hf
    exact nomatch hf
  | succ n ih =>
    intro i k ov st wc wn zb tp mp ra rb rf aM ad rd gd vad H locs ls hf hP hD hS hl hrf
    rw [fLaw] at hf
    obtain ⟨hg1, hf⟩ := xifn hf
    have hm2 : (wc + 0) ≤ 601024 ∧ (wn + 0) ≤ 7293034 := ⟨Nat.le_of_not_lt fun h => hg1 (Or.inl h), Nat.le_of_not_lt fun h => hg1 (Or.inr h)⟩
    refine W.widen (k := wc + 0) (n := wn + 0) (Nat.le_refl _) (Nat.le_refl _) ?_
    refine lv_iload hx hb dL_law_23 (lv_at hl 0 rfl) ?_
    refine lv_aload_n hx hb dL_law_25 rfl (lv_at hl 4 rfl) ?_
    refine va_slen hx hb hXs hbl hbA hS dL_law_26 ?_
    refine lv_bipush (v := 6) hx hb dL_law_27 (by decide) ?_
    refine lv_isub hx hb dL_law_29 ?_
    refine lv_icmp_gt (tgt := 912) hx hb dL_law_30 (by decide) (fun hc => ?_) (fun hc => ?_)
    · rw [if_pos hc] at hf
      refine lv_iconst (v := 1) hx hb dL_law_912 (by decide) ?_
      exact va_forget (fun q h => hA2 _ (hS.2.2 q h)) (W.widen (k := 601024) (n := 7293034) hm2.1 hm2.2 (lw_ret hx hb hr hlocks dL_law_913))
    · rw [if_neg hc] at hf
      refine lv_aload_n hx hb dL_law_33 rfl (lv_at hl 4 rfl) ?_
      refine lv_iload hx hb dL_law_34 (lv_at hl 0 rfl) ?_
      obtain ⟨hg3, hf⟩ := xifn hf
      refine va_sld hx hb hXs hbl hbA hS (i := i) hg3 dL_law_36 ?_
      refine W.eq (g2 := F0 m 37 ls [.int (xs i.toNatClampNeg)]) rfl ?_
      refine lv_bipush (v := 15) hx hb dL_law_37 (by decide) ?_
      refine lv_iand hx hb dL_law_39 ?_
      by_cases hc4 : ((xs i.toNatClampNeg) &&& (15 : Int32)) = 0
      · rw [if_pos hc4] at hf
        refine lv_tableIn (off := 64) (tgt := 104) hx hb dL_law_40 (by rw [hc4]; decide) (by rw [hc4]; decide) (by rw [hc4]; decide) (by decide) ?_
        refine lv_aload_n hx hb dL_law_104 rfl (lv_at hl 3 rfl) ?_
        refine lv_aload_n hx hb dL_law_105 rfl (lv_at hl 4 rfl) ?_
        refine lv_iload hx hb dL_law_106 (lv_at hl 0 rfl) ?_
        refine lv_iconst (v := 1) hx hb dL_law_108 (by decide) ?_
        refine lv_iadd hx hb dL_law_109 ?_
        obtain ⟨hg5, hf⟩ := xifn hf
        refine va_sld hx hb hXs hbl hbA hS (i := (i + (1 : Int32))) hg5 dL_law_110 ?_
        refine W.eq (g2 := F0 m 111 ls [.int (xs (i + (1 : Int32)).toNatClampNeg), .ref (zb 0)]) rfl ?_
        refine lv_aload_n hx hb dL_law_111 rfl (lv_at hl 4 rfl) ?_
        refine lv_iload hx hb dL_law_112 (lv_at hl 0 rfl) ?_
        refine lv_iconst (v := 2) hx hb dL_law_114 (by decide) ?_
        refine lv_iadd hx hb dL_law_115 ?_
        obtain ⟨hg6, hf⟩ := xifn hf
        refine va_sld hx hb hXs hbl hbA hS (i := (i + (2 : Int32))) hg6 dL_law_116 ?_
        refine W.eq (g2 := F0 m 117 ls [.int (xs (i + (2 : Int32)).toNatClampNeg), .int (xs (i + (1 : Int32)).toNatClampNeg), .ref (zb 0)]) rfl ?_
        refine lv_aload_n hx hb dL_law_117 rfl (lv_at hl 4 rfl) ?_
        refine lv_iload hx hb dL_law_118 (lv_at hl 0 rfl) ?_
        refine lv_iconst (v := 3) hx hb dL_law_120 (by decide) ?_
        refine lv_iadd hx hb dL_law_121 ?_
        obtain ⟨hg7, hf⟩ := xifn hf
        refine va_sld hx hb hXs hbl hbA hS (i := (i + (3 : Int32))) hg7 dL_law_122 ?_
        refine W.eq (g2 := F0 m 123 ls [.int (xs (i + (3 : Int32)).toNatClampNeg), .int (xs (i + (2 : Int32)).toNatClampNeg), .int (xs (i + (1 : Int32)).toNatClampNeg), .ref (zb 0)]) rfl ?_
        refine lv_aload_n hx hb dL_law_123 rfl (lv_at hl 4 rfl) ?_
        refine lv_iload hx hb dL_law_124 (lv_at hl 0 rfl) ?_
        refine lv_iconst (v := 4) hx hb dL_law_126 (by decide) ?_
        refine lv_iadd hx hb dL_law_127 ?_
        obtain ⟨hg8, hf⟩ := xifn hf
        refine va_sld hx hb hXs hbl hbA hS (i := (i + (4 : Int32))) hg8 dL_law_128 ?_
        refine W.eq (g2 := F0 m 129 ls [.int (xs (i + (4 : Int32)).toNatClampNeg), .int (xs (i + (3 : Int32)).toNatClampNeg), .int (xs (i + (2 : Int32)).toNatClampNeg), .int (xs (i + (1 : Int32)).toNatClampNeg), .ref (zb 0)]) rfl ?_
        refine lv_aload_n hx hb dL_law_129 rfl (lv_at hl 4 rfl) ?_
        refine lv_iload hx hb dL_law_130 (lv_at hl 0 rfl) ?_
        refine lv_iconst (v := 5) hx hb dL_law_132 (by decide) ?_
        refine lv_iadd hx hb dL_law_133 ?_
        obtain ⟨hg9, hf⟩ := xifn hf
        refine va_sld hx hb hXs hbl hbA hS (i := (i + (5 : Int32))) hg9 dL_law_134 ?_
        refine W.eq (g2 := F0 m 135 ls [.int (xs (i + (5 : Int32)).toNatClampNeg), .int (xs (i + (4 : Int32)).toNatClampNeg), .int (xs (i + (3 : Int32)).toNatClampNeg), .int (xs (i + (2 : Int32)).toNatClampNeg), .int (xs (i + (1 : Int32)).toNatClampNeg), .ref (zb 0)]) rfl ?_
        refine lv_aload_n hx hb dL_law_135 rfl (lv_at hl 1 rfl) ?_
        obtain ⟨o10, hq11, hf⟩ := xbind hf
        obtain ⟨hg12, hf⟩ := xifn hf
        have hm13 : ((wc + 0) + 1) ≤ 601024 ∧ ((wn + 0) + 6) ≤ 7293034 := ⟨Nat.le_of_not_lt fun h => hg12 (Or.inl h), Nat.le_of_not_lt fun h => hg12 (Or.inr h)⟩
        obtain ⟨hPc, hDc, hFc, hCc⟩ := xcutC (X := (xCx cT zb tp mp (ra 8) ra rb rf k ov)) (T := (xT cT ra rb k (xMw cT aM ad rd gd vad st []))) (we := [((zb 0), .inr (0, [.ref (zb 1), .ref (zb 3), .ref (zb 5), .ref (zb 7), .ref (zb 8), .ref (ra 8), .int (kpl k), .int (krs k)])), ((zb 1), .inr (1, [.ref (zb 2), .int (ktl k 0), .int (kto k 0)])), ((zb 2), .inl (cT 0, 4096, .inl (ktb k 0))), ((zb 3), .inr (1, [.ref (zb 4), .int (ktl k 1), .int (kto k 1)])), ((zb 4), .inl (cT 0, 4096, .inl (ktb k 1))), ((zb 5), .inr (1, [.ref (zb 6), .int (ktl k 2), .int (kto k 2)])), ((zb 6), .inl (cT 0, 4096, .inl (ktb k 2))), ((zb 7), .inl (cT 3, 8, .inr (.inr (.inr (.inr rf))))), ((zb 8), .inr (3, [.ref (zb 9), .ref (zb 10), .ref tp, .ref mp, .int (ktt k)])), ((zb 9), .inl (cT 1, 2048, .inl (ksa k 0))), ((zb 10), .inl (cT 1, 2048, .inl (ksa k 1))), (tp, .inl (cT 1, 2048, .inl (ksa k 2))), (mp, .inl (cT 1, 2048, .inl (ksa k 3))), ((ra 8), .inr (2, [.ref (rb 8), .int (krz k 8), .int (kro k 8)])), ((rb 8), .inl (cT 2, 4096, .inr (.inl (krc k 8))))]) (wt := []) (wo := [((zb 15), .inl (cT 2, 1, .inr (.inl ov)))]) (wc := [((zb 0), .inr (0, [.ref (zb 1), .ref (zb 3), .ref (zb 5), .ref (zb 7), .ref (zb 8), .ref (ra 8), .int (kpl k), .int (krs k)])), ((zb 1), .inr (1, [.ref (zb 2), .int (ktl k 0), .int (kto k 0)])), ((zb 2), .inl (cT 0, 4096, .inl (ktb k 0))), ((zb 3), .inr (1, [.ref (zb 4), .int (ktl k 1), .int (kto k 1)])), ((zb 4), .inl (cT 0, 4096, .inl (ktb k 1))), ((zb 5), .inr (1, [.ref (zb 6), .int (ktl k 2), .int (kto k 2)])), ((zb 6), .inl (cT 0, 4096, .inl (ktb k 2))), ((zb 7), .inl (cT 3, 8, .inr (.inr (.inr (.inr rf))))), ((zb 8), .inr (3, [.ref (zb 9), .ref (zb 10), .ref tp, .ref mp, .int (ktt k)])), ((zb 9), .inl (cT 1, 2048, .inl (ksa k 0))), ((zb 10), .inl (cT 1, 2048, .inl (ksa k 1))), (tp, .inl (cT 1, 2048, .inl (ksa k 2))), (mp, .inl (cT 1, 2048, .inl (ksa k 3))), ((ra 8), .inr (2, [.ref (rb 8), .int (krz k 8), .int (kro k 8)])), ((rb 8), .inl (cT 2, 4096, .inr (.inl (krc k 8)))), ((zb 15), .inl (cT 2, 1, .inr (.inl ov)))]) hP hD hS hA [] true rfl rfl rfl rfl (xnd0 true)
        refine va_calli (vx_runSW (As := [.ref (zb 0), .int (xs (i + (1 : Int32)).toNatClampNeg), .int (xs (i + (2 : Int32)).toNatClampNeg), .int (xs (i + (3 : Int32)).toNatClampNeg), .int (xs (i + (4 : Int32)).toNatClampNeg), .int (xs (i + (5 : Int32)).toNatClampNeg), .ref (zb 15)]) (rest := []) ⟨hx, hb, hml, hown, htx⟩ (gL_feed l hl9 D cT aK aV H.size N (zb 0) (zb 1) (zb 2) (zb 3) (zb 4) (zb 5) (zb 6) (zb 7) (zb 8) (zb 9) (zb 10) (ra 8) (rb 8) (zb 15) rf (xs (i + (1 : Int32)).toNatClampNeg) (xs (i + (2 : Int32)).toNatClampNeg) (xs (i + (3 : Int32)).toNatClampNeg) (xs (i + (4 : Int32)).toNatClampNeg) (xs (i + (5 : Int32)).toNatClampNeg) (ktb k 0) (ktl k 0) (kto k 0) (ktb k 1) (ktl k 1) (kto k 1) (ktb k 2) (ktl k 2) (kto k 2) (ksa k 0) (ksa k 1) tp (ksa k 2) mp (ksa k 3) (ktt k) (krc k 8) (krz k 8) (kro k 8) (kpl k) (krs k) ov o10 hq11) (xcSW 7 htx (xw_goodC kw_1_122) rfl rfl rfl (htx _ kw_1_0) (htx _ kw_1_120) ⟨by decide, by decide, by decide +kernel⟩ ⟨Nat.le_of_ble_eq_true rfl, Nat.le_of_ble_eq_true rfl⟩ (htx _ kw_1_121)) ⟨xPre_blind, (fun U hU hW => ⟨rfl, xPre_of hZ hS hFc hPc hDc hK U hU hW⟩)⟩ rfl rfl hl.1 rfl (lv_room (Nat.le_of_ble_eq_true rfl)) dL_law_136 hm13) hS (fun q _ h => hFc q h) hFc (fun r14 u9 t H1 locs ht hvm hr9 hB hz1 hk1 hS => ?_)
        obtain ⟨hP1, hK1, hD1⟩ := hB
        rw [ht] at hP1
        obtain ⟨hP, hD⟩ := xjnC (X := (xCx cT zb tp mp (ra 8) ra rb rf k ov)) (X' := (xCx cT zb tp mp (ra 8) ra rb rf (kT k 0 o10.2.1 o10.2.2.1 o10.2.2.2.1) o10.2.2.2.2)) (T := (xT cT ra rb k (xMw cT aM ad rd gd vad st []))) (wt := []) hP hD [] true rfl rfl xge0 List.nodup_nil rfl hCc hk1 hFc hP1 hD1 rfl rfl rfl
        generalize H1 = H at hP hS ⊢
        have hP : va_P D xcl (xGw cT zb tp mp ra rb rf (kT k 0 o10.2.1 o10.2.2.1 o10.2.2.2.1) o10.2.2.2.2 (xMw cT aM ad rd gd vad st [])) H := hP
        have hD : va_D A (xGw cT zb tp mp ra rb rf (kT k 0 o10.2.1 o10.2.2.1 o10.2.2.2.1) o10.2.2.2.2 (xMw cT aM ad rd gd vad st [])) := hD
        rw [hr9]
        refine W.eq (g2 := F0 m 139 ls [.int o10.1]) rfl ?_
        refine lv_istore (lv' := [(5, .int o10.1), (4, .int i), (3, .ref (zb 15)), (2, .ref aM), (1, .ref (zb 0)), (0, .ref b)]) hx hb dL_law_139 hl (by decide) rfl (fun ls hl => ?_)
        refine lv_aload_n hx hb dL_law_141 rfl (lv_at hl 3 rfl) ?_
        refine lv_aload_n hx hb dL_law_142 rfl (lv_at hl 5 rfl) ?_
        refine lv_iload hx hb dL_law_143 (lv_at hl 1 rfl) ?_
        refine lv_iconst (v := 1) hx hb dL_law_145 (by decide) ?_
        refine lv_iadd hx hb dL_law_146 ?_
        obtain ⟨hg15, hf⟩ := xifn hf
        refine va_sld hx hb hXs hbl hbA hS (i := (i + (1 : Int32))) hg15 dL_law_147 ?_
        refine W.eq (g2 := F0 m 148 ls [.int (xs (i + (1 : Int32)).toNatClampNeg), .ref aM]) rfl ?_
        refine lv_aload_n hx hb dL_law_148 rfl (lv_at hl 5 rfl) ?_
        refine lv_iload hx hb dL_law_149 (lv_at hl 1 rfl) ?_
        refine lv_iconst (v := 2) hx hb dL_law_151 (by decide) ?_
        refine lv_iadd hx hb dL_law_152 ?_
        obtain ⟨hg16, hf⟩ := xifn hf
        refine va_sld hx hb hXs hbl hbA hS (i := (i + (2 : Int32))) hg16 dL_law_153 ?_
        refine W.eq (g2 := F0 m 154 ls [.int (xs (i + (2 : Int32)).toNatClampNeg), .int (xs (i + (1 : Int32)).toNatClampNeg), .ref aM]) rfl ?_
        refine lv_aload_n hx hb dL_law_154 rfl (lv_at hl 5 rfl) ?_
        refine lv_iload hx hb dL_law_155 (lv_at hl 1 rfl) ?_
        refine lv_iconst (v := 3) hx hb dL_law_157 (by decide) ?_
        refine lv_iadd hx hb dL_law_158 ?_
        obtain ⟨hg17, hf⟩ := xifn hf
        refine va_sld hx hb hXs hbl hbA hS (i := (i + (3 : Int32))) hg17 dL_law_159 ?_
        refine W.eq (g2 := F0 m 160 ls [.int (xs (i + (3 : Int32)).toNatClampNeg), .int (xs (i + (2 : Int32)).toNatClampNeg), .int (xs (i + (1 : Int32)).toNatClampNeg), .ref aM]) rfl ?_
        refine lv_aload_n hx hb dL_law_160 rfl (lv_at hl 5 rfl) ?_
        refine lv_iload hx hb dL_law_161 (lv_at hl 1 rfl) ?_
        refine lv_iconst (v := 4) hx hb dL_law_163 (by decide) ?_
        refine lv_iadd hx hb dL_law_164 ?_
        obtain ⟨hg18, hf⟩ := xifn hf
        refine va_sld hx hb hXs hbl hbA hS (i := (i + (4 : Int32))) hg18 dL_law_165 ?_
        refine W.eq (g2 := F0 m 166 ls [.int (xs (i + (4 : Int32)).toNatClampNeg), .int (xs (i + (3 : Int32)).toNatClampNeg), .int (xs (i + (2 : Int32)).toNatClampNeg), .int (xs (i + (1 : Int32)).toNatClampNeg), .ref aM]) rfl ?_
        refine lv_aload_n hx hb dL_law_166 rfl (lv_at hl 5 rfl) ?_
        refine lv_iload hx hb dL_law_167 (lv_at hl 1 rfl) ?_
        refine lv_iconst (v := 5) hx hb dL_law_169 (by decide) ?_
        refine lv_iadd hx hb dL_law_170 ?_
        obtain ⟨hg19, hf⟩ := xifn hf
        refine va_sld hx hb hXs hbl hbA hS (i := (i + (5 : Int32))) hg19 dL_law_171 ?_
        refine W.eq (g2 := F0 m 172 ls [.int (xs (i + (5 : Int32)).toNatClampNeg), .int (xs (i + (4 : Int32)).toNatClampNeg), .int (xs (i + (3 : Int32)).toNatClampNeg), .int (xs (i + (2 : Int32)).toNatClampNeg), .int (xs (i + (1 : Int32)).toNatClampNeg), .ref aM]) rfl ?_
        obtain ⟨o20, hq21, hf⟩ := xbind hf
        obtain ⟨hg22, hf⟩ := xifn hf
        have hm23 : (((wc + 0) + 1) + 0) ≤ 601024 ∧ (((wn + 0) + 6) + 0) ≤ 7293034 := ⟨Nat.le_of_not_lt fun h => hg22 (Or.inl h), Nat.le_of_not_lt fun h => hg22 (Or.inr h)⟩
        obtain ⟨hPc, hDc⟩ := xGw_part hP hD
        have hFc := xm_free hDc hS hA
        refine va_calli (va_runV (C := "ValueBenchModel") (As := [.int (xs (i + (1 : Int32)).toNatClampNeg), .int (xs (i + (2 : Int32)).toNatClampNeg), .int (xs (i + (3 : Int32)).toNatClampNeg), .int (xs (i + (4 : Int32)).toNatClampNeg), .int (xs (i + (5 : Int32)).toNatClampNeg)]) (rest := []) ⟨hx, hb, hml, hown, htx⟩ (gM_feed l hl9 D cT aK aV H.size N aM ad rd gd vad st (xs (i + (1 : Int32)).toNatClampNeg) (xs (i + (2 : Int32)).toNatClampNeg) (xs (i + (3 : Int32)).toNatClampNeg) (xs (i + (4 : Int32)).toNatClampNeg) (xs (i + (5 : Int32)).toNatClampNeg) o20 hq21) ⟨callB_of 5 htx (xw_goodC kw_5_191) rfl rfl rfl (htx _ kw_1_5) (htx _ kw_5_188) ⟨by decide, by decide, by decide +kernel⟩ ⟨Nat.le_of_ble_eq_true rfl, Nat.le_of_ble_eq_true rfl⟩, (htx _ kw_5_189), (htx _ kw_5_190)⟩ ⟨xPre_blind, va_recv hK hPc (ci := 5) rfl (q0 := 0) rfl, (fun U hU hW => ⟨rfl, xPre_of hZ hS hFc hPc hDc hK U hU hW⟩)⟩ rfl rfl hl.1 rfl (lv_room (Nat.le_of_ble_eq_true rfl)) dL_law_172 hm23) hS (fun q _ h => hFc q h) hFc (fun r24 u9 t H1 locs ht hvm hr9 hB hz1 hk1 hS => ?_)
        obtain ⟨hP1, hK1, hD1⟩ := hB
        rw [ht] at hP1
        have hr9 := hr9.1
        obtain ⟨hP, hD⟩ := xGw_call (M' := (xMw cT aM ad rd gd vad o20.2 [])) hP hD hk1 hFc hP1 hD1
        generalize H1 = H at hP hS ⊢
        rw [hr9]
        refine W.eq (g2 := F0 m 175 ls [.int o20.1]) rfl ?_
        refine lv_istore (lv' := [(6, .int o20.1), (5, .int o10.1), (4, .int i), (3, .ref (zb 15)), (2, .ref aM), (1, .ref (zb 0)), (0, .ref b)]) hx hb dL_law_175 hl (by decide) rfl (fun ls hl => ?_)
        refine lv_aload_n hx hb dL_law_177 rfl (lv_at hl 4 rfl) ?_
        obtain ⟨o25, hq26, hf⟩ := xbind hf
        obtain ⟨hg27, hf⟩ := xifn hf
        have hm28 : ((((wc + 0) + 1) + 0) + 0) ≤ 601024 ∧ ((((wn + 0) + 6) + 0) + 0) ≤ 7293034 := ⟨Nat.le_of_not_lt fun h => hg27 (Or.inl h), Nat.le_of_not_lt fun h => hg27 (Or.inr h)⟩
        obtain ⟨hPc, hDc⟩ := xGw_part hP hD
        have hFc := xm_free hDc hS hA
        refine va_calli (va_runV (C := "ValueBenchModel") (As := []) (rest := []) ⟨hx, hb, hml, hown, htx⟩ (gM_thrown l hl9 D cT aK aV H.size N aM ad rd gd vad o20.2 o25 hq26) ⟨callB_of 0 htx (xw_goodC kw_5_187) rfl rfl rfl (htx _ kw_1_5) (htx _ kw_5_184) ⟨by decide, by decide, by decide +kernel⟩ ⟨Nat.le_of_ble_eq_true rfl, Nat.le_of_ble_eq_true rfl⟩, (htx _ kw_5_185), (htx _ kw_5_186)⟩ ⟨xPre_blind, va_recv hK hPc (ci := 5) rfl (q0 := 0) rfl, (fun U hU hW => ⟨rfl, xPre_of hZ hS hFc hPc hDc hK U hU hW⟩)⟩ rfl rfl hl.1 rfl (lv_room (Nat.le_of_ble_eq_true rfl)) dL_law_178 hm28) hS (fun q _ h => hFc q h) hFc (fun r29 u9 t H1 locs ht hvm hr9 hB hz1 hk1 hS => ?_)
        obtain ⟨hP1, hK1, hD1⟩ := hB
        rw [ht] at hP1
        obtain ⟨hP, hD⟩ := xGw_call (M' := (xMw cT aM ad rd gd vad o20.2 [])) hP hD hk1 hFc hP1 hD1
        generalize H1 = H at hP hS ⊢
        rw [hr9]
        refine W.eq (g2 := F0 m 181 ls [.int o25]) rfl ?_
        refine lv_iload hx hb dL_law_181 (lv_at hl 1 rfl) ?_
        refine lv_icmp_eq (tgt := 188) hx hb dL_law_183 (by decide) (fun hc => ?_) (fun hc => ?_)
        · rw [if_pos hc] at hf
          refine lv_iload hx hb dL_law_188 (lv_at hl 1 rfl) ?_
          refine lv_if_ne (tgt := 205) hx hb dL_law_190 (by decide) (fun hc => ?_) (fun hc => ?_)
          · rw [if_neg hc] at hf
            refine lv_goto (tgt := 906) hx hb dL_law_205 (by decide) ?_
            refine lv_iinc (v := (i + 6)) (lv' := [(4, .int (i + 6)), (6, .int o20.1), (5, .int o10.1), (3, .ref (zb 15)), (2, .ref aM), (1, .ref (zb 0)), (0, .ref b)]) hx hb dL_law_906 hl (k := 2) rfl rfl (by decide) rfl (fun ls hl => ?_)
            refine lv_goto (tgt := 23) hx hb dL_law_909 (by decide) ?_
            exact ih (i + 6) (kT k 0 o10.2.1 o10.2.2.1 o10.2.2.2.1) o10.2.2.2.2 o20.2 ((((wc + 0) + 1) + 0) + 0) ((((wn + 0) + 6) + 0) + 0) zb tp mp ra rb rf aM ad rd gd vad _ _ ls hf hP hD hS (lv_sub hl [0, 3, 4, 5, 6] rfl) hrf
          · rw [if_pos hc] at hf
            refine lv_aload_n hx hb dL_law_193 rfl (lv_at hl 3 rfl) ?_
            refine lv_iconst (v := 0) hx hb dL_law_194 (by decide) ?_
            refine va_lald hx hb hK hP 15 2 rfl rfl (show ¬ ((0 : Int32) < 0 ∨ 1 ≤ (0 : Int32).toNatClampNeg) by decide) dL_law_195 ?_
            refine W.eq (g2 := F0 m 196 ls [.long (o10.2.2.2.2 0)]) rfl ?_
            refine lv_iload hx hb dL_law_196 (lv_at hl 0 rfl) ?_
            refine lv_i2l hx hb dL_law_198 rfl ?_
            refine W.lcmp hx hb dL_law_199 ?_
            refine lv_if_eq (tgt := 205) hx hb dL_law_200 (by decide) (fun hc => ?_) (fun hc => ?_)
            · rw [if_pos hc] at hf
              refine lv_goto (tgt := 906) hx hb dL_law_205 (by decide) ?_
              refine lv_iinc (v := (i + 6)) (lv' := [(4, .int (i + 6)), (6, .int o20.1), (5, .int o10.1), (3, .ref (zb 15)), (2, .ref aM), (1, .ref (zb 0)), (0, .ref b)]) hx hb dL_law_906 hl (k := 2) rfl rfl (by decide) rfl (fun ls hl => ?_)
              refine lv_goto (tgt := 23) hx hb dL_law_909 (by decide) ?_
              exact ih (i + 6) (kT k 0 o10.2.1 o10.2.2.1 o10.2.2.2.1) o10.2.2.2.2 o20.2 ((((wc + 0) + 1) + 0) + 0) ((((wn + 0) + 6) + 0) + 0) zb tp mp ra rb rf aM ad rd gd vad _ _ ls hf hP hD hS (lv_sub hl [0, 3, 4, 5, 6] rfl) hrf
            · rw [if_neg hc] at hf
              refine lv_iconst (v := 0) hx hb dL_law_203 (by decide) ?_
              exact absurd (Option.some.inj hf) (by decide)
        · rw [if_neg hc] at hf
          refine lv_iconst (v := 0) hx hb dL_law_186 (by decide) ?_
          exact absurd (Option.some.inj hf) (by decide)
      rw [if_neg hc4] at hf
      by_cases hc10 : ((xs i.toNatClampNeg) &&& (15 : Int32)) = 1
      · rw [if_pos hc10] at hf
        refine lv_tableIn (off := 168) (tgt := 208) hx hb dL_law_40 (by rw [hc10]; decide) (by rw [hc10]; decide) (by rw [hc10]; decide) (by decide) ?_
        refine lv_aload_n hx hb dL_law_208 rfl (lv_at hl 3 rfl) ?_
        refine lv_aload_n hx hb dL_law_209 rfl (lv_at hl 4 rfl) ?_
        refine lv_iload hx hb dL_law_210 (lv_at hl 0 rfl) ?_
        refine lv_iconst (v := 1) hx hb dL_law_212 (by decide) ?_
        refine lv_iadd hx hb dL_law_213 ?_
        obtain ⟨hg11, hf⟩ := xifn hf
        refine va_sld hx hb hXs hbl hbA hS (i := (i + (1 : Int32))) hg11 dL_law_214 ?_
        refine W.eq (g2 := F0 m 215 ls [.int (xs (i + (1 : Int32)).toNatClampNeg), .ref (zb 0)]) rfl ?_
        refine lv_aload_n hx hb dL_law_215 rfl (lv_at hl 1 rfl) ?_
        obtain ⟨o12, hq13, hf⟩ := xbind hf
        obtain ⟨hg14, hf⟩ := xifn hf
        have hm15 : ((wc + 0) + 1) ≤ 601024 ∧ ((wn + 0) + 6) ≤ 7293034 := ⟨Nat.le_of_not_lt fun h => hg14 (Or.inl h), Nat.le_of_not_lt fun h => hg14 (Or.inr h)⟩
        obtain ⟨hPc, hDc, hFc, hCc⟩ := xcutC (X := (xCx cT zb tp mp (ra 8) ra rb rf k ov)) (T := (xT cT ra rb k (xMw cT aM ad rd gd vad st []))) (we := [((zb 0), .inr (0, [.ref (zb 1), .ref (zb 3), .ref (zb 5), .ref (zb 7), .ref (zb 8), .ref (ra 8), .int (kpl k), .int (krs k)])), ((zb 1), .inr (1, [.ref (zb 2), .int (ktl k 0), .int (kto k 0)])), ((zb 2), .inl (cT 0, 4096, .inl (ktb k 0))), ((zb 3), .inr (1, [.ref (zb 4), .int (ktl k 1), .int (kto k 1)])), ((zb 4), .inl (cT 0, 4096, .inl (ktb k 1))), ((zb 5), .inr (1, [.ref (zb 6), .int (ktl k 2), .int (kto k 2)])), ((zb 6), .inl (cT 0, 4096, .inl (ktb k 2))), ((zb 7), .inl (cT 3, 8, .inr (.inr (.inr (.inr rf))))), ((zb 8), .inr (3, [.ref (zb 9), .ref (zb 10), .ref tp, .ref mp, .int (ktt k)])), ((zb 9), .inl (cT 1, 2048, .inl (ksa k 0))), ((zb 10), .inl (cT 1, 2048, .inl (ksa k 1))), (tp, .inl (cT 1, 2048, .inl (ksa k 2))), (mp, .inl (cT 1, 2048, .inl (ksa k 3))), ((ra 8), .inr (2, [.ref (rb 8), .int (krz k 8), .int (kro k 8)])), ((rb 8), .inl (cT 2, 4096, .inr (.inl (krc k 8))))]) (wt := []) (wo := [((zb 15), .inl (cT 2, 1, .inr (.inl ov)))]) (wc := [((zb 0), .inr (0, [.ref (zb 1), .ref (zb 3), .ref (zb 5), .ref (zb 7), .ref (zb 8), .ref (ra 8), .int (kpl k), .int (krs k)])), ((zb 1), .inr (1, [.ref (zb 2), .int (ktl k 0), .int (kto k 0)])), ((zb 2), .inl (cT 0, 4096, .inl (ktb k 0))), ((zb 3), .inr (1, [.ref (zb 4), .int (ktl k 1), .int (kto k 1)])), ((zb 4), .inl (cT 0, 4096, .inl (ktb k 1))), ((zb 5), .inr (1, [.ref (zb 6), .int (ktl k 2), .int (kto k 2)])), ((zb 6), .inl (cT 0, 4096, .inl (ktb k 2))), ((zb 7), .inl (cT 3, 8, .inr (.inr (.inr (.inr rf))))), ((zb 8), .inr (3, [.ref (zb 9), .ref (zb 10), .ref tp, .ref mp, .int (ktt k)])), ((zb 9), .inl (cT 1, 2048, .inl (ksa k 0))), ((zb 10), .inl (cT 1, 2048, .inl (ksa k 1))), (tp, .inl (cT 1, 2048, .inl (ksa k 2))), (mp, .inl (cT 1, 2048, .inl (ksa k 3))), ((ra 8), .inr (2, [.ref (rb 8), .int (krz k 8), .int (kro k 8)])), ((rb 8), .inl (cT 2, 4096, .inr (.inl (krc k 8)))), ((zb 15), .inl (cT 2, 1, .inr (.inl ov)))]) hP hD hS hA [] true rfl rfl rfl rfl (xnd0 true)
        refine va_calli (vx_runSW (As := [.ref (zb 0), .int (xs (i + (1 : Int32)).toNatClampNeg), .ref (zb 15)]) (rest := []) ⟨hx, hb, hml, hown, htx⟩ (gL_end l hl9 D cT aK aV H.size N (zb 0) (zb 1) (zb 2) (zb 3) (zb 4) (zb 5) (zb 6) (zb 7) (zb 8) (zb 9) (zb 10) (ra 8) (rb 8) (zb 15) rf (xs (i + (1 : Int32)).toNatClampNeg) (ktb k 0) (ktl k 0) (kto k 0) (ktb k 1) (ktl k 1) (kto k 1) (ktb k 2) (ktl k 2) (kto k 2) (ksa k 0) (ksa k 1) tp (ksa k 2) mp (ksa k 3) (ktt k) (krc k 8) (krz k 8) (kro k 8) (kpl k) (krs k) ov o12 hq13) (xcSW 3 htx (xw_goodC kw_1_210) rfl rfl rfl (htx _ kw_1_0) (htx _ kw_1_208) ⟨by decide, by decide, by decide +kernel⟩ ⟨Nat.le_of_ble_eq_true rfl, Nat.le_of_ble_eq_true rfl⟩ (htx _ kw_1_209)) ⟨xPre_blind, (fun U hU hW => ⟨rfl, xPre_of hZ hS hFc hPc hDc hK U hU hW⟩)⟩ rfl rfl hl.1 rfl (lv_room (Nat.le_of_ble_eq_true rfl)) dL_law_216 hm15) hS (fun q _ h => hFc q h) hFc (fun r16 u9 t H1 locs ht hvm hr9 hB hz1 hk1 hS => ?_)
        obtain ⟨hP1, hK1, hD1⟩ := hB
        rw [ht] at hP1
        obtain ⟨hP, hD⟩ := xjnC (X := (xCx cT zb tp mp (ra 8) ra rb rf k ov)) (X' := (xCx cT zb tp mp (ra 8) ra rb rf (kT k 0 (ktb k 0) o12.2.1 (kto k 0)) o12.2.2)) (T := (xT cT ra rb k (xMw cT aM ad rd gd vad st []))) (wt := []) hP hD [] true rfl rfl xge0 List.nodup_nil rfl hCc hk1 hFc hP1 hD1 rfl rfl rfl
        generalize H1 = H at hP hS ⊢
        have hP : va_P D xcl (xGw cT zb tp mp ra rb rf (kT k 0 (ktb k 0) o12.2.1 (kto k 0)) o12.2.2 (xMw cT aM ad rd gd vad st [])) H := hP
        have hD : va_D A (xGw cT zb tp mp ra rb rf (kT k 0 (ktb k 0) o12.2.1 (kto k 0)) o12.2.2 (xMw cT aM ad rd gd vad st [])) := hD
        rw [hr9]
        refine W.eq (g2 := F0 m 219 ls [.int o12.1]) rfl ?_
        refine lv_istore (lv' := [(5, .int o12.1), (4, .int i), (3, .ref (zb 15)), (2, .ref aM), (1, .ref (zb 0)), (0, .ref b)]) hx hb dL_law_219 hl (by decide) rfl (fun ls hl => ?_)
        refine lv_aload_n hx hb dL_law_221 rfl (lv_at hl 3 rfl) ?_
        refine lv_aload_n hx hb dL_law_222 rfl (lv_at hl 5 rfl) ?_
        refine lv_iload hx hb dL_law_223 (lv_at hl 1 rfl) ?_
        refine lv_iconst (v := 1) hx hb dL_law_225 (by decide) ?_
        refine lv_iadd hx hb dL_law_226 ?_
        obtain ⟨hg17, hf⟩ := xifn hf
        refine va_sld hx hb hXs hbl hbA hS (i := (i + (1 : Int32))) hg17 dL_law_227 ?_
        refine W.eq (g2 := F0 m 228 ls [.int (xs (i + (1 : Int32)).toNatClampNeg), .ref aM]) rfl ?_
        obtain ⟨o18, hq19, hf⟩ := xbind hf
        obtain ⟨hg20, hf⟩ := xifn hf
        have hm21 : (((wc + 0) + 1) + 0) ≤ 601024 ∧ (((wn + 0) + 6) + 0) ≤ 7293034 := ⟨Nat.le_of_not_lt fun h => hg20 (Or.inl h), Nat.le_of_not_lt fun h => hg20 (Or.inr h)⟩
        obtain ⟨hPc, hDc⟩ := xGw_part hP hD
        have hFc := xm_free hDc hS hA
        refine va_calli (va_runV (C := "ValueBenchModel") (As := [.int (xs (i + (1 : Int32)).toNatClampNeg)]) (rest := []) ⟨hx, hb, hml, hown, htx⟩ (gM_end l hl9 D cT aK aV H.size N aM ad rd gd vad st (xs (i + (1 : Int32)).toNatClampNeg) o18 hq19) ⟨callB_of 1 htx (xw_goodC kw_5_199) rfl rfl rfl (htx _ kw_1_5) (htx _ kw_5_196) ⟨by decide, by decide, by decide +kernel⟩ ⟨Nat.le_of_ble_eq_true rfl, Nat.le_of_ble_eq_true rfl⟩, (htx _ kw_5_197), (htx _ kw_5_198)⟩ ⟨xPre_blind, va_recv hK hPc (ci := 5) rfl (q0 := 0) rfl, (fun U hU hW => ⟨rfl, xPre_of hZ hS hFc hPc hDc hK U hU hW⟩)⟩ rfl rfl hl.1 rfl (lv_room (Nat.le_of_ble_eq_true rfl)) dL_law_228 hm21) hS (fun q _ h => hFc q h) hFc (fun r22 u9 t H1 locs ht hvm hr9 hB hz1 hk1 hS => ?_)
        obtain ⟨hP1, hK1, hD1⟩ := hB
        rw [ht] at hP1
        have hr9 := hr9.1
        obtain ⟨hP, hD⟩ := xGw_call (M' := (xMw cT aM ad rd gd vad o18.2 [])) hP hD hk1 hFc hP1 hD1
        generalize H1 = H at hP hS ⊢
        rw [hr9]
        refine W.eq (g2 := F0 m 231 ls [.int o18.1]) rfl ?_
        refine lv_istore (lv' := [(6, .int o18.1), (5, .int o12.1), (4, .int i), (3, .ref (zb 15)), (2, .ref aM), (1, .ref (zb 0)), (0, .ref b)]) hx hb dL_law_231 hl (by decide) rfl (fun ls hl => ?_)
        refine lv_aload_n hx hb dL_law_233 rfl (lv_at hl 4 rfl) ?_
        obtain ⟨o23, hq24, hf⟩ := xbind hf
        obtain ⟨hg25, hf⟩ := xifn hf
        have hm26 : ((((wc + 0) + 1) + 0) + 0) ≤ 601024 ∧ ((((wn + 0) + 6) + 0) + 0) ≤ 7293034 := ⟨Nat.le_of_not_lt fun h => hg25 (Or.inl h), Nat.le_of_not_lt fun h => hg25 (Or.inr h)⟩
        obtain ⟨hPc, hDc⟩ := xGw_part hP hD
        have hFc := xm_free hDc hS hA
        refine va_calli (va_runV (C := "ValueBenchModel") (As := []) (rest := []) ⟨hx, hb, hml, hown, htx⟩ (gM_thrown l hl9 D cT aK aV H.size N aM ad rd gd vad o18.2 o23 hq24) ⟨callB_of 0 htx (xw_goodC kw_5_187) rfl rfl rfl (htx _ kw_1_5) (htx _ kw_5_184) ⟨by decide, by decide, by decide +kernel⟩ ⟨Nat.le_of_ble_eq_true rfl, Nat.le_of_ble_eq_true rfl⟩, (htx _ kw_5_185), (htx _ kw_5_186)⟩ ⟨xPre_blind, va_recv hK hPc (ci := 5) rfl (q0 := 0) rfl, (fun U hU hW => ⟨rfl, xPre_of hZ hS hFc hPc hDc hK U hU hW⟩)⟩ rfl rfl hl.1 rfl (lv_room (Nat.le_of_ble_eq_true rfl)) dL_law_234 hm26) hS (fun q _ h => hFc q h) hFc (fun r27 u9 t H1 locs ht hvm hr9 hB hz1 hk1 hS => ?_)
        obtain ⟨hP1, hK1, hD1⟩ := hB
        rw [ht] at hP1
        obtain ⟨hP, hD⟩ := xGw_call (M' := (xMw cT aM ad rd gd vad o18.2 [])) hP hD hk1 hFc hP1 hD1
        generalize H1 = H at hP hS ⊢
        rw [hr9]
        refine W.eq (g2 := F0 m 237 ls [.int o23]) rfl ?_
        refine lv_iload hx hb dL_law_237 (lv_at hl 1 rfl) ?_
        refine lv_icmp_eq (tgt := 244) hx hb dL_law_239 (by decide) (fun hc => ?_) (fun hc => ?_)
        · rw [if_pos hc] at hf
          refine lv_iload hx hb dL_law_244 (lv_at hl 1 rfl) ?_
          refine lv_if_ne (tgt := 261) hx hb dL_law_246 (by decide) (fun hc => ?_) (fun hc => ?_)
          · rw [if_neg hc] at hf
            refine lv_goto (tgt := 906) hx hb dL_law_261 (by decide) ?_
            refine lv_iinc (v := (i + 6)) (lv' := [(4, .int (i + 6)), (6, .int o18.1), (5, .int o12.1), (3, .ref (zb 15)), (2, .ref aM), (1, .ref (zb 0)), (0, .ref b)]) hx hb dL_law_906 hl (k := 2) rfl rfl (by decide) rfl (fun ls hl => ?_)
            refine lv_goto (tgt := 23) hx hb dL_law_909 (by decide) ?_
            exact ih (i + 6) (kT k 0 (ktb k 0) o12.2.1 (kto k 0)) o12.2.2 o18.2 ((((wc + 0) + 1) + 0) + 0) ((((wn + 0) + 6) + 0) + 0) zb tp mp ra rb rf aM ad rd gd vad _ _ ls hf hP hD hS (lv_sub hl [0, 3, 4, 5, 6] rfl) hrf
          · rw [if_pos hc] at hf
            refine lv_aload_n hx hb dL_law_249 rfl (lv_at hl 3 rfl) ?_
            refine lv_iconst (v := 0) hx hb dL_law_250 (by decide) ?_
            refine va_lald hx hb hK hP 15 2 rfl rfl (show ¬ ((0 : Int32) < 0 ∨ 1 ≤ (0 : Int32).toNatClampNeg) by decide) dL_law_251 ?_
            refine W.eq (g2 := F0 m 252 ls [.long (o12.2.2 0)]) rfl ?_
            refine lv_iload hx hb dL_law_252 (lv_at hl 0 rfl) ?_
            refine lv_i2l hx hb dL_law_254 rfl ?_
            refine W.lcmp hx hb dL_law_255 ?_
            refine lv_if_eq (tgt := 261) hx hb dL_law_256 (by decide) (fun hc => ?_) (fun hc => ?_)
            · rw [if_pos hc] at hf
              refine lv_goto (tgt := 906) hx hb dL_law_261 (by decide) ?_
              refine lv_iinc (v := (i + 6)) (lv' := [(4, .int (i + 6)), (6, .int o18.1), (5, .int o12.1), (3, .ref (zb 15)), (2, .ref aM), (1, .ref (zb 0)), (0, .ref b)]) hx hb dL_law_906 hl (k := 2) rfl rfl (by decide) rfl (fun ls hl => ?_)
              refine lv_goto (tgt := 23) hx hb dL_law_909 (by decide) ?_
              exact ih (i + 6) (kT k 0 (ktb k 0) o12.2.1 (kto k 0)) o12.2.2 o18.2 ((((wc + 0) + 1) + 0) + 0) ((((wn + 0) + 6) + 0) + 0) zb tp mp ra rb rf aM ad rd gd vad _ _ ls hf hP hD hS (lv_sub hl [0, 3, 4, 5, 6] rfl) hrf
            · rw [if_neg hc] at hf
              refine lv_iconst (v := 0) hx hb dL_law_259 (by decide) ?_
              exact absurd (Option.some.inj hf) (by decide)
        · rw [if_neg hc] at hf
          refine lv_iconst (v := 0) hx hb dL_law_242 (by decide) ?_
          exact absurd (Option.some.inj hf) (by decide)
      rw [if_neg hc10] at hf
      by_cases hc12 : ((xs i.toNatClampNeg) &&& (15 : Int32)) = 2
      · rw [if_pos hc12] at hf
        refine lv_tableIn (off := 224) (tgt := 264) hx hb dL_law_40 (by rw [hc12]; decide) (by rw [hc12]; decide) (by rw [hc12]; decide) (by decide) ?_
        refine lv_aload_n hx hb dL_law_264 rfl (lv_at hl 3 rfl) ?_
        refine lv_aload_n hx hb dL_law_265 rfl (lv_at hl 4 rfl) ?_
        refine lv_iload hx hb dL_law_266 (lv_at hl 0 rfl) ?_
        refine lv_iconst (v := 1) hx hb dL_law_268 (by decide) ?_
        refine lv_iadd hx hb dL_law_269 ?_
        obtain ⟨hg13, hf⟩ := xifn hf
        refine va_sld hx hb hXs hbl hbA hS (i := (i + (1 : Int32))) hg13 dL_law_270 ?_
        refine W.eq (g2 := F0 m 271 ls [.int (xs (i + (1 : Int32)).toNatClampNeg), .ref (zb 0)]) rfl ?_
        refine lv_aload_n hx hb dL_law_271 rfl (lv_at hl 1 rfl) ?_
        obtain ⟨o14, hq15, hf⟩ := xbind hf
        obtain ⟨hg16, hf⟩ := xifn hf
        have hm17 : ((wc + 0) + 3) ≤ 601024 ∧ ((wn + 0) + 16) ≤ 7293034 := ⟨Nat.le_of_not_lt fun h => hg16 (Or.inl h), Nat.le_of_not_lt fun h => hg16 (Or.inr h)⟩
        obtain ⟨hPc, hDc, hFc, hCc⟩ := xcutC (X := (xCx cT zb tp mp (ra 8) ra rb rf k ov)) (T := (xT cT ra rb k (xMw cT aM ad rd gd vad st []))) (we := [((zb 0), .inr (0, [.ref (zb 1), .ref (zb 3), .ref (zb 5), .ref (zb 7), .ref (zb 8), .ref (ra 8), .int (kpl k), .int (krs k)])), ((zb 1), .inr (1, [.ref (zb 2), .int (ktl k 0), .int (kto k 0)])), ((zb 2), .inl (cT 0, 4096, .inl (ktb k 0))), ((zb 3), .inr (1, [.ref (zb 4), .int (ktl k 1), .int (kto k 1)])), ((zb 4), .inl (cT 0, 4096, .inl (ktb k 1))), ((zb 5), .inr (1, [.ref (zb 6), .int (ktl k 2), .int (kto k 2)])), ((zb 6), .inl (cT 0, 4096, .inl (ktb k 2))), ((zb 7), .inl (cT 3, 8, .inr (.inr (.inr (.inr rf))))), ((zb 8), .inr (3, [.ref (zb 9), .ref (zb 10), .ref tp, .ref mp, .int (ktt k)])), ((zb 9), .inl (cT 1, 2048, .inl (ksa k 0))), ((zb 10), .inl (cT 1, 2048, .inl (ksa k 1))), (tp, .inl (cT 1, 2048, .inl (ksa k 2))), (mp, .inl (cT 1, 2048, .inl (ksa k 3))), ((ra 8), .inr (2, [.ref (rb 8), .int (krz k 8), .int (kro k 8)])), ((rb 8), .inl (cT 2, 4096, .inr (.inl (krc k 8))))]) (wt := []) (wo := [((zb 15), .inl (cT 2, 1, .inr (.inl ov)))]) (wc := [((zb 0), .inr (0, [.ref (zb 1), .ref (zb 3), .ref (zb 5), .ref (zb 7), .ref (zb 8), .ref (ra 8), .int (kpl k), .int (krs k)])), ((zb 1), .inr (1, [.ref (zb 2), .int (ktl k 0), .int (kto k 0)])), ((zb 2), .inl (cT 0, 4096, .inl (ktb k 0))), ((zb 3), .inr (1, [.ref (zb 4), .int (ktl k 1), .int (kto k 1)])), ((zb 4), .inl (cT 0, 4096, .inl (ktb k 1))), ((zb 5), .inr (1, [.ref (zb 6), .int (ktl k 2), .int (kto k 2)])), ((zb 6), .inl (cT 0, 4096, .inl (ktb k 2))), ((zb 7), .inl (cT 3, 8, .inr (.inr (.inr (.inr rf))))), ((zb 8), .inr (3, [.ref (zb 9), .ref (zb 10), .ref tp, .ref mp, .int (ktt k)])), ((zb 9), .inl (cT 1, 2048, .inl (ksa k 0))), ((zb 10), .inl (cT 1, 2048, .inl (ksa k 1))), (tp, .inl (cT 1, 2048, .inl (ksa k 2))), (mp, .inl (cT 1, 2048, .inl (ksa k 3))), ((ra 8), .inr (2, [.ref (rb 8), .int (krz k 8), .int (kro k 8)])), ((rb 8), .inl (cT 2, 4096, .inr (.inl (krc k 8)))), ((zb 15), .inl (cT 2, 1, .inr (.inl ov)))]) hP hD hS hA [] true rfl rfl rfl rfl (xnd0 true)
        by_cases hk18 : o14.1 = 0
        · rw [if_pos hk18] at hf
          refine va_calli (vx_runSW (As := [.ref (zb 0), .int (xs (i + (1 : Int32)).toNatClampNeg), .ref (zb 15)]) (rest := []) ⟨hx, hb, hml, hown, htx⟩ (gL_read l hl9 D cT aK aV H.size 104 N (zb 0) (zb 1) (zb 2) (zb 3) (zb 4) (zb 5) (zb 6) (zb 7) (zb 8) (zb 9) (zb 10) (ra 8) (rb 8) (zb 15) rf (ra (xpk (xs (i + (1 : Int32)).toNatClampNeg))) (xs (i + (1 : Int32)).toNatClampNeg) (ktb k 0) (ktl k 0) (kto k 0) (ktb k 1) (ktl k 1) (kto k 1) (ktb k 2) (ktl k 2) (kto k 2) (ksa k 0) (ksa k 1) tp (ksa k 2) mp (ksa k 3) (ktt k) (krc k 8) (krz k 8) (kro k 8) (kpl k) (krs k) ov (xpkR hrf (xs (i + (1 : Int32)).toNatClampNeg)) o14 hq15 hk18) (xcSW 3 htx (xw_goodC kw_2_10) rfl rfl rfl (htx _ kw_1_0) (htx _ kw_2_8) ⟨by decide, by decide, by decide +kernel⟩ ⟨Nat.le_of_ble_eq_true rfl, Nat.le_of_ble_eq_true rfl⟩ (htx _ kw_2_9)) ⟨xPre_blind, (fun U hU hW => ⟨rfl, xPre_of hZ hS hFc hPc hDc hK U hU hW⟩)⟩ rfl rfl hl.1 rfl (lv_room (Nat.le_of_ble_eq_true rfl)) dL_law_272 hm17) hS (fun q _ h => hFc q h) hFc (fun r19 u9 t H1 locs ht hvm hr9 hB hz1 hk1 hS => ?_)
          obtain ⟨hP1, hK1, hD1⟩ := hB
          rw [ht] at hP1
          obtain ⟨hP, hD⟩ := xjnC (X := (xCx cT zb tp mp (ra 8) ra rb rf k ov)) (X' := (xCx cT zb tp mp (ra (xpk (xs (i + (1 : Int32)).toNatClampNeg))) ra rb (va_up rf (xs (i + (1 : Int32)).toNatClampNeg).toNatClampNeg (some (ra 8))) (kP (kT (kT (kR k o14.2.2.2.2.2.2.1 o14.2.2.2.2.2.2.2.1 o14.2.2.2.2.2.2.2.2.1) 0 (ktb k 0) o14.2.1 o14.2.2.1) 2 o14.2.2.2.1 o14.2.2.2.2.1 o14.2.2.2.2.2.1) o14.2.2.2.2.2.2.2.2.2.1 (krs k)) o14.2.2.2.2.2.2.2.2.2.2)) (T := (xT cT ra rb k (xMw cT aM ad rd gd vad st []))) (wt := []) hP hD [] true rfl rfl xge0 List.nodup_nil rfl hCc hk1 hFc hP1 hD1 rfl rfl rfl
          rw [← xT_kR (f := o14.2.2.2.2.2.2.1) (n := o14.2.2.2.2.2.2.2.1) (v := o14.2.2.2.2.2.2.2.2.1)] at hP hD
          generalize H1 = H at hP hS ⊢
          obtain ⟨hg20, hf⟩ := xifn hf
          have hP : va_P D xcl ((xCx cT zb tp mp (ra (xpk (xs (i + (1 : Int32)).toNatClampNeg))) ra rb (va_up rf (xs (i + (1 : Int32)).toNatClampNeg).toNatClampNeg (some (ra 8))) (kP (kT (kT (kR k o14.2.2.2.2.2.2.1 o14.2.2.2.2.2.2.2.1 o14.2.2.2.2.2.2.2.2.1) 0 (ktb k 0) o14.2.1 o14.2.2.1) 2 o14.2.2.2.1 o14.2.2.2.2.1 o14.2.2.2.2.2.1) o14.2.2.2.2.2.2.2.2.2.1 (krs k)) o14.2.2.2.2.2.2.2.2.2.2) ++ xT cT ra rb (kP (kT (kT (kR k o14.2.2.2.2.2.2.1 o14.2.2.2.2.2.2.2.1 o14.2.2.2.2.2.2.2.2.1) 0 (ktb k 0) o14.2.1 o14.2.2.1) 2 o14.2.2.2.1 o14.2.2.2.2.1 o14.2.2.2.2.2.1) o14.2.2.2.2.2.2.2.2.2.1 (krs k)) (xMw cT aM ad rd gd vad st [])) H := hP
          have hD : va_D A ((xCx cT zb tp mp (ra (xpk (xs (i + (1 : Int32)).toNatClampNeg))) ra rb (va_up rf (xs (i + (1 : Int32)).toNatClampNeg).toNatClampNeg (some (ra 8))) (kP (kT (kT (kR k o14.2.2.2.2.2.2.1 o14.2.2.2.2.2.2.2.1 o14.2.2.2.2.2.2.2.2.1) 0 (ktb k 0) o14.2.1 o14.2.2.1) 2 o14.2.2.2.1 o14.2.2.2.2.1 o14.2.2.2.2.2.1) o14.2.2.2.2.2.2.2.2.2.1 (krs k)) o14.2.2.2.2.2.2.2.2.2.2) ++ xT cT ra rb (kP (kT (kT (kR k o14.2.2.2.2.2.2.1 o14.2.2.2.2.2.2.2.1 o14.2.2.2.2.2.2.2.2.1) 0 (ktb k 0) o14.2.1 o14.2.2.1) 2 o14.2.2.2.1 o14.2.2.2.2.1 o14.2.2.2.2.2.1) o14.2.2.2.2.2.2.2.2.2.1 (krs k)) (xMw cT aM ad rd gd vad st [])) := hD
          obtain ⟨hP, hD⟩ := xT_sw (xpk8 (xs (i + (1 : Int32)).toNatClampNeg)) hP hD
          have hrf := xsw_rf (xpk8 (xs (i + (1 : Int32)).toNatClampNeg)) hrf
          rw [show va_up rf (xpk (xs (i + (1 : Int32)).toNatClampNeg)) (some (ra 8)) = va_up rf (xs (i + (1 : Int32)).toNatClampNeg).toNatClampNeg (some (ra 8)) from by rw [xpkE hg20]] at hrf
          have hP : va_P D xcl (xGw cT zb tp mp (xsw2 ra (xpk (xs (i + (1 : Int32)).toNatClampNeg))) (xsw2 rb (xpk (xs (i + (1 : Int32)).toNatClampNeg))) (va_up rf (xs (i + (1 : Int32)).toNatClampNeg).toNatClampNeg (some (ra 8))) (kW (kP (kT (kT (kR k o14.2.2.2.2.2.2.1 o14.2.2.2.2.2.2.2.1 o14.2.2.2.2.2.2.2.2.1) 0 (ktb k 0) o14.2.1 o14.2.2.1) 2 o14.2.2.2.1 o14.2.2.2.2.1 o14.2.2.2.2.2.1) o14.2.2.2.2.2.2.2.2.2.1 (krs k)) (xpk (xs (i + (1 : Int32)).toNatClampNeg))) o14.2.2.2.2.2.2.2.2.2.2 (xMw cT aM ad rd gd vad st [])) H := hP
          have hD : va_D A (xGw cT zb tp mp (xsw2 ra (xpk (xs (i + (1 : Int32)).toNatClampNeg))) (xsw2 rb (xpk (xs (i + (1 : Int32)).toNatClampNeg))) (va_up rf (xs (i + (1 : Int32)).toNatClampNeg).toNatClampNeg (some (ra 8))) (kW (kP (kT (kT (kR k o14.2.2.2.2.2.2.1 o14.2.2.2.2.2.2.2.1 o14.2.2.2.2.2.2.2.2.1) 0 (ktb k 0) o14.2.1 o14.2.2.1) 2 o14.2.2.2.1 o14.2.2.2.2.1 o14.2.2.2.2.2.1) o14.2.2.2.2.2.2.2.2.2.1 (krs k)) (xpk (xs (i + (1 : Int32)).toNatClampNeg))) o14.2.2.2.2.2.2.2.2.2.2 (xMw cT aM ad rd gd vad st [])) := hD
          generalize va_up rf (xs (i + (1 : Int32)).toNatClampNeg).toNatClampNeg (some (ra 8)) = rf23 at hP hD hrf
          generalize (xsw2 ra (xpk (xs (i + (1 : Int32)).toNatClampNeg))) = ra21 at hP hD hrf
          generalize (xsw2 rb (xpk (xs (i + (1 : Int32)).toNatClampNeg))) = rb22 at hP hD
          rw [hr9]
          refine W.eq (g2 := F0 m 275 ls [.int o14.1]) rfl ?_
          refine lv_istore (lv' := [(5, .int o14.1), (4, .int i), (3, .ref (zb 15)), (2, .ref aM), (1, .ref (zb 0)), (0, .ref b)]) hx hb dL_law_275 hl (by decide) rfl (fun ls hl => ?_)
          refine lv_aload_n hx hb dL_law_277 rfl (lv_at hl 3 rfl) ?_
          refine lv_aload_n hx hb dL_law_278 rfl (lv_at hl 5 rfl) ?_
          refine lv_iload hx hb dL_law_279 (lv_at hl 1 rfl) ?_
          refine lv_iconst (v := 1) hx hb dL_law_281 (by decide) ?_
          refine lv_iadd hx hb dL_law_282 ?_
          obtain ⟨hg24, hf⟩ := xifn hf
          refine va_sld hx hb hXs hbl hbA hS (i := (i + (1 : Int32))) hg24 dL_law_283 ?_
          refine W.eq (g2 := F0 m 284 ls [.int (xs (i + (1 : Int32)).toNatClampNeg), .ref aM]) rfl ?_
          obtain ⟨o25, hq26, hf⟩ := xbind hf
          obtain ⟨hg27, hf⟩ := xifn hf
          have hm28 : (((wc + 0) + 3) + o25.1) ≤ 601024 ∧ (((wn + 0) + 16) + o25.2.1) ≤ 7293034 := ⟨Nat.le_of_not_lt fun h => hg27 (Or.inl h), Nat.le_of_not_lt fun h => hg27 (Or.inr h)⟩
          obtain ⟨hPc, hDc⟩ := xGw_part hP hD
          have hFc := xm_free hDc hS hA
          refine va_calli (vx_runVW (C := "ValueBenchModel") (As := [.int (xs (i + (1 : Int32)).toNatClampNeg)]) (rest := []) ⟨hx, hb, hml, hown, htx⟩ (gM_read l hl9 D cT aK aV H.size 104 N aM ad rd gd vad st (xs (i + (1 : Int32)).toNatClampNeg) o25 hq26) (xcVW 1 htx (xw_goodC kw_5_203) rfl rfl rfl (htx _ kw_1_5) (htx _ kw_5_200) ⟨by decide, by decide, by decide +kernel⟩ ⟨Nat.le_of_ble_eq_true rfl, Nat.le_of_ble_eq_true rfl⟩ (htx _ kw_5_201) (htx _ kw_5_202)) ⟨xPre_blind, va_recv hK hPc (ci := 5) rfl (q0 := 0) rfl, (fun U hU hW => ⟨rfl, xPre_of hZ hS hFc hPc hDc hK U hU hW⟩)⟩ rfl rfl hl.1 rfl (lv_room (Nat.le_of_ble_eq_true rfl)) dL_law_284 hm28) hS (fun q _ h => hFc q h) hFc (fun r29 u9 t H1 locs ht hvm hr9 hB hz1 hk1 hS => ?_)
          obtain ⟨hP1, hK1, hD1⟩ := hB
          rw [ht] at hP1
          obtain ⟨ad30, gd31, vad32⟩ := u9
          have hr9 := hr9.1
          obtain ⟨hP, hD⟩ := xGw_call (M' := (xMw cT aM ad30 rd gd31 vad32 o25.2.2.2 [])) hP hD hk1 hFc hP1 hD1
          generalize H1 = H at hP hS ⊢
          rw [hr9]
          refine W.eq (g2 := F0 m 287 ls [.int o25.2.2.1]) rfl ?_
          refine lv_istore (lv' := [(6, .int o25.2.2.1), (5, .int o14.1), (4, .int i), (3, .ref (zb 15)), (2, .ref aM), (1, .ref (zb 0)), (0, .ref b)]) hx hb dL_law_287 hl (by decide) rfl (fun ls hl => ?_)
          refine lv_aload_n hx hb dL_law_289 rfl (lv_at hl 4 rfl) ?_
          obtain ⟨o33, hq34, hf⟩ := xbind hf
          obtain ⟨hg35, hf⟩ := xifn hf
          have hm36 : ((((wc + 0) + 3) + o25.1) + 0) ≤ 601024 ∧ ((((wn + 0) + 16) + o25.2.1) + 0) ≤ 7293034 := ⟨Nat.le_of_not_lt fun h => hg35 (Or.inl h), Nat.le_of_not_lt fun h => hg35 (Or.inr h)⟩
          obtain ⟨hPc, hDc⟩ := xGw_part hP hD
          have hFc := xm_free hDc hS hA
          refine va_calli (va_runV (C := "ValueBenchModel") (As := []) (rest := []) ⟨hx, hb, hml, hown, htx⟩ (gM_thrown l hl9 D cT aK aV H.size N aM ad30 rd gd31 vad32 o25.2.2.2 o33 hq34) ⟨callB_of 0 htx (xw_goodC kw_5_187) rfl rfl rfl (htx _ kw_1_5) (htx _ kw_5_184) ⟨by decide, by decide, by decide +kernel⟩ ⟨Nat.le_of_ble_eq_true rfl, Nat.le_of_ble_eq_true rfl⟩, (htx _ kw_5_185), (htx _ kw_5_186)⟩ ⟨xPre_blind, va_recv hK hPc (ci := 5) rfl (q0 := 0) rfl, (fun U hU hW => ⟨rfl, xPre_of hZ hS hFc hPc hDc hK U hU hW⟩)⟩ rfl rfl hl.1 rfl (lv_room (Nat.le_of_ble_eq_true rfl)) dL_law_290 hm36) hS (fun q _ h => hFc q h) hFc (fun r37 u9 t H1 locs ht hvm hr9 hB hz1 hk1 hS => ?_)
          obtain ⟨hP1, hK1, hD1⟩ := hB
          rw [ht] at hP1
          obtain ⟨hP, hD⟩ := xGw_call (M' := (xMw cT aM ad30 rd gd31 vad32 o25.2.2.2 [])) hP hD hk1 hFc hP1 hD1
          generalize H1 = H at hP hS ⊢
          rw [hr9]
          refine W.eq (g2 := F0 m 293 ls [.int o33]) rfl ?_
          refine lv_iload hx hb dL_law_293 (lv_at hl 1 rfl) ?_
          refine lv_icmp_eq (tgt := 300) hx hb dL_law_295 (by decide) (fun hc => ?_) (fun hc => ?_)
          · rw [if_pos hc] at hf
            refine lv_iload hx hb dL_law_300 (lv_at hl 1 rfl) ?_
            refine lv_if_ne (tgt := 317) hx hb dL_law_302 (by decide) (fun hc => ?_) (fun hc => ?_)
            · rw [if_neg hc] at hf
              refine lv_goto (tgt := 906) hx hb dL_law_317 (by decide) ?_
              refine lv_iinc (v := (i + 6)) (lv' := [(4, .int (i + 6)), (6, .int o25.2.2.1), (5, .int o14.1), (3, .ref (zb 15)), (2, .ref aM), (1, .ref (zb 0)), (0, .ref b)]) hx hb dL_law_906 hl (k := 2) rfl rfl (by decide) rfl (fun ls hl => ?_)
              refine lv_goto (tgt := 23) hx hb dL_law_909 (by decide) ?_
              exact ih (i + 6) (kW (kP (kT (kT (kR k o14.2.2.2.2.2.2.1 o14.2.2.2.2.2.2.2.1 o14.2.2.2.2.2.2.2.2.1) 0 (ktb k 0) o14.2.1 o14.2.2.1) 2 o14.2.2.2.1 o14.2.2.2.2.1 o14.2.2.2.2.2.1) o14.2.2.2.2.2.2.2.2.2.1 (krs k)) (xpk (xs (i + (1 : Int32)).toNatClampNeg))) o14.2.2.2.2.2.2.2.2.2.2 o25.2.2.2 ((((wc + 0) + 3) + o25.1) + 0) ((((wn + 0) + 16) + o25.2.1) + 0) zb tp mp ra21 rb22 rf23 aM ad30 rd gd31 vad32 _ _ ls hf hP hD hS (lv_sub hl [0, 3, 4, 5, 6] rfl) hrf
            · rw [if_pos hc] at hf
              refine lv_aload_n hx hb dL_law_305 rfl (lv_at hl 3 rfl) ?_
              refine lv_iconst (v := 0) hx hb dL_law_306 (by decide) ?_
              refine va_lald hx hb hK hP 15 2 rfl rfl (show ¬ ((0 : Int32) < 0 ∨ 1 ≤ (0 : Int32).toNatClampNeg) by decide) dL_law_307 ?_
              refine W.eq (g2 := F0 m 308 ls [.long (o14.2.2.2.2.2.2.2.2.2.2 0)]) rfl ?_
              refine lv_iload hx hb dL_law_308 (lv_at hl 0 rfl) ?_
              refine lv_i2l hx hb dL_law_310 rfl ?_
              refine W.lcmp hx hb dL_law_311 ?_
              refine lv_if_eq (tgt := 317) hx hb dL_law_312 (by decide) (fun hc => ?_) (fun hc => ?_)
              · rw [if_pos hc] at hf
                refine lv_goto (tgt := 906) hx hb dL_law_317 (by decide) ?_
                refine lv_iinc (v := (i + 6)) (lv' := [(4, .int (i + 6)), (6, .int o25.2.2.1), (5, .int o14.1), (3, .ref (zb 15)), (2, .ref aM), (1, .ref (zb 0)), (0, .ref b)]) hx hb dL_law_906 hl (k := 2) rfl rfl (by decide) rfl (fun ls hl => ?_)
                refine lv_goto (tgt := 23) hx hb dL_law_909 (by decide) ?_
                exact ih (i + 6) (kW (kP (kT (kT (kR k o14.2.2.2.2.2.2.1 o14.2.2.2.2.2.2.2.1 o14.2.2.2.2.2.2.2.2.1) 0 (ktb k 0) o14.2.1 o14.2.2.1) 2 o14.2.2.2.1 o14.2.2.2.2.1 o14.2.2.2.2.2.1) o14.2.2.2.2.2.2.2.2.2.1 (krs k)) (xpk (xs (i + (1 : Int32)).toNatClampNeg))) o14.2.2.2.2.2.2.2.2.2.2 o25.2.2.2 ((((wc + 0) + 3) + o25.1) + 0) ((((wn + 0) + 16) + o25.2.1) + 0) zb tp mp ra21 rb22 rf23 aM ad30 rd gd31 vad32 _ _ ls hf hP hD hS (lv_sub hl [0, 3, 4, 5, 6] rfl) hrf
              · rw [if_neg hc] at hf
                refine lv_iconst (v := 0) hx hb dL_law_315 (by decide) ?_
                exact absurd (Option.some.inj hf) (by decide)
          · rw [if_neg hc] at hf
            refine lv_iconst (v := 0) hx hb dL_law_298 (by decide) ?_
            exact absurd (Option.some.inj hf) (by decide)
        · rw [if_neg hk18] at hf
          refine va_calli (vx_runSW (As := [.ref (zb 0), .int (xs (i + (1 : Int32)).toNatClampNeg), .ref (zb 15)]) (rest := []) ⟨hx, hb, hml, hown, htx⟩ (gL_read_1 l hl9 D cT aK aV H.size 104 N (zb 0) (zb 1) (zb 2) (zb 3) (zb 4) (zb 5) (zb 6) (zb 7) (zb 8) (zb 9) (zb 10) (ra 8) (rb 8) (zb 15) rf (ra (xpk (xs (i + (1 : Int32)).toNatClampNeg))) (xs (i + (1 : Int32)).toNatClampNeg) (ktb k 0) (ktl k 0) (kto k 0) (ktb k 1) (ktl k 1) (kto k 1) (ktb k 2) (ktl k 2) (kto k 2) (ksa k 0) (ksa k 1) tp (ksa k 2) mp (ksa k 3) (ktt k) (krc k 8) (krz k 8) (kro k 8) (kpl k) (krs k) ov (xpkR hrf (xs (i + (1 : Int32)).toNatClampNeg)) o14 hq15 hk18) (xcSW 3 htx (xw_goodC kw_2_10) rfl rfl rfl (htx _ kw_1_0) (htx _ kw_2_8) ⟨by decide, by decide, by decide +kernel⟩ ⟨Nat.le_of_ble_eq_true rfl, Nat.le_of_ble_eq_true rfl⟩ (htx _ kw_2_9)) ⟨xPre_blind, (fun U hU hW => ⟨rfl, xPre_of hZ hS hFc hPc hDc hK U hU hW⟩)⟩ rfl rfl hl.1 rfl (lv_room (Nat.le_of_ble_eq_true rfl)) dL_law_272 hm17) hS (fun q _ h => hFc q h) hFc (fun r26 u9 t H1 locs ht hvm hr9 hB hz1 hk1 hS => ?_)
          obtain ⟨hP1, hK1, hD1⟩ := hB
          rw [ht] at hP1
          obtain ⟨hP, hD⟩ := xjnC (X := (xCx cT zb tp mp (ra 8) ra rb rf k ov)) (X' := (xCx cT zb tp mp (ra 8) ra rb rf (kP (kT (kT (kR k o14.2.2.2.2.2.2.1 o14.2.2.2.2.2.2.2.1 o14.2.2.2.2.2.2.2.2.1) 0 (ktb k 0) o14.2.1 o14.2.2.1) 2 o14.2.2.2.1 o14.2.2.2.2.1 o14.2.2.2.2.2.1) o14.2.2.2.2.2.2.2.2.2.1 (krs k)) o14.2.2.2.2.2.2.2.2.2.2)) (T := (xT cT ra rb k (xMw cT aM ad rd gd vad st []))) (wt := []) hP hD [] true rfl rfl xge0 List.nodup_nil rfl hCc hk1 hFc hP1 hD1 rfl rfl rfl
          rw [← xT_kR (f := o14.2.2.2.2.2.2.1) (n := o14.2.2.2.2.2.2.2.1) (v := o14.2.2.2.2.2.2.2.2.1)] at hP hD
          generalize H1 = H at hP hS ⊢
          have hP : va_P D xcl (xGw cT zb tp mp ra rb rf (kP (kT (kT (kR k o14.2.2.2.2.2.2.1 o14.2.2.2.2.2.2.2.1 o14.2.2.2.2.2.2.2.2.1) 0 (ktb k 0) o14.2.1 o14.2.2.1) 2 o14.2.2.2.1 o14.2.2.2.2.1 o14.2.2.2.2.2.1) o14.2.2.2.2.2.2.2.2.2.1 (krs k)) o14.2.2.2.2.2.2.2.2.2.2 (xMw cT aM ad rd gd vad st [])) H := hP
          have hD : va_D A (xGw cT zb tp mp ra rb rf (kP (kT (kT (kR k o14.2.2.2.2.2.2.1 o14.2.2.2.2.2.2.2.1 o14.2.2.2.2.2.2.2.2.1) 0 (ktb k 0) o14.2.1 o14.2.2.1) 2 o14.2.2.2.1 o14.2.2.2.2.1 o14.2.2.2.2.2.1) o14.2.2.2.2.2.2.2.2.2.1 (krs k)) o14.2.2.2.2.2.2.2.2.2.2 (xMw cT aM ad rd gd vad st [])) := hD
          rw [hr9]
          refine W.eq (g2 := F0 m 275 ls [.int o14.1]) rfl ?_
          refine lv_istore (lv' := [(5, .int o14.1), (4, .int i), (3, .ref (zb 15)), (2, .ref aM), (1, .ref (zb 0)), (0, .ref b)]) hx hb dL_law_275 hl (by decide) rfl (fun ls hl => ?_)
          refine lv_aload_n hx hb dL_law_277 rfl (lv_at hl 3 rfl) ?_
          refine lv_aload_n hx hb dL_law_278 rfl (lv_at hl 5 rfl) ?_
          refine lv_iload hx hb dL_law_279 (lv_at hl 1 rfl) ?_
          refine lv_iconst (v := 1) hx hb dL_law_281 (by decide) ?_
          refine lv_iadd hx hb dL_law_282 ?_
          obtain ⟨hg27, hf⟩ := xifn hf
          refine va_sld hx hb hXs hbl hbA hS (i := (i + (1 : Int32))) hg27 dL_law_283 ?_
          refine W.eq (g2 := F0 m 284 ls [.int (xs (i + (1 : Int32)).toNatClampNeg), .ref aM]) rfl ?_
          obtain ⟨o28, hq29, hf⟩ := xbind hf
          obtain ⟨hg30, hf⟩ := xifn hf
          have hm31 : (((wc + 0) + 3) + o28.1) ≤ 601024 ∧ (((wn + 0) + 16) + o28.2.1) ≤ 7293034 := ⟨Nat.le_of_not_lt fun h => hg30 (Or.inl h), Nat.le_of_not_lt fun h => hg30 (Or.inr h)⟩
          obtain ⟨hPc, hDc⟩ := xGw_part hP hD
          have hFc := xm_free hDc hS hA
          refine va_calli (vx_runVW (C := "ValueBenchModel") (As := [.int (xs (i + (1 : Int32)).toNatClampNeg)]) (rest := []) ⟨hx, hb, hml, hown, htx⟩ (gM_read l hl9 D cT aK aV H.size 104 N aM ad rd gd vad st (xs (i + (1 : Int32)).toNatClampNeg) o28 hq29) (xcVW 1 htx (xw_goodC kw_5_203) rfl rfl rfl (htx _ kw_1_5) (htx _ kw_5_200) ⟨by decide, by decide, by decide +kernel⟩ ⟨Nat.le_of_ble_eq_true rfl, Nat.le_of_ble_eq_true rfl⟩ (htx _ kw_5_201) (htx _ kw_5_202)) ⟨xPre_blind, va_recv hK hPc (ci := 5) rfl (q0 := 0) rfl, (fun U hU hW => ⟨rfl, xPre_of hZ hS hFc hPc hDc hK U hU hW⟩)⟩ rfl rfl hl.1 rfl (lv_room (Nat.le_of_ble_eq_true rfl)) dL_law_284 hm31) hS (fun q _ h => hFc q h) hFc (fun r32 u9 t H1 locs ht hvm hr9 hB hz1 hk1 hS => ?_)
          obtain ⟨hP1, hK1, hD1⟩ := hB
          rw [ht] at hP1
          obtain ⟨ad33, gd34, vad35⟩ := u9
          have hr9 := hr9.1
          obtain ⟨hP, hD⟩ := xGw_call (M' := (xMw cT aM ad33 rd gd34 vad35 o28.2.2.2 [])) hP hD hk1 hFc hP1 hD1
          generalize H1 = H at hP hS ⊢
          rw [hr9]
          refine W.eq (g2 := F0 m 287 ls [.int o28.2.2.1]) rfl ?_
          refine lv_istore (lv' := [(6, .int o28.2.2.1), (5, .int o14.1), (4, .int i), (3, .ref (zb 15)), (2, .ref aM), (1, .ref (zb 0)), (0, .ref b)]) hx hb dL_law_287 hl (by decide) rfl (fun ls hl => ?_)
          refine lv_aload_n hx hb dL_law_289 rfl (lv_at hl 4 rfl) ?_
          obtain ⟨o36, hq37, hf⟩ := xbind hf
          obtain ⟨hg38, hf⟩ := xifn hf
          have hm39 : ((((wc + 0) + 3) + o28.1) + 0) ≤ 601024 ∧ ((((wn + 0) + 16) + o28.2.1) + 0) ≤ 7293034 := ⟨Nat.le_of_not_lt fun h => hg38 (Or.inl h), Nat.le_of_not_lt fun h => hg38 (Or.inr h)⟩
          obtain ⟨hPc, hDc⟩ := xGw_part hP hD
          have hFc := xm_free hDc hS hA
          refine va_calli (va_runV (C := "ValueBenchModel") (As := []) (rest := []) ⟨hx, hb, hml, hown, htx⟩ (gM_thrown l hl9 D cT aK aV H.size N aM ad33 rd gd34 vad35 o28.2.2.2 o36 hq37) ⟨callB_of 0 htx (xw_goodC kw_5_187) rfl rfl rfl (htx _ kw_1_5) (htx _ kw_5_184) ⟨by decide, by decide, by decide +kernel⟩ ⟨Nat.le_of_ble_eq_true rfl, Nat.le_of_ble_eq_true rfl⟩, (htx _ kw_5_185), (htx _ kw_5_186)⟩ ⟨xPre_blind, va_recv hK hPc (ci := 5) rfl (q0 := 0) rfl, (fun U hU hW => ⟨rfl, xPre_of hZ hS hFc hPc hDc hK U hU hW⟩)⟩ rfl rfl hl.1 rfl (lv_room (Nat.le_of_ble_eq_true rfl)) dL_law_290 hm39) hS (fun q _ h => hFc q h) hFc (fun r40 u9 t H1 locs ht hvm hr9 hB hz1 hk1 hS => ?_)
          obtain ⟨hP1, hK1, hD1⟩ := hB
          rw [ht] at hP1
          obtain ⟨hP, hD⟩ := xGw_call (M' := (xMw cT aM ad33 rd gd34 vad35 o28.2.2.2 [])) hP hD hk1 hFc hP1 hD1
          generalize H1 = H at hP hS ⊢
          rw [hr9]
          refine W.eq (g2 := F0 m 293 ls [.int o36]) rfl ?_
          refine lv_iload hx hb dL_law_293 (lv_at hl 1 rfl) ?_
          refine lv_icmp_eq (tgt := 300) hx hb dL_law_295 (by decide) (fun hc => ?_) (fun hc => ?_)
          · rw [if_pos hc] at hf
            refine lv_iload hx hb dL_law_300 (lv_at hl 1 rfl) ?_
            refine lv_if_ne (tgt := 317) hx hb dL_law_302 (by decide) (fun hc => ?_) (fun hc => ?_)
            · rw [if_neg hc] at hf
              refine lv_goto (tgt := 906) hx hb dL_law_317 (by decide) ?_
              refine lv_iinc (v := (i + 6)) (lv' := [(4, .int (i + 6)), (6, .int o28.2.2.1), (5, .int o14.1), (3, .ref (zb 15)), (2, .ref aM), (1, .ref (zb 0)), (0, .ref b)]) hx hb dL_law_906 hl (k := 2) rfl rfl (by decide) rfl (fun ls hl => ?_)
              refine lv_goto (tgt := 23) hx hb dL_law_909 (by decide) ?_
              exact ih (i + 6) (kP (kT (kT (kR k o14.2.2.2.2.2.2.1 o14.2.2.2.2.2.2.2.1 o14.2.2.2.2.2.2.2.2.1) 0 (ktb k 0) o14.2.1 o14.2.2.1) 2 o14.2.2.2.1 o14.2.2.2.2.1 o14.2.2.2.2.2.1) o14.2.2.2.2.2.2.2.2.2.1 (krs k)) o14.2.2.2.2.2.2.2.2.2.2 o28.2.2.2 ((((wc + 0) + 3) + o28.1) + 0) ((((wn + 0) + 16) + o28.2.1) + 0) zb tp mp ra rb rf aM ad33 rd gd34 vad35 _ _ ls hf hP hD hS (lv_sub hl [0, 3, 4, 5, 6] rfl) hrf
            · rw [if_pos hc] at hf
              refine lv_aload_n hx hb dL_law_305 rfl (lv_at hl 3 rfl) ?_
              refine lv_iconst (v := 0) hx hb dL_law_306 (by decide) ?_
              refine va_lald hx hb hK hP 15 2 rfl rfl (show ¬ ((0 : Int32) < 0 ∨ 1 ≤ (0 : Int32).toNatClampNeg) by decide) dL_law_307 ?_
              refine W.eq (g2 := F0 m 308 ls [.long (o14.2.2.2.2.2.2.2.2.2.2 0)]) rfl ?_
              refine lv_iload hx hb dL_law_308 (lv_at hl 0 rfl) ?_
              refine lv_i2l hx hb dL_law_310 rfl ?_
              refine W.lcmp hx hb dL_law_311 ?_
              refine lv_if_eq (tgt := 317) hx hb dL_law_312 (by decide) (fun hc => ?_) (fun hc => ?_)
              · rw [if_pos hc] at hf
                refine lv_goto (tgt := 906) hx hb dL_law_317 (by decide) ?_
                refine lv_iinc (v := (i + 6)) (lv' := [(4, .int (i + 6)), (6, .int o28.2.2.1), (5, .int o14.1), (3, .ref (zb 15)), (2, .ref aM), (1, .ref (zb 0)), (0, .ref b)]) hx hb dL_law_906 hl (k := 2) rfl rfl (by decide) rfl (fun ls hl => ?_)
                refine lv_goto (tgt := 23) hx hb dL_law_909 (by decide) ?_
                exact ih (i + 6) (kP (kT (kT (kR k o14.2.2.2.2.2.2.1 o14.2.2.2.2.2.2.2.1 o14.2.2.2.2.2.2.2.2.1) 0 (ktb k 0) o14.2.1 o14.2.2.1) 2 o14.2.2.2.1 o14.2.2.2.2.1 o14.2.2.2.2.2.1) o14.2.2.2.2.2.2.2.2.2.1 (krs k)) o14.2.2.2.2.2.2.2.2.2.2 o28.2.2.2 ((((wc + 0) + 3) + o28.1) + 0) ((((wn + 0) + 16) + o28.2.1) + 0) zb tp mp ra rb rf aM ad33 rd gd34 vad35 _ _ ls hf hP hD hS (lv_sub hl [0, 3, 4, 5, 6] rfl) hrf
              · rw [if_neg hc] at hf
                refine lv_iconst (v := 0) hx hb dL_law_315 (by decide) ?_
                exact absurd (Option.some.inj hf) (by decide)
          · rw [if_neg hc] at hf
            refine lv_iconst (v := 0) hx hb dL_law_298 (by decide) ?_
            exact absurd (Option.some.inj hf) (by decide)
      rw [if_neg hc12] at hf
      by_cases hc14 : ((xs i.toNatClampNeg) &&& (15 : Int32)) = 3
      · rw [if_pos hc14] at hf
        refine lv_tableIn (off := 280) (tgt := 320) hx hb dL_law_40 (by rw [hc14]; decide) (by rw [hc14]; decide) (by rw [hc14]; decide) (by decide) ?_
        refine lv_aload_n hx hb dL_law_320 rfl (lv_at hl 3 rfl) ?_
        refine lv_aload_n hx hb dL_law_321 rfl (lv_at hl 4 rfl) ?_
        refine lv_iload hx hb dL_law_322 (lv_at hl 0 rfl) ?_
        refine lv_iconst (v := 1) hx hb dL_law_324 (by decide) ?_
        refine lv_iadd hx hb dL_law_325 ?_
        obtain ⟨hg15, hf⟩ := xifn hf
        refine va_sld hx hb hXs hbl hbA hS (i := (i + (1 : Int32))) hg15 dL_law_326 ?_
        refine W.eq (g2 := F0 m 327 ls [.int (xs (i + (1 : Int32)).toNatClampNeg), .ref (zb 0)]) rfl ?_
        refine lv_aload_n hx hb dL_law_327 rfl (lv_at hl 1 rfl) ?_
        obtain ⟨o16, hq17, hf⟩ := xbind hf
        obtain ⟨hg18, hf⟩ := xifn hf
        have hm19 : ((wc + 0) + 1) ≤ 601024 ∧ ((wn + 0) + 6) ≤ 7293034 := ⟨Nat.le_of_not_lt fun h => hg18 (Or.inl h), Nat.le_of_not_lt fun h => hg18 (Or.inr h)⟩
        obtain ⟨hPc, hDc, hFc, hCc⟩ := xcutC (X := (xCx cT zb tp mp (ra 8) ra rb rf k ov)) (T := (xT cT ra rb k (xMw cT aM ad rd gd vad st []))) (we := [((zb 0), .inr (0, [.ref (zb 1), .ref (zb 3), .ref (zb 5), .ref (zb 7), .ref (zb 8), .ref (ra 8), .int (kpl k), .int (krs k)])), ((zb 1), .inr (1, [.ref (zb 2), .int (ktl k 0), .int (kto k 0)])), ((zb 2), .inl (cT 0, 4096, .inl (ktb k 0))), ((zb 3), .inr (1, [.ref (zb 4), .int (ktl k 1), .int (kto k 1)])), ((zb 4), .inl (cT 0, 4096, .inl (ktb k 1))), ((zb 5), .inr (1, [.ref (zb 6), .int (ktl k 2), .int (kto k 2)])), ((zb 6), .inl (cT 0, 4096, .inl (ktb k 2))), ((zb 7), .inl (cT 3, 8, .inr (.inr (.inr (.inr rf))))), ((zb 8), .inr (3, [.ref (zb 9), .ref (zb 10), .ref tp, .ref mp, .int (ktt k)])), ((zb 9), .inl (cT 1, 2048, .inl (ksa k 0))), ((zb 10), .inl (cT 1, 2048, .inl (ksa k 1))), (tp, .inl (cT 1, 2048, .inl (ksa k 2))), (mp, .inl (cT 1, 2048, .inl (ksa k 3))), ((ra 8), .inr (2, [.ref (rb 8), .int (krz k 8), .int (kro k 8)])), ((rb 8), .inl (cT 2, 4096, .inr (.inl (krc k 8))))]) (wt := [((ra (xpk (xs (i + (1 : Int32)).toNatClampNeg))), .inr (2, [.ref (rb (xpk (xs (i + (1 : Int32)).toNatClampNeg))), .int (krz k (xpk (xs (i + (1 : Int32)).toNatClampNeg))), .int (kro k (xpk (xs (i + (1 : Int32)).toNatClampNeg)))])), ((rb (xpk (xs (i + (1 : Int32)).toNatClampNeg))), .inl (cT 2, 4096, .inr (.inl (krc k (xpk (xs (i + (1 : Int32)).toNatClampNeg))))))]) (wo := [((zb 15), .inl (cT 2, 1, .inr (.inl ov)))]) (wc := [((zb 0), .inr (0, [.ref (zb 1), .ref (zb 3), .ref (zb 5), .ref (zb 7), .ref (zb 8), .ref (ra 8), .int (kpl k), .int (krs k)])), ((zb 1), .inr (1, [.ref (zb 2), .int (ktl k 0), .int (kto k 0)])), ((zb 2), .inl (cT 0, 4096, .inl (ktb k 0))), ((zb 3), .inr (1, [.ref (zb 4), .int (ktl k 1), .int (kto k 1)])), ((zb 4), .inl (cT 0, 4096, .inl (ktb k 1))), ((zb 5), .inr (1, [.ref (zb 6), .int (ktl k 2), .int (kto k 2)])), ((zb 6), .inl (cT 0, 4096, .inl (ktb k 2))), ((zb 7), .inl (cT 3, 8, .inr (.inr (.inr (.inr rf))))), ((zb 8), .inr (3, [.ref (zb 9), .ref (zb 10), .ref tp, .ref mp, .int (ktt k)])), ((zb 9), .inl (cT 1, 2048, .inl (ksa k 0))), ((zb 10), .inl (cT 1, 2048, .inl (ksa k 1))), (tp, .inl (cT 1, 2048, .inl (ksa k 2))), (mp, .inl (cT 1, 2048, .inl (ksa k 3))), ((ra 8), .inr (2, [.ref (rb 8), .int (krz k 8), .int (kro k 8)])), ((rb 8), .inl (cT 2, 4096, .inr (.inl (krc k 8)))), ((ra (xpk (xs (i + (1 : Int32)).toNatClampNeg))), .inr (2, [.ref (rb (xpk (xs (i + (1 : Int32)).toNatClampNeg))), .int (krz k (xpk (xs (i + (1 : Int32)).toNatClampNeg))), .int (kro k (xpk (xs (i + (1 : Int32)).toNatClampNeg)))])), ((rb (xpk (xs (i + (1 : Int32)).toNatClampNeg))), .inl (cT 2, 4096, .inr (.inl (krc k (xpk (xs (i + (1 : Int32)).toNatClampNeg)))))), ((zb 15), .inl (cT 2, 1, .inr (.inl ov)))]) hP hD hS hA [16 + (xpk (xs (i + (1 : Int32)).toNatClampNeg)), 24 + (xpk (xs (i + (1 : Int32)).toNatClampNeg))] true rfl (xit1 rfl (xpk8 _)) rfl rfl (xnd1 _ (xpk8 _) true).1
        refine va_calli (vx_runSW (As := [.ref (zb 0), .int (xs (i + (1 : Int32)).toNatClampNeg), .ref (zb 15)]) (rest := []) ⟨hx, hb, hml, hown, htx⟩ (gL_print l hl9 D cT aK aV H.size 104 N (zb 0) (zb 1) (zb 2) (zb 3) (zb 4) (zb 5) (zb 6) (zb 7) (zb 8) (zb 9) (zb 10) (ra 8) (rb 8) (ra (xpk (xs (i + (1 : Int32)).toNatClampNeg))) (rb (xpk (xs (i + (1 : Int32)).toNatClampNeg))) (zb 15) rf (xs (i + (1 : Int32)).toNatClampNeg) (ktb k 0) (ktl k 0) (kto k 0) (ktb k 1) (ktl k 1) (kto k 1) (ktb k 2) (ktl k 2) (kto k 2) (ksa k 0) (ksa k 1) tp (ksa k 2) mp (ksa k 3) (ktt k) (krc k 8) (krz k 8) (kro k 8) (kpl k) (krs k) (krc k (xpk (xs (i + (1 : Int32)).toNatClampNeg))) (krz k (xpk (xs (i + (1 : Int32)).toNatClampNeg))) (kro k (xpk (xs (i + (1 : Int32)).toNatClampNeg))) ov (xpkR hrf (xs (i + (1 : Int32)).toNatClampNeg)) o16 hq17) (xcSW 3 htx (xw_goodC kw_3_90) rfl rfl rfl (htx _ kw_1_0) (htx _ kw_3_88) ⟨by decide, by decide, by decide +kernel⟩ ⟨Nat.le_of_ble_eq_true rfl, Nat.le_of_ble_eq_true rfl⟩ (htx _ kw_3_89)) ⟨xPre_blind, (fun U hU hW => ⟨rfl, xPre_of hZ hS hFc hPc hDc hK U hU hW⟩)⟩ rfl rfl hl.1 rfl (lv_room (Nat.le_of_ble_eq_true rfl)) dL_law_328 hm19) hS (fun q _ h => hFc q h) hFc (fun r20 u9 t H1 locs ht hvm hr9 hB hz1 hk1 hS => ?_)
        obtain ⟨hP1, hK1, hD1⟩ := hB
        rw [ht] at hP1
        obtain ⟨hP, hD⟩ := xjnC (X := (xCx cT zb tp mp (ra 8) ra rb rf k ov)) (X' := (xCx cT zb tp mp (ra 8) ra rb rf (kT k 1 o16.2.1 o16.2.2.1 o16.2.2.2.1) o16.2.2.2.2)) (T := (xT cT ra rb k (xMw cT aM ad rd gd vad st []))) (wt := [((ra (xpk (xs (i + (1 : Int32)).toNatClampNeg))), .inr (2, [.ref (rb (xpk (xs (i + (1 : Int32)).toNatClampNeg))), .int (krz k (xpk (xs (i + (1 : Int32)).toNatClampNeg))), .int (kro k (xpk (xs (i + (1 : Int32)).toNatClampNeg)))])), ((rb (xpk (xs (i + (1 : Int32)).toNatClampNeg))), .inl (cT 2, 4096, .inr (.inl (krc k (xpk (xs (i + (1 : Int32)).toNatClampNeg))))))]) hP hD [16 + (xpk (xs (i + (1 : Int32)).toNatClampNeg)), 24 + (xpk (xs (i + (1 : Int32)).toNatClampNeg))] true rfl rfl xge1 (xnd1 _ (xpk8 _) true).2 (xit1 rfl (xpk8 _)) hCc hk1 hFc hP1 hD1 rfl rfl rfl
        generalize H1 = H at hP hS ⊢
        have hP : va_P D xcl (xGw cT zb tp mp ra rb rf (kT k 1 o16.2.1 o16.2.2.1 o16.2.2.2.1) o16.2.2.2.2 (xMw cT aM ad rd gd vad st [])) H := hP
        have hD : va_D A (xGw cT zb tp mp ra rb rf (kT k 1 o16.2.1 o16.2.2.1 o16.2.2.2.1) o16.2.2.2.2 (xMw cT aM ad rd gd vad st [])) := hD
        rw [hr9]
        refine W.eq (g2 := F0 m 331 ls [.int o16.1]) rfl ?_
        refine lv_istore (lv' := [(5, .int o16.1), (4, .int i), (3, .ref (zb 15)), (2, .ref aM), (1, .ref (zb 0)), (0, .ref b)]) hx hb dL_law_331 hl (by decide) rfl (fun ls hl => ?_)
        refine lv_aload_n hx hb dL_law_333 rfl (lv_at hl 3 rfl) ?_
        refine lv_aload_n hx hb dL_law_334 rfl (lv_at hl 5 rfl) ?_
        refine lv_iload hx hb dL_law_335 (lv_at hl 1 rfl) ?_
        refine lv_iconst (v := 1) hx hb dL_law_337 (by decide) ?_
        refine lv_iadd hx hb dL_law_338 ?_
        obtain ⟨hg21, hf⟩ := xifn hf
        refine va_sld hx hb hXs hbl hbA hS (i := (i + (1 : Int32))) hg21 dL_law_339 ?_
        refine W.eq (g2 := F0 m 340 ls [.int (xs (i + (1 : Int32)).toNatClampNeg), .ref aM]) rfl ?_
        obtain ⟨o22, hq23, hf⟩ := xbind hf
        obtain ⟨hg24, hf⟩ := xifn hf
        have hm25 : (((wc + 0) + 1) + 0) ≤ 601024 ∧ (((wn + 0) + 6) + 0) ≤ 7293034 := ⟨Nat.le_of_not_lt fun h => hg24 (Or.inl h), Nat.le_of_not_lt fun h => hg24 (Or.inr h)⟩
        obtain ⟨hPc, hDc⟩ := xGw_part hP hD
        have hFc := xm_free hDc hS hA
        refine va_calli (va_runV (C := "ValueBenchModel") (As := [.int (xs (i + (1 : Int32)).toNatClampNeg)]) (rest := []) ⟨hx, hb, hml, hown, htx⟩ (gM_print0 l hl9 D cT aK aV H.size N aM ad rd gd vad st (xs (i + (1 : Int32)).toNatClampNeg) o22 hq23) ⟨callB_of 1 htx (xw_goodC kw_6_162) rfl rfl rfl (htx _ kw_1_5) (htx _ kw_6_159) ⟨by decide, by decide, by decide +kernel⟩ ⟨Nat.le_of_ble_eq_true rfl, Nat.le_of_ble_eq_true rfl⟩, (htx _ kw_6_160), (htx _ kw_6_161)⟩ ⟨xPre_blind, va_recv hK hPc (ci := 5) rfl (q0 := 0) rfl, (fun U hU hW => ⟨rfl, xPre_of hZ hS hFc hPc hDc hK U hU hW⟩)⟩ rfl rfl hl.1 rfl (lv_room (Nat.le_of_ble_eq_true rfl)) dL_law_340 hm25) hS (fun q _ h => hFc q h) hFc (fun r26 u9 t H1 locs ht hvm hr9 hB hz1 hk1 hS => ?_)
        obtain ⟨hP1, hK1, hD1⟩ := hB
        rw [ht] at hP1
        have hr9 := hr9.1
        obtain ⟨hP, hD⟩ := xGw_call (M' := (xMw cT aM ad rd gd vad o22.2 [])) hP hD hk1 hFc hP1 hD1
        generalize H1 = H at hP hS ⊢
        rw [hr9]
        refine W.eq (g2 := F0 m 343 ls [.int o22.1]) rfl ?_
        refine lv_istore (lv' := [(6, .int o22.1), (5, .int o16.1), (4, .int i), (3, .ref (zb 15)), (2, .ref aM), (1, .ref (zb 0)), (0, .ref b)]) hx hb dL_law_343 hl (by decide) rfl (fun ls hl => ?_)
        refine lv_aload_n hx hb dL_law_345 rfl (lv_at hl 4 rfl) ?_
        obtain ⟨o27, hq28, hf⟩ := xbind hf
        obtain ⟨hg29, hf⟩ := xifn hf
        have hm30 : ((((wc + 0) + 1) + 0) + 0) ≤ 601024 ∧ ((((wn + 0) + 6) + 0) + 0) ≤ 7293034 := ⟨Nat.le_of_not_lt fun h => hg29 (Or.inl h), Nat.le_of_not_lt fun h => hg29 (Or.inr h)⟩
        obtain ⟨hPc, hDc⟩ := xGw_part hP hD
        have hFc := xm_free hDc hS hA
        refine va_calli (va_runV (C := "ValueBenchModel") (As := []) (rest := []) ⟨hx, hb, hml, hown, htx⟩ (gM_thrown l hl9 D cT aK aV H.size N aM ad rd gd vad o22.2 o27 hq28) ⟨callB_of 0 htx (xw_goodC kw_5_187) rfl rfl rfl (htx _ kw_1_5) (htx _ kw_5_184) ⟨by decide, by decide, by decide +kernel⟩ ⟨Nat.le_of_ble_eq_true rfl, Nat.le_of_ble_eq_true rfl⟩, (htx _ kw_5_185), (htx _ kw_5_186)⟩ ⟨xPre_blind, va_recv hK hPc (ci := 5) rfl (q0 := 0) rfl, (fun U hU hW => ⟨rfl, xPre_of hZ hS hFc hPc hDc hK U hU hW⟩)⟩ rfl rfl hl.1 rfl (lv_room (Nat.le_of_ble_eq_true rfl)) dL_law_346 hm30) hS (fun q _ h => hFc q h) hFc (fun r31 u9 t H1 locs ht hvm hr9 hB hz1 hk1 hS => ?_)
        obtain ⟨hP1, hK1, hD1⟩ := hB
        rw [ht] at hP1
        obtain ⟨hP, hD⟩ := xGw_call (M' := (xMw cT aM ad rd gd vad o22.2 [])) hP hD hk1 hFc hP1 hD1
        generalize H1 = H at hP hS ⊢
        rw [hr9]
        refine W.eq (g2 := F0 m 349 ls [.int o27]) rfl ?_
        refine lv_iload hx hb dL_law_349 (lv_at hl 1 rfl) ?_
        refine lv_icmp_eq (tgt := 356) hx hb dL_law_351 (by decide) (fun hc => ?_) (fun hc => ?_)
        · rw [if_pos hc] at hf
          refine lv_iload hx hb dL_law_356 (lv_at hl 1 rfl) ?_
          refine lv_if_ne (tgt := 373) hx hb dL_law_358 (by decide) (fun hc => ?_) (fun hc => ?_)
          · rw [if_neg hc] at hf
            refine lv_goto (tgt := 906) hx hb dL_law_373 (by decide) ?_
            refine lv_iinc (v := (i + 6)) (lv' := [(4, .int (i + 6)), (6, .int o22.1), (5, .int o16.1), (3, .ref (zb 15)), (2, .ref aM), (1, .ref (zb 0)), (0, .ref b)]) hx hb dL_law_906 hl (k := 2) rfl rfl (by decide) rfl (fun ls hl => ?_)
            refine lv_goto (tgt := 23) hx hb dL_law_909 (by decide) ?_
            exact ih (i + 6) (kT k 1 o16.2.1 o16.2.2.1 o16.2.2.2.1) o16.2.2.2.2 o22.2 ((((wc + 0) + 1) + 0) + 0) ((((wn + 0) + 6) + 0) + 0) zb tp mp ra rb rf aM ad rd gd vad _ _ ls hf hP hD hS (lv_sub hl [0, 3, 4, 5, 6] rfl) hrf
          · rw [if_pos hc] at hf
            refine lv_aload_n hx hb dL_law_361 rfl (lv_at hl 3 rfl) ?_
            refine lv_iconst (v := 0) hx hb dL_law_362 (by decide) ?_
            refine va_lald hx hb hK hP 15 2 rfl rfl (show ¬ ((0 : Int32) < 0 ∨ 1 ≤ (0 : Int32).toNatClampNeg) by decide) dL_law_363 ?_
            refine W.eq (g2 := F0 m 364 ls [.long (o16.2.2.2.2 0)]) rfl ?_
            refine lv_iload hx hb dL_law_364 (lv_at hl 0 rfl) ?_
            refine lv_i2l hx hb dL_law_366 rfl ?_
            refine W.lcmp hx hb dL_law_367 ?_
            refine lv_if_eq (tgt := 373) hx hb dL_law_368 (by decide) (fun hc => ?_) (fun hc => ?_)
            · rw [if_pos hc] at hf
              refine lv_goto (tgt := 906) hx hb dL_law_373 (by decide) ?_
              refine lv_iinc (v := (i + 6)) (lv' := [(4, .int (i + 6)), (6, .int o22.1), (5, .int o16.1), (3, .ref (zb 15)), (2, .ref aM), (1, .ref (zb 0)), (0, .ref b)]) hx hb dL_law_906 hl (k := 2) rfl rfl (by decide) rfl (fun ls hl => ?_)
              refine lv_goto (tgt := 23) hx hb dL_law_909 (by decide) ?_
              exact ih (i + 6) (kT k 1 o16.2.1 o16.2.2.1 o16.2.2.2.1) o16.2.2.2.2 o22.2 ((((wc + 0) + 1) + 0) + 0) ((((wn + 0) + 6) + 0) + 0) zb tp mp ra rb rf aM ad rd gd vad _ _ ls hf hP hD hS (lv_sub hl [0, 3, 4, 5, 6] rfl) hrf
            · rw [if_neg hc] at hf
              refine lv_iconst (v := 0) hx hb dL_law_371 (by decide) ?_
              exact absurd (Option.some.inj hf) (by decide)
        · rw [if_neg hc] at hf
          refine lv_iconst (v := 0) hx hb dL_law_354 (by decide) ?_
          exact absurd (Option.some.inj hf) (by decide)
      rw [if_neg hc14] at hf
      by_cases hc16 : ((xs i.toNatClampNeg) &&& (15 : Int32)) = 4
      · rw [if_pos hc16] at hf
        refine lv_tableIn (off := 336) (tgt := 376) hx hb dL_law_40 (by rw [hc16]; decide) (by rw [hc16]; decide) (by rw [hc16]; decide) (by decide) ?_
        refine lv_aload_n hx hb dL_law_376 rfl (lv_at hl 3 rfl) ?_
        refine lv_aload_n hx hb dL_law_377 rfl (lv_at hl 4 rfl) ?_
        refine lv_iload hx hb dL_law_378 (lv_at hl 0 rfl) ?_
        refine lv_iconst (v := 1) hx hb dL_law_380 (by decide) ?_
        refine lv_iadd hx hb dL_law_381 ?_
        obtain ⟨hg17, hf⟩ := xifn hf
        refine va_sld hx hb hXs hbl hbA hS (i := (i + (1 : Int32))) hg17 dL_law_382 ?_
        refine W.eq (g2 := F0 m 383 ls [.int (xs (i + (1 : Int32)).toNatClampNeg), .ref (zb 0)]) rfl ?_
        refine lv_aload_n hx hb dL_law_383 rfl (lv_at hl 4 rfl) ?_
        refine lv_iload hx hb dL_law_384 (lv_at hl 0 rfl) ?_
        refine lv_iconst (v := 2) hx hb dL_law_386 (by decide) ?_
        refine lv_iadd hx hb dL_law_387 ?_
        obtain ⟨hg18, hf⟩ := xifn hf
        refine va_sld hx hb hXs hbl hbA hS (i := (i + (2 : Int32))) hg18 dL_law_388 ?_
        refine W.eq (g2 := F0 m 389 ls [.int (xs (i + (2 : Int32)).toNatClampNeg), .int (xs (i + (1 : Int32)).toNatClampNeg), .ref (zb 0)]) rfl ?_
        refine lv_aload_n hx hb dL_law_389 rfl (lv_at hl 4 rfl) ?_
        refine lv_iload hx hb dL_law_390 (lv_at hl 0 rfl) ?_
        refine lv_iconst (v := 3) hx hb dL_law_392 (by decide) ?_
        refine lv_iadd hx hb dL_law_393 ?_
        obtain ⟨hg19, hf⟩ := xifn hf
        refine va_sld hx hb hXs hbl hbA hS (i := (i + (3 : Int32))) hg19 dL_law_394 ?_
        refine W.eq (g2 := F0 m 395 ls [.int (xs (i + (3 : Int32)).toNatClampNeg), .int (xs (i + (2 : Int32)).toNatClampNeg), .int (xs (i + (1 : Int32)).toNatClampNeg), .ref (zb 0)]) rfl ?_
        refine lv_aload_n hx hb dL_law_395 rfl (lv_at hl 4 rfl) ?_
        refine lv_iload hx hb dL_law_396 (lv_at hl 0 rfl) ?_
        refine lv_iconst (v := 4) hx hb dL_law_398 (by decide) ?_
        refine lv_iadd hx hb dL_law_399 ?_
        obtain ⟨hg20, hf⟩ := xifn hf
        refine va_sld hx hb hXs hbl hbA hS (i := (i + (4 : Int32))) hg20 dL_law_400 ?_
        refine W.eq (g2 := F0 m 401 ls [.int (xs (i + (4 : Int32)).toNatClampNeg), .int (xs (i + (3 : Int32)).toNatClampNeg), .int (xs (i + (2 : Int32)).toNatClampNeg), .int (xs (i + (1 : Int32)).toNatClampNeg), .ref (zb 0)]) rfl ?_
        by_cases hab : xpk (xs (i + (3 : Int32)).toNatClampNeg) = xpk (xs (i + (4 : Int32)).toNatClampNeg)
        · rw [if_pos hab] at hf
          obtain ⟨o21, hq22, hf⟩ := xbind hf
          obtain ⟨hg23, hf⟩ := xifn hf
          have hm24 : ((wc + 0) + 3) ≤ 601024 ∧ ((wn + 0) + 18) ≤ 7293034 := ⟨Nat.le_of_not_lt fun h => hg23 (Or.inl h), Nat.le_of_not_lt fun h => hg23 (Or.inr h)⟩
          obtain ⟨hPc, hDc, hFc, hCc⟩ := xcutC (X := (xCx cT zb tp mp (ra 8) ra rb rf k ov)) (T := (xT cT ra rb k (xMw cT aM ad rd gd vad st []))) (we := [((zb 0), .inr (0, [.ref (zb 1), .ref (zb 3), .ref (zb 5), .ref (zb 7), .ref (zb 8), .ref (ra 8), .int (kpl k), .int (krs k)])), ((zb 1), .inr (1, [.ref (zb 2), .int (ktl k 0), .int (kto k 0)])), ((zb 2), .inl (cT 0, 4096, .inl (ktb k 0))), ((zb 3), .inr (1, [.ref (zb 4), .int (ktl k 1), .int (kto k 1)])), ((zb 4), .inl (cT 0, 4096, .inl (ktb k 1))), ((zb 5), .inr (1, [.ref (zb 6), .int (ktl k 2), .int (kto k 2)])), ((zb 6), .inl (cT 0, 4096, .inl (ktb k 2))), ((zb 7), .inl (cT 3, 8, .inr (.inr (.inr (.inr rf))))), ((zb 8), .inr (3, [.ref (zb 9), .ref (zb 10), .ref tp, .ref mp, .int (ktt k)])), ((zb 9), .inl (cT 1, 2048, .inl (ksa k 0))), ((zb 10), .inl (cT 1, 2048, .inl (ksa k 1))), (tp, .inl (cT 1, 2048, .inl (ksa k 2))), (mp, .inl (cT 1, 2048, .inl (ksa k 3))), ((ra 8), .inr (2, [.ref (rb 8), .int (krz k 8), .int (kro k 8)])), ((rb 8), .inl (cT 2, 4096, .inr (.inl (krc k 8))))]) (wt := [((ra (xpk (xs (i + (3 : Int32)).toNatClampNeg))), .inr (2, [.ref (rb (xpk (xs (i + (3 : Int32)).toNatClampNeg))), .int (krz k (xpk (xs (i + (3 : Int32)).toNatClampNeg))), .int (kro k (xpk (xs (i + (3 : Int32)).toNatClampNeg)))])), ((rb (xpk (xs (i + (3 : Int32)).toNatClampNeg))), .inl (cT 2, 4096, .inr (.inl (krc k (xpk (xs (i + (3 : Int32)).toNatClampNeg))))))]) (wo := []) (wc := [((zb 0), .inr (0, [.ref (zb 1), .ref (zb 3), .ref (zb 5), .ref (zb 7), .ref (zb 8), .ref (ra 8), .int (kpl k), .int (krs k)])), ((zb 1), .inr (1, [.ref (zb 2), .int (ktl k 0), .int (kto k 0)])), ((zb 2), .inl (cT 0, 4096, .inl (ktb k 0))), ((zb 3), .inr (1, [.ref (zb 4), .int (ktl k 1), .int (kto k 1)])), ((zb 4), .inl (cT 0, 4096, .inl (ktb k 1))), ((zb 5), .inr (1, [.ref (zb 6), .int (ktl k 2), .int (kto k 2)])), ((zb 6), .inl (cT 0, 4096, .inl (ktb k 2))), ((zb 7), .inl (cT 3, 8, .inr (.inr (.inr (.inr rf))))), ((zb 8), .inr (3, [.ref (zb 9), .ref (zb 10), .ref tp, .ref mp, .int (ktt k)])), ((zb 9), .inl (cT 1, 2048, .inl (ksa k 0))), ((zb 10), .inl (cT 1, 2048, .inl (ksa k 1))), (tp, .inl (cT 1, 2048, .inl (ksa k 2))), (mp, .inl (cT 1, 2048, .inl (ksa k 3))), ((ra 8), .inr (2, [.ref (rb 8), .int (krz k 8), .int (kro k 8)])), ((rb 8), .inl (cT 2, 4096, .inr (.inl (krc k 8)))), ((ra (xpk (xs (i + (3 : Int32)).toNatClampNeg))), .inr (2, [.ref (rb (xpk (xs (i + (3 : Int32)).toNatClampNeg))), .int (krz k (xpk (xs (i + (3 : Int32)).toNatClampNeg))), .int (kro k (xpk (xs (i + (3 : Int32)).toNatClampNeg)))])), ((rb (xpk (xs (i + (3 : Int32)).toNatClampNeg))), .inl (cT 2, 4096, .inr (.inl (krc k (xpk (xs (i + (3 : Int32)).toNatClampNeg))))))]) hP hD hS hA [16 + (xpk (xs (i + (3 : Int32)).toNatClampNeg)), 24 + (xpk (xs (i + (3 : Int32)).toNatClampNeg))] false rfl (xit1 rfl (xpk8 _)) rfl rfl (xnd1 _ (xpk8 _) false).1
          by_cases hk25 : o21.1 = 0
          · rw [if_pos hk25] at hf
            refine va_calli (vx_runSW (As := [.ref (zb 0), .int (xs (i + (1 : Int32)).toNatClampNeg), .int (xs (i + (2 : Int32)).toNatClampNeg), .int (xs (i + (3 : Int32)).toNatClampNeg), .int (xs (i + (4 : Int32)).toNatClampNeg)]) (rest := []) ⟨hx, hb, hml, hown, htx⟩ (gL_binarya l hl9 D cT aK aV H.size 104 N (zb 0) (zb 1) (zb 2) (zb 3) (zb 4) (zb 5) (zb 6) (zb 7) (zb 8) (zb 9) (zb 10) (ra 8) (rb 8) (ra (xpk (xs (i + (3 : Int32)).toNatClampNeg))) (rb (xpk (xs (i + (3 : Int32)).toNatClampNeg))) rf (ra (xpk (xs (i + (1 : Int32)).toNatClampNeg))) (xs (i + (1 : Int32)).toNatClampNeg) (xs (i + (2 : Int32)).toNatClampNeg) (xs (i + (3 : Int32)).toNatClampNeg) (xs (i + (4 : Int32)).toNatClampNeg) (ktb k 0) (ktl k 0) (kto k 0) (ktb k 1) (ktl k 1) (kto k 1) (ktb k 2) (ktl k 2) (kto k 2) (ksa k 0) (ksa k 1) tp (ksa k 2) mp (ksa k 3) (ktt k) (krc k 8) (krz k 8) (kro k 8) (kpl k) (krs k) (krc k (xpk (xs (i + (3 : Int32)).toNatClampNeg))) (krz k (xpk (xs (i + (3 : Int32)).toNatClampNeg))) (kro k (xpk (xs (i + (3 : Int32)).toNatClampNeg))) (xpkR hrf (xs (i + (1 : Int32)).toNatClampNeg)) (xpkR hrf (xs (i + (3 : Int32)).toNatClampNeg)) (by rw [hab]; exact xpkR hrf (xs (i + (4 : Int32)).toNatClampNeg)) o21 hq22 hk25) (xcSW 5 htx (xw_goodC kw_3_97) rfl rfl rfl (htx _ kw_1_0) (htx _ kw_3_95) ⟨by decide, by decide, by decide +kernel⟩ ⟨Nat.le_of_ble_eq_true rfl, Nat.le_of_ble_eq_true rfl⟩ (htx _ kw_3_96)) ⟨xPre_blind, (fun U hU hW => ⟨rfl, xPre_of hZ hS hFc hPc hDc hK U hU hW⟩)⟩ rfl rfl hl.1 rfl (lv_room (Nat.le_of_ble_eq_true rfl)) dL_law_401 hm24) hS (fun q _ h => hFc q h) hFc (fun r26 u9 t H1 locs ht hvm hr9 hB hz1 hk1 hS => ?_)
            obtain ⟨hP1, hK1, hD1⟩ := hB
            rw [ht] at hP1
            obtain ⟨hP, hD⟩ := xjnC (X := (xCx cT zb tp mp (ra 8) ra rb rf k ov)) (X' := (xCx cT zb tp mp (ra (xpk (xs (i + (1 : Int32)).toNatClampNeg))) ra rb (va_up rf (xs (i + (1 : Int32)).toNatClampNeg).toNatClampNeg (some (ra 8))) (kP (kT (kR k o21.2.2.2.2.1 o21.2.2.2.2.2.1 o21.2.2.2.2.2.2.1) 2 o21.2.1 o21.2.2.1 o21.2.2.2.1) (kpl k) o21.2.2.2.2.2.2.2) ov)) (T := (xT cT ra rb k (xMw cT aM ad rd gd vad st []))) (wt := [((ra (xpk (xs (i + (3 : Int32)).toNatClampNeg))), .inr (2, [.ref (rb (xpk (xs (i + (3 : Int32)).toNatClampNeg))), .int (krz k (xpk (xs (i + (3 : Int32)).toNatClampNeg))), .int (kro k (xpk (xs (i + (3 : Int32)).toNatClampNeg)))])), ((rb (xpk (xs (i + (3 : Int32)).toNatClampNeg))), .inl (cT 2, 4096, .inr (.inl (krc k (xpk (xs (i + (3 : Int32)).toNatClampNeg))))))]) hP hD [16 + (xpk (xs (i + (3 : Int32)).toNatClampNeg)), 24 + (xpk (xs (i + (3 : Int32)).toNatClampNeg))] false rfl rfl xge1 (xnd1 _ (xpk8 _) false).2 (xit1 rfl (xpk8 _)) hCc hk1 hFc hP1 hD1 rfl rfl rfl
            rw [← xT_kR (f := o21.2.2.2.2.1) (n := o21.2.2.2.2.2.1) (v := o21.2.2.2.2.2.2.1)] at hP hD
            generalize H1 = H at hP hS ⊢
            obtain ⟨hg27, hf⟩ := xifn hf
            have hP : va_P D xcl ((xCx cT zb tp mp (ra (xpk (xs (i + (1 : Int32)).toNatClampNeg))) ra rb (va_up rf (xs (i + (1 : Int32)).toNatClampNeg).toNatClampNeg (some (ra 8))) (kP (kT (kR k o21.2.2.2.2.1 o21.2.2.2.2.2.1 o21.2.2.2.2.2.2.1) 2 o21.2.1 o21.2.2.1 o21.2.2.2.1) (kpl k) o21.2.2.2.2.2.2.2) ov) ++ xT cT ra rb (kP (kT (kR k o21.2.2.2.2.1 o21.2.2.2.2.2.1 o21.2.2.2.2.2.2.1) 2 o21.2.1 o21.2.2.1 o21.2.2.2.1) (kpl k) o21.2.2.2.2.2.2.2) (xMw cT aM ad rd gd vad st [])) H := hP
            have hD : va_D A ((xCx cT zb tp mp (ra (xpk (xs (i + (1 : Int32)).toNatClampNeg))) ra rb (va_up rf (xs (i + (1 : Int32)).toNatClampNeg).toNatClampNeg (some (ra 8))) (kP (kT (kR k o21.2.2.2.2.1 o21.2.2.2.2.2.1 o21.2.2.2.2.2.2.1) 2 o21.2.1 o21.2.2.1 o21.2.2.2.1) (kpl k) o21.2.2.2.2.2.2.2) ov) ++ xT cT ra rb (kP (kT (kR k o21.2.2.2.2.1 o21.2.2.2.2.2.1 o21.2.2.2.2.2.2.1) 2 o21.2.1 o21.2.2.1 o21.2.2.2.1) (kpl k) o21.2.2.2.2.2.2.2) (xMw cT aM ad rd gd vad st [])) := hD
            obtain ⟨hP, hD⟩ := xT_sw (xpk8 (xs (i + (1 : Int32)).toNatClampNeg)) hP hD
            have hrf := xsw_rf (xpk8 (xs (i + (1 : Int32)).toNatClampNeg)) hrf
            rw [show va_up rf (xpk (xs (i + (1 : Int32)).toNatClampNeg)) (some (ra 8)) = va_up rf (xs (i + (1 : Int32)).toNatClampNeg).toNatClampNeg (some (ra 8)) from by rw [xpkE hg27]] at hrf
            have hP : va_P D xcl (xGw cT zb tp mp (xsw2 ra (xpk (xs (i + (1 : Int32)).toNatClampNeg))) (xsw2 rb (xpk (xs (i + (1 : Int32)).toNatClampNeg))) (va_up rf (xs (i + (1 : Int32)).toNatClampNeg).toNatClampNeg (some (ra 8))) (kW (kP (kT (kR k o21.2.2.2.2.1 o21.2.2.2.2.2.1 o21.2.2.2.2.2.2.1) 2 o21.2.1 o21.2.2.1 o21.2.2.2.1) (kpl k) o21.2.2.2.2.2.2.2) (xpk (xs (i + (1 : Int32)).toNatClampNeg))) ov (xMw cT aM ad rd gd vad st [])) H := hP
            have hD : va_D A (xGw cT zb tp mp (xsw2 ra (xpk (xs (i + (1 : Int32)).toNatClampNeg))) (xsw2 rb (xpk (xs (i + (1 : Int32)).toNatClampNeg))) (va_up rf (xs (i + (1 : Int32)).toNatClampNeg).toNatClampNeg (some (ra 8))) (kW (kP (kT (kR k o21.2.2.2.2.1 o21.2.2.2.2.2.1 o21.2.2.2.2.2.2.1) 2 o21.2.1 o21.2.2.1 o21.2.2.2.1) (kpl k) o21.2.2.2.2.2.2.2) (xpk (xs (i + (1 : Int32)).toNatClampNeg))) ov (xMw cT aM ad rd gd vad st [])) := hD
            generalize va_up rf (xs (i + (1 : Int32)).toNatClampNeg).toNatClampNeg (some (ra 8)) = rf30 at hP hD hrf
            generalize (xsw2 ra (xpk (xs (i + (1 : Int32)).toNatClampNeg))) = ra28 at hP hD hrf
            generalize (xsw2 rb (xpk (xs (i + (1 : Int32)).toNatClampNeg))) = rb29 at hP hD
            rw [hr9]
            refine W.eq (g2 := F0 m 404 ls [.int o21.1]) rfl ?_
            refine lv_istore (lv' := [(5, .int o21.1), (4, .int i), (3, .ref (zb 15)), (2, .ref aM), (1, .ref (zb 0)), (0, .ref b)]) hx hb dL_law_404 hl (by decide) rfl (fun ls hl => ?_)
            refine lv_aload_n hx hb dL_law_406 rfl (lv_at hl 3 rfl) ?_
            refine lv_aload_n hx hb dL_law_407 rfl (lv_at hl 5 rfl) ?_
            refine lv_iload hx hb dL_law_408 (lv_at hl 1 rfl) ?_
            refine lv_iconst (v := 1) hx hb dL_law_410 (by decide) ?_
            refine lv_iadd hx hb dL_law_411 ?_
            obtain ⟨hg31, hf⟩ := xifn hf
            refine va_sld hx hb hXs hbl hbA hS (i := (i + (1 : Int32))) hg31 dL_law_412 ?_
            refine W.eq (g2 := F0 m 413 ls [.int (xs (i + (1 : Int32)).toNatClampNeg), .ref aM]) rfl ?_
            refine lv_aload_n hx hb dL_law_413 rfl (lv_at hl 5 rfl) ?_
            refine lv_iload hx hb dL_law_414 (lv_at hl 1 rfl) ?_
            refine lv_iconst (v := 2) hx hb dL_law_416 (by decide) ?_
            refine lv_iadd hx hb dL_law_417 ?_
            obtain ⟨hg32, hf⟩ := xifn hf
            refine va_sld hx hb hXs hbl hbA hS (i := (i + (2 : Int32))) hg32 dL_law_418 ?_
            refine W.eq (g2 := F0 m 419 ls [.int (xs (i + (2 : Int32)).toNatClampNeg), .int (xs (i + (1 : Int32)).toNatClampNeg), .ref aM]) rfl ?_
            refine lv_aload_n hx hb dL_law_419 rfl (lv_at hl 5 rfl) ?_
            refine lv_iload hx hb dL_law_420 (lv_at hl 1 rfl) ?_
            refine lv_iconst (v := 3) hx hb dL_law_422 (by decide) ?_
            refine lv_iadd hx hb dL_law_423 ?_
            obtain ⟨hg33, hf⟩ := xifn hf
            refine va_sld hx hb hXs hbl hbA hS (i := (i + (3 : Int32))) hg33 dL_law_424 ?_
            refine W.eq (g2 := F0 m 425 ls [.int (xs (i + (3 : Int32)).toNatClampNeg), .int (xs (i + (2 : Int32)).toNatClampNeg), .int (xs (i + (1 : Int32)).toNatClampNeg), .ref aM]) rfl ?_
            refine lv_aload_n hx hb dL_law_425 rfl (lv_at hl 5 rfl) ?_
            refine lv_iload hx hb dL_law_426 (lv_at hl 1 rfl) ?_
            refine lv_iconst (v := 4) hx hb dL_law_428 (by decide) ?_
            refine lv_iadd hx hb dL_law_429 ?_
            obtain ⟨hg34, hf⟩ := xifn hf
            refine va_sld hx hb hXs hbl hbA hS (i := (i + (4 : Int32))) hg34 dL_law_430 ?_
            refine W.eq (g2 := F0 m 431 ls [.int (xs (i + (4 : Int32)).toNatClampNeg), .int (xs (i + (3 : Int32)).toNatClampNeg), .int (xs (i + (2 : Int32)).toNatClampNeg), .int (xs (i + (1 : Int32)).toNatClampNeg), .ref aM]) rfl ?_
            obtain ⟨o35, hq36, hf⟩ := xbind hf
            obtain ⟨hg37, hf⟩ := xifn hf
            have hm38 : (((wc + 0) + 3) + o35.1) ≤ 601024 ∧ (((wn + 0) + 18) + o35.2.1) ≤ 7293034 := ⟨Nat.le_of_not_lt fun h => hg37 (Or.inl h), Nat.le_of_not_lt fun h => hg37 (Or.inr h)⟩
            obtain ⟨hPc, hDc⟩ := xGw_part hP hD
            have hFc := xm_free hDc hS hA
            refine va_callv (va_runV (C := "ValueBenchModel") (As := [.int (xs (i + (1 : Int32)).toNatClampNeg), .int (xs (i + (2 : Int32)).toNatClampNeg), .int (xs (i + (3 : Int32)).toNatClampNeg), .int (xs (i + (4 : Int32)).toNatClampNeg)]) (rest := []) ⟨hx, hb, hml, hown, htx⟩ (gM_binary0 l hl9 D cT aK aV H.size 104 N aM ad rd gd vad st (xs (i + (1 : Int32)).toNatClampNeg) (xs (i + (2 : Int32)).toNatClampNeg) (xs (i + (3 : Int32)).toNatClampNeg) (xs (i + (4 : Int32)).toNatClampNeg) o35 hq36) ⟨callB_of 4 htx (xw_goodC kw_6_191) rfl rfl rfl (htx _ kw_1_5) (htx _ kw_6_188) ⟨by decide, by decide, by decide +kernel⟩ ⟨Nat.le_of_ble_eq_true rfl, Nat.le_of_ble_eq_true rfl⟩, (htx _ kw_6_189), (htx _ kw_6_190)⟩ ⟨xPre_blind, va_recv hK hPc (ci := 5) rfl (q0 := 0) rfl, (fun U hU hW => ⟨rfl, xPre_of hZ hS hFc hPc hDc hK U hU hW⟩)⟩ rfl rfl hl.1 rfl (lv_room (Nat.le_of_ble_eq_true rfl)) dL_law_431 hm38) hS (fun q _ h => hFc q h) hFc (fun u9 t H1 locs ht hvm hr9 hB hz1 hk1 hS => ?_)
            obtain ⟨hP1, hK1, hD1⟩ := hB
            rw [ht] at hP1
            obtain ⟨ad40, gd41, vad42⟩ := u9
            obtain ⟨hP, hD⟩ := xGw_call (M' := (xMw cT aM ad40 rd gd41 vad42 o35.2.2 [])) hP hD hk1 hFc hP1 hD1
            generalize H1 = H at hP hS ⊢
            refine W.eq (g2 := F0 m 434 ls []) rfl ?_
            refine lv_aload_n hx hb dL_law_434 rfl (lv_at hl 3 rfl) ?_
            obtain ⟨o43, hq44, hf⟩ := xbind hf
            obtain ⟨hg45, hf⟩ := xifn hf
            have hm46 : ((((wc + 0) + 3) + o35.1) + 0) ≤ 601024 ∧ ((((wn + 0) + 18) + o35.2.1) + 0) ≤ 7293034 := ⟨Nat.le_of_not_lt fun h => hg45 (Or.inl h), Nat.le_of_not_lt fun h => hg45 (Or.inr h)⟩
            obtain ⟨hPc, hDc⟩ := xGw_part hP hD
            have hFc := xm_free hDc hS hA
            refine va_calli (va_runV (C := "ValueBenchModel") (As := []) (rest := []) ⟨hx, hb, hml, hown, htx⟩ (gM_thrown l hl9 D cT aK aV H.size N aM ad40 rd gd41 vad42 o35.2.2 o43 hq44) ⟨callB_of 0 htx (xw_goodC kw_5_187) rfl rfl rfl (htx _ kw_1_5) (htx _ kw_5_184) ⟨by decide, by decide, by decide +kernel⟩ ⟨Nat.le_of_ble_eq_true rfl, Nat.le_of_ble_eq_true rfl⟩, (htx _ kw_5_185), (htx _ kw_5_186)⟩ ⟨xPre_blind, va_recv hK hPc (ci := 5) rfl (q0 := 0) rfl, (fun U hU hW => ⟨rfl, xPre_of hZ hS hFc hPc hDc hK U hU hW⟩)⟩ rfl rfl hl.1 rfl (lv_room (Nat.le_of_ble_eq_true rfl)) dL_law_435 hm46) hS (fun q _ h => hFc q h) hFc (fun r47 u9 t H1 locs ht hvm hr9 hB hz1 hk1 hS => ?_)
            obtain ⟨hP1, hK1, hD1⟩ := hB
            rw [ht] at hP1
            obtain ⟨hP, hD⟩ := xGw_call (M' := (xMw cT aM ad40 rd gd41 vad42 o35.2.2 [])) hP hD hk1 hFc hP1 hD1
            generalize H1 = H at hP hS ⊢
            rw [hr9]
            refine W.eq (g2 := F0 m 438 ls [.int o43]) rfl ?_
            refine lv_iload hx hb dL_law_438 (lv_at hl 0 rfl) ?_
            refine lv_icmp_eq (tgt := 445) hx hb dL_law_440 (by decide) (fun hc => ?_) (fun hc => ?_)
            · rw [if_pos hc] at hf
              refine lv_goto (tgt := 906) hx hb dL_law_445 (by decide) ?_
              refine lv_iinc (v := (i + 6)) (lv' := [(4, .int (i + 6)), (5, .int o21.1), (3, .ref (zb 15)), (2, .ref aM), (1, .ref (zb 0)), (0, .ref b)]) hx hb dL_law_906 hl (k := 1) rfl rfl (by decide) rfl (fun ls hl => ?_)
              refine lv_goto (tgt := 23) hx hb dL_law_909 (by decide) ?_
              exact ih (i + 6) (kW (kP (kT (kR k o21.2.2.2.2.1 o21.2.2.2.2.2.1 o21.2.2.2.2.2.2.1) 2 o21.2.1 o21.2.2.1 o21.2.2.2.1) (kpl k) o21.2.2.2.2.2.2.2) (xpk (xs (i + (1 : Int32)).toNatClampNeg))) ov o35.2.2 ((((wc + 0) + 3) + o35.1) + 0) ((((wn + 0) + 18) + o35.2.1) + 0) zb tp mp ra28 rb29 rf30 aM ad40 rd gd41 vad42 _ _ ls hf hP hD hS (lv_sub hl [0, 2, 3, 4, 5] rfl) hrf
            · rw [if_neg hc] at hf
              refine lv_iconst (v := 0) hx hb dL_law_443 (by decide) ?_
              exact absurd (Option.some.inj hf) (by decide)
          · rw [if_neg hk25] at hf
            refine va_calli (vx_runSW (As := [.ref (zb 0), .int (xs (i + (1 : Int32)).toNatClampNeg), .int (xs (i + (2 : Int32)).toNatClampNeg), .int (xs (i + (3 : Int32)).toNatClampNeg), .int (xs (i + (4 : Int32)).toNatClampNeg)]) (rest := []) ⟨hx, hb, hml, hown, htx⟩ (gL_binarya_1 l hl9 D cT aK aV H.size 104 N (zb 0) (zb 1) (zb 2) (zb 3) (zb 4) (zb 5) (zb 6) (zb 7) (zb 8) (zb 9) (zb 10) (ra 8) (rb 8) (ra (xpk (xs (i + (3 : Int32)).toNatClampNeg))) (rb (xpk (xs (i + (3 : Int32)).toNatClampNeg))) rf (ra (xpk (xs (i + (1 : Int32)).toNatClampNeg))) (xs (i + (1 : Int32)).toNatClampNeg) (xs (i + (2 : Int32)).toNatClampNeg) (xs (i + (3 : Int32)).toNatClampNeg) (xs (i + (4 : Int32)).toNatClampNeg) (ktb k 0) (ktl k 0) (kto k 0) (ktb k 1) (ktl k 1) (kto k 1) (ktb k 2) (ktl k 2) (kto k 2) (ksa k 0) (ksa k 1) tp (ksa k 2) mp (ksa k 3) (ktt k) (krc k 8) (krz k 8) (kro k 8) (kpl k) (krs k) (krc k (xpk (xs (i + (3 : Int32)).toNatClampNeg))) (krz k (xpk (xs (i + (3 : Int32)).toNatClampNeg))) (kro k (xpk (xs (i + (3 : Int32)).toNatClampNeg))) (xpkR hrf (xs (i + (1 : Int32)).toNatClampNeg)) (xpkR hrf (xs (i + (3 : Int32)).toNatClampNeg)) (by rw [hab]; exact xpkR hrf (xs (i + (4 : Int32)).toNatClampNeg)) o21 hq22 hk25) (xcSW 5 htx (xw_goodC kw_3_97) rfl rfl rfl (htx _ kw_1_0) (htx _ kw_3_95) ⟨by decide, by decide, by decide +kernel⟩ ⟨Nat.le_of_ble_eq_true rfl, Nat.le_of_ble_eq_true rfl⟩ (htx _ kw_3_96)) ⟨xPre_blind, (fun U hU hW => ⟨rfl, xPre_of hZ hS hFc hPc hDc hK U hU hW⟩)⟩ rfl rfl hl.1 rfl (lv_room (Nat.le_of_ble_eq_true rfl)) dL_law_401 hm24) hS (fun q _ h => hFc q h) hFc (fun r36 u9 t H1 locs ht hvm hr9 hB hz1 hk1 hS => ?_)
            obtain ⟨hP1, hK1, hD1⟩ := hB
            rw [ht] at hP1
            obtain ⟨hP, hD⟩ := xjnC (X := (xCx cT zb tp mp (ra 8) ra rb rf k ov)) (X' := (xCx cT zb tp mp (ra 8) ra rb rf (kP (kT (kR k o21.2.2.2.2.1 o21.2.2.2.2.2.1 o21.2.2.2.2.2.2.1) 2 o21.2.1 o21.2.2.1 o21.2.2.2.1) (kpl k) o21.2.2.2.2.2.2.2) ov)) (T := (xT cT ra rb k (xMw cT aM ad rd gd vad st []))) (wt := [((ra (xpk (xs (i + (3 : Int32)).toNatClampNeg))), .inr (2, [.ref (rb (xpk (xs (i + (3 : Int32)).toNatClampNeg))), .int (krz k (xpk (xs (i + (3 : Int32)).toNatClampNeg))), .int (kro k (xpk (xs (i + (3 : Int32)).toNatClampNeg)))])), ((rb (xpk (xs (i + (3 : Int32)).toNatClampNeg))), .inl (cT 2, 4096, .inr (.inl (krc k (xpk (xs (i + (3 : Int32)).toNatClampNeg))))))]) hP hD [16 + (xpk (xs (i + (3 : Int32)).toNatClampNeg)), 24 + (xpk (xs (i + (3 : Int32)).toNatClampNeg))] false rfl rfl xge1 (xnd1 _ (xpk8 _) false).2 (xit1 rfl (xpk8 _)) hCc hk1 hFc hP1 hD1 rfl rfl rfl
            rw [← xT_kR (f := o21.2.2.2.2.1) (n := o21.2.2.2.2.2.1) (v := o21.2.2.2.2.2.2.1)] at hP hD
            generalize H1 = H at hP hS ⊢
            have hP : va_P D xcl (xGw cT zb tp mp ra rb rf (kP (kT (kR k o21.2.2.2.2.1 o21.2.2.2.2.2.1 o21.2.2.2.2.2.2.1) 2 o21.2.1 o21.2.2.1 o21.2.2.2.1) (kpl k) o21.2.2.2.2.2.2.2) ov (xMw cT aM ad rd gd vad st [])) H := hP
            have hD : va_D A (xGw cT zb tp mp ra rb rf (kP (kT (kR k o21.2.2.2.2.1 o21.2.2.2.2.2.1 o21.2.2.2.2.2.2.1) 2 o21.2.1 o21.2.2.1 o21.2.2.2.1) (kpl k) o21.2.2.2.2.2.2.2) ov (xMw cT aM ad rd gd vad st [])) := hD
            rw [hr9]
            refine W.eq (g2 := F0 m 404 ls [.int o21.1]) rfl ?_
            refine lv_istore (lv' := [(5, .int o21.1), (4, .int i), (3, .ref (zb 15)), (2, .ref aM), (1, .ref (zb 0)), (0, .ref b)]) hx hb dL_law_404 hl (by decide) rfl (fun ls hl => ?_)
            refine lv_aload_n hx hb dL_law_406 rfl (lv_at hl 3 rfl) ?_
            refine lv_aload_n hx hb dL_law_407 rfl (lv_at hl 5 rfl) ?_
            refine lv_iload hx hb dL_law_408 (lv_at hl 1 rfl) ?_
            refine lv_iconst (v := 1) hx hb dL_law_410 (by decide) ?_
            refine lv_iadd hx hb dL_law_411 ?_
            obtain ⟨hg37, hf⟩ := xifn hf
            refine va_sld hx hb hXs hbl hbA hS (i := (i + (1 : Int32))) hg37 dL_law_412 ?_
            refine W.eq (g2 := F0 m 413 ls [.int (xs (i + (1 : Int32)).toNatClampNeg), .ref aM]) rfl ?_
            refine lv_aload_n hx hb dL_law_413 rfl (lv_at hl 5 rfl) ?_
            refine lv_iload hx hb dL_law_414 (lv_at hl 1 rfl) ?_
            refine lv_iconst (v := 2) hx hb dL_law_416 (by decide) ?_
            refine lv_iadd hx hb dL_law_417 ?_
            obtain ⟨hg38, hf⟩ := xifn hf
            refine va_sld hx hb hXs hbl hbA hS (i := (i + (2 : Int32))) hg38 dL_law_418 ?_
            refine W.eq (g2 := F0 m 419 ls [.int (xs (i + (2 : Int32)).toNatClampNeg), .int (xs (i + (1 : Int32)).toNatClampNeg), .ref aM]) rfl ?_
            refine lv_aload_n hx hb dL_law_419 rfl (lv_at hl 5 rfl) ?_
            refine lv_iload hx hb dL_law_420 (lv_at hl 1 rfl) ?_
            refine lv_iconst (v := 3) hx hb dL_law_422 (by decide) ?_
            refine lv_iadd hx hb dL_law_423 ?_
            obtain ⟨hg39, hf⟩ := xifn hf
            refine va_sld hx hb hXs hbl hbA hS (i := (i + (3 : Int32))) hg39 dL_law_424 ?_
            refine W.eq (g2 := F0 m 425 ls [.int (xs (i + (3 : Int32)).toNatClampNeg), .int (xs (i + (2 : Int32)).toNatClampNeg), .int (xs (i + (1 : Int32)).toNatClampNeg), .ref aM]) rfl ?_
            refine lv_aload_n hx hb dL_law_425 rfl (lv_at hl 5 rfl) ?_
            refine lv_iload hx hb dL_law_426 (lv_at hl 1 rfl) ?_
            refine lv_iconst (v := 4) hx hb dL_law_428 (by decide) ?_
            refine lv_iadd hx hb dL_law_429 ?_
            obtain ⟨hg40, hf⟩ := xifn hf
            refine va_sld hx hb hXs hbl hbA hS (i := (i + (4 : Int32))) hg40 dL_law_430 ?_
            refine W.eq (g2 := F0 m 431 ls [.int (xs (i + (4 : Int32)).toNatClampNeg), .int (xs (i + (3 : Int32)).toNatClampNeg), .int (xs (i + (2 : Int32)).toNatClampNeg), .int (xs (i + (1 : Int32)).toNatClampNeg), .ref aM]) rfl ?_
            obtain ⟨o41, hq42, hf⟩ := xbind hf
            obtain ⟨hg43, hf⟩ := xifn hf
            have hm44 : (((wc + 0) + 3) + o41.1) ≤ 601024 ∧ (((wn + 0) + 18) + o41.2.1) ≤ 7293034 := ⟨Nat.le_of_not_lt fun h => hg43 (Or.inl h), Nat.le_of_not_lt fun h => hg43 (Or.inr h)⟩
            obtain ⟨hPc, hDc⟩ := xGw_part hP hD
            have hFc := xm_free hDc hS hA
            refine va_callv (va_runV (C := "ValueBenchModel") (As := [.int (xs (i + (1 : Int32)).toNatClampNeg), .int (xs (i + (2 : Int32)).toNatClampNeg), .int (xs (i + (3 : Int32)).toNatClampNeg), .int (xs (i + (4 : Int32)).toNatClampNeg)]) (rest := []) ⟨hx, hb, hml, hown, htx⟩ (gM_binary0 l hl9 D cT aK aV H.size 104 N aM ad rd gd vad st (xs (i + (1 : Int32)).toNatClampNeg) (xs (i + (2 : Int32)).toNatClampNeg) (xs (i + (3 : Int32)).toNatClampNeg) (xs (i + (4 : Int32)).toNatClampNeg) o41 hq42) ⟨callB_of 4 htx (xw_goodC kw_6_191) rfl rfl rfl (htx _ kw_1_5) (htx _ kw_6_188) ⟨by decide, by decide, by decide +kernel⟩ ⟨Nat.le_of_ble_eq_true rfl, Nat.le_of_ble_eq_true rfl⟩, (htx _ kw_6_189), (htx _ kw_6_190)⟩ ⟨xPre_blind, va_recv hK hPc (ci := 5) rfl (q0 := 0) rfl, (fun U hU hW => ⟨rfl, xPre_of hZ hS hFc hPc hDc hK U hU hW⟩)⟩ rfl rfl hl.1 rfl (lv_room (Nat.le_of_ble_eq_true rfl)) dL_law_431 hm44) hS (fun q _ h => hFc q h) hFc (fun u9 t H1 locs ht hvm hr9 hB hz1 hk1 hS => ?_)
            obtain ⟨hP1, hK1, hD1⟩ := hB
            rw [ht] at hP1
            obtain ⟨ad46, gd47, vad48⟩ := u9
            obtain ⟨hP, hD⟩ := xGw_call (M' := (xMw cT aM ad46 rd gd47 vad48 o41.2.2 [])) hP hD hk1 hFc hP1 hD1
            generalize H1 = H at hP hS ⊢
            refine W.eq (g2 := F0 m 434 ls []) rfl ?_
            refine lv_aload_n hx hb dL_law_434 rfl (lv_at hl 3 rfl) ?_
            obtain ⟨o49, hq50, hf⟩ := xbind hf
            obtain ⟨hg51, hf⟩ := xifn hf
            have hm52 : ((((wc + 0) + 3) + o41.1) + 0) ≤ 601024 ∧ ((((wn + 0) + 18) + o41.2.1) + 0) ≤ 7293034 := ⟨Nat.le_of_not_lt fun h => hg51 (Or.inl h), Nat.le_of_not_lt fun h => hg51 (Or.inr h)⟩
            obtain ⟨hPc, hDc⟩ := xGw_part hP hD
            have hFc := xm_free hDc hS hA
            refine va_calli (va_runV (C := "ValueBenchModel") (As := []) (rest := []) ⟨hx, hb, hml, hown, htx⟩ (gM_thrown l hl9 D cT aK aV H.size N aM ad46 rd gd47 vad48 o41.2.2 o49 hq50) ⟨callB_of 0 htx (xw_goodC kw_5_187) rfl rfl rfl (htx _ kw_1_5) (htx _ kw_5_184) ⟨by decide, by decide, by decide +kernel⟩ ⟨Nat.le_of_ble_eq_true rfl, Nat.le_of_ble_eq_true rfl⟩, (htx _ kw_5_185), (htx _ kw_5_186)⟩ ⟨xPre_blind, va_recv hK hPc (ci := 5) rfl (q0 := 0) rfl, (fun U hU hW => ⟨rfl, xPre_of hZ hS hFc hPc hDc hK U hU hW⟩)⟩ rfl rfl hl.1 rfl (lv_room (Nat.le_of_ble_eq_true rfl)) dL_law_435 hm52) hS (fun q _ h => hFc q h) hFc (fun r53 u9 t H1 locs ht hvm hr9 hB hz1 hk1 hS => ?_)
            obtain ⟨hP1, hK1, hD1⟩ := hB
            rw [ht] at hP1
            obtain ⟨hP, hD⟩ := xGw_call (M' := (xMw cT aM ad46 rd gd47 vad48 o41.2.2 [])) hP hD hk1 hFc hP1 hD1
            generalize H1 = H at hP hS ⊢
            rw [hr9]
            refine W.eq (g2 := F0 m 438 ls [.int o49]) rfl ?_
            refine lv_iload hx hb dL_law_438 (lv_at hl 0 rfl) ?_
            refine lv_icmp_eq (tgt := 445) hx hb dL_law_440 (by decide) (fun hc => ?_) (fun hc => ?_)
            · rw [if_pos hc] at hf
              refine lv_goto (tgt := 906) hx hb dL_law_445 (by decide) ?_
              refine lv_iinc (v := (i + 6)) (lv' := [(4, .int (i + 6)), (5, .int o21.1), (3, .ref (zb 15)), (2, .ref aM), (1, .ref (zb 0)), (0, .ref b)]) hx hb dL_law_906 hl (k := 1) rfl rfl (by decide) rfl (fun ls hl => ?_)
              refine lv_goto (tgt := 23) hx hb dL_law_909 (by decide) ?_
              exact ih (i + 6) (kP (kT (kR k o21.2.2.2.2.1 o21.2.2.2.2.2.1 o21.2.2.2.2.2.2.1) 2 o21.2.1 o21.2.2.1 o21.2.2.2.1) (kpl k) o21.2.2.2.2.2.2.2) ov o41.2.2 ((((wc + 0) + 3) + o41.1) + 0) ((((wn + 0) + 18) + o41.2.1) + 0) zb tp mp ra rb rf aM ad46 rd gd47 vad48 _ _ ls hf hP hD hS (lv_sub hl [0, 2, 3, 4, 5] rfl) hrf
            · rw [if_neg hc] at hf
              refine lv_iconst (v := 0) hx hb dL_law_443 (by decide) ?_
              exact absurd (Option.some.inj hf) (by decide)
        · rw [if_neg hab] at hf
          obtain ⟨o41, hq42, hf⟩ := xbind hf
          obtain ⟨hg43, hf⟩ := xifn hf
          have hm44 : ((wc + 0) + 3) ≤ 601024 ∧ ((wn + 0) + 18) ≤ 7293034 := ⟨Nat.le_of_not_lt fun h => hg43 (Or.inl h), Nat.le_of_not_lt fun h => hg43 (Or.inr h)⟩
          obtain ⟨hPc, hDc, hFc, hCc⟩ := xcutC (X := (xCx cT zb tp mp (ra 8) ra rb rf k ov)) (T := (xT cT ra rb k (xMw cT aM ad rd gd vad st []))) (we := [((zb 0), .inr (0, [.ref (zb 1), .ref (zb 3), .ref (zb 5), .ref (zb 7), .ref (zb 8), .ref (ra 8), .int (kpl k), .int (krs k)])), ((zb 1), .inr (1, [.ref (zb 2), .int (ktl k 0), .int (kto k 0)])), ((zb 2), .inl (cT 0, 4096, .inl (ktb k 0))), ((zb 3), .inr (1, [.ref (zb 4), .int (ktl k 1), .int (kto k 1)])), ((zb 4), .inl (cT 0, 4096, .inl (ktb k 1))), ((zb 5), .inr (1, [.ref (zb 6), .int (ktl k 2), .int (kto k 2)])), ((zb 6), .inl (cT 0, 4096, .inl (ktb k 2))), ((zb 7), .inl (cT 3, 8, .inr (.inr (.inr (.inr rf))))), ((zb 8), .inr (3, [.ref (zb 9), .ref (zb 10), .ref tp, .ref mp, .int (ktt k)])), ((zb 9), .inl (cT 1, 2048, .inl (ksa k 0))), ((zb 10), .inl (cT 1, 2048, .inl (ksa k 1))), (tp, .inl (cT 1, 2048, .inl (ksa k 2))), (mp, .inl (cT 1, 2048, .inl (ksa k 3))), ((ra 8), .inr (2, [.ref (rb 8), .int (krz k 8), .int (kro k 8)])), ((rb 8), .inl (cT 2, 4096, .inr (.inl (krc k 8))))]) (wt := [((ra (xpk (xs (i + (3 : Int32)).toNatClampNeg))), .inr (2, [.ref (rb (xpk (xs (i + (3 : Int32)).toNatClampNeg))), .int (krz k (xpk (xs (i + (3 : Int32)).toNatClampNeg))), .int (kro k (xpk (xs (i + (3 : Int32)).toNatClampNeg)))])), ((rb (xpk (xs (i + (3 : Int32)).toNatClampNeg))), .inl (cT 2, 4096, .inr (.inl (krc k (xpk (xs (i + (3 : Int32)).toNatClampNeg)))))), ((ra (xpk (xs (i + (4 : Int32)).toNatClampNeg))), .inr (2, [.ref (rb (xpk (xs (i + (4 : Int32)).toNatClampNeg))), .int (krz k (xpk (xs (i + (4 : Int32)).toNatClampNeg))), .int (kro k (xpk (xs (i + (4 : Int32)).toNatClampNeg)))])), ((rb (xpk (xs (i + (4 : Int32)).toNatClampNeg))), .inl (cT 2, 4096, .inr (.inl (krc k (xpk (xs (i + (4 : Int32)).toNatClampNeg))))))]) (wo := []) (wc := [((zb 0), .inr (0, [.ref (zb 1), .ref (zb 3), .ref (zb 5), .ref (zb 7), .ref (zb 8), .ref (ra 8), .int (kpl k), .int (krs k)])), ((zb 1), .inr (1, [.ref (zb 2), .int (ktl k 0), .int (kto k 0)])), ((zb 2), .inl (cT 0, 4096, .inl (ktb k 0))), ((zb 3), .inr (1, [.ref (zb 4), .int (ktl k 1), .int (kto k 1)])), ((zb 4), .inl (cT 0, 4096, .inl (ktb k 1))), ((zb 5), .inr (1, [.ref (zb 6), .int (ktl k 2), .int (kto k 2)])), ((zb 6), .inl (cT 0, 4096, .inl (ktb k 2))), ((zb 7), .inl (cT 3, 8, .inr (.inr (.inr (.inr rf))))), ((zb 8), .inr (3, [.ref (zb 9), .ref (zb 10), .ref tp, .ref mp, .int (ktt k)])), ((zb 9), .inl (cT 1, 2048, .inl (ksa k 0))), ((zb 10), .inl (cT 1, 2048, .inl (ksa k 1))), (tp, .inl (cT 1, 2048, .inl (ksa k 2))), (mp, .inl (cT 1, 2048, .inl (ksa k 3))), ((ra 8), .inr (2, [.ref (rb 8), .int (krz k 8), .int (kro k 8)])), ((rb 8), .inl (cT 2, 4096, .inr (.inl (krc k 8)))), ((ra (xpk (xs (i + (3 : Int32)).toNatClampNeg))), .inr (2, [.ref (rb (xpk (xs (i + (3 : Int32)).toNatClampNeg))), .int (krz k (xpk (xs (i + (3 : Int32)).toNatClampNeg))), .int (kro k (xpk (xs (i + (3 : Int32)).toNatClampNeg)))])), ((rb (xpk (xs (i + (3 : Int32)).toNatClampNeg))), .inl (cT 2, 4096, .inr (.inl (krc k (xpk (xs (i + (3 : Int32)).toNatClampNeg)))))), ((ra (xpk (xs (i + (4 : Int32)).toNatClampNeg))), .inr (2, [.ref (rb (xpk (xs (i + (4 : Int32)).toNatClampNeg))), .int (krz k (xpk (xs (i + (4 : Int32)).toNatClampNeg))), .int (kro k (xpk (xs (i + (4 : Int32)).toNatClampNeg)))])), ((rb (xpk (xs (i + (4 : Int32)).toNatClampNeg))), .inl (cT 2, 4096, .inr (.inl (krc k (xpk (xs (i + (4 : Int32)).toNatClampNeg))))))]) hP hD hS hA [16 + (xpk (xs (i + (3 : Int32)).toNatClampNeg)), 24 + (xpk (xs (i + (3 : Int32)).toNatClampNeg)), 16 + (xpk (xs (i + (4 : Int32)).toNatClampNeg)), 24 + (xpk (xs (i + (4 : Int32)).toNatClampNeg))] false rfl (xit2 rfl (xpk8 _) (xpk8 _)) rfl rfl (xnd2 _ (xpk8 _) _ (xpk8 _) hab false).1
          by_cases hk45 : o41.1 = 0
          · rw [if_pos hk45] at hf
            refine va_calli (vx_runSW (As := [.ref (zb 0), .int (xs (i + (1 : Int32)).toNatClampNeg), .int (xs (i + (2 : Int32)).toNatClampNeg), .int (xs (i + (3 : Int32)).toNatClampNeg), .int (xs (i + (4 : Int32)).toNatClampNeg)]) (rest := []) ⟨hx, hb, hml, hown, htx⟩ (gL_binary l hl9 D cT aK aV H.size 104 N (zb 0) (zb 1) (zb 2) (zb 3) (zb 4) (zb 5) (zb 6) (zb 7) (zb 8) (zb 9) (zb 10) (ra 8) (rb 8) (ra (xpk (xs (i + (3 : Int32)).toNatClampNeg))) (rb (xpk (xs (i + (3 : Int32)).toNatClampNeg))) (ra (xpk (xs (i + (4 : Int32)).toNatClampNeg))) (rb (xpk (xs (i + (4 : Int32)).toNatClampNeg))) rf (ra (xpk (xs (i + (1 : Int32)).toNatClampNeg))) (xs (i + (1 : Int32)).toNatClampNeg) (xs (i + (2 : Int32)).toNatClampNeg) (xs (i + (3 : Int32)).toNatClampNeg) (xs (i + (4 : Int32)).toNatClampNeg) (ktb k 0) (ktl k 0) (kto k 0) (ktb k 1) (ktl k 1) (kto k 1) (ktb k 2) (ktl k 2) (kto k 2) (ksa k 0) (ksa k 1) tp (ksa k 2) mp (ksa k 3) (ktt k) (krc k 8) (krz k 8) (kro k 8) (kpl k) (krs k) (krc k (xpk (xs (i + (3 : Int32)).toNatClampNeg))) (krz k (xpk (xs (i + (3 : Int32)).toNatClampNeg))) (kro k (xpk (xs (i + (3 : Int32)).toNatClampNeg))) (krc k (xpk (xs (i + (4 : Int32)).toNatClampNeg))) (krz k (xpk (xs (i + (4 : Int32)).toNatClampNeg))) (kro k (xpk (xs (i + (4 : Int32)).toNatClampNeg))) (xpkR hrf (xs (i + (1 : Int32)).toNatClampNeg)) (xpkR hrf (xs (i + (3 : Int32)).toNatClampNeg)) (xpkR hrf (xs (i + (4 : Int32)).toNatClampNeg)) o41 hq42 hk45) (xcSW 5 htx (xw_goodC kw_3_97) rfl rfl rfl (htx _ kw_1_0) (htx _ kw_3_95) ⟨by decide, by decide, by decide +kernel⟩ ⟨Nat.le_of_ble_eq_true rfl, Nat.le_of_ble_eq_true rfl⟩ (htx _ kw_3_96)) ⟨xPre_blind, (fun U hU hW => ⟨rfl, xPre_of hZ hS hFc hPc hDc hK U hU hW⟩)⟩ rfl rfl hl.1 rfl (lv_room (Nat.le_of_ble_eq_true rfl)) dL_law_401 hm44) hS (fun q _ h => hFc q h) hFc (fun r46 u9 t H1 locs ht hvm hr9 hB hz1 hk1 hS => ?_)
            obtain ⟨hP1, hK1, hD1⟩ := hB
            rw [ht] at hP1
            obtain ⟨hP, hD⟩ := xjnC (X := (xCx cT zb tp mp (ra 8) ra rb rf k ov)) (X' := (xCx cT zb tp mp (ra (xpk (xs (i + (1 : Int32)).toNatClampNeg))) ra rb (va_up rf (xs (i + (1 : Int32)).toNatClampNeg).toNatClampNeg (some (ra 8))) (kP (kT (kR k o41.2.2.2.2.1 o41.2.2.2.2.2.1 o41.2.2.2.2.2.2.1) 2 o41.2.1 o41.2.2.1 o41.2.2.2.1) (kpl k) o41.2.2.2.2.2.2.2) ov)) (T := (xT cT ra rb k (xMw cT aM ad rd gd vad st []))) (wt := [((ra (xpk (xs (i + (3 : Int32)).toNatClampNeg))), .inr (2, [.ref (rb (xpk (xs (i + (3 : Int32)).toNatClampNeg))), .int (krz k (xpk (xs (i + (3 : Int32)).toNatClampNeg))), .int (kro k (xpk (xs (i + (3 : Int32)).toNatClampNeg)))])), ((rb (xpk (xs (i + (3 : Int32)).toNatClampNeg))), .inl (cT 2, 4096, .inr (.inl (krc k (xpk (xs (i + (3 : Int32)).toNatClampNeg)))))), ((ra (xpk (xs (i + (4 : Int32)).toNatClampNeg))), .inr (2, [.ref (rb (xpk (xs (i + (4 : Int32)).toNatClampNeg))), .int (krz k (xpk (xs (i + (4 : Int32)).toNatClampNeg))), .int (kro k (xpk (xs (i + (4 : Int32)).toNatClampNeg)))])), ((rb (xpk (xs (i + (4 : Int32)).toNatClampNeg))), .inl (cT 2, 4096, .inr (.inl (krc k (xpk (xs (i + (4 : Int32)).toNatClampNeg))))))]) hP hD [16 + (xpk (xs (i + (3 : Int32)).toNatClampNeg)), 24 + (xpk (xs (i + (3 : Int32)).toNatClampNeg)), 16 + (xpk (xs (i + (4 : Int32)).toNatClampNeg)), 24 + (xpk (xs (i + (4 : Int32)).toNatClampNeg))] false rfl rfl xge2 (xnd2 _ (xpk8 _) _ (xpk8 _) hab false).2 (xit2 rfl (xpk8 _) (xpk8 _)) hCc hk1 hFc hP1 hD1 rfl rfl rfl
            rw [← xT_kR (f := o41.2.2.2.2.1) (n := o41.2.2.2.2.2.1) (v := o41.2.2.2.2.2.2.1)] at hP hD
            generalize H1 = H at hP hS ⊢
            obtain ⟨hg47, hf⟩ := xifn hf
            have hP : va_P D xcl ((xCx cT zb tp mp (ra (xpk (xs (i + (1 : Int32)).toNatClampNeg))) ra rb (va_up rf (xs (i + (1 : Int32)).toNatClampNeg).toNatClampNeg (some (ra 8))) (kP (kT (kR k o41.2.2.2.2.1 o41.2.2.2.2.2.1 o41.2.2.2.2.2.2.1) 2 o41.2.1 o41.2.2.1 o41.2.2.2.1) (kpl k) o41.2.2.2.2.2.2.2) ov) ++ xT cT ra rb (kP (kT (kR k o41.2.2.2.2.1 o41.2.2.2.2.2.1 o41.2.2.2.2.2.2.1) 2 o41.2.1 o41.2.2.1 o41.2.2.2.1) (kpl k) o41.2.2.2.2.2.2.2) (xMw cT aM ad rd gd vad st [])) H := hP
            have hD : va_D A ((xCx cT zb tp mp (ra (xpk (xs (i + (1 : Int32)).toNatClampNeg))) ra rb (va_up rf (xs (i + (1 : Int32)).toNatClampNeg).toNatClampNeg (some (ra 8))) (kP (kT (kR k o41.2.2.2.2.1 o41.2.2.2.2.2.1 o41.2.2.2.2.2.2.1) 2 o41.2.1 o41.2.2.1 o41.2.2.2.1) (kpl k) o41.2.2.2.2.2.2.2) ov) ++ xT cT ra rb (kP (kT (kR k o41.2.2.2.2.1 o41.2.2.2.2.2.1 o41.2.2.2.2.2.2.1) 2 o41.2.1 o41.2.2.1 o41.2.2.2.1) (kpl k) o41.2.2.2.2.2.2.2) (xMw cT aM ad rd gd vad st [])) := hD
            obtain ⟨hP, hD⟩ := xT_sw (xpk8 (xs (i + (1 : Int32)).toNatClampNeg)) hP hD
            have hrf := xsw_rf (xpk8 (xs (i + (1 : Int32)).toNatClampNeg)) hrf
            rw [show va_up rf (xpk (xs (i + (1 : Int32)).toNatClampNeg)) (some (ra 8)) = va_up rf (xs (i + (1 : Int32)).toNatClampNeg).toNatClampNeg (some (ra 8)) from by rw [xpkE hg47]] at hrf
            have hP : va_P D xcl (xGw cT zb tp mp (xsw2 ra (xpk (xs (i + (1 : Int32)).toNatClampNeg))) (xsw2 rb (xpk (xs (i + (1 : Int32)).toNatClampNeg))) (va_up rf (xs (i + (1 : Int32)).toNatClampNeg).toNatClampNeg (some (ra 8))) (kW (kP (kT (kR k o41.2.2.2.2.1 o41.2.2.2.2.2.1 o41.2.2.2.2.2.2.1) 2 o41.2.1 o41.2.2.1 o41.2.2.2.1) (kpl k) o41.2.2.2.2.2.2.2) (xpk (xs (i + (1 : Int32)).toNatClampNeg))) ov (xMw cT aM ad rd gd vad st [])) H := hP
            have hD : va_D A (xGw cT zb tp mp (xsw2 ra (xpk (xs (i + (1 : Int32)).toNatClampNeg))) (xsw2 rb (xpk (xs (i + (1 : Int32)).toNatClampNeg))) (va_up rf (xs (i + (1 : Int32)).toNatClampNeg).toNatClampNeg (some (ra 8))) (kW (kP (kT (kR k o41.2.2.2.2.1 o41.2.2.2.2.2.1 o41.2.2.2.2.2.2.1) 2 o41.2.1 o41.2.2.1 o41.2.2.2.1) (kpl k) o41.2.2.2.2.2.2.2) (xpk (xs (i + (1 : Int32)).toNatClampNeg))) ov (xMw cT aM ad rd gd vad st [])) := hD
            generalize va_up rf (xs (i + (1 : Int32)).toNatClampNeg).toNatClampNeg (some (ra 8)) = rf50 at hP hD hrf
            generalize (xsw2 ra (xpk (xs (i + (1 : Int32)).toNatClampNeg))) = ra48 at hP hD hrf
            generalize (xsw2 rb (xpk (xs (i + (1 : Int32)).toNatClampNeg))) = rb49 at hP hD
            rw [hr9]
            refine W.eq (g2 := F0 m 404 ls [.int o41.1]) rfl ?_
            refine lv_istore (lv' := [(5, .int o41.1), (4, .int i), (3, .ref (zb 15)), (2, .ref aM), (1, .ref (zb 0)), (0, .ref b)]) hx hb dL_law_404 hl (by decide) rfl (fun ls hl => ?_)
            refine lv_aload_n hx hb dL_law_406 rfl (lv_at hl 3 rfl) ?_
            refine lv_aload_n hx hb dL_law_407 rfl (lv_at hl 5 rfl) ?_
            refine lv_iload hx hb dL_law_408 (lv_at hl 1 rfl) ?_
            refine lv_iconst (v := 1) hx hb dL_law_410 (by decide) ?_
            refine lv_iadd hx hb dL_law_411 ?_
            obtain ⟨hg51, hf⟩ := xifn hf
            refine va_sld hx hb hXs hbl hbA hS (i := (i + (1 : Int32))) hg51 dL_law_412 ?_
            refine W.eq (g2 := F0 m 413 ls [.int (xs (i + (1 : Int32)).toNatClampNeg), .ref aM]) rfl ?_
            refine lv_aload_n hx hb dL_law_413 rfl (lv_at hl 5 rfl) ?_
            refine lv_iload hx hb dL_law_414 (lv_at hl 1 rfl) ?_
            refine lv_iconst (v := 2) hx hb dL_law_416 (by decide) ?_
            refine lv_iadd hx hb dL_law_417 ?_
            obtain ⟨hg52, hf⟩ := xifn hf
            refine va_sld hx hb hXs hbl hbA hS (i := (i + (2 : Int32))) hg52 dL_law_418 ?_
            refine W.eq (g2 := F0 m 419 ls [.int (xs (i + (2 : Int32)).toNatClampNeg), .int (xs (i + (1 : Int32)).toNatClampNeg), .ref aM]) rfl ?_
            refine lv_aload_n hx hb dL_law_419 rfl (lv_at hl 5 rfl) ?_
            refine lv_iload hx hb dL_law_420 (lv_at hl 1 rfl) ?_
            refine lv_iconst (v := 3) hx hb dL_law_422 (by decide) ?_
            refine lv_iadd hx hb dL_law_423 ?_
            obtain ⟨hg53, hf⟩ := xifn hf
            refine va_sld hx hb hXs hbl hbA hS (i := (i + (3 : Int32))) hg53 dL_law_424 ?_
            refine W.eq (g2 := F0 m 425 ls [.int (xs (i + (3 : Int32)).toNatClampNeg), .int (xs (i + (2 : Int32)).toNatClampNeg), .int (xs (i + (1 : Int32)).toNatClampNeg), .ref aM]) rfl ?_
            refine lv_aload_n hx hb dL_law_425 rfl (lv_at hl 5 rfl) ?_
            refine lv_iload hx hb dL_law_426 (lv_at hl 1 rfl) ?_
            refine lv_iconst (v := 4) hx hb dL_law_428 (by decide) ?_
            refine lv_iadd hx hb dL_law_429 ?_
            obtain ⟨hg54, hf⟩ := xifn hf
            refine va_sld hx hb hXs hbl hbA hS (i := (i + (4 : Int32))) hg54 dL_law_430 ?_
            refine W.eq (g2 := F0 m 431 ls [.int (xs (i + (4 : Int32)).toNatClampNeg), .int (xs (i + (3 : Int32)).toNatClampNeg), .int (xs (i + (2 : Int32)).toNatClampNeg), .int (xs (i + (1 : Int32)).toNatClampNeg), .ref aM]) rfl ?_
            obtain ⟨o55, hq56, hf⟩ := xbind hf
            obtain ⟨hg57, hf⟩ := xifn hf
            have hm58 : (((wc + 0) + 3) + o55.1) ≤ 601024 ∧ (((wn + 0) + 18) + o55.2.1) ≤ 7293034 := ⟨Nat.le_of_not_lt fun h => hg57 (Or.inl h), Nat.le_of_not_lt fun h => hg57 (Or.inr h)⟩
            obtain ⟨hPc, hDc⟩ := xGw_part hP hD
            have hFc := xm_free hDc hS hA
            refine va_callv (va_runV (C := "ValueBenchModel") (As := [.int (xs (i + (1 : Int32)).toNatClampNeg), .int (xs (i + (2 : Int32)).toNatClampNeg), .int (xs (i + (3 : Int32)).toNatClampNeg), .int (xs (i + (4 : Int32)).toNatClampNeg)]) (rest := []) ⟨hx, hb, hml, hown, htx⟩ (gM_binary0 l hl9 D cT aK aV H.size 104 N aM ad rd gd vad st (xs (i + (1 : Int32)).toNatClampNeg) (xs (i + (2 : Int32)).toNatClampNeg) (xs (i + (3 : Int32)).toNatClampNeg) (xs (i + (4 : Int32)).toNatClampNeg) o55 hq56) ⟨callB_of 4 htx (xw_goodC kw_6_191) rfl rfl rfl (htx _ kw_1_5) (htx _ kw_6_188) ⟨by decide, by decide, by decide +kernel⟩ ⟨Nat.le_of_ble_eq_true rfl, Nat.le_of_ble_eq_true rfl⟩, (htx _ kw_6_189), (htx _ kw_6_190)⟩ ⟨xPre_blind, va_recv hK hPc (ci := 5) rfl (q0 := 0) rfl, (fun U hU hW => ⟨rfl, xPre_of hZ hS hFc hPc hDc hK U hU hW⟩)⟩ rfl rfl hl.1 rfl (lv_room (Nat.le_of_ble_eq_true rfl)) dL_law_431 hm58) hS (fun q _ h => hFc q h) hFc (fun u9 t H1 locs ht hvm hr9 hB hz1 hk1 hS => ?_)
            obtain ⟨hP1, hK1, hD1⟩ := hB
            rw [ht] at hP1
            obtain ⟨ad60, gd61, vad62⟩ := u9
            obtain ⟨hP, hD⟩ := xGw_call (M' := (xMw cT aM ad60 rd gd61 vad62 o55.2.2 [])) hP hD hk1 hFc hP1 hD1
            generalize H1 = H at hP hS ⊢
            refine W.eq (g2 := F0 m 434 ls []) rfl ?_
            refine lv_aload_n hx hb dL_law_434 rfl (lv_at hl 3 rfl) ?_
            obtain ⟨o63, hq64, hf⟩ := xbind hf
            obtain ⟨hg65, hf⟩ := xifn hf
            have hm66 : ((((wc + 0) + 3) + o55.1) + 0) ≤ 601024 ∧ ((((wn + 0) + 18) + o55.2.1) + 0) ≤ 7293034 := ⟨Nat.le_of_not_lt fun h => hg65 (Or.inl h), Nat.le_of_not_lt fun h => hg65 (Or.inr h)⟩
            obtain ⟨hPc, hDc⟩ := xGw_part hP hD
            have hFc := xm_free hDc hS hA
            refine va_calli (va_runV (C := "ValueBenchModel") (As := []) (rest := []) ⟨hx, hb, hml, hown, htx⟩ (gM_thrown l hl9 D cT aK aV H.size N aM ad60 rd gd61 vad62 o55.2.2 o63 hq64) ⟨callB_of 0 htx (xw_goodC kw_5_187) rfl rfl rfl (htx _ kw_1_5) (htx _ kw_5_184) ⟨by decide, by decide, by decide +kernel⟩ ⟨Nat.le_of_ble_eq_true rfl, Nat.le_of_ble_eq_true rfl⟩, (htx _ kw_5_185), (htx _ kw_5_186)⟩ ⟨xPre_blind, va_recv hK hPc (ci := 5) rfl (q0 := 0) rfl, (fun U hU hW => ⟨rfl, xPre_of hZ hS hFc hPc hDc hK U hU hW⟩)⟩ rfl rfl hl.1 rfl (lv_room (Nat.le_of_ble_eq_true rfl)) dL_law_435 hm66) hS (fun q _ h => hFc q h) hFc (fun r67 u9 t H1 locs ht hvm hr9 hB hz1 hk1 hS => ?_)
            obtain ⟨hP1, hK1, hD1⟩ := hB
            rw [ht] at hP1
            obtain ⟨hP, hD⟩ := xGw_call (M' := (xMw cT aM ad60 rd gd61 vad62 o55.2.2 [])) hP hD hk1 hFc hP1 hD1
            generalize H1 = H at hP hS ⊢
            rw [hr9]
            refine W.eq (g2 := F0 m 438 ls [.int o63]) rfl ?_
            refine lv_iload hx hb dL_law_438 (lv_at hl 0 rfl) ?_
            refine lv_icmp_eq (tgt := 445) hx hb dL_law_440 (by decide) (fun hc => ?_) (fun hc => ?_)
            · rw [if_pos hc] at hf
              refine lv_goto (tgt := 906) hx hb dL_law_445 (by decide) ?_
              refine lv_iinc (v := (i + 6)) (lv' := [(4, .int (i + 6)), (5, .int o41.1), (3, .ref (zb 15)), (2, .ref aM), (1, .ref (zb 0)), (0, .ref b)]) hx hb dL_law_906 hl (k := 1) rfl rfl (by decide) rfl (fun ls hl => ?_)
              refine lv_goto (tgt := 23) hx hb dL_law_909 (by decide) ?_
              exact ih (i + 6) (kW (kP (kT (kR k o41.2.2.2.2.1 o41.2.2.2.2.2.1 o41.2.2.2.2.2.2.1) 2 o41.2.1 o41.2.2.1 o41.2.2.2.1) (kpl k) o41.2.2.2.2.2.2.2) (xpk (xs (i + (1 : Int32)).toNatClampNeg))) ov o55.2.2 ((((wc + 0) + 3) + o55.1) + 0) ((((wn + 0) + 18) + o55.2.1) + 0) zb tp mp ra48 rb49 rf50 aM ad60 rd gd61 vad62 _ _ ls hf hP hD hS (lv_sub hl [0, 2, 3, 4, 5] rfl) hrf
            · rw [if_neg hc] at hf
              refine lv_iconst (v := 0) hx hb dL_law_443 (by decide) ?_
              exact absurd (Option.some.inj hf) (by decide)
          · rw [if_neg hk45] at hf
            refine va_calli (vx_runSW (As := [.ref (zb 0), .int (xs (i + (1 : Int32)).toNatClampNeg), .int (xs (i + (2 : Int32)).toNatClampNeg), .int (xs (i + (3 : Int32)).toNatClampNeg), .int (xs (i + (4 : Int32)).toNatClampNeg)]) (rest := []) ⟨hx, hb, hml, hown, htx⟩ (gL_binary_1 l hl9 D cT aK aV H.size 104 N (zb 0) (zb 1) (zb 2) (zb 3) (zb 4) (zb 5) (zb 6) (zb 7) (zb 8) (zb 9) (zb 10) (ra 8) (rb 8) (ra (xpk (xs (i + (3 : Int32)).toNatClampNeg))) (rb (xpk (xs (i + (3 : Int32)).toNatClampNeg))) (ra (xpk (xs (i + (4 : Int32)).toNatClampNeg))) (rb (xpk (xs (i + (4 : Int32)).toNatClampNeg))) rf (ra (xpk (xs (i + (1 : Int32)).toNatClampNeg))) (xs (i + (1 : Int32)).toNatClampNeg) (xs (i + (2 : Int32)).toNatClampNeg) (xs (i + (3 : Int32)).toNatClampNeg) (xs (i + (4 : Int32)).toNatClampNeg) (ktb k 0) (ktl k 0) (kto k 0) (ktb k 1) (ktl k 1) (kto k 1) (ktb k 2) (ktl k 2) (kto k 2) (ksa k 0) (ksa k 1) tp (ksa k 2) mp (ksa k 3) (ktt k) (krc k 8) (krz k 8) (kro k 8) (kpl k) (krs k) (krc k (xpk (xs (i + (3 : Int32)).toNatClampNeg))) (krz k (xpk (xs (i + (3 : Int32)).toNatClampNeg))) (kro k (xpk (xs (i + (3 : Int32)).toNatClampNeg))) (krc k (xpk (xs (i + (4 : Int32)).toNatClampNeg))) (krz k (xpk (xs (i + (4 : Int32)).toNatClampNeg))) (kro k (xpk (xs (i + (4 : Int32)).toNatClampNeg))) (xpkR hrf (xs (i + (1 : Int32)).toNatClampNeg)) (xpkR hrf (xs (i + (3 : Int32)).toNatClampNeg)) (xpkR hrf (xs (i + (4 : Int32)).toNatClampNeg)) o41 hq42 hk45) (xcSW 5 htx (xw_goodC kw_3_97) rfl rfl rfl (htx _ kw_1_0) (htx _ kw_3_95) ⟨by decide, by decide, by decide +kernel⟩ ⟨Nat.le_of_ble_eq_true rfl, Nat.le_of_ble_eq_true rfl⟩ (htx _ kw_3_96)) ⟨xPre_blind, (fun U hU hW => ⟨rfl, xPre_of hZ hS hFc hPc hDc hK U hU hW⟩)⟩ rfl rfl hl.1 rfl (lv_room (Nat.le_of_ble_eq_true rfl)) dL_law_401 hm44) hS (fun q _ h => hFc q h) hFc (fun r56 u9 t H1 locs ht hvm hr9 hB hz1 hk1 hS => ?_)
            obtain ⟨hP1, hK1, hD1⟩ := hB
            rw [ht] at hP1
            obtain ⟨hP, hD⟩ := xjnC (X := (xCx cT zb tp mp (ra 8) ra rb rf k ov)) (X' := (xCx cT zb tp mp (ra 8) ra rb rf (kP (kT (kR k o41.2.2.2.2.1 o41.2.2.2.2.2.1 o41.2.2.2.2.2.2.1) 2 o41.2.1 o41.2.2.1 o41.2.2.2.1) (kpl k) o41.2.2.2.2.2.2.2) ov)) (T := (xT cT ra rb k (xMw cT aM ad rd gd vad st []))) (wt := [((ra (xpk (xs (i + (3 : Int32)).toNatClampNeg))), .inr (2, [.ref (rb (xpk (xs (i + (3 : Int32)).toNatClampNeg))), .int (krz k (xpk (xs (i + (3 : Int32)).toNatClampNeg))), .int (kro k (xpk (xs (i + (3 : Int32)).toNatClampNeg)))])), ((rb (xpk (xs (i + (3 : Int32)).toNatClampNeg))), .inl (cT 2, 4096, .inr (.inl (krc k (xpk (xs (i + (3 : Int32)).toNatClampNeg)))))), ((ra (xpk (xs (i + (4 : Int32)).toNatClampNeg))), .inr (2, [.ref (rb (xpk (xs (i + (4 : Int32)).toNatClampNeg))), .int (krz k (xpk (xs (i + (4 : Int32)).toNatClampNeg))), .int (kro k (xpk (xs (i + (4 : Int32)).toNatClampNeg)))])), ((rb (xpk (xs (i + (4 : Int32)).toNatClampNeg))), .inl (cT 2, 4096, .inr (.inl (krc k (xpk (xs (i + (4 : Int32)).toNatClampNeg))))))]) hP hD [16 + (xpk (xs (i + (3 : Int32)).toNatClampNeg)), 24 + (xpk (xs (i + (3 : Int32)).toNatClampNeg)), 16 + (xpk (xs (i + (4 : Int32)).toNatClampNeg)), 24 + (xpk (xs (i + (4 : Int32)).toNatClampNeg))] false rfl rfl xge2 (xnd2 _ (xpk8 _) _ (xpk8 _) hab false).2 (xit2 rfl (xpk8 _) (xpk8 _)) hCc hk1 hFc hP1 hD1 rfl rfl rfl
            rw [← xT_kR (f := o41.2.2.2.2.1) (n := o41.2.2.2.2.2.1) (v := o41.2.2.2.2.2.2.1)] at hP hD
            generalize H1 = H at hP hS ⊢
            have hP : va_P D xcl (xGw cT zb tp mp ra rb rf (kP (kT (kR k o41.2.2.2.2.1 o41.2.2.2.2.2.1 o41.2.2.2.2.2.2.1) 2 o41.2.1 o41.2.2.1 o41.2.2.2.1) (kpl k) o41.2.2.2.2.2.2.2) ov (xMw cT aM ad rd gd vad st [])) H := hP
            have hD : va_D A (xGw cT zb tp mp ra rb rf (kP (kT (kR k o41.2.2.2.2.1 o41.2.2.2.2.2.1 o41.2.2.2.2.2.2.1) 2 o41.2.1 o41.2.2.1 o41.2.2.2.1) (kpl k) o41.2.2.2.2.2.2.2) ov (xMw cT aM ad rd gd vad st [])) := hD
            rw [hr9]
            refine W.eq (g2 := F0 m 404 ls [.int o41.1]) rfl ?_
            refine lv_istore (lv' := [(5, .int o41.1), (4, .int i), (3, .ref (zb 15)), (2, .ref aM), (1, .ref (zb 0)), (0, .ref b)]) hx hb dL_law_404 hl (by decide) rfl (fun ls hl => ?_)
            refine lv_aload_n hx hb dL_law_406 rfl (lv_at hl 3 rfl) ?_
            refine lv_aload_n hx hb dL_law_407 rfl (lv_at hl 5 rfl) ?_
            refine lv_iload hx hb dL_law_408 (lv_at hl 1 rfl) ?_
            refine lv_iconst (v := 1) hx hb dL_law_410 (by decide) ?_
            refine lv_iadd hx hb dL_law_411 ?_
            obtain ⟨hg57, hf⟩ := xifn hf
            refine va_sld hx hb hXs hbl hbA hS (i := (i + (1 : Int32))) hg57 dL_law_412 ?_
            refine W.eq (g2 := F0 m 413 ls [.int (xs (i + (1 : Int32)).toNatClampNeg), .ref aM]) rfl ?_
            refine lv_aload_n hx hb dL_law_413 rfl (lv_at hl 5 rfl) ?_
            refine lv_iload hx hb dL_law_414 (lv_at hl 1 rfl) ?_
            refine lv_iconst (v := 2) hx hb dL_law_416 (by decide) ?_
            refine lv_iadd hx hb dL_law_417 ?_
            obtain ⟨hg58, hf⟩ := xifn hf
            refine va_sld hx hb hXs hbl hbA hS (i := (i + (2 : Int32))) hg58 dL_law_418 ?_
            refine W.eq (g2 := F0 m 419 ls [.int (xs (i + (2 : Int32)).toNatClampNeg), .int (xs (i + (1 : Int32)).toNatClampNeg), .ref aM]) rfl ?_
            refine lv_aload_n hx hb dL_law_419 rfl (lv_at hl 5 rfl) ?_
            refine lv_iload hx hb dL_law_420 (lv_at hl 1 rfl) ?_
            refine lv_iconst (v := 3) hx hb dL_law_422 (by decide) ?_
            refine lv_iadd hx hb dL_law_423 ?_
            obtain ⟨hg59, hf⟩ := xifn hf
            refine va_sld hx hb hXs hbl hbA hS (i := (i + (3 : Int32))) hg59 dL_law_424 ?_
            refine W.eq (g2 := F0 m 425 ls [.int (xs (i + (3 : Int32)).toNatClampNeg), .int (xs (i + (2 : Int32)).toNatClampNeg), .int (xs (i + (1 : Int32)).toNatClampNeg), .ref aM]) rfl ?_
            refine lv_aload_n hx hb dL_law_425 rfl (lv_at hl 5 rfl) ?_
            refine lv_iload hx hb dL_law_426 (lv_at hl 1 rfl) ?_
            refine lv_iconst (v := 4) hx hb dL_law_428 (by decide) ?_
            refine lv_iadd hx hb dL_law_429 ?_
            obtain ⟨hg60, hf⟩ := xifn hf
            refine va_sld hx hb hXs hbl hbA hS (i := (i + (4 : Int32))) hg60 dL_law_430 ?_
            refine W.eq (g2 := F0 m 431 ls [.int (xs (i + (4 : Int32)).toNatClampNeg), .int (xs (i + (3 : Int32)).toNatClampNeg), .int (xs (i + (2 : Int32)).toNatClampNeg), .int (xs (i + (1 : Int32)).toNatClampNeg), .ref aM]) rfl ?_
            obtain ⟨o61, hq62, hf⟩ := xbind hf
            obtain ⟨hg63, hf⟩ := xifn hf
            have hm64 : (((wc + 0) + 3) + o61.1) ≤ 601024 ∧ (((wn + 0) + 18) + o61.2.1) ≤ 7293034 := ⟨Nat.le_of_not_lt fun h => hg63 (Or.inl h), Nat.le_of_not_lt fun h => hg63 (Or.inr h)⟩
            obtain ⟨hPc, hDc⟩ := xGw_part hP hD
            have hFc := xm_free hDc hS hA
            refine va_callv (va_runV (C := "ValueBenchModel") (As := [.int (xs (i + (1 : Int32)).toNatClampNeg), .int (xs (i + (2 : Int32)).toNatClampNeg), .int (xs (i + (3 : Int32)).toNatClampNeg), .int (xs (i + (4 : Int32)).toNatClampNeg)]) (rest := []) ⟨hx, hb, hml, hown, htx⟩ (gM_binary0 l hl9 D cT aK aV H.size 104 N aM ad rd gd vad st (xs (i + (1 : Int32)).toNatClampNeg) (xs (i + (2 : Int32)).toNatClampNeg) (xs (i + (3 : Int32)).toNatClampNeg) (xs (i + (4 : Int32)).toNatClampNeg) o61 hq62) ⟨callB_of 4 htx (xw_goodC kw_6_191) rfl rfl rfl (htx _ kw_1_5) (htx _ kw_6_188) ⟨by decide, by decide, by decide +kernel⟩ ⟨Nat.le_of_ble_eq_true rfl, Nat.le_of_ble_eq_true rfl⟩, (htx _ kw_6_189), (htx _ kw_6_190)⟩ ⟨xPre_blind, va_recv hK hPc (ci := 5) rfl (q0 := 0) rfl, (fun U hU hW => ⟨rfl, xPre_of hZ hS hFc hPc hDc hK U hU hW⟩)⟩ rfl rfl hl.1 rfl (lv_room (Nat.le_of_ble_eq_true rfl)) dL_law_431 hm64) hS (fun q _ h => hFc q h) hFc (fun u9 t H1 locs ht hvm hr9 hB hz1 hk1 hS => ?_)
            obtain ⟨hP1, hK1, hD1⟩ := hB
            rw [ht] at hP1
            obtain ⟨ad66, gd67, vad68⟩ := u9
            obtain ⟨hP, hD⟩ := xGw_call (M' := (xMw cT aM ad66 rd gd67 vad68 o61.2.2 [])) hP hD hk1 hFc hP1 hD1
            generalize H1 = H at hP hS ⊢
            refine W.eq (g2 := F0 m 434 ls []) rfl ?_
            refine lv_aload_n hx hb dL_law_434 rfl (lv_at hl 3 rfl) ?_
            obtain ⟨o69, hq70, hf⟩ := xbind hf
            obtain ⟨hg71, hf⟩ := xifn hf
            have hm72 : ((((wc + 0) + 3) + o61.1) + 0) ≤ 601024 ∧ ((((wn + 0) + 18) + o61.2.1) + 0) ≤ 7293034 := ⟨Nat.le_of_not_lt fun h => hg71 (Or.inl h), Nat.le_of_not_lt fun h => hg71 (Or.inr h)⟩
            obtain ⟨hPc, hDc⟩ := xGw_part hP hD
            have hFc := xm_free hDc hS hA
            refine va_calli (va_runV (C := "ValueBenchModel") (As := []) (rest := []) ⟨hx, hb, hml, hown, htx⟩ (gM_thrown l hl9 D cT aK aV H.size N aM ad66 rd gd67 vad68 o61.2.2 o69 hq70) ⟨callB_of 0 htx (xw_goodC kw_5_187) rfl rfl rfl (htx _ kw_1_5) (htx _ kw_5_184) ⟨by decide, by decide, by decide +kernel⟩ ⟨Nat.le_of_ble_eq_true rfl, Nat.le_of_ble_eq_true rfl⟩, (htx _ kw_5_185), (htx _ kw_5_186)⟩ ⟨xPre_blind, va_recv hK hPc (ci := 5) rfl (q0 := 0) rfl, (fun U hU hW => ⟨rfl, xPre_of hZ hS hFc hPc hDc hK U hU hW⟩)⟩ rfl rfl hl.1 rfl (lv_room (Nat.le_of_ble_eq_true rfl)) dL_law_435 hm72) hS (fun q _ h => hFc q h) hFc (fun r73 u9 t H1 locs ht hvm hr9 hB hz1 hk1 hS => ?_)
            obtain ⟨hP1, hK1, hD1⟩ := hB
            rw [ht] at hP1
            obtain ⟨hP, hD⟩ := xGw_call (M' := (xMw cT aM ad66 rd gd67 vad68 o61.2.2 [])) hP hD hk1 hFc hP1 hD1
            generalize H1 = H at hP hS ⊢
            rw [hr9]
            refine W.eq (g2 := F0 m 438 ls [.int o69]) rfl ?_
            refine lv_iload hx hb dL_law_438 (lv_at hl 0 rfl) ?_
            refine lv_icmp_eq (tgt := 445) hx hb dL_law_440 (by decide) (fun hc => ?_) (fun hc => ?_)
            · rw [if_pos hc] at hf
              refine lv_goto (tgt := 906) hx hb dL_law_445 (by decide) ?_
              refine lv_iinc (v := (i + 6)) (lv' := [(4, .int (i + 6)), (5, .int o41.1), (3, .ref (zb 15)), (2, .ref aM), (1, .ref (zb 0)), (0, .ref b)]) hx hb dL_law_906 hl (k := 1) rfl rfl (by decide) rfl (fun ls hl => ?_)
              refine lv_goto (tgt := 23) hx hb dL_law_909 (by decide) ?_
              exact ih (i + 6) (kP (kT (kR k o41.2.2.2.2.1 o41.2.2.2.2.2.1 o41.2.2.2.2.2.2.1) 2 o41.2.1 o41.2.2.1 o41.2.2.2.1) (kpl k) o41.2.2.2.2.2.2.2) ov o61.2.2 ((((wc + 0) + 3) + o61.1) + 0) ((((wn + 0) + 18) + o61.2.1) + 0) zb tp mp ra rb rf aM ad66 rd gd67 vad68 _ _ ls hf hP hD hS (lv_sub hl [0, 2, 3, 4, 5] rfl) hrf
            · rw [if_neg hc] at hf
              refine lv_iconst (v := 0) hx hb dL_law_443 (by decide) ?_
              exact absurd (Option.some.inj hf) (by decide)
      rw [if_neg hc16] at hf
      by_cases hc61 : ((xs i.toNatClampNeg) &&& (15 : Int32)) = 5
      · rw [if_pos hc61] at hf
        refine lv_tableIn (off := 408) (tgt := 448) hx hb dL_law_40 (by rw [hc61]; decide) (by rw [hc61]; decide) (by rw [hc61]; decide) (by decide) ?_
        refine lv_aload_n hx hb dL_law_448 rfl (lv_at hl 3 rfl) ?_
        refine lv_aload_n hx hb dL_law_449 rfl (lv_at hl 4 rfl) ?_
        refine lv_iload hx hb dL_law_450 (lv_at hl 0 rfl) ?_
        refine lv_iconst (v := 1) hx hb dL_law_452 (by decide) ?_
        refine lv_iadd hx hb dL_law_453 ?_
        obtain ⟨hg62, hf⟩ := xifn hf
        refine va_sld hx hb hXs hbl hbA hS (i := (i + (1 : Int32))) hg62 dL_law_454 ?_
        refine W.eq (g2 := F0 m 455 ls [.int (xs (i + (1 : Int32)).toNatClampNeg), .ref (zb 0)]) rfl ?_
        refine lv_aload_n hx hb dL_law_455 rfl (lv_at hl 4 rfl) ?_
        refine lv_iload hx hb dL_law_456 (lv_at hl 0 rfl) ?_
        refine lv_iconst (v := 2) hx hb dL_law_458 (by decide) ?_
        refine lv_iadd hx hb dL_law_459 ?_
        obtain ⟨hg63, hf⟩ := xifn hf
        refine va_sld hx hb hXs hbl hbA hS (i := (i + (2 : Int32))) hg63 dL_law_460 ?_
        refine W.eq (g2 := F0 m 461 ls [.int (xs (i + (2 : Int32)).toNatClampNeg), .int (xs (i + (1 : Int32)).toNatClampNeg), .ref (zb 0)]) rfl ?_
        refine lv_aload_n hx hb dL_law_461 rfl (lv_at hl 1 rfl) ?_
        by_cases hab : xpk (xs (i + (1 : Int32)).toNatClampNeg) = xpk (xs (i + (2 : Int32)).toNatClampNeg)
        · rw [if_pos hab] at hf
          obtain ⟨o64, hq65, hf⟩ := xbind hf
          obtain ⟨hg66, hf⟩ := xifn hf
          have hm67 : ((wc + 0) + 1) ≤ 601024 ∧ ((wn + 0) + 6) ≤ 7293034 := ⟨Nat.le_of_not_lt fun h => hg66 (Or.inl h), Nat.le_of_not_lt fun h => hg66 (Or.inr h)⟩
          obtain ⟨hPc, hDc, hFc, hCc⟩ := xcutC (X := (xCx cT zb tp mp (ra 8) ra rb rf k ov)) (T := (xT cT ra rb k (xMw cT aM ad rd gd vad st []))) (we := [((zb 0), .inr (0, [.ref (zb 1), .ref (zb 3), .ref (zb 5), .ref (zb 7), .ref (zb 8), .ref (ra 8), .int (kpl k), .int (krs k)])), ((zb 1), .inr (1, [.ref (zb 2), .int (ktl k 0), .int (kto k 0)])), ((zb 2), .inl (cT 0, 4096, .inl (ktb k 0))), ((zb 3), .inr (1, [.ref (zb 4), .int (ktl k 1), .int (kto k 1)])), ((zb 4), .inl (cT 0, 4096, .inl (ktb k 1))), ((zb 5), .inr (1, [.ref (zb 6), .int (ktl k 2), .int (kto k 2)])), ((zb 6), .inl (cT 0, 4096, .inl (ktb k 2))), ((zb 7), .inl (cT 3, 8, .inr (.inr (.inr (.inr rf))))), ((zb 8), .inr (3, [.ref (zb 9), .ref (zb 10), .ref tp, .ref mp, .int (ktt k)])), ((zb 9), .inl (cT 1, 2048, .inl (ksa k 0))), ((zb 10), .inl (cT 1, 2048, .inl (ksa k 1))), (tp, .inl (cT 1, 2048, .inl (ksa k 2))), (mp, .inl (cT 1, 2048, .inl (ksa k 3))), ((ra 8), .inr (2, [.ref (rb 8), .int (krz k 8), .int (kro k 8)])), ((rb 8), .inl (cT 2, 4096, .inr (.inl (krc k 8))))]) (wt := [((ra (xpk (xs (i + (1 : Int32)).toNatClampNeg))), .inr (2, [.ref (rb (xpk (xs (i + (1 : Int32)).toNatClampNeg))), .int (krz k (xpk (xs (i + (1 : Int32)).toNatClampNeg))), .int (kro k (xpk (xs (i + (1 : Int32)).toNatClampNeg)))])), ((rb (xpk (xs (i + (1 : Int32)).toNatClampNeg))), .inl (cT 2, 4096, .inr (.inl (krc k (xpk (xs (i + (1 : Int32)).toNatClampNeg))))))]) (wo := [((zb 15), .inl (cT 2, 1, .inr (.inl ov)))]) (wc := [((zb 0), .inr (0, [.ref (zb 1), .ref (zb 3), .ref (zb 5), .ref (zb 7), .ref (zb 8), .ref (ra 8), .int (kpl k), .int (krs k)])), ((zb 1), .inr (1, [.ref (zb 2), .int (ktl k 0), .int (kto k 0)])), ((zb 2), .inl (cT 0, 4096, .inl (ktb k 0))), ((zb 3), .inr (1, [.ref (zb 4), .int (ktl k 1), .int (kto k 1)])), ((zb 4), .inl (cT 0, 4096, .inl (ktb k 1))), ((zb 5), .inr (1, [.ref (zb 6), .int (ktl k 2), .int (kto k 2)])), ((zb 6), .inl (cT 0, 4096, .inl (ktb k 2))), ((zb 7), .inl (cT 3, 8, .inr (.inr (.inr (.inr rf))))), ((zb 8), .inr (3, [.ref (zb 9), .ref (zb 10), .ref tp, .ref mp, .int (ktt k)])), ((zb 9), .inl (cT 1, 2048, .inl (ksa k 0))), ((zb 10), .inl (cT 1, 2048, .inl (ksa k 1))), (tp, .inl (cT 1, 2048, .inl (ksa k 2))), (mp, .inl (cT 1, 2048, .inl (ksa k 3))), ((ra 8), .inr (2, [.ref (rb 8), .int (krz k 8), .int (kro k 8)])), ((rb 8), .inl (cT 2, 4096, .inr (.inl (krc k 8)))), ((ra (xpk (xs (i + (1 : Int32)).toNatClampNeg))), .inr (2, [.ref (rb (xpk (xs (i + (1 : Int32)).toNatClampNeg))), .int (krz k (xpk (xs (i + (1 : Int32)).toNatClampNeg))), .int (kro k (xpk (xs (i + (1 : Int32)).toNatClampNeg)))])), ((rb (xpk (xs (i + (1 : Int32)).toNatClampNeg))), .inl (cT 2, 4096, .inr (.inl (krc k (xpk (xs (i + (1 : Int32)).toNatClampNeg)))))), ((zb 15), .inl (cT 2, 1, .inr (.inl ov)))]) hP hD hS hA [16 + (xpk (xs (i + (1 : Int32)).toNatClampNeg)), 24 + (xpk (xs (i + (1 : Int32)).toNatClampNeg))] true rfl (xit1 rfl (xpk8 _)) rfl rfl (xnd1 _ (xpk8 _) true).1
          refine va_calli (vx_runSW (As := [.ref (zb 0), .int (xs (i + (1 : Int32)).toNatClampNeg), .int (xs (i + (2 : Int32)).toNatClampNeg), .ref (zb 15)]) (rest := []) ⟨hx, hb, hml, hown, htx⟩ (gL_comparea l hl9 D cT aK aV H.size 104 N (zb 0) (zb 1) (zb 2) (zb 3) (zb 4) (zb 5) (zb 6) (zb 7) (zb 8) (zb 9) (zb 10) (ra 8) (rb 8) (ra (xpk (xs (i + (1 : Int32)).toNatClampNeg))) (rb (xpk (xs (i + (1 : Int32)).toNatClampNeg))) (zb 15) rf (xs (i + (1 : Int32)).toNatClampNeg) (xs (i + (2 : Int32)).toNatClampNeg) (ktb k 0) (ktl k 0) (kto k 0) (ktb k 1) (ktl k 1) (kto k 1) (ktb k 2) (ktl k 2) (kto k 2) (ksa k 0) (ksa k 1) tp (ksa k 2) mp (ksa k 3) (ktt k) (krc k 8) (krz k 8) (kro k 8) (kpl k) (krs k) (krc k (xpk (xs (i + (1 : Int32)).toNatClampNeg))) (krz k (xpk (xs (i + (1 : Int32)).toNatClampNeg))) (kro k (xpk (xs (i + (1 : Int32)).toNatClampNeg))) ov (xpkR hrf (xs (i + (1 : Int32)).toNatClampNeg)) (by rw [hab]; exact xpkR hrf (xs (i + (2 : Int32)).toNatClampNeg)) o64 hq65) (xcSW 4 htx (xw_goodC kw_4_5) rfl rfl rfl (htx _ kw_1_0) (htx _ kw_4_3) ⟨by decide, by decide, by decide +kernel⟩ ⟨Nat.le_of_ble_eq_true rfl, Nat.le_of_ble_eq_true rfl⟩ (htx _ kw_4_4)) ⟨xPre_blind, (fun U hU hW => ⟨rfl, xPre_of hZ hS hFc hPc hDc hK U hU hW⟩)⟩ rfl rfl hl.1 rfl (lv_room (Nat.le_of_ble_eq_true rfl)) dL_law_462 hm67) hS (fun q _ h => hFc q h) hFc (fun r68 u9 t H1 locs ht hvm hr9 hB hz1 hk1 hS => ?_)
          obtain ⟨hP1, hK1, hD1⟩ := hB
          rw [ht] at hP1
          obtain ⟨hP, hD⟩ := xjnC (X := (xCx cT zb tp mp (ra 8) ra rb rf k ov)) (X' := (xCx cT zb tp mp (ra 8) ra rb rf k o64.2)) (T := (xT cT ra rb k (xMw cT aM ad rd gd vad st []))) (wt := [((ra (xpk (xs (i + (1 : Int32)).toNatClampNeg))), .inr (2, [.ref (rb (xpk (xs (i + (1 : Int32)).toNatClampNeg))), .int (krz k (xpk (xs (i + (1 : Int32)).toNatClampNeg))), .int (kro k (xpk (xs (i + (1 : Int32)).toNatClampNeg)))])), ((rb (xpk (xs (i + (1 : Int32)).toNatClampNeg))), .inl (cT 2, 4096, .inr (.inl (krc k (xpk (xs (i + (1 : Int32)).toNatClampNeg))))))]) hP hD [16 + (xpk (xs (i + (1 : Int32)).toNatClampNeg)), 24 + (xpk (xs (i + (1 : Int32)).toNatClampNeg))] true rfl rfl xge1 (xnd1 _ (xpk8 _) true).2 (xit1 rfl (xpk8 _)) hCc hk1 hFc hP1 hD1 rfl rfl rfl
          generalize H1 = H at hP hS ⊢
          have hP : va_P D xcl (xGw cT zb tp mp ra rb rf k o64.2 (xMw cT aM ad rd gd vad st [])) H := hP
          have hD : va_D A (xGw cT zb tp mp ra rb rf k o64.2 (xMw cT aM ad rd gd vad st [])) := hD
          rw [hr9]
          refine W.eq (g2 := F0 m 465 ls [.int o64.1]) rfl ?_
          refine lv_istore (lv' := [(5, .int o64.1), (4, .int i), (3, .ref (zb 15)), (2, .ref aM), (1, .ref (zb 0)), (0, .ref b)]) hx hb dL_law_465 hl (by decide) rfl (fun ls hl => ?_)
          refine lv_aload_n hx hb dL_law_467 rfl (lv_at hl 3 rfl) ?_
          refine lv_aload_n hx hb dL_law_468 rfl (lv_at hl 5 rfl) ?_
          refine lv_iload hx hb dL_law_469 (lv_at hl 1 rfl) ?_
          refine lv_iconst (v := 1) hx hb dL_law_471 (by decide) ?_
          refine lv_iadd hx hb dL_law_472 ?_
          obtain ⟨hg69, hf⟩ := xifn hf
          refine va_sld hx hb hXs hbl hbA hS (i := (i + (1 : Int32))) hg69 dL_law_473 ?_
          refine W.eq (g2 := F0 m 474 ls [.int (xs (i + (1 : Int32)).toNatClampNeg), .ref aM]) rfl ?_
          refine lv_aload_n hx hb dL_law_474 rfl (lv_at hl 5 rfl) ?_
          refine lv_iload hx hb dL_law_475 (lv_at hl 1 rfl) ?_
          refine lv_iconst (v := 2) hx hb dL_law_477 (by decide) ?_
          refine lv_iadd hx hb dL_law_478 ?_
          obtain ⟨hg70, hf⟩ := xifn hf
          refine va_sld hx hb hXs hbl hbA hS (i := (i + (2 : Int32))) hg70 dL_law_479 ?_
          refine W.eq (g2 := F0 m 480 ls [.int (xs (i + (2 : Int32)).toNatClampNeg), .int (xs (i + (1 : Int32)).toNatClampNeg), .ref aM]) rfl ?_
          obtain ⟨o71, hq72, hf⟩ := xbind hf
          obtain ⟨hg73, hf⟩ := xifn hf
          obtain ⟨hg74, hf⟩ := xifn hf
          have hm75 : (((wc + 0) + 1) + o71.2.1) ≤ 601024 ∧ (((wn + 0) + 6) + o71.2.2.1) ≤ 7293034 := ⟨Nat.le_of_not_lt fun h => hg74 (Or.inl h), Nat.le_of_not_lt fun h => hg74 (Or.inr h)⟩
          obtain ⟨hPc, hDc⟩ := xGw_part hP hD
          have hFc := xm_free hDc hS hA
          refine va_calli (va_runV (C := "ValueBenchModel") (As := [.int (xs (i + (1 : Int32)).toNatClampNeg), .int (xs (i + (2 : Int32)).toNatClampNeg)]) (rest := []) ⟨hx, hb, hml, hown, htx⟩ (gM_compare l hl9 D cT aK aV H.size 104 N aM ad rd gd vad st (xs (i + (1 : Int32)).toNatClampNeg) (xs (i + (2 : Int32)).toNatClampNeg) o71 hq72 (Decidable.not_not.mp hg73)) ⟨callB_of 2 htx (xw_goodC kw_7_119) rfl rfl rfl (htx _ kw_1_5) (htx _ kw_7_116) ⟨by decide, by decide, by decide +kernel⟩ ⟨Nat.le_of_ble_eq_true rfl, Nat.le_of_ble_eq_true rfl⟩, (htx _ kw_7_117), (htx _ kw_7_118)⟩ ⟨xPre_blind, va_recv hK hPc (ci := 5) rfl (q0 := 0) rfl, (fun U hU hW => ⟨rfl, xPre_of hZ hS hFc hPc hDc hK U hU hW⟩)⟩ rfl rfl hl.1 rfl (lv_room (Nat.le_of_ble_eq_true rfl)) dL_law_480 hm75) hS (fun q _ h => hFc q h) hFc (fun r76 u9 t H1 locs ht hvm hr9 hB hz1 hk1 hS => ?_)
          obtain ⟨hP1, hK1, hD1⟩ := hB
          rw [ht] at hP1
          obtain ⟨ad77, gd78, vad79⟩ := u9
          have hr9 := hr9.1
          obtain ⟨hP, hD⟩ := xGw_call (M' := (xMw cT aM ad77 rd gd78 vad79 o71.2.2.2.2 [])) hP hD hk1 hFc hP1 hD1
          generalize H1 = H at hP hS ⊢
          rw [hr9]
          refine W.eq (g2 := F0 m 483 ls [.int o71.2.2.2.1]) rfl ?_
          refine lv_istore (lv' := [(6, .int o71.2.2.2.1), (5, .int o64.1), (4, .int i), (3, .ref (zb 15)), (2, .ref aM), (1, .ref (zb 0)), (0, .ref b)]) hx hb dL_law_483 hl (by decide) rfl (fun ls hl => ?_)
          refine lv_aload_n hx hb dL_law_485 rfl (lv_at hl 4 rfl) ?_
          obtain ⟨o80, hq81, hf⟩ := xbind hf
          obtain ⟨hg82, hf⟩ := xifn hf
          have hm83 : ((((wc + 0) + 1) + o71.2.1) + 0) ≤ 601024 ∧ ((((wn + 0) + 6) + o71.2.2.1) + 0) ≤ 7293034 := ⟨Nat.le_of_not_lt fun h => hg82 (Or.inl h), Nat.le_of_not_lt fun h => hg82 (Or.inr h)⟩
          obtain ⟨hPc, hDc⟩ := xGw_part hP hD
          have hFc := xm_free hDc hS hA
          refine va_calli (va_runV (C := "ValueBenchModel") (As := []) (rest := []) ⟨hx, hb, hml, hown, htx⟩ (gM_thrown l hl9 D cT aK aV H.size N aM ad77 rd gd78 vad79 o71.2.2.2.2 o80 hq81) ⟨callB_of 0 htx (xw_goodC kw_5_187) rfl rfl rfl (htx _ kw_1_5) (htx _ kw_5_184) ⟨by decide, by decide, by decide +kernel⟩ ⟨Nat.le_of_ble_eq_true rfl, Nat.le_of_ble_eq_true rfl⟩, (htx _ kw_5_185), (htx _ kw_5_186)⟩ ⟨xPre_blind, va_recv hK hPc (ci := 5) rfl (q0 := 0) rfl, (fun U hU hW => ⟨rfl, xPre_of hZ hS hFc hPc hDc hK U hU hW⟩)⟩ rfl rfl hl.1 rfl (lv_room (Nat.le_of_ble_eq_true rfl)) dL_law_486 hm83) hS (fun q _ h => hFc q h) hFc (fun r84 u9 t H1 locs ht hvm hr9 hB hz1 hk1 hS => ?_)
          obtain ⟨hP1, hK1, hD1⟩ := hB
          rw [ht] at hP1
          obtain ⟨hP, hD⟩ := xGw_call (M' := (xMw cT aM ad77 rd gd78 vad79 o71.2.2.2.2 [])) hP hD hk1 hFc hP1 hD1
          generalize H1 = H at hP hS ⊢
          rw [hr9]
          refine W.eq (g2 := F0 m 489 ls [.int o80]) rfl ?_
          refine lv_iload hx hb dL_law_489 (lv_at hl 1 rfl) ?_
          refine lv_icmp_eq (tgt := 496) hx hb dL_law_491 (by decide) (fun hc => ?_) (fun hc => ?_)
          · rw [if_pos hc] at hf
            refine lv_iload hx hb dL_law_496 (lv_at hl 1 rfl) ?_
            refine lv_if_ne (tgt := 513) hx hb dL_law_498 (by decide) (fun hc => ?_) (fun hc => ?_)
            · rw [if_neg hc] at hf
              refine lv_goto (tgt := 906) hx hb dL_law_513 (by decide) ?_
              refine lv_iinc (v := (i + 6)) (lv' := [(4, .int (i + 6)), (6, .int o71.2.2.2.1), (5, .int o64.1), (3, .ref (zb 15)), (2, .ref aM), (1, .ref (zb 0)), (0, .ref b)]) hx hb dL_law_906 hl (k := 2) rfl rfl (by decide) rfl (fun ls hl => ?_)
              refine lv_goto (tgt := 23) hx hb dL_law_909 (by decide) ?_
              exact ih (i + 6) k o64.2 o71.2.2.2.2 ((((wc + 0) + 1) + o71.2.1) + 0) ((((wn + 0) + 6) + o71.2.2.1) + 0) zb tp mp ra rb rf aM ad77 rd gd78 vad79 _ _ ls hf hP hD hS (lv_sub hl [0, 3, 4, 5, 6] rfl) hrf
            · rw [if_pos hc] at hf
              refine lv_aload_n hx hb dL_law_501 rfl (lv_at hl 3 rfl) ?_
              refine lv_iconst (v := 0) hx hb dL_law_502 (by decide) ?_
              refine va_lald hx hb hK hP 15 2 rfl rfl (show ¬ ((0 : Int32) < 0 ∨ 1 ≤ (0 : Int32).toNatClampNeg) by decide) dL_law_503 ?_
              refine W.eq (g2 := F0 m 504 ls [.long (o64.2 0)]) rfl ?_
              refine lv_iload hx hb dL_law_504 (lv_at hl 0 rfl) ?_
              refine lv_i2l hx hb dL_law_506 rfl ?_
              refine W.lcmp hx hb dL_law_507 ?_
              refine lv_if_eq (tgt := 513) hx hb dL_law_508 (by decide) (fun hc => ?_) (fun hc => ?_)
              · rw [if_pos hc] at hf
                refine lv_goto (tgt := 906) hx hb dL_law_513 (by decide) ?_
                refine lv_iinc (v := (i + 6)) (lv' := [(4, .int (i + 6)), (6, .int o71.2.2.2.1), (5, .int o64.1), (3, .ref (zb 15)), (2, .ref aM), (1, .ref (zb 0)), (0, .ref b)]) hx hb dL_law_906 hl (k := 2) rfl rfl (by decide) rfl (fun ls hl => ?_)
                refine lv_goto (tgt := 23) hx hb dL_law_909 (by decide) ?_
                exact ih (i + 6) k o64.2 o71.2.2.2.2 ((((wc + 0) + 1) + o71.2.1) + 0) ((((wn + 0) + 6) + o71.2.2.1) + 0) zb tp mp ra rb rf aM ad77 rd gd78 vad79 _ _ ls hf hP hD hS (lv_sub hl [0, 3, 4, 5, 6] rfl) hrf
              · rw [if_neg hc] at hf
                refine lv_iconst (v := 0) hx hb dL_law_511 (by decide) ?_
                exact absurd (Option.some.inj hf) (by decide)
          · rw [if_neg hc] at hf
            refine lv_iconst (v := 0) hx hb dL_law_494 (by decide) ?_
            exact absurd (Option.some.inj hf) (by decide)
        · rw [if_neg hab] at hf
          obtain ⟨o71, hq72, hf⟩ := xbind hf
          obtain ⟨hg73, hf⟩ := xifn hf
          have hm74 : ((wc + 0) + 1) ≤ 601024 ∧ ((wn + 0) + 6) ≤ 7293034 := ⟨Nat.le_of_not_lt fun h => hg73 (Or.inl h), Nat.le_of_not_lt fun h => hg73 (Or.inr h)⟩
          obtain ⟨hPc, hDc, hFc, hCc⟩ := xcutC (X := (xCx cT zb tp mp (ra 8) ra rb rf k ov)) (T := (xT cT ra rb k (xMw cT aM ad rd gd vad st []))) (we := [((zb 0), .inr (0, [.ref (zb 1), .ref (zb 3), .ref (zb 5), .ref (zb 7), .ref (zb 8), .ref (ra 8), .int (kpl k), .int (krs k)])), ((zb 1), .inr (1, [.ref (zb 2), .int (ktl k 0), .int (kto k 0)])), ((zb 2), .inl (cT 0, 4096, .inl (ktb k 0))), ((zb 3), .inr (1, [.ref (zb 4), .int (ktl k 1), .int (kto k 1)])), ((zb 4), .inl (cT 0, 4096, .inl (ktb k 1))), ((zb 5), .inr (1, [.ref (zb 6), .int (ktl k 2), .int (kto k 2)])), ((zb 6), .inl (cT 0, 4096, .inl (ktb k 2))), ((zb 7), .inl (cT 3, 8, .inr (.inr (.inr (.inr rf))))), ((zb 8), .inr (3, [.ref (zb 9), .ref (zb 10), .ref tp, .ref mp, .int (ktt k)])), ((zb 9), .inl (cT 1, 2048, .inl (ksa k 0))), ((zb 10), .inl (cT 1, 2048, .inl (ksa k 1))), (tp, .inl (cT 1, 2048, .inl (ksa k 2))), (mp, .inl (cT 1, 2048, .inl (ksa k 3))), ((ra 8), .inr (2, [.ref (rb 8), .int (krz k 8), .int (kro k 8)])), ((rb 8), .inl (cT 2, 4096, .inr (.inl (krc k 8))))]) (wt := [((ra (xpk (xs (i + (1 : Int32)).toNatClampNeg))), .inr (2, [.ref (rb (xpk (xs (i + (1 : Int32)).toNatClampNeg))), .int (krz k (xpk (xs (i + (1 : Int32)).toNatClampNeg))), .int (kro k (xpk (xs (i + (1 : Int32)).toNatClampNeg)))])), ((rb (xpk (xs (i + (1 : Int32)).toNatClampNeg))), .inl (cT 2, 4096, .inr (.inl (krc k (xpk (xs (i + (1 : Int32)).toNatClampNeg)))))), ((ra (xpk (xs (i + (2 : Int32)).toNatClampNeg))), .inr (2, [.ref (rb (xpk (xs (i + (2 : Int32)).toNatClampNeg))), .int (krz k (xpk (xs (i + (2 : Int32)).toNatClampNeg))), .int (kro k (xpk (xs (i + (2 : Int32)).toNatClampNeg)))])), ((rb (xpk (xs (i + (2 : Int32)).toNatClampNeg))), .inl (cT 2, 4096, .inr (.inl (krc k (xpk (xs (i + (2 : Int32)).toNatClampNeg))))))]) (wo := [((zb 15), .inl (cT 2, 1, .inr (.inl ov)))]) (wc := [((zb 0), .inr (0, [.ref (zb 1), .ref (zb 3), .ref (zb 5), .ref (zb 7), .ref (zb 8), .ref (ra 8), .int (kpl k), .int (krs k)])), ((zb 1), .inr (1, [.ref (zb 2), .int (ktl k 0), .int (kto k 0)])), ((zb 2), .inl (cT 0, 4096, .inl (ktb k 0))), ((zb 3), .inr (1, [.ref (zb 4), .int (ktl k 1), .int (kto k 1)])), ((zb 4), .inl (cT 0, 4096, .inl (ktb k 1))), ((zb 5), .inr (1, [.ref (zb 6), .int (ktl k 2), .int (kto k 2)])), ((zb 6), .inl (cT 0, 4096, .inl (ktb k 2))), ((zb 7), .inl (cT 3, 8, .inr (.inr (.inr (.inr rf))))), ((zb 8), .inr (3, [.ref (zb 9), .ref (zb 10), .ref tp, .ref mp, .int (ktt k)])), ((zb 9), .inl (cT 1, 2048, .inl (ksa k 0))), ((zb 10), .inl (cT 1, 2048, .inl (ksa k 1))), (tp, .inl (cT 1, 2048, .inl (ksa k 2))), (mp, .inl (cT 1, 2048, .inl (ksa k 3))), ((ra 8), .inr (2, [.ref (rb 8), .int (krz k 8), .int (kro k 8)])), ((rb 8), .inl (cT 2, 4096, .inr (.inl (krc k 8)))), ((ra (xpk (xs (i + (1 : Int32)).toNatClampNeg))), .inr (2, [.ref (rb (xpk (xs (i + (1 : Int32)).toNatClampNeg))), .int (krz k (xpk (xs (i + (1 : Int32)).toNatClampNeg))), .int (kro k (xpk (xs (i + (1 : Int32)).toNatClampNeg)))])), ((rb (xpk (xs (i + (1 : Int32)).toNatClampNeg))), .inl (cT 2, 4096, .inr (.inl (krc k (xpk (xs (i + (1 : Int32)).toNatClampNeg)))))), ((ra (xpk (xs (i + (2 : Int32)).toNatClampNeg))), .inr (2, [.ref (rb (xpk (xs (i + (2 : Int32)).toNatClampNeg))), .int (krz k (xpk (xs (i + (2 : Int32)).toNatClampNeg))), .int (kro k (xpk (xs (i + (2 : Int32)).toNatClampNeg)))])), ((rb (xpk (xs (i + (2 : Int32)).toNatClampNeg))), .inl (cT 2, 4096, .inr (.inl (krc k (xpk (xs (i + (2 : Int32)).toNatClampNeg)))))), ((zb 15), .inl (cT 2, 1, .inr (.inl ov)))]) hP hD hS hA [16 + (xpk (xs (i + (1 : Int32)).toNatClampNeg)), 24 + (xpk (xs (i + (1 : Int32)).toNatClampNeg)), 16 + (xpk (xs (i + (2 : Int32)).toNatClampNeg)), 24 + (xpk (xs (i + (2 : Int32)).toNatClampNeg))] true rfl (xit2 rfl (xpk8 _) (xpk8 _)) rfl rfl (xnd2 _ (xpk8 _) _ (xpk8 _) hab true).1
          refine va_calli (vx_runSW (As := [.ref (zb 0), .int (xs (i + (1 : Int32)).toNatClampNeg), .int (xs (i + (2 : Int32)).toNatClampNeg), .ref (zb 15)]) (rest := []) ⟨hx, hb, hml, hown, htx⟩ (gL_compare l hl9 D cT aK aV H.size 104 N (zb 0) (zb 1) (zb 2) (zb 3) (zb 4) (zb 5) (zb 6) (zb 7) (zb 8) (zb 9) (zb 10) (ra 8) (rb 8) (ra (xpk (xs (i + (1 : Int32)).toNatClampNeg))) (rb (xpk (xs (i + (1 : Int32)).toNatClampNeg))) (ra (xpk (xs (i + (2 : Int32)).toNatClampNeg))) (rb (xpk (xs (i + (2 : Int32)).toNatClampNeg))) (zb 15) rf (xs (i + (1 : Int32)).toNatClampNeg) (xs (i + (2 : Int32)).toNatClampNeg) (ktb k 0) (ktl k 0) (kto k 0) (ktb k 1) (ktl k 1) (kto k 1) (ktb k 2) (ktl k 2) (kto k 2) (ksa k 0) (ksa k 1) tp (ksa k 2) mp (ksa k 3) (ktt k) (krc k 8) (krz k 8) (kro k 8) (kpl k) (krs k) (krc k (xpk (xs (i + (1 : Int32)).toNatClampNeg))) (krz k (xpk (xs (i + (1 : Int32)).toNatClampNeg))) (kro k (xpk (xs (i + (1 : Int32)).toNatClampNeg))) (krc k (xpk (xs (i + (2 : Int32)).toNatClampNeg))) (krz k (xpk (xs (i + (2 : Int32)).toNatClampNeg))) (kro k (xpk (xs (i + (2 : Int32)).toNatClampNeg))) ov (xpkR hrf (xs (i + (1 : Int32)).toNatClampNeg)) (xpkR hrf (xs (i + (2 : Int32)).toNatClampNeg)) o71 hq72) (xcSW 4 htx (xw_goodC kw_4_5) rfl rfl rfl (htx _ kw_1_0) (htx _ kw_4_3) ⟨by decide, by decide, by decide +kernel⟩ ⟨Nat.le_of_ble_eq_true rfl, Nat.le_of_ble_eq_true rfl⟩ (htx _ kw_4_4)) ⟨xPre_blind, (fun U hU hW => ⟨rfl, xPre_of hZ hS hFc hPc hDc hK U hU hW⟩)⟩ rfl rfl hl.1 rfl (lv_room (Nat.le_of_ble_eq_true rfl)) dL_law_462 hm74) hS (fun q _ h => hFc q h) hFc (fun r75 u9 t H1 locs ht hvm hr9 hB hz1 hk1 hS => ?_)
          obtain ⟨hP1, hK1, hD1⟩ := hB
          rw [ht] at hP1
          obtain ⟨hP, hD⟩ := xjnC (X := (xCx cT zb tp mp (ra 8) ra rb rf k ov)) (X' := (xCx cT zb tp mp (ra 8) ra rb rf k o71.2)) (T := (xT cT ra rb k (xMw cT aM ad rd gd vad st []))) (wt := [((ra (xpk (xs (i + (1 : Int32)).toNatClampNeg))), .inr (2, [.ref (rb (xpk (xs (i + (1 : Int32)).toNatClampNeg))), .int (krz k (xpk (xs (i + (1 : Int32)).toNatClampNeg))), .int (kro k (xpk (xs (i + (1 : Int32)).toNatClampNeg)))])), ((rb (xpk (xs (i + (1 : Int32)).toNatClampNeg))), .inl (cT 2, 4096, .inr (.inl (krc k (xpk (xs (i + (1 : Int32)).toNatClampNeg)))))), ((ra (xpk (xs (i + (2 : Int32)).toNatClampNeg))), .inr (2, [.ref (rb (xpk (xs (i + (2 : Int32)).toNatClampNeg))), .int (krz k (xpk (xs (i + (2 : Int32)).toNatClampNeg))), .int (kro k (xpk (xs (i + (2 : Int32)).toNatClampNeg)))])), ((rb (xpk (xs (i + (2 : Int32)).toNatClampNeg))), .inl (cT 2, 4096, .inr (.inl (krc k (xpk (xs (i + (2 : Int32)).toNatClampNeg))))))]) hP hD [16 + (xpk (xs (i + (1 : Int32)).toNatClampNeg)), 24 + (xpk (xs (i + (1 : Int32)).toNatClampNeg)), 16 + (xpk (xs (i + (2 : Int32)).toNatClampNeg)), 24 + (xpk (xs (i + (2 : Int32)).toNatClampNeg))] true rfl rfl xge2 (xnd2 _ (xpk8 _) _ (xpk8 _) hab true).2 (xit2 rfl (xpk8 _) (xpk8 _)) hCc hk1 hFc hP1 hD1 rfl rfl rfl
          generalize H1 = H at hP hS ⊢
          have hP : va_P D xcl (xGw cT zb tp mp ra rb rf k o71.2 (xMw cT aM ad rd gd vad st [])) H := hP
          have hD : va_D A (xGw cT zb tp mp ra rb rf k o71.2 (xMw cT aM ad rd gd vad st [])) := hD
          rw [hr9]
          refine W.eq (g2 := F0 m 465 ls [.int o71.1]) rfl ?_
          refine lv_istore (lv' := [(5, .int o71.1), (4, .int i), (3, .ref (zb 15)), (2, .ref aM), (1, .ref (zb 0)), (0, .ref b)]) hx hb dL_law_465 hl (by decide) rfl (fun ls hl => ?_)
          refine lv_aload_n hx hb dL_law_467 rfl (lv_at hl 3 rfl) ?_
          refine lv_aload_n hx hb dL_law_468 rfl (lv_at hl 5 rfl) ?_
          refine lv_iload hx hb dL_law_469 (lv_at hl 1 rfl) ?_
          refine lv_iconst (v := 1) hx hb dL_law_471 (by decide) ?_
          refine lv_iadd hx hb dL_law_472 ?_
          obtain ⟨hg76, hf⟩ := xifn hf
          refine va_sld hx hb hXs hbl hbA hS (i := (i + (1 : Int32))) hg76 dL_law_473 ?_
          refine W.eq (g2 := F0 m 474 ls [.int (xs (i + (1 : Int32)).toNatClampNeg), .ref aM]) rfl ?_
          refine lv_aload_n hx hb dL_law_474 rfl (lv_at hl 5 rfl) ?_
          refine lv_iload hx hb dL_law_475 (lv_at hl 1 rfl) ?_
          refine lv_iconst (v := 2) hx hb dL_law_477 (by decide) ?_
          refine lv_iadd hx hb dL_law_478 ?_
          obtain ⟨hg77, hf⟩ := xifn hf
          refine va_sld hx hb hXs hbl hbA hS (i := (i + (2 : Int32))) hg77 dL_law_479 ?_
          refine W.eq (g2 := F0 m 480 ls [.int (xs (i + (2 : Int32)).toNatClampNeg), .int (xs (i + (1 : Int32)).toNatClampNeg), .ref aM]) rfl ?_
          obtain ⟨o78, hq79, hf⟩ := xbind hf
          obtain ⟨hg80, hf⟩ := xifn hf
          obtain ⟨hg81, hf⟩ := xifn hf
          have hm82 : (((wc + 0) + 1) + o78.2.1) ≤ 601024 ∧ (((wn + 0) + 6) + o78.2.2.1) ≤ 7293034 := ⟨Nat.le_of_not_lt fun h => hg81 (Or.inl h), Nat.le_of_not_lt fun h => hg81 (Or.inr h)⟩
          obtain ⟨hPc, hDc⟩ := xGw_part hP hD
          have hFc := xm_free hDc hS hA
          refine va_calli (va_runV (C := "ValueBenchModel") (As := [.int (xs (i + (1 : Int32)).toNatClampNeg), .int (xs (i + (2 : Int32)).toNatClampNeg)]) (rest := []) ⟨hx, hb, hml, hown, htx⟩ (gM_compare l hl9 D cT aK aV H.size 104 N aM ad rd gd vad st (xs (i + (1 : Int32)).toNatClampNeg) (xs (i + (2 : Int32)).toNatClampNeg) o78 hq79 (Decidable.not_not.mp hg80)) ⟨callB_of 2 htx (xw_goodC kw_7_119) rfl rfl rfl (htx _ kw_1_5) (htx _ kw_7_116) ⟨by decide, by decide, by decide +kernel⟩ ⟨Nat.le_of_ble_eq_true rfl, Nat.le_of_ble_eq_true rfl⟩, (htx _ kw_7_117), (htx _ kw_7_118)⟩ ⟨xPre_blind, va_recv hK hPc (ci := 5) rfl (q0 := 0) rfl, (fun U hU hW => ⟨rfl, xPre_of hZ hS hFc hPc hDc hK U hU hW⟩)⟩ rfl rfl hl.1 rfl (lv_room (Nat.le_of_ble_eq_true rfl)) dL_law_480 hm82) hS (fun q _ h => hFc q h) hFc (fun r83 u9 t H1 locs ht hvm hr9 hB hz1 hk1 hS => ?_)
          obtain ⟨hP1, hK1, hD1⟩ := hB
          rw [ht] at hP1
          obtain ⟨ad84, gd85, vad86⟩ := u9
          have hr9 := hr9.1
          obtain ⟨hP, hD⟩ := xGw_call (M' := (xMw cT aM ad84 rd gd85 vad86 o78.2.2.2.2 [])) hP hD hk1 hFc hP1 hD1
          generalize H1 = H at hP hS ⊢
          rw [hr9]
          refine W.eq (g2 := F0 m 483 ls [.int o78.2.2.2.1]) rfl ?_
          refine lv_istore (lv' := [(6, .int o78.2.2.2.1), (5, .int o71.1), (4, .int i), (3, .ref (zb 15)), (2, .ref aM), (1, .ref (zb 0)), (0, .ref b)]) hx hb dL_law_483 hl (by decide) rfl (fun ls hl => ?_)
          refine lv_aload_n hx hb dL_law_485 rfl (lv_at hl 4 rfl) ?_
          obtain ⟨o87, hq88, hf⟩ := xbind hf
          obtain ⟨hg89, hf⟩ := xifn hf
          have hm90 : ((((wc + 0) + 1) + o78.2.1) + 0) ≤ 601024 ∧ ((((wn + 0) + 6) + o78.2.2.1) + 0) ≤ 7293034 := ⟨Nat.le_of_not_lt fun h => hg89 (Or.inl h), Nat.le_of_not_lt fun h => hg89 (Or.inr h)⟩
          obtain ⟨hPc, hDc⟩ := xGw_part hP hD
          have hFc := xm_free hDc hS hA
          refine va_calli (va_runV (C := "ValueBenchModel") (As := []) (rest := []) ⟨hx, hb, hml, hown, htx⟩ (gM_thrown l hl9 D cT aK aV H.size N aM ad84 rd gd85 vad86 o78.2.2.2.2 o87 hq88) ⟨callB_of 0 htx (xw_goodC kw_5_187) rfl rfl rfl (htx _ kw_1_5) (htx _ kw_5_184) ⟨by decide, by decide, by decide +kernel⟩ ⟨Nat.le_of_ble_eq_true rfl, Nat.le_of_ble_eq_true rfl⟩, (htx _ kw_5_185), (htx _ kw_5_186)⟩ ⟨xPre_blind, va_recv hK hPc (ci := 5) rfl (q0 := 0) rfl, (fun U hU hW => ⟨rfl, xPre_of hZ hS hFc hPc hDc hK U hU hW⟩)⟩ rfl rfl hl.1 rfl (lv_room (Nat.le_of_ble_eq_true rfl)) dL_law_486 hm90) hS (fun q _ h => hFc q h) hFc (fun r91 u9 t H1 locs ht hvm hr9 hB hz1 hk1 hS => ?_)
          obtain ⟨hP1, hK1, hD1⟩ := hB
          rw [ht] at hP1
          obtain ⟨hP, hD⟩ := xGw_call (M' := (xMw cT aM ad84 rd gd85 vad86 o78.2.2.2.2 [])) hP hD hk1 hFc hP1 hD1
          generalize H1 = H at hP hS ⊢
          rw [hr9]
          refine W.eq (g2 := F0 m 489 ls [.int o87]) rfl ?_
          refine lv_iload hx hb dL_law_489 (lv_at hl 1 rfl) ?_
          refine lv_icmp_eq (tgt := 496) hx hb dL_law_491 (by decide) (fun hc => ?_) (fun hc => ?_)
          · rw [if_pos hc] at hf
            refine lv_iload hx hb dL_law_496 (lv_at hl 1 rfl) ?_
            refine lv_if_ne (tgt := 513) hx hb dL_law_498 (by decide) (fun hc => ?_) (fun hc => ?_)
            · rw [if_neg hc] at hf
              refine lv_goto (tgt := 906) hx hb dL_law_513 (by decide) ?_
              refine lv_iinc (v := (i + 6)) (lv' := [(4, .int (i + 6)), (6, .int o78.2.2.2.1), (5, .int o71.1), (3, .ref (zb 15)), (2, .ref aM), (1, .ref (zb 0)), (0, .ref b)]) hx hb dL_law_906 hl (k := 2) rfl rfl (by decide) rfl (fun ls hl => ?_)
              refine lv_goto (tgt := 23) hx hb dL_law_909 (by decide) ?_
              exact ih (i + 6) k o71.2 o78.2.2.2.2 ((((wc + 0) + 1) + o78.2.1) + 0) ((((wn + 0) + 6) + o78.2.2.1) + 0) zb tp mp ra rb rf aM ad84 rd gd85 vad86 _ _ ls hf hP hD hS (lv_sub hl [0, 3, 4, 5, 6] rfl) hrf
            · rw [if_pos hc] at hf
              refine lv_aload_n hx hb dL_law_501 rfl (lv_at hl 3 rfl) ?_
              refine lv_iconst (v := 0) hx hb dL_law_502 (by decide) ?_
              refine va_lald hx hb hK hP 15 2 rfl rfl (show ¬ ((0 : Int32) < 0 ∨ 1 ≤ (0 : Int32).toNatClampNeg) by decide) dL_law_503 ?_
              refine W.eq (g2 := F0 m 504 ls [.long (o71.2 0)]) rfl ?_
              refine lv_iload hx hb dL_law_504 (lv_at hl 0 rfl) ?_
              refine lv_i2l hx hb dL_law_506 rfl ?_
              refine W.lcmp hx hb dL_law_507 ?_
              refine lv_if_eq (tgt := 513) hx hb dL_law_508 (by decide) (fun hc => ?_) (fun hc => ?_)
              · rw [if_pos hc] at hf
                refine lv_goto (tgt := 906) hx hb dL_law_513 (by decide) ?_
                refine lv_iinc (v := (i + 6)) (lv' := [(4, .int (i + 6)), (6, .int o78.2.2.2.1), (5, .int o71.1), (3, .ref (zb 15)), (2, .ref aM), (1, .ref (zb 0)), (0, .ref b)]) hx hb dL_law_906 hl (k := 2) rfl rfl (by decide) rfl (fun ls hl => ?_)
                refine lv_goto (tgt := 23) hx hb dL_law_909 (by decide) ?_
                exact ih (i + 6) k o71.2 o78.2.2.2.2 ((((wc + 0) + 1) + o78.2.1) + 0) ((((wn + 0) + 6) + o78.2.2.1) + 0) zb tp mp ra rb rf aM ad84 rd gd85 vad86 _ _ ls hf hP hD hS (lv_sub hl [0, 3, 4, 5, 6] rfl) hrf
              · rw [if_neg hc] at hf
                refine lv_iconst (v := 0) hx hb dL_law_511 (by decide) ?_
                exact absurd (Option.some.inj hf) (by decide)
          · rw [if_neg hc] at hf
            refine lv_iconst (v := 0) hx hb dL_law_494 (by decide) ?_
            exact absurd (Option.some.inj hf) (by decide)
      rw [if_neg hc61] at hf
      by_cases hc78 : ((xs i.toNatClampNeg) &&& (15 : Int32)) = 6
      · rw [if_pos hc78] at hf
        refine lv_tableIn (off := 476) (tgt := 516) hx hb dL_law_40 (by rw [hc78]; decide) (by rw [hc78]; decide) (by rw [hc78]; decide) (by decide) ?_
        refine lv_aload_n hx hb dL_law_516 rfl (lv_at hl 3 rfl) ?_
        refine lv_aload_n hx hb dL_law_517 rfl (lv_at hl 4 rfl) ?_
        refine lv_iload hx hb dL_law_518 (lv_at hl 0 rfl) ?_
        refine lv_iconst (v := 1) hx hb dL_law_520 (by decide) ?_
        refine lv_iadd hx hb dL_law_521 ?_
        obtain ⟨hg79, hf⟩ := xifn hf
        refine va_sld hx hb hXs hbl hbA hS (i := (i + (1 : Int32))) hg79 dL_law_522 ?_
        refine W.eq (g2 := F0 m 523 ls [.int (xs (i + (1 : Int32)).toNatClampNeg), .ref (zb 0)]) rfl ?_
        refine lv_aload_n hx hb dL_law_523 rfl (lv_at hl 4 rfl) ?_
        refine lv_iload hx hb dL_law_524 (lv_at hl 0 rfl) ?_
        refine lv_iconst (v := 2) hx hb dL_law_526 (by decide) ?_
        refine lv_iadd hx hb dL_law_527 ?_
        obtain ⟨hg80, hf⟩ := xifn hf
        refine va_sld hx hb hXs hbl hbA hS (i := (i + (2 : Int32))) hg80 dL_law_528 ?_
        refine W.eq (g2 := F0 m 529 ls [.int (xs (i + (2 : Int32)).toNatClampNeg), .int (xs (i + (1 : Int32)).toNatClampNeg), .ref (zb 0)]) rfl ?_
        refine lv_aload_n hx hb dL_law_529 rfl (lv_at hl 1 rfl) ?_
        by_cases hab : xpk (xs (i + (1 : Int32)).toNatClampNeg) = xpk (xs (i + (2 : Int32)).toNatClampNeg)
        · rw [if_pos hab] at hf
          obtain ⟨o81, hq82, hf⟩ := xbind hf
          obtain ⟨hg83, hf⟩ := xifn hf
          have hm84 : ((wc + 0) + 1) ≤ 601024 ∧ ((wn + 0) + 6) ≤ 7293034 := ⟨Nat.le_of_not_lt fun h => hg83 (Or.inl h), Nat.le_of_not_lt fun h => hg83 (Or.inr h)⟩
          obtain ⟨hPc, hDc, hFc, hCc⟩ := xcutC (X := (xCx cT zb tp mp (ra 8) ra rb rf k ov)) (T := (xT cT ra rb k (xMw cT aM ad rd gd vad st []))) (we := [((zb 0), .inr (0, [.ref (zb 1), .ref (zb 3), .ref (zb 5), .ref (zb 7), .ref (zb 8), .ref (ra 8), .int (kpl k), .int (krs k)])), ((zb 1), .inr (1, [.ref (zb 2), .int (ktl k 0), .int (kto k 0)])), ((zb 2), .inl (cT 0, 4096, .inl (ktb k 0))), ((zb 3), .inr (1, [.ref (zb 4), .int (ktl k 1), .int (kto k 1)])), ((zb 4), .inl (cT 0, 4096, .inl (ktb k 1))), ((zb 5), .inr (1, [.ref (zb 6), .int (ktl k 2), .int (kto k 2)])), ((zb 6), .inl (cT 0, 4096, .inl (ktb k 2))), ((zb 7), .inl (cT 3, 8, .inr (.inr (.inr (.inr rf))))), ((zb 8), .inr (3, [.ref (zb 9), .ref (zb 10), .ref tp, .ref mp, .int (ktt k)])), ((zb 9), .inl (cT 1, 2048, .inl (ksa k 0))), ((zb 10), .inl (cT 1, 2048, .inl (ksa k 1))), (tp, .inl (cT 1, 2048, .inl (ksa k 2))), (mp, .inl (cT 1, 2048, .inl (ksa k 3))), ((ra 8), .inr (2, [.ref (rb 8), .int (krz k 8), .int (kro k 8)])), ((rb 8), .inl (cT 2, 4096, .inr (.inl (krc k 8))))]) (wt := [((ra (xpk (xs (i + (1 : Int32)).toNatClampNeg))), .inr (2, [.ref (rb (xpk (xs (i + (1 : Int32)).toNatClampNeg))), .int (krz k (xpk (xs (i + (1 : Int32)).toNatClampNeg))), .int (kro k (xpk (xs (i + (1 : Int32)).toNatClampNeg)))])), ((rb (xpk (xs (i + (1 : Int32)).toNatClampNeg))), .inl (cT 2, 4096, .inr (.inl (krc k (xpk (xs (i + (1 : Int32)).toNatClampNeg))))))]) (wo := [((zb 15), .inl (cT 2, 1, .inr (.inl ov)))]) (wc := [((zb 0), .inr (0, [.ref (zb 1), .ref (zb 3), .ref (zb 5), .ref (zb 7), .ref (zb 8), .ref (ra 8), .int (kpl k), .int (krs k)])), ((zb 1), .inr (1, [.ref (zb 2), .int (ktl k 0), .int (kto k 0)])), ((zb 2), .inl (cT 0, 4096, .inl (ktb k 0))), ((zb 3), .inr (1, [.ref (zb 4), .int (ktl k 1), .int (kto k 1)])), ((zb 4), .inl (cT 0, 4096, .inl (ktb k 1))), ((zb 5), .inr (1, [.ref (zb 6), .int (ktl k 2), .int (kto k 2)])), ((zb 6), .inl (cT 0, 4096, .inl (ktb k 2))), ((zb 7), .inl (cT 3, 8, .inr (.inr (.inr (.inr rf))))), ((zb 8), .inr (3, [.ref (zb 9), .ref (zb 10), .ref tp, .ref mp, .int (ktt k)])), ((zb 9), .inl (cT 1, 2048, .inl (ksa k 0))), ((zb 10), .inl (cT 1, 2048, .inl (ksa k 1))), (tp, .inl (cT 1, 2048, .inl (ksa k 2))), (mp, .inl (cT 1, 2048, .inl (ksa k 3))), ((ra 8), .inr (2, [.ref (rb 8), .int (krz k 8), .int (kro k 8)])), ((rb 8), .inl (cT 2, 4096, .inr (.inl (krc k 8)))), ((ra (xpk (xs (i + (1 : Int32)).toNatClampNeg))), .inr (2, [.ref (rb (xpk (xs (i + (1 : Int32)).toNatClampNeg))), .int (krz k (xpk (xs (i + (1 : Int32)).toNatClampNeg))), .int (kro k (xpk (xs (i + (1 : Int32)).toNatClampNeg)))])), ((rb (xpk (xs (i + (1 : Int32)).toNatClampNeg))), .inl (cT 2, 4096, .inr (.inl (krc k (xpk (xs (i + (1 : Int32)).toNatClampNeg)))))), ((zb 15), .inl (cT 2, 1, .inr (.inl ov)))]) hP hD hS hA [16 + (xpk (xs (i + (1 : Int32)).toNatClampNeg)), 24 + (xpk (xs (i + (1 : Int32)).toNatClampNeg))] true rfl (xit1 rfl (xpk8 _)) rfl rfl (xnd1 _ (xpk8 _) true).1
          refine va_calli (vx_runSW (As := [.ref (zb 0), .int (xs (i + (1 : Int32)).toNatClampNeg), .int (xs (i + (2 : Int32)).toNatClampNeg), .ref (zb 15)]) (rest := []) ⟨hx, hb, hml, hown, htx⟩ (gL_samea l hl9 D cT aK aV H.size 104 N (zb 0) (zb 1) (zb 2) (zb 3) (zb 4) (zb 5) (zb 6) (zb 7) (zb 8) (zb 9) (zb 10) (ra 8) (rb 8) (ra (xpk (xs (i + (1 : Int32)).toNatClampNeg))) (rb (xpk (xs (i + (1 : Int32)).toNatClampNeg))) (zb 15) rf (xs (i + (1 : Int32)).toNatClampNeg) (xs (i + (2 : Int32)).toNatClampNeg) (ktb k 0) (ktl k 0) (kto k 0) (ktb k 1) (ktl k 1) (kto k 1) (ktb k 2) (ktl k 2) (kto k 2) (ksa k 0) (ksa k 1) tp (ksa k 2) mp (ksa k 3) (ktt k) (krc k 8) (krz k 8) (kro k 8) (kpl k) (krs k) (krc k (xpk (xs (i + (1 : Int32)).toNatClampNeg))) (krz k (xpk (xs (i + (1 : Int32)).toNatClampNeg))) (kro k (xpk (xs (i + (1 : Int32)).toNatClampNeg))) ov (xpkR hrf (xs (i + (1 : Int32)).toNatClampNeg)) (by rw [hab]; exact xpkR hrf (xs (i + (2 : Int32)).toNatClampNeg)) o81 hq82) (xcSW 4 htx (xw_goodC kw_4_13) rfl rfl rfl (htx _ kw_1_0) (htx _ kw_4_11) ⟨by decide, by decide, by decide +kernel⟩ ⟨Nat.le_of_ble_eq_true rfl, Nat.le_of_ble_eq_true rfl⟩ (htx _ kw_4_12)) ⟨xPre_blind, (fun U hU hW => ⟨rfl, xPre_of hZ hS hFc hPc hDc hK U hU hW⟩)⟩ rfl rfl hl.1 rfl (lv_room (Nat.le_of_ble_eq_true rfl)) dL_law_530 hm84) hS (fun q _ h => hFc q h) hFc (fun r85 u9 t H1 locs ht hvm hr9 hB hz1 hk1 hS => ?_)
          obtain ⟨hP1, hK1, hD1⟩ := hB
          rw [ht] at hP1
          obtain ⟨hP, hD⟩ := xjnC (X := (xCx cT zb tp mp (ra 8) ra rb rf k ov)) (X' := (xCx cT zb tp mp (ra 8) ra rb rf k o81.2)) (T := (xT cT ra rb k (xMw cT aM ad rd gd vad st []))) (wt := [((ra (xpk (xs (i + (1 : Int32)).toNatClampNeg))), .inr (2, [.ref (rb (xpk (xs (i + (1 : Int32)).toNatClampNeg))), .int (krz k (xpk (xs (i + (1 : Int32)).toNatClampNeg))), .int (kro k (xpk (xs (i + (1 : Int32)).toNatClampNeg)))])), ((rb (xpk (xs (i + (1 : Int32)).toNatClampNeg))), .inl (cT 2, 4096, .inr (.inl (krc k (xpk (xs (i + (1 : Int32)).toNatClampNeg))))))]) hP hD [16 + (xpk (xs (i + (1 : Int32)).toNatClampNeg)), 24 + (xpk (xs (i + (1 : Int32)).toNatClampNeg))] true rfl rfl xge1 (xnd1 _ (xpk8 _) true).2 (xit1 rfl (xpk8 _)) hCc hk1 hFc hP1 hD1 rfl rfl rfl
          generalize H1 = H at hP hS ⊢
          have hP : va_P D xcl (xGw cT zb tp mp ra rb rf k o81.2 (xMw cT aM ad rd gd vad st [])) H := hP
          have hD : va_D A (xGw cT zb tp mp ra rb rf k o81.2 (xMw cT aM ad rd gd vad st [])) := hD
          rw [hr9]
          refine W.eq (g2 := F0 m 533 ls [.int o81.1]) rfl ?_
          refine lv_istore (lv' := [(5, .int o81.1), (4, .int i), (3, .ref (zb 15)), (2, .ref aM), (1, .ref (zb 0)), (0, .ref b)]) hx hb dL_law_533 hl (by decide) rfl (fun ls hl => ?_)
          refine lv_aload_n hx hb dL_law_535 rfl (lv_at hl 3 rfl) ?_
          refine lv_aload_n hx hb dL_law_536 rfl (lv_at hl 5 rfl) ?_
          refine lv_iload hx hb dL_law_537 (lv_at hl 1 rfl) ?_
          refine lv_iconst (v := 1) hx hb dL_law_539 (by decide) ?_
          refine lv_iadd hx hb dL_law_540 ?_
          obtain ⟨hg86, hf⟩ := xifn hf
          refine va_sld hx hb hXs hbl hbA hS (i := (i + (1 : Int32))) hg86 dL_law_541 ?_
          refine W.eq (g2 := F0 m 542 ls [.int (xs (i + (1 : Int32)).toNatClampNeg), .ref aM]) rfl ?_
          refine lv_aload_n hx hb dL_law_542 rfl (lv_at hl 5 rfl) ?_
          refine lv_iload hx hb dL_law_543 (lv_at hl 1 rfl) ?_
          refine lv_iconst (v := 2) hx hb dL_law_545 (by decide) ?_
          refine lv_iadd hx hb dL_law_546 ?_
          obtain ⟨hg87, hf⟩ := xifn hf
          refine va_sld hx hb hXs hbl hbA hS (i := (i + (2 : Int32))) hg87 dL_law_547 ?_
          refine W.eq (g2 := F0 m 548 ls [.int (xs (i + (2 : Int32)).toNatClampNeg), .int (xs (i + (1 : Int32)).toNatClampNeg), .ref aM]) rfl ?_
          obtain ⟨o88, hq89, hf⟩ := xbind hf
          obtain ⟨hg90, hf⟩ := xifn hf
          obtain ⟨hg91, hf⟩ := xifn hf
          have hm92 : (((wc + 0) + 1) + o88.2.1) ≤ 601024 ∧ (((wn + 0) + 6) + o88.2.2.1) ≤ 7293034 := ⟨Nat.le_of_not_lt fun h => hg91 (Or.inl h), Nat.le_of_not_lt fun h => hg91 (Or.inr h)⟩
          obtain ⟨hPc, hDc⟩ := xGw_part hP hD
          have hFc := xm_free hDc hS hA
          refine va_calli (va_runV (C := "ValueBenchModel") (As := [.int (xs (i + (1 : Int32)).toNatClampNeg), .int (xs (i + (2 : Int32)).toNatClampNeg)]) (rest := []) ⟨hx, hb, hml, hown, htx⟩ (gM_same0 l hl9 D cT aK aV H.size 104 N aM ad rd gd vad st (xs (i + (1 : Int32)).toNatClampNeg) (xs (i + (2 : Int32)).toNatClampNeg) o88 hq89 (Decidable.not_not.mp hg90)) ⟨callB_of 2 htx (xw_goodC kw_6_166) rfl rfl rfl (htx _ kw_1_5) (htx _ kw_6_163) ⟨by decide, by decide, by decide +kernel⟩ ⟨Nat.le_of_ble_eq_true rfl, Nat.le_of_ble_eq_true rfl⟩, (htx _ kw_6_164), (htx _ kw_6_165)⟩ ⟨xPre_blind, va_recv hK hPc (ci := 5) rfl (q0 := 0) rfl, (fun U hU hW => ⟨rfl, xPre_of hZ hS hFc hPc hDc hK U hU hW⟩)⟩ rfl rfl hl.1 rfl (lv_room (Nat.le_of_ble_eq_true rfl)) dL_law_548 hm92) hS (fun q _ h => hFc q h) hFc (fun r93 u9 t H1 locs ht hvm hr9 hB hz1 hk1 hS => ?_)
          obtain ⟨hP1, hK1, hD1⟩ := hB
          rw [ht] at hP1
          obtain ⟨ad94, gd95, vad96⟩ := u9
          have hr9 := hr9.1
          obtain ⟨hP, hD⟩ := xGw_call (M' := (xMw cT aM ad94 rd gd95 vad96 o88.2.2.2.2 [])) hP hD hk1 hFc hP1 hD1
          generalize H1 = H at hP hS ⊢
          rw [hr9]
          refine W.eq (g2 := F0 m 551 ls [.int o88.2.2.2.1]) rfl ?_
          refine lv_istore (lv' := [(6, .int o88.2.2.2.1), (5, .int o81.1), (4, .int i), (3, .ref (zb 15)), (2, .ref aM), (1, .ref (zb 0)), (0, .ref b)]) hx hb dL_law_551 hl (by decide) rfl (fun ls hl => ?_)
          refine lv_aload_n hx hb dL_law_553 rfl (lv_at hl 4 rfl) ?_
          obtain ⟨o97, hq98, hf⟩ := xbind hf
          obtain ⟨hg99, hf⟩ := xifn hf
          have hm100 : ((((wc + 0) + 1) + o88.2.1) + 0) ≤ 601024 ∧ ((((wn + 0) + 6) + o88.2.2.1) + 0) ≤ 7293034 := ⟨Nat.le_of_not_lt fun h => hg99 (Or.inl h), Nat.le_of_not_lt fun h => hg99 (Or.inr h)⟩
          obtain ⟨hPc, hDc⟩ := xGw_part hP hD
          have hFc := xm_free hDc hS hA
          refine va_calli (va_runV (C := "ValueBenchModel") (As := []) (rest := []) ⟨hx, hb, hml, hown, htx⟩ (gM_thrown l hl9 D cT aK aV H.size N aM ad94 rd gd95 vad96 o88.2.2.2.2 o97 hq98) ⟨callB_of 0 htx (xw_goodC kw_5_187) rfl rfl rfl (htx _ kw_1_5) (htx _ kw_5_184) ⟨by decide, by decide, by decide +kernel⟩ ⟨Nat.le_of_ble_eq_true rfl, Nat.le_of_ble_eq_true rfl⟩, (htx _ kw_5_185), (htx _ kw_5_186)⟩ ⟨xPre_blind, va_recv hK hPc (ci := 5) rfl (q0 := 0) rfl, (fun U hU hW => ⟨rfl, xPre_of hZ hS hFc hPc hDc hK U hU hW⟩)⟩ rfl rfl hl.1 rfl (lv_room (Nat.le_of_ble_eq_true rfl)) dL_law_554 hm100) hS (fun q _ h => hFc q h) hFc (fun r101 u9 t H1 locs ht hvm hr9 hB hz1 hk1 hS => ?_)
          obtain ⟨hP1, hK1, hD1⟩ := hB
          rw [ht] at hP1
          obtain ⟨hP, hD⟩ := xGw_call (M' := (xMw cT aM ad94 rd gd95 vad96 o88.2.2.2.2 [])) hP hD hk1 hFc hP1 hD1
          generalize H1 = H at hP hS ⊢
          rw [hr9]
          refine W.eq (g2 := F0 m 557 ls [.int o97]) rfl ?_
          refine lv_iload hx hb dL_law_557 (lv_at hl 1 rfl) ?_
          refine lv_icmp_eq (tgt := 564) hx hb dL_law_559 (by decide) (fun hc => ?_) (fun hc => ?_)
          · rw [if_pos hc] at hf
            refine lv_iload hx hb dL_law_564 (lv_at hl 1 rfl) ?_
            refine lv_if_ne (tgt := 588) hx hb dL_law_566 (by decide) (fun hc => ?_) (fun hc => ?_)
            · rw [if_neg hc] at hf
              refine lv_goto (tgt := 906) hx hb dL_law_588 (by decide) ?_
              refine lv_iinc (v := (i + 6)) (lv' := [(4, .int (i + 6)), (6, .int o88.2.2.2.1), (5, .int o81.1), (3, .ref (zb 15)), (2, .ref aM), (1, .ref (zb 0)), (0, .ref b)]) hx hb dL_law_906 hl (k := 2) rfl rfl (by decide) rfl (fun ls hl => ?_)
              refine lv_goto (tgt := 23) hx hb dL_law_909 (by decide) ?_
              exact ih (i + 6) k o81.2 o88.2.2.2.2 ((((wc + 0) + 1) + o88.2.1) + 0) ((((wn + 0) + 6) + o88.2.2.1) + 0) zb tp mp ra rb rf aM ad94 rd gd95 vad96 _ _ ls hf hP hD hS (lv_sub hl [0, 3, 4, 5, 6] rfl) hrf
            · rw [if_pos hc] at hf
              refine lv_aload_n hx hb dL_law_569 rfl (lv_at hl 3 rfl) ?_
              refine lv_iconst (v := 0) hx hb dL_law_570 (by decide) ?_
              refine va_lald hx hb hK hP 15 2 rfl rfl (show ¬ ((0 : Int32) < 0 ∨ 1 ≤ (0 : Int32).toNatClampNeg) by decide) dL_law_571 ?_
              refine W.eq (g2 := F0 m 572 ls [.long (o81.2 0)]) rfl ?_
              refine lv_iload hx hb dL_law_572 (lv_at hl 0 rfl) ?_
              refine lv_if_eq (tgt := 581) hx hb dL_law_574 (by decide) (fun hc => ?_) (fun hc => ?_)
              · rw [if_pos hc] at hf
                refine lv_lconst (v := 0) hx hb dL_law_581 (by decide) ?_
                refine W.lcmp hx hb dL_law_582 ?_
                refine lv_if_eq (tgt := 588) hx hb dL_law_583 (by decide) (fun hc => ?_) (fun hc => ?_)
                · rw [if_pos hc] at hf
                  refine lv_goto (tgt := 906) hx hb dL_law_588 (by decide) ?_
                  refine lv_iinc (v := (i + 6)) (lv' := [(4, .int (i + 6)), (6, .int o88.2.2.2.1), (5, .int o81.1), (3, .ref (zb 15)), (2, .ref aM), (1, .ref (zb 0)), (0, .ref b)]) hx hb dL_law_906 hl (k := 2) rfl rfl (by decide) rfl (fun ls hl => ?_)
                  refine lv_goto (tgt := 23) hx hb dL_law_909 (by decide) ?_
                  exact ih (i + 6) k o81.2 o88.2.2.2.2 ((((wc + 0) + 1) + o88.2.1) + 0) ((((wn + 0) + 6) + o88.2.2.1) + 0) zb tp mp ra rb rf aM ad94 rd gd95 vad96 _ _ ls hf hP hD hS (lv_sub hl [0, 3, 4, 5, 6] rfl) hrf
                · rw [if_neg hc] at hf
                  refine lv_iconst (v := 0) hx hb dL_law_586 (by decide) ?_
                  exact absurd (Option.some.inj hf) (by decide)
              · rw [if_neg hc] at hf
                refine lv_lconst (v := 1) hx hb dL_law_577 (by decide) ?_
                refine lv_goto (tgt := 582) hx hb dL_law_578 (by decide) ?_
                refine W.lcmp hx hb dL_law_582 ?_
                refine lv_if_eq (tgt := 588) hx hb dL_law_583 (by decide) (fun hc => ?_) (fun hc => ?_)
                · rw [if_pos hc] at hf
                  refine lv_goto (tgt := 906) hx hb dL_law_588 (by decide) ?_
                  refine lv_iinc (v := (i + 6)) (lv' := [(4, .int (i + 6)), (6, .int o88.2.2.2.1), (5, .int o81.1), (3, .ref (zb 15)), (2, .ref aM), (1, .ref (zb 0)), (0, .ref b)]) hx hb dL_law_906 hl (k := 2) rfl rfl (by decide) rfl (fun ls hl => ?_)
                  refine lv_goto (tgt := 23) hx hb dL_law_909 (by decide) ?_
                  exact ih (i + 6) k o81.2 o88.2.2.2.2 ((((wc + 0) + 1) + o88.2.1) + 0) ((((wn + 0) + 6) + o88.2.2.1) + 0) zb tp mp ra rb rf aM ad94 rd gd95 vad96 _ _ ls hf hP hD hS (lv_sub hl [0, 3, 4, 5, 6] rfl) hrf
                · rw [if_neg hc] at hf
                  refine lv_iconst (v := 0) hx hb dL_law_586 (by decide) ?_
                  exact absurd (Option.some.inj hf) (by decide)
          · rw [if_neg hc] at hf
            refine lv_iconst (v := 0) hx hb dL_law_562 (by decide) ?_
            exact absurd (Option.some.inj hf) (by decide)
        · rw [if_neg hab] at hf
          obtain ⟨o88, hq89, hf⟩ := xbind hf
          obtain ⟨hg90, hf⟩ := xifn hf
          have hm91 : ((wc + 0) + 1) ≤ 601024 ∧ ((wn + 0) + 6) ≤ 7293034 := ⟨Nat.le_of_not_lt fun h => hg90 (Or.inl h), Nat.le_of_not_lt fun h => hg90 (Or.inr h)⟩
          obtain ⟨hPc, hDc, hFc, hCc⟩ := xcutC (X := (xCx cT zb tp mp (ra 8) ra rb rf k ov)) (T := (xT cT ra rb k (xMw cT aM ad rd gd vad st []))) (we := [((zb 0), .inr (0, [.ref (zb 1), .ref (zb 3), .ref (zb 5), .ref (zb 7), .ref (zb 8), .ref (ra 8), .int (kpl k), .int (krs k)])), ((zb 1), .inr (1, [.ref (zb 2), .int (ktl k 0), .int (kto k 0)])), ((zb 2), .inl (cT 0, 4096, .inl (ktb k 0))), ((zb 3), .inr (1, [.ref (zb 4), .int (ktl k 1), .int (kto k 1)])), ((zb 4), .inl (cT 0, 4096, .inl (ktb k 1))), ((zb 5), .inr (1, [.ref (zb 6), .int (ktl k 2), .int (kto k 2)])), ((zb 6), .inl (cT 0, 4096, .inl (ktb k 2))), ((zb 7), .inl (cT 3, 8, .inr (.inr (.inr (.inr rf))))), ((zb 8), .inr (3, [.ref (zb 9), .ref (zb 10), .ref tp, .ref mp, .int (ktt k)])), ((zb 9), .inl (cT 1, 2048, .inl (ksa k 0))), ((zb 10), .inl (cT 1, 2048, .inl (ksa k 1))), (tp, .inl (cT 1, 2048, .inl (ksa k 2))), (mp, .inl (cT 1, 2048, .inl (ksa k 3))), ((ra 8), .inr (2, [.ref (rb 8), .int (krz k 8), .int (kro k 8)])), ((rb 8), .inl (cT 2, 4096, .inr (.inl (krc k 8))))]) (wt := [((ra (xpk (xs (i + (1 : Int32)).toNatClampNeg))), .inr (2, [.ref (rb (xpk (xs (i + (1 : Int32)).toNatClampNeg))), .int (krz k (xpk (xs (i + (1 : Int32)).toNatClampNeg))), .int (kro k (xpk (xs (i + (1 : Int32)).toNatClampNeg)))])), ((rb (xpk (xs (i + (1 : Int32)).toNatClampNeg))), .inl (cT 2, 4096, .inr (.inl (krc k (xpk (xs (i + (1 : Int32)).toNatClampNeg)))))), ((ra (xpk (xs (i + (2 : Int32)).toNatClampNeg))), .inr (2, [.ref (rb (xpk (xs (i + (2 : Int32)).toNatClampNeg))), .int (krz k (xpk (xs (i + (2 : Int32)).toNatClampNeg))), .int (kro k (xpk (xs (i + (2 : Int32)).toNatClampNeg)))])), ((rb (xpk (xs (i + (2 : Int32)).toNatClampNeg))), .inl (cT 2, 4096, .inr (.inl (krc k (xpk (xs (i + (2 : Int32)).toNatClampNeg))))))]) (wo := [((zb 15), .inl (cT 2, 1, .inr (.inl ov)))]) (wc := [((zb 0), .inr (0, [.ref (zb 1), .ref (zb 3), .ref (zb 5), .ref (zb 7), .ref (zb 8), .ref (ra 8), .int (kpl k), .int (krs k)])), ((zb 1), .inr (1, [.ref (zb 2), .int (ktl k 0), .int (kto k 0)])), ((zb 2), .inl (cT 0, 4096, .inl (ktb k 0))), ((zb 3), .inr (1, [.ref (zb 4), .int (ktl k 1), .int (kto k 1)])), ((zb 4), .inl (cT 0, 4096, .inl (ktb k 1))), ((zb 5), .inr (1, [.ref (zb 6), .int (ktl k 2), .int (kto k 2)])), ((zb 6), .inl (cT 0, 4096, .inl (ktb k 2))), ((zb 7), .inl (cT 3, 8, .inr (.inr (.inr (.inr rf))))), ((zb 8), .inr (3, [.ref (zb 9), .ref (zb 10), .ref tp, .ref mp, .int (ktt k)])), ((zb 9), .inl (cT 1, 2048, .inl (ksa k 0))), ((zb 10), .inl (cT 1, 2048, .inl (ksa k 1))), (tp, .inl (cT 1, 2048, .inl (ksa k 2))), (mp, .inl (cT 1, 2048, .inl (ksa k 3))), ((ra 8), .inr (2, [.ref (rb 8), .int (krz k 8), .int (kro k 8)])), ((rb 8), .inl (cT 2, 4096, .inr (.inl (krc k 8)))), ((ra (xpk (xs (i + (1 : Int32)).toNatClampNeg))), .inr (2, [.ref (rb (xpk (xs (i + (1 : Int32)).toNatClampNeg))), .int (krz k (xpk (xs (i + (1 : Int32)).toNatClampNeg))), .int (kro k (xpk (xs (i + (1 : Int32)).toNatClampNeg)))])), ((rb (xpk (xs (i + (1 : Int32)).toNatClampNeg))), .inl (cT 2, 4096, .inr (.inl (krc k (xpk (xs (i + (1 : Int32)).toNatClampNeg)))))), ((ra (xpk (xs (i + (2 : Int32)).toNatClampNeg))), .inr (2, [.ref (rb (xpk (xs (i + (2 : Int32)).toNatClampNeg))), .int (krz k (xpk (xs (i + (2 : Int32)).toNatClampNeg))), .int (kro k (xpk (xs (i + (2 : Int32)).toNatClampNeg)))])), ((rb (xpk (xs (i + (2 : Int32)).toNatClampNeg))), .inl (cT 2, 4096, .inr (.inl (krc k (xpk (xs (i + (2 : Int32)).toNatClampNeg)))))), ((zb 15), .inl (cT 2, 1, .inr (.inl ov)))]) hP hD hS hA [16 + (xpk (xs (i + (1 : Int32)).toNatClampNeg)), 24 + (xpk (xs (i + (1 : Int32)).toNatClampNeg)), 16 + (xpk (xs (i + (2 : Int32)).toNatClampNeg)), 24 + (xpk (xs (i + (2 : Int32)).toNatClampNeg))] true rfl (xit2 rfl (xpk8 _) (xpk8 _)) rfl rfl (xnd2 _ (xpk8 _) _ (xpk8 _) hab true).1
          refine va_calli (vx_runSW (As := [.ref (zb 0), .int (xs (i + (1 : Int32)).toNatClampNeg), .int (xs (i + (2 : Int32)).toNatClampNeg), .ref (zb 15)]) (rest := []) ⟨hx, hb, hml, hown, htx⟩ (gL_same l hl9 D cT aK aV H.size 104 N (zb 0) (zb 1) (zb 2) (zb 3) (zb 4) (zb 5) (zb 6) (zb 7) (zb 8) (zb 9) (zb 10) (ra 8) (rb 8) (ra (xpk (xs (i + (1 : Int32)).toNatClampNeg))) (rb (xpk (xs (i + (1 : Int32)).toNatClampNeg))) (ra (xpk (xs (i + (2 : Int32)).toNatClampNeg))) (rb (xpk (xs (i + (2 : Int32)).toNatClampNeg))) (zb 15) rf (xs (i + (1 : Int32)).toNatClampNeg) (xs (i + (2 : Int32)).toNatClampNeg) (ktb k 0) (ktl k 0) (kto k 0) (ktb k 1) (ktl k 1) (kto k 1) (ktb k 2) (ktl k 2) (kto k 2) (ksa k 0) (ksa k 1) tp (ksa k 2) mp (ksa k 3) (ktt k) (krc k 8) (krz k 8) (kro k 8) (kpl k) (krs k) (krc k (xpk (xs (i + (1 : Int32)).toNatClampNeg))) (krz k (xpk (xs (i + (1 : Int32)).toNatClampNeg))) (kro k (xpk (xs (i + (1 : Int32)).toNatClampNeg))) (krc k (xpk (xs (i + (2 : Int32)).toNatClampNeg))) (krz k (xpk (xs (i + (2 : Int32)).toNatClampNeg))) (kro k (xpk (xs (i + (2 : Int32)).toNatClampNeg))) ov (xpkR hrf (xs (i + (1 : Int32)).toNatClampNeg)) (xpkR hrf (xs (i + (2 : Int32)).toNatClampNeg)) o88 hq89) (xcSW 4 htx (xw_goodC kw_4_13) rfl rfl rfl (htx _ kw_1_0) (htx _ kw_4_11) ⟨by decide, by decide, by decide +kernel⟩ ⟨Nat.le_of_ble_eq_true rfl, Nat.le_of_ble_eq_true rfl⟩ (htx _ kw_4_12)) ⟨xPre_blind, (fun U hU hW => ⟨rfl, xPre_of hZ hS hFc hPc hDc hK U hU hW⟩)⟩ rfl rfl hl.1 rfl (lv_room (Nat.le_of_ble_eq_true rfl)) dL_law_530 hm91) hS (fun q _ h => hFc q h) hFc (fun r92 u9 t H1 locs ht hvm hr9 hB hz1 hk1 hS => ?_)
          obtain ⟨hP1, hK1, hD1⟩ := hB
          rw [ht] at hP1
          obtain ⟨hP, hD⟩ := xjnC (X := (xCx cT zb tp mp (ra 8) ra rb rf k ov)) (X' := (xCx cT zb tp mp (ra 8) ra rb rf k o88.2)) (T := (xT cT ra rb k (xMw cT aM ad rd gd vad st []))) (wt := [((ra (xpk (xs (i + (1 : Int32)).toNatClampNeg))), .inr (2, [.ref (rb (xpk (xs (i + (1 : Int32)).toNatClampNeg))), .int (krz k (xpk (xs (i + (1 : Int32)).toNatClampNeg))), .int (kro k (xpk (xs (i + (1 : Int32)).toNatClampNeg)))])), ((rb (xpk (xs (i + (1 : Int32)).toNatClampNeg))), .inl (cT 2, 4096, .inr (.inl (krc k (xpk (xs (i + (1 : Int32)).toNatClampNeg)))))), ((ra (xpk (xs (i + (2 : Int32)).toNatClampNeg))), .inr (2, [.ref (rb (xpk (xs (i + (2 : Int32)).toNatClampNeg))), .int (krz k (xpk (xs (i + (2 : Int32)).toNatClampNeg))), .int (kro k (xpk (xs (i + (2 : Int32)).toNatClampNeg)))])), ((rb (xpk (xs (i + (2 : Int32)).toNatClampNeg))), .inl (cT 2, 4096, .inr (.inl (krc k (xpk (xs (i + (2 : Int32)).toNatClampNeg))))))]) hP hD [16 + (xpk (xs (i + (1 : Int32)).toNatClampNeg)), 24 + (xpk (xs (i + (1 : Int32)).toNatClampNeg)), 16 + (xpk (xs (i + (2 : Int32)).toNatClampNeg)), 24 + (xpk (xs (i + (2 : Int32)).toNatClampNeg))] true rfl rfl xge2 (xnd2 _ (xpk8 _) _ (xpk8 _) hab true).2 (xit2 rfl (xpk8 _) (xpk8 _)) hCc hk1 hFc hP1 hD1 rfl rfl rfl
          generalize H1 = H at hP hS ⊢
          have hP : va_P D xcl (xGw cT zb tp mp ra rb rf k o88.2 (xMw cT aM ad rd gd vad st [])) H := hP
          have hD : va_D A (xGw cT zb tp mp ra rb rf k o88.2 (xMw cT aM ad rd gd vad st [])) := hD
          rw [hr9]
          refine W.eq (g2 := F0 m 533 ls [.int o88.1]) rfl ?_
          refine lv_istore (lv' := [(5, .int o88.1), (4, .int i), (3, .ref (zb 15)), (2, .ref aM), (1, .ref (zb 0)), (0, .ref b)]) hx hb dL_law_533 hl (by decide) rfl (fun ls hl => ?_)
          refine lv_aload_n hx hb dL_law_535 rfl (lv_at hl 3 rfl) ?_
          refine lv_aload_n hx hb dL_law_536 rfl (lv_at hl 5 rfl) ?_
          refine lv_iload hx hb dL_law_537 (lv_at hl 1 rfl) ?_
          refine lv_iconst (v := 1) hx hb dL_law_539 (by decide) ?_
          refine lv_iadd hx hb dL_law_540 ?_
          obtain ⟨hg93, hf⟩ := xifn hf
          refine va_sld hx hb hXs hbl hbA hS (i := (i + (1 : Int32))) hg93 dL_law_541 ?_
          refine W.eq (g2 := F0 m 542 ls [.int (xs (i + (1 : Int32)).toNatClampNeg), .ref aM]) rfl ?_
          refine lv_aload_n hx hb dL_law_542 rfl (lv_at hl 5 rfl) ?_
          refine lv_iload hx hb dL_law_543 (lv_at hl 1 rfl) ?_
          refine lv_iconst (v := 2) hx hb dL_law_545 (by decide) ?_
          refine lv_iadd hx hb dL_law_546 ?_
          obtain ⟨hg94, hf⟩ := xifn hf
          refine va_sld hx hb hXs hbl hbA hS (i := (i + (2 : Int32))) hg94 dL_law_547 ?_
          refine W.eq (g2 := F0 m 548 ls [.int (xs (i + (2 : Int32)).toNatClampNeg), .int (xs (i + (1 : Int32)).toNatClampNeg), .ref aM]) rfl ?_
          obtain ⟨o95, hq96, hf⟩ := xbind hf
          obtain ⟨hg97, hf⟩ := xifn hf
          obtain ⟨hg98, hf⟩ := xifn hf
          have hm99 : (((wc + 0) + 1) + o95.2.1) ≤ 601024 ∧ (((wn + 0) + 6) + o95.2.2.1) ≤ 7293034 := ⟨Nat.le_of_not_lt fun h => hg98 (Or.inl h), Nat.le_of_not_lt fun h => hg98 (Or.inr h)⟩
          obtain ⟨hPc, hDc⟩ := xGw_part hP hD
          have hFc := xm_free hDc hS hA
          refine va_calli (va_runV (C := "ValueBenchModel") (As := [.int (xs (i + (1 : Int32)).toNatClampNeg), .int (xs (i + (2 : Int32)).toNatClampNeg)]) (rest := []) ⟨hx, hb, hml, hown, htx⟩ (gM_same0 l hl9 D cT aK aV H.size 104 N aM ad rd gd vad st (xs (i + (1 : Int32)).toNatClampNeg) (xs (i + (2 : Int32)).toNatClampNeg) o95 hq96 (Decidable.not_not.mp hg97)) ⟨callB_of 2 htx (xw_goodC kw_6_166) rfl rfl rfl (htx _ kw_1_5) (htx _ kw_6_163) ⟨by decide, by decide, by decide +kernel⟩ ⟨Nat.le_of_ble_eq_true rfl, Nat.le_of_ble_eq_true rfl⟩, (htx _ kw_6_164), (htx _ kw_6_165)⟩ ⟨xPre_blind, va_recv hK hPc (ci := 5) rfl (q0 := 0) rfl, (fun U hU hW => ⟨rfl, xPre_of hZ hS hFc hPc hDc hK U hU hW⟩)⟩ rfl rfl hl.1 rfl (lv_room (Nat.le_of_ble_eq_true rfl)) dL_law_548 hm99) hS (fun q _ h => hFc q h) hFc (fun r100 u9 t H1 locs ht hvm hr9 hB hz1 hk1 hS => ?_)
          obtain ⟨hP1, hK1, hD1⟩ := hB
          rw [ht] at hP1
          obtain ⟨ad101, gd102, vad103⟩ := u9
          have hr9 := hr9.1
          obtain ⟨hP, hD⟩ := xGw_call (M' := (xMw cT aM ad101 rd gd102 vad103 o95.2.2.2.2 [])) hP hD hk1 hFc hP1 hD1
          generalize H1 = H at hP hS ⊢
          rw [hr9]
          refine W.eq (g2 := F0 m 551 ls [.int o95.2.2.2.1]) rfl ?_
          refine lv_istore (lv' := [(6, .int o95.2.2.2.1), (5, .int o88.1), (4, .int i), (3, .ref (zb 15)), (2, .ref aM), (1, .ref (zb 0)), (0, .ref b)]) hx hb dL_law_551 hl (by decide) rfl (fun ls hl => ?_)
          refine lv_aload_n hx hb dL_law_553 rfl (lv_at hl 4 rfl) ?_
          obtain ⟨o104, hq105, hf⟩ := xbind hf
          obtain ⟨hg106, hf⟩ := xifn hf
          have hm107 : ((((wc + 0) + 1) + o95.2.1) + 0) ≤ 601024 ∧ ((((wn + 0) + 6) + o95.2.2.1) + 0) ≤ 7293034 := ⟨Nat.le_of_not_lt fun h => hg106 (Or.inl h), Nat.le_of_not_lt fun h => hg106 (Or.inr h)⟩
          obtain ⟨hPc, hDc⟩ := xGw_part hP hD
          have hFc := xm_free hDc hS hA
          refine va_calli (va_runV (C := "ValueBenchModel") (As := []) (rest := []) ⟨hx, hb, hml, hown, htx⟩ (gM_thrown l hl9 D cT aK aV H.size N aM ad101 rd gd102 vad103 o95.2.2.2.2 o104 hq105) ⟨callB_of 0 htx (xw_goodC kw_5_187) rfl rfl rfl (htx _ kw_1_5) (htx _ kw_5_184) ⟨by decide, by decide, by decide +kernel⟩ ⟨Nat.le_of_ble_eq_true rfl, Nat.le_of_ble_eq_true rfl⟩, (htx _ kw_5_185), (htx _ kw_5_186)⟩ ⟨xPre_blind, va_recv hK hPc (ci := 5) rfl (q0 := 0) rfl, (fun U hU hW => ⟨rfl, xPre_of hZ hS hFc hPc hDc hK U hU hW⟩)⟩ rfl rfl hl.1 rfl (lv_room (Nat.le_of_ble_eq_true rfl)) dL_law_554 hm107) hS (fun q _ h => hFc q h) hFc (fun r108 u9 t H1 locs ht hvm hr9 hB hz1 hk1 hS => ?_)
          obtain ⟨hP1, hK1, hD1⟩ := hB
          rw [ht] at hP1
          obtain ⟨hP, hD⟩ := xGw_call (M' := (xMw cT aM ad101 rd gd102 vad103 o95.2.2.2.2 [])) hP hD hk1 hFc hP1 hD1
          generalize H1 = H at hP hS ⊢
          rw [hr9]
          refine W.eq (g2 := F0 m 557 ls [.int o104]) rfl ?_
          refine lv_iload hx hb dL_law_557 (lv_at hl 1 rfl) ?_
          refine lv_icmp_eq (tgt := 564) hx hb dL_law_559 (by decide) (fun hc => ?_) (fun hc => ?_)
          · rw [if_pos hc] at hf
            refine lv_iload hx hb dL_law_564 (lv_at hl 1 rfl) ?_
            refine lv_if_ne (tgt := 588) hx hb dL_law_566 (by decide) (fun hc => ?_) (fun hc => ?_)
            · rw [if_neg hc] at hf
              refine lv_goto (tgt := 906) hx hb dL_law_588 (by decide) ?_
              refine lv_iinc (v := (i + 6)) (lv' := [(4, .int (i + 6)), (6, .int o95.2.2.2.1), (5, .int o88.1), (3, .ref (zb 15)), (2, .ref aM), (1, .ref (zb 0)), (0, .ref b)]) hx hb dL_law_906 hl (k := 2) rfl rfl (by decide) rfl (fun ls hl => ?_)
              refine lv_goto (tgt := 23) hx hb dL_law_909 (by decide) ?_
              exact ih (i + 6) k o88.2 o95.2.2.2.2 ((((wc + 0) + 1) + o95.2.1) + 0) ((((wn + 0) + 6) + o95.2.2.1) + 0) zb tp mp ra rb rf aM ad101 rd gd102 vad103 _ _ ls hf hP hD hS (lv_sub hl [0, 3, 4, 5, 6] rfl) hrf
            · rw [if_pos hc] at hf
              refine lv_aload_n hx hb dL_law_569 rfl (lv_at hl 3 rfl) ?_
              refine lv_iconst (v := 0) hx hb dL_law_570 (by decide) ?_
              refine va_lald hx hb hK hP 15 2 rfl rfl (show ¬ ((0 : Int32) < 0 ∨ 1 ≤ (0 : Int32).toNatClampNeg) by decide) dL_law_571 ?_
              refine W.eq (g2 := F0 m 572 ls [.long (o88.2 0)]) rfl ?_
              refine lv_iload hx hb dL_law_572 (lv_at hl 0 rfl) ?_
              refine lv_if_eq (tgt := 581) hx hb dL_law_574 (by decide) (fun hc => ?_) (fun hc => ?_)
              · rw [if_pos hc] at hf
                refine lv_lconst (v := 0) hx hb dL_law_581 (by decide) ?_
                refine W.lcmp hx hb dL_law_582 ?_
                refine lv_if_eq (tgt := 588) hx hb dL_law_583 (by decide) (fun hc => ?_) (fun hc => ?_)
                · rw [if_pos hc] at hf
                  refine lv_goto (tgt := 906) hx hb dL_law_588 (by decide) ?_
                  refine lv_iinc (v := (i + 6)) (lv' := [(4, .int (i + 6)), (6, .int o95.2.2.2.1), (5, .int o88.1), (3, .ref (zb 15)), (2, .ref aM), (1, .ref (zb 0)), (0, .ref b)]) hx hb dL_law_906 hl (k := 2) rfl rfl (by decide) rfl (fun ls hl => ?_)
                  refine lv_goto (tgt := 23) hx hb dL_law_909 (by decide) ?_
                  exact ih (i + 6) k o88.2 o95.2.2.2.2 ((((wc + 0) + 1) + o95.2.1) + 0) ((((wn + 0) + 6) + o95.2.2.1) + 0) zb tp mp ra rb rf aM ad101 rd gd102 vad103 _ _ ls hf hP hD hS (lv_sub hl [0, 3, 4, 5, 6] rfl) hrf
                · rw [if_neg hc] at hf
                  refine lv_iconst (v := 0) hx hb dL_law_586 (by decide) ?_
                  exact absurd (Option.some.inj hf) (by decide)
              · rw [if_neg hc] at hf
                refine lv_lconst (v := 1) hx hb dL_law_577 (by decide) ?_
                refine lv_goto (tgt := 582) hx hb dL_law_578 (by decide) ?_
                refine W.lcmp hx hb dL_law_582 ?_
                refine lv_if_eq (tgt := 588) hx hb dL_law_583 (by decide) (fun hc => ?_) (fun hc => ?_)
                · rw [if_pos hc] at hf
                  refine lv_goto (tgt := 906) hx hb dL_law_588 (by decide) ?_
                  refine lv_iinc (v := (i + 6)) (lv' := [(4, .int (i + 6)), (6, .int o95.2.2.2.1), (5, .int o88.1), (3, .ref (zb 15)), (2, .ref aM), (1, .ref (zb 0)), (0, .ref b)]) hx hb dL_law_906 hl (k := 2) rfl rfl (by decide) rfl (fun ls hl => ?_)
                  refine lv_goto (tgt := 23) hx hb dL_law_909 (by decide) ?_
                  exact ih (i + 6) k o88.2 o95.2.2.2.2 ((((wc + 0) + 1) + o95.2.1) + 0) ((((wn + 0) + 6) + o95.2.2.1) + 0) zb tp mp ra rb rf aM ad101 rd gd102 vad103 _ _ ls hf hP hD hS (lv_sub hl [0, 3, 4, 5, 6] rfl) hrf
                · rw [if_neg hc] at hf
                  refine lv_iconst (v := 0) hx hb dL_law_586 (by decide) ?_
                  exact absurd (Option.some.inj hf) (by decide)
          · rw [if_neg hc] at hf
            refine lv_iconst (v := 0) hx hb dL_law_562 (by decide) ?_
            exact absurd (Option.some.inj hf) (by decide)
      rw [if_neg hc78] at hf
      by_cases hc95 : ((xs i.toNatClampNeg) &&& (15 : Int32)) = 7
      · rw [if_pos hc95] at hf
        refine lv_tableIn (off := 551) (tgt := 591) hx hb dL_law_40 (by rw [hc95]; decide) (by rw [hc95]; decide) (by rw [hc95]; decide) (by decide) ?_
        refine lv_aload_n hx hb dL_law_591 rfl (lv_at hl 3 rfl) ?_
        refine lv_aload_n hx hb dL_law_592 rfl (lv_at hl 4 rfl) ?_
        refine lv_iload hx hb dL_law_593 (lv_at hl 0 rfl) ?_
        refine lv_iconst (v := 1) hx hb dL_law_595 (by decide) ?_
        refine lv_iadd hx hb dL_law_596 ?_
        obtain ⟨hg96, hf⟩ := xifn hf
        refine va_sld hx hb hXs hbl hbA hS (i := (i + (1 : Int32))) hg96 dL_law_597 ?_
        refine W.eq (g2 := F0 m 598 ls [.int (xs (i + (1 : Int32)).toNatClampNeg), .ref (zb 0)]) rfl ?_
        refine lv_aload_n hx hb dL_law_598 rfl (lv_at hl 4 rfl) ?_
        refine lv_iload hx hb dL_law_599 (lv_at hl 0 rfl) ?_
        refine lv_iconst (v := 2) hx hb dL_law_601 (by decide) ?_
        refine lv_iadd hx hb dL_law_602 ?_
        obtain ⟨hg97, hf⟩ := xifn hf
        refine va_sld hx hb hXs hbl hbA hS (i := (i + (2 : Int32))) hg97 dL_law_603 ?_
        refine W.eq (g2 := F0 m 604 ls [.int (xs (i + (2 : Int32)).toNatClampNeg), .int (xs (i + (1 : Int32)).toNatClampNeg), .ref (zb 0)]) rfl ?_
        refine lv_aload_n hx hb dL_law_604 rfl (lv_at hl 4 rfl) ?_
        refine lv_iload hx hb dL_law_605 (lv_at hl 0 rfl) ?_
        refine lv_iconst (v := 3) hx hb dL_law_607 (by decide) ?_
        refine lv_iadd hx hb dL_law_608 ?_
        obtain ⟨hg98, hf⟩ := xifn hf
        refine va_sld hx hb hXs hbl hbA hS (i := (i + (3 : Int32))) hg98 dL_law_609 ?_
        refine W.eq (g2 := F0 m 610 ls [.int (xs (i + (3 : Int32)).toNatClampNeg), .int (xs (i + (2 : Int32)).toNatClampNeg), .int (xs (i + (1 : Int32)).toNatClampNeg), .ref (zb 0)]) rfl ?_
        obtain ⟨o99, hq100, hf⟩ := xbind hf
        obtain ⟨hg101, hf⟩ := xifn hf
        have hm102 : ((wc + 0) + 4) ≤ 601024 ∧ ((wn + 0) + 22) ≤ 7293034 := ⟨Nat.le_of_not_lt fun h => hg101 (Or.inl h), Nat.le_of_not_lt fun h => hg101 (Or.inr h)⟩
        obtain ⟨hPc, hDc, hFc, hCc⟩ := xcutC (X := (xCx cT zb tp mp (ra 8) ra rb rf k ov)) (T := (xT cT ra rb k (xMw cT aM ad rd gd vad st []))) (we := [((zb 0), .inr (0, [.ref (zb 1), .ref (zb 3), .ref (zb 5), .ref (zb 7), .ref (zb 8), .ref (ra 8), .int (kpl k), .int (krs k)])), ((zb 1), .inr (1, [.ref (zb 2), .int (ktl k 0), .int (kto k 0)])), ((zb 2), .inl (cT 0, 4096, .inl (ktb k 0))), ((zb 3), .inr (1, [.ref (zb 4), .int (ktl k 1), .int (kto k 1)])), ((zb 4), .inl (cT 0, 4096, .inl (ktb k 1))), ((zb 5), .inr (1, [.ref (zb 6), .int (ktl k 2), .int (kto k 2)])), ((zb 6), .inl (cT 0, 4096, .inl (ktb k 2))), ((zb 7), .inl (cT 3, 8, .inr (.inr (.inr (.inr rf))))), ((zb 8), .inr (3, [.ref (zb 9), .ref (zb 10), .ref tp, .ref mp, .int (ktt k)])), ((zb 9), .inl (cT 1, 2048, .inl (ksa k 0))), ((zb 10), .inl (cT 1, 2048, .inl (ksa k 1))), (tp, .inl (cT 1, 2048, .inl (ksa k 2))), (mp, .inl (cT 1, 2048, .inl (ksa k 3))), ((ra 8), .inr (2, [.ref (rb 8), .int (krz k 8), .int (kro k 8)])), ((rb 8), .inl (cT 2, 4096, .inr (.inl (krc k 8))))]) (wt := [((ra (xpk (xs (i + (3 : Int32)).toNatClampNeg))), .inr (2, [.ref (rb (xpk (xs (i + (3 : Int32)).toNatClampNeg))), .int (krz k (xpk (xs (i + (3 : Int32)).toNatClampNeg))), .int (kro k (xpk (xs (i + (3 : Int32)).toNatClampNeg)))])), ((rb (xpk (xs (i + (3 : Int32)).toNatClampNeg))), .inl (cT 2, 4096, .inr (.inl (krc k (xpk (xs (i + (3 : Int32)).toNatClampNeg))))))]) (wo := []) (wc := [((zb 0), .inr (0, [.ref (zb 1), .ref (zb 3), .ref (zb 5), .ref (zb 7), .ref (zb 8), .ref (ra 8), .int (kpl k), .int (krs k)])), ((zb 1), .inr (1, [.ref (zb 2), .int (ktl k 0), .int (kto k 0)])), ((zb 2), .inl (cT 0, 4096, .inl (ktb k 0))), ((zb 3), .inr (1, [.ref (zb 4), .int (ktl k 1), .int (kto k 1)])), ((zb 4), .inl (cT 0, 4096, .inl (ktb k 1))), ((zb 5), .inr (1, [.ref (zb 6), .int (ktl k 2), .int (kto k 2)])), ((zb 6), .inl (cT 0, 4096, .inl (ktb k 2))), ((zb 7), .inl (cT 3, 8, .inr (.inr (.inr (.inr rf))))), ((zb 8), .inr (3, [.ref (zb 9), .ref (zb 10), .ref tp, .ref mp, .int (ktt k)])), ((zb 9), .inl (cT 1, 2048, .inl (ksa k 0))), ((zb 10), .inl (cT 1, 2048, .inl (ksa k 1))), (tp, .inl (cT 1, 2048, .inl (ksa k 2))), (mp, .inl (cT 1, 2048, .inl (ksa k 3))), ((ra 8), .inr (2, [.ref (rb 8), .int (krz k 8), .int (kro k 8)])), ((rb 8), .inl (cT 2, 4096, .inr (.inl (krc k 8)))), ((ra (xpk (xs (i + (3 : Int32)).toNatClampNeg))), .inr (2, [.ref (rb (xpk (xs (i + (3 : Int32)).toNatClampNeg))), .int (krz k (xpk (xs (i + (3 : Int32)).toNatClampNeg))), .int (kro k (xpk (xs (i + (3 : Int32)).toNatClampNeg)))])), ((rb (xpk (xs (i + (3 : Int32)).toNatClampNeg))), .inl (cT 2, 4096, .inr (.inl (krc k (xpk (xs (i + (3 : Int32)).toNatClampNeg))))))]) hP hD hS hA [16 + (xpk (xs (i + (3 : Int32)).toNatClampNeg)), 24 + (xpk (xs (i + (3 : Int32)).toNatClampNeg))] false rfl (xit1 rfl (xpk8 _)) rfl rfl (xnd1 _ (xpk8 _) false).1
        by_cases hk103 : o99.1 = 0
        · rw [if_pos hk103] at hf
          refine va_calli (vx_runSW (As := [.ref (zb 0), .int (xs (i + (1 : Int32)).toNatClampNeg), .int (xs (i + (2 : Int32)).toNatClampNeg), .int (xs (i + (3 : Int32)).toNatClampNeg)]) (rest := []) ⟨hx, hb, hml, hown, htx⟩ (gL_one l hl9 D cT aK aV H.size 104 N (zb 0) (zb 1) (zb 2) (zb 3) (zb 4) (zb 5) (zb 6) (zb 7) (zb 8) (zb 9) (zb 10) (ra 8) (rb 8) (ra (xpk (xs (i + (3 : Int32)).toNatClampNeg))) (rb (xpk (xs (i + (3 : Int32)).toNatClampNeg))) rf (ra (xpk (xs (i + (1 : Int32)).toNatClampNeg))) (xs (i + (1 : Int32)).toNatClampNeg) (xs (i + (2 : Int32)).toNatClampNeg) (xs (i + (3 : Int32)).toNatClampNeg) (ktb k 0) (ktl k 0) (kto k 0) (ktb k 1) (ktl k 1) (kto k 1) (ktb k 2) (ktl k 2) (kto k 2) (ksa k 0) (ksa k 1) tp (ksa k 2) mp (ksa k 3) (ktt k) (krc k 8) (krz k 8) (kro k 8) (kpl k) (krs k) (krc k (xpk (xs (i + (3 : Int32)).toNatClampNeg))) (krz k (xpk (xs (i + (3 : Int32)).toNatClampNeg))) (kro k (xpk (xs (i + (3 : Int32)).toNatClampNeg))) (xpkR hrf (xs (i + (1 : Int32)).toNatClampNeg)) (xpkR hrf (xs (i + (3 : Int32)).toNatClampNeg)) o99 hq100 hk103) (xcSW 4 htx (xw_goodC kw_4_21) rfl rfl rfl (htx _ kw_1_0) (htx _ kw_4_19) ⟨by decide, by decide, by decide +kernel⟩ ⟨Nat.le_of_ble_eq_true rfl, Nat.le_of_ble_eq_true rfl⟩ (htx _ kw_4_20)) ⟨xPre_blind, (fun U hU hW => ⟨rfl, xPre_of hZ hS hFc hPc hDc hK U hU hW⟩)⟩ rfl rfl hl.1 rfl (lv_room (Nat.le_of_ble_eq_true rfl)) dL_law_610 hm102) hS (fun q _ h => hFc q h) hFc (fun r104 u9 t H1 locs ht hvm hr9 hB hz1 hk1 hS => ?_)
          obtain ⟨hP1, hK1, hD1⟩ := hB
          rw [ht] at hP1
          obtain ⟨hP, hD⟩ := xjnC (X := (xCx cT zb tp mp (ra 8) ra rb rf k ov)) (X' := (xCx cT zb o99.2.2.2.2.2.2.1 o99.2.2.2.2.2.2.2.2.1 (ra (xpk (xs (i + (1 : Int32)).toNatClampNeg))) ra rb (va_up rf (xs (i + (1 : Int32)).toNatClampNeg).toNatClampNeg (some (ra 8))) (kP (kS (kT (kR k o99.2.2.2.2.2.2.2.2.2.2.1 o99.2.2.2.2.2.2.2.2.2.2.2.1 o99.2.2.2.2.2.2.2.2.2.2.2.2.1) 2 o99.2.1 o99.2.2.1 o99.2.2.2.1) o99.2.2.2.2.1 (ksa k 1) o99.2.2.2.2.2.1 o99.2.2.2.2.2.2.2.1 o99.2.2.2.2.2.2.2.2.2.1) (kpl k) o99.2.2.2.2.2.2.2.2.2.2.2.2.2) ov)) (T := (xT cT ra rb k (xMw cT aM ad rd gd vad st []))) (wt := [((ra (xpk (xs (i + (3 : Int32)).toNatClampNeg))), .inr (2, [.ref (rb (xpk (xs (i + (3 : Int32)).toNatClampNeg))), .int (krz k (xpk (xs (i + (3 : Int32)).toNatClampNeg))), .int (kro k (xpk (xs (i + (3 : Int32)).toNatClampNeg)))])), ((rb (xpk (xs (i + (3 : Int32)).toNatClampNeg))), .inl (cT 2, 4096, .inr (.inl (krc k (xpk (xs (i + (3 : Int32)).toNatClampNeg))))))]) hP hD [16 + (xpk (xs (i + (3 : Int32)).toNatClampNeg)), 24 + (xpk (xs (i + (3 : Int32)).toNatClampNeg))] false rfl rfl xge1 (xnd1 _ (xpk8 _) false).2 (xit1 rfl (xpk8 _)) hCc hk1 hFc hP1 hD1 rfl rfl rfl
          rw [← xT_kR (f := o99.2.2.2.2.2.2.2.2.2.2.1) (n := o99.2.2.2.2.2.2.2.2.2.2.2.1) (v := o99.2.2.2.2.2.2.2.2.2.2.2.2.1)] at hP hD
          generalize H1 = H at hP hS ⊢
          obtain ⟨hg105, hf⟩ := xifn hf
          have hP : va_P D xcl ((xCx cT zb o99.2.2.2.2.2.2.1 o99.2.2.2.2.2.2.2.2.1 (ra (xpk (xs (i + (1 : Int32)).toNatClampNeg))) ra rb (va_up rf (xs (i + (1 : Int32)).toNatClampNeg).toNatClampNeg (some (ra 8))) (kP (kS (kT (kR k o99.2.2.2.2.2.2.2.2.2.2.1 o99.2.2.2.2.2.2.2.2.2.2.2.1 o99.2.2.2.2.2.2.2.2.2.2.2.2.1) 2 o99.2.1 o99.2.2.1 o99.2.2.2.1) o99.2.2.2.2.1 (ksa k 1) o99.2.2.2.2.2.1 o99.2.2.2.2.2.2.2.1 o99.2.2.2.2.2.2.2.2.2.1) (kpl k) o99.2.2.2.2.2.2.2.2.2.2.2.2.2) ov) ++ xT cT ra rb (kP (kS (kT (kR k o99.2.2.2.2.2.2.2.2.2.2.1 o99.2.2.2.2.2.2.2.2.2.2.2.1 o99.2.2.2.2.2.2.2.2.2.2.2.2.1) 2 o99.2.1 o99.2.2.1 o99.2.2.2.1) o99.2.2.2.2.1 (ksa k 1) o99.2.2.2.2.2.1 o99.2.2.2.2.2.2.2.1 o99.2.2.2.2.2.2.2.2.2.1) (kpl k) o99.2.2.2.2.2.2.2.2.2.2.2.2.2) (xMw cT aM ad rd gd vad st [])) H := hP
          have hD : va_D A ((xCx cT zb o99.2.2.2.2.2.2.1 o99.2.2.2.2.2.2.2.2.1 (ra (xpk (xs (i + (1 : Int32)).toNatClampNeg))) ra rb (va_up rf (xs (i + (1 : Int32)).toNatClampNeg).toNatClampNeg (some (ra 8))) (kP (kS (kT (kR k o99.2.2.2.2.2.2.2.2.2.2.1 o99.2.2.2.2.2.2.2.2.2.2.2.1 o99.2.2.2.2.2.2.2.2.2.2.2.2.1) 2 o99.2.1 o99.2.2.1 o99.2.2.2.1) o99.2.2.2.2.1 (ksa k 1) o99.2.2.2.2.2.1 o99.2.2.2.2.2.2.2.1 o99.2.2.2.2.2.2.2.2.2.1) (kpl k) o99.2.2.2.2.2.2.2.2.2.2.2.2.2) ov) ++ xT cT ra rb (kP (kS (kT (kR k o99.2.2.2.2.2.2.2.2.2.2.1 o99.2.2.2.2.2.2.2.2.2.2.2.1 o99.2.2.2.2.2.2.2.2.2.2.2.2.1) 2 o99.2.1 o99.2.2.1 o99.2.2.2.1) o99.2.2.2.2.1 (ksa k 1) o99.2.2.2.2.2.1 o99.2.2.2.2.2.2.2.1 o99.2.2.2.2.2.2.2.2.2.1) (kpl k) o99.2.2.2.2.2.2.2.2.2.2.2.2.2) (xMw cT aM ad rd gd vad st [])) := hD
          obtain ⟨hP, hD⟩ := xT_sw (xpk8 (xs (i + (1 : Int32)).toNatClampNeg)) hP hD
          have hrf := xsw_rf (xpk8 (xs (i + (1 : Int32)).toNatClampNeg)) hrf
          rw [show va_up rf (xpk (xs (i + (1 : Int32)).toNatClampNeg)) (some (ra 8)) = va_up rf (xs (i + (1 : Int32)).toNatClampNeg).toNatClampNeg (some (ra 8)) from by rw [xpkE hg105]] at hrf
          have hP : va_P D xcl (xGw cT zb o99.2.2.2.2.2.2.1 o99.2.2.2.2.2.2.2.2.1 (xsw2 ra (xpk (xs (i + (1 : Int32)).toNatClampNeg))) (xsw2 rb (xpk (xs (i + (1 : Int32)).toNatClampNeg))) (va_up rf (xs (i + (1 : Int32)).toNatClampNeg).toNatClampNeg (some (ra 8))) (kW (kP (kS (kT (kR k o99.2.2.2.2.2.2.2.2.2.2.1 o99.2.2.2.2.2.2.2.2.2.2.2.1 o99.2.2.2.2.2.2.2.2.2.2.2.2.1) 2 o99.2.1 o99.2.2.1 o99.2.2.2.1) o99.2.2.2.2.1 (ksa k 1) o99.2.2.2.2.2.1 o99.2.2.2.2.2.2.2.1 o99.2.2.2.2.2.2.2.2.2.1) (kpl k) o99.2.2.2.2.2.2.2.2.2.2.2.2.2) (xpk (xs (i + (1 : Int32)).toNatClampNeg))) ov (xMw cT aM ad rd gd vad st [])) H := hP
          have hD : va_D A (xGw cT zb o99.2.2.2.2.2.2.1 o99.2.2.2.2.2.2.2.2.1 (xsw2 ra (xpk (xs (i + (1 : Int32)).toNatClampNeg))) (xsw2 rb (xpk (xs (i + (1 : Int32)).toNatClampNeg))) (va_up rf (xs (i + (1 : Int32)).toNatClampNeg).toNatClampNeg (some (ra 8))) (kW (kP (kS (kT (kR k o99.2.2.2.2.2.2.2.2.2.2.1 o99.2.2.2.2.2.2.2.2.2.2.2.1 o99.2.2.2.2.2.2.2.2.2.2.2.2.1) 2 o99.2.1 o99.2.2.1 o99.2.2.2.1) o99.2.2.2.2.1 (ksa k 1) o99.2.2.2.2.2.1 o99.2.2.2.2.2.2.2.1 o99.2.2.2.2.2.2.2.2.2.1) (kpl k) o99.2.2.2.2.2.2.2.2.2.2.2.2.2) (xpk (xs (i + (1 : Int32)).toNatClampNeg))) ov (xMw cT aM ad rd gd vad st [])) := hD
          generalize va_up rf (xs (i + (1 : Int32)).toNatClampNeg).toNatClampNeg (some (ra 8)) = rf108 at hP hD hrf
          generalize (xsw2 ra (xpk (xs (i + (1 : Int32)).toNatClampNeg))) = ra106 at hP hD hrf
          generalize (xsw2 rb (xpk (xs (i + (1 : Int32)).toNatClampNeg))) = rb107 at hP hD
          rw [hr9]
          refine W.eq (g2 := F0 m 613 ls [.int o99.1]) rfl ?_
          refine lv_istore (lv' := [(5, .int o99.1), (4, .int i), (3, .ref (zb 15)), (2, .ref aM), (1, .ref (zb 0)), (0, .ref b)]) hx hb dL_law_613 hl (by decide) rfl (fun ls hl => ?_)
          refine lv_aload_n hx hb dL_law_615 rfl (lv_at hl 3 rfl) ?_
          refine lv_aload_n hx hb dL_law_616 rfl (lv_at hl 5 rfl) ?_
          refine lv_iload hx hb dL_law_617 (lv_at hl 1 rfl) ?_
          refine lv_iconst (v := 1) hx hb dL_law_619 (by decide) ?_
          refine lv_iadd hx hb dL_law_620 ?_
          obtain ⟨hg109, hf⟩ := xifn hf
          refine va_sld hx hb hXs hbl hbA hS (i := (i + (1 : Int32))) hg109 dL_law_621 ?_
          refine W.eq (g2 := F0 m 622 ls [.int (xs (i + (1 : Int32)).toNatClampNeg), .ref aM]) rfl ?_
          refine lv_aload_n hx hb dL_law_622 rfl (lv_at hl 5 rfl) ?_
          refine lv_iload hx hb dL_law_623 (lv_at hl 1 rfl) ?_
          refine lv_iconst (v := 2) hx hb dL_law_625 (by decide) ?_
          refine lv_iadd hx hb dL_law_626 ?_
          obtain ⟨hg110, hf⟩ := xifn hf
          refine va_sld hx hb hXs hbl hbA hS (i := (i + (2 : Int32))) hg110 dL_law_627 ?_
          refine W.eq (g2 := F0 m 628 ls [.int (xs (i + (2 : Int32)).toNatClampNeg), .int (xs (i + (1 : Int32)).toNatClampNeg), .ref aM]) rfl ?_
          refine lv_aload_n hx hb dL_law_628 rfl (lv_at hl 5 rfl) ?_
          refine lv_iload hx hb dL_law_629 (lv_at hl 1 rfl) ?_
          refine lv_iconst (v := 3) hx hb dL_law_631 (by decide) ?_
          refine lv_iadd hx hb dL_law_632 ?_
          obtain ⟨hg111, hf⟩ := xifn hf
          refine va_sld hx hb hXs hbl hbA hS (i := (i + (3 : Int32))) hg111 dL_law_633 ?_
          refine W.eq (g2 := F0 m 634 ls [.int (xs (i + (3 : Int32)).toNatClampNeg), .int (xs (i + (2 : Int32)).toNatClampNeg), .int (xs (i + (1 : Int32)).toNatClampNeg), .ref aM]) rfl ?_
          obtain ⟨o112, hq113, hf⟩ := xbind hf
          obtain ⟨hg114, hf⟩ := xifn hf
          have hm115 : (((wc + 0) + 4) + o112.1) ≤ 601024 ∧ (((wn + 0) + 22) + o112.2.1) ≤ 7293034 := ⟨Nat.le_of_not_lt fun h => hg114 (Or.inl h), Nat.le_of_not_lt fun h => hg114 (Or.inr h)⟩
          obtain ⟨hPc, hDc⟩ := xGw_part hP hD
          have hFc := xm_free hDc hS hA
          refine va_callv (va_runV (C := "ValueBenchModel") (As := [.int (xs (i + (1 : Int32)).toNatClampNeg), .int (xs (i + (2 : Int32)).toNatClampNeg), .int (xs (i + (3 : Int32)).toNatClampNeg)]) (rest := []) ⟨hx, hb, hml, hown, htx⟩ (gM_one0 l hl9 D cT aK aV H.size 104 N aM ad rd gd vad st (xs (i + (1 : Int32)).toNatClampNeg) (xs (i + (2 : Int32)).toNatClampNeg) (xs (i + (3 : Int32)).toNatClampNeg) o112 hq113) ⟨callB_of 3 htx (xw_goodC kw_7_123) rfl rfl rfl (htx _ kw_1_5) (htx _ kw_7_120) ⟨by decide, by decide, by decide +kernel⟩ ⟨Nat.le_of_ble_eq_true rfl, Nat.le_of_ble_eq_true rfl⟩, (htx _ kw_7_121), (htx _ kw_7_122)⟩ ⟨xPre_blind, va_recv hK hPc (ci := 5) rfl (q0 := 0) rfl, (fun U hU hW => ⟨rfl, xPre_of hZ hS hFc hPc hDc hK U hU hW⟩)⟩ rfl rfl hl.1 rfl (lv_room (Nat.le_of_ble_eq_true rfl)) dL_law_634 hm115) hS (fun q _ h => hFc q h) hFc (fun u9 t H1 locs ht hvm hr9 hB hz1 hk1 hS => ?_)
          obtain ⟨hP1, hK1, hD1⟩ := hB
          rw [ht] at hP1
          obtain ⟨ad117, gd118, vad119⟩ := u9
          obtain ⟨hP, hD⟩ := xGw_call (M' := (xMw cT aM ad117 rd gd118 vad119 o112.2.2 [])) hP hD hk1 hFc hP1 hD1
          generalize H1 = H at hP hS ⊢
          refine W.eq (g2 := F0 m 637 ls []) rfl ?_
          refine lv_aload_n hx hb dL_law_637 rfl (lv_at hl 3 rfl) ?_
          obtain ⟨o120, hq121, hf⟩ := xbind hf
          obtain ⟨hg122, hf⟩ := xifn hf
          have hm123 : ((((wc + 0) + 4) + o112.1) + 0) ≤ 601024 ∧ ((((wn + 0) + 22) + o112.2.1) + 0) ≤ 7293034 := ⟨Nat.le_of_not_lt fun h => hg122 (Or.inl h), Nat.le_of_not_lt fun h => hg122 (Or.inr h)⟩
          obtain ⟨hPc, hDc⟩ := xGw_part hP hD
          have hFc := xm_free hDc hS hA
          refine va_calli (va_runV (C := "ValueBenchModel") (As := []) (rest := []) ⟨hx, hb, hml, hown, htx⟩ (gM_thrown l hl9 D cT aK aV H.size N aM ad117 rd gd118 vad119 o112.2.2 o120 hq121) ⟨callB_of 0 htx (xw_goodC kw_5_187) rfl rfl rfl (htx _ kw_1_5) (htx _ kw_5_184) ⟨by decide, by decide, by decide +kernel⟩ ⟨Nat.le_of_ble_eq_true rfl, Nat.le_of_ble_eq_true rfl⟩, (htx _ kw_5_185), (htx _ kw_5_186)⟩ ⟨xPre_blind, va_recv hK hPc (ci := 5) rfl (q0 := 0) rfl, (fun U hU hW => ⟨rfl, xPre_of hZ hS hFc hPc hDc hK U hU hW⟩)⟩ rfl rfl hl.1 rfl (lv_room (Nat.le_of_ble_eq_true rfl)) dL_law_638 hm123) hS (fun q _ h => hFc q h) hFc (fun r124 u9 t H1 locs ht hvm hr9 hB hz1 hk1 hS => ?_)
          obtain ⟨hP1, hK1, hD1⟩ := hB
          rw [ht] at hP1
          obtain ⟨hP, hD⟩ := xGw_call (M' := (xMw cT aM ad117 rd gd118 vad119 o112.2.2 [])) hP hD hk1 hFc hP1 hD1
          generalize H1 = H at hP hS ⊢
          rw [hr9]
          refine W.eq (g2 := F0 m 641 ls [.int o120]) rfl ?_
          refine lv_iload hx hb dL_law_641 (lv_at hl 0 rfl) ?_
          refine lv_icmp_eq (tgt := 648) hx hb dL_law_643 (by decide) (fun hc => ?_) (fun hc => ?_)
          · rw [if_pos hc] at hf
            refine lv_goto (tgt := 906) hx hb dL_law_648 (by decide) ?_
            refine lv_iinc (v := (i + 6)) (lv' := [(4, .int (i + 6)), (5, .int o99.1), (3, .ref (zb 15)), (2, .ref aM), (1, .ref (zb 0)), (0, .ref b)]) hx hb dL_law_906 hl (k := 1) rfl rfl (by decide) rfl (fun ls hl => ?_)
            refine lv_goto (tgt := 23) hx hb dL_law_909 (by decide) ?_
            exact ih (i + 6) (kW (kP (kS (kT (kR k o99.2.2.2.2.2.2.2.2.2.2.1 o99.2.2.2.2.2.2.2.2.2.2.2.1 o99.2.2.2.2.2.2.2.2.2.2.2.2.1) 2 o99.2.1 o99.2.2.1 o99.2.2.2.1) o99.2.2.2.2.1 (ksa k 1) o99.2.2.2.2.2.1 o99.2.2.2.2.2.2.2.1 o99.2.2.2.2.2.2.2.2.2.1) (kpl k) o99.2.2.2.2.2.2.2.2.2.2.2.2.2) (xpk (xs (i + (1 : Int32)).toNatClampNeg))) ov o112.2.2 ((((wc + 0) + 4) + o112.1) + 0) ((((wn + 0) + 22) + o112.2.1) + 0) zb o99.2.2.2.2.2.2.1 o99.2.2.2.2.2.2.2.2.1 ra106 rb107 rf108 aM ad117 rd gd118 vad119 _ _ ls hf hP hD hS (lv_sub hl [0, 2, 3, 4, 5] rfl) hrf
          · rw [if_neg hc] at hf
            refine lv_iconst (v := 0) hx hb dL_law_646 (by decide) ?_
            exact absurd (Option.some.inj hf) (by decide)
        · rw [if_neg hk103] at hf
          refine va_calli (vx_runSW (As := [.ref (zb 0), .int (xs (i + (1 : Int32)).toNatClampNeg), .int (xs (i + (2 : Int32)).toNatClampNeg), .int (xs (i + (3 : Int32)).toNatClampNeg)]) (rest := []) ⟨hx, hb, hml, hown, htx⟩ (gL_one_1 l hl9 D cT aK aV H.size 104 N (zb 0) (zb 1) (zb 2) (zb 3) (zb 4) (zb 5) (zb 6) (zb 7) (zb 8) (zb 9) (zb 10) (ra 8) (rb 8) (ra (xpk (xs (i + (3 : Int32)).toNatClampNeg))) (rb (xpk (xs (i + (3 : Int32)).toNatClampNeg))) rf (ra (xpk (xs (i + (1 : Int32)).toNatClampNeg))) (xs (i + (1 : Int32)).toNatClampNeg) (xs (i + (2 : Int32)).toNatClampNeg) (xs (i + (3 : Int32)).toNatClampNeg) (ktb k 0) (ktl k 0) (kto k 0) (ktb k 1) (ktl k 1) (kto k 1) (ktb k 2) (ktl k 2) (kto k 2) (ksa k 0) (ksa k 1) tp (ksa k 2) mp (ksa k 3) (ktt k) (krc k 8) (krz k 8) (kro k 8) (kpl k) (krs k) (krc k (xpk (xs (i + (3 : Int32)).toNatClampNeg))) (krz k (xpk (xs (i + (3 : Int32)).toNatClampNeg))) (kro k (xpk (xs (i + (3 : Int32)).toNatClampNeg))) (xpkR hrf (xs (i + (1 : Int32)).toNatClampNeg)) (xpkR hrf (xs (i + (3 : Int32)).toNatClampNeg)) o99 hq100 hk103) (xcSW 4 htx (xw_goodC kw_4_21) rfl rfl rfl (htx _ kw_1_0) (htx _ kw_4_19) ⟨by decide, by decide, by decide +kernel⟩ ⟨Nat.le_of_ble_eq_true rfl, Nat.le_of_ble_eq_true rfl⟩ (htx _ kw_4_20)) ⟨xPre_blind, (fun U hU hW => ⟨rfl, xPre_of hZ hS hFc hPc hDc hK U hU hW⟩)⟩ rfl rfl hl.1 rfl (lv_room (Nat.le_of_ble_eq_true rfl)) dL_law_610 hm102) hS (fun q _ h => hFc q h) hFc (fun r113 u9 t H1 locs ht hvm hr9 hB hz1 hk1 hS => ?_)
          obtain ⟨hP1, hK1, hD1⟩ := hB
          rw [ht] at hP1
          obtain ⟨hP, hD⟩ := xjnC (X := (xCx cT zb tp mp (ra 8) ra rb rf k ov)) (X' := (xCx cT zb o99.2.2.2.2.2.2.1 o99.2.2.2.2.2.2.2.2.1 (ra 8) ra rb rf (kP (kS (kT (kR k o99.2.2.2.2.2.2.2.2.2.2.1 o99.2.2.2.2.2.2.2.2.2.2.2.1 o99.2.2.2.2.2.2.2.2.2.2.2.2.1) 2 o99.2.1 o99.2.2.1 o99.2.2.2.1) o99.2.2.2.2.1 (ksa k 1) o99.2.2.2.2.2.1 o99.2.2.2.2.2.2.2.1 o99.2.2.2.2.2.2.2.2.2.1) (kpl k) o99.2.2.2.2.2.2.2.2.2.2.2.2.2) ov)) (T := (xT cT ra rb k (xMw cT aM ad rd gd vad st []))) (wt := [((ra (xpk (xs (i + (3 : Int32)).toNatClampNeg))), .inr (2, [.ref (rb (xpk (xs (i + (3 : Int32)).toNatClampNeg))), .int (krz k (xpk (xs (i + (3 : Int32)).toNatClampNeg))), .int (kro k (xpk (xs (i + (3 : Int32)).toNatClampNeg)))])), ((rb (xpk (xs (i + (3 : Int32)).toNatClampNeg))), .inl (cT 2, 4096, .inr (.inl (krc k (xpk (xs (i + (3 : Int32)).toNatClampNeg))))))]) hP hD [16 + (xpk (xs (i + (3 : Int32)).toNatClampNeg)), 24 + (xpk (xs (i + (3 : Int32)).toNatClampNeg))] false rfl rfl xge1 (xnd1 _ (xpk8 _) false).2 (xit1 rfl (xpk8 _)) hCc hk1 hFc hP1 hD1 rfl rfl rfl
          rw [← xT_kR (f := o99.2.2.2.2.2.2.2.2.2.2.1) (n := o99.2.2.2.2.2.2.2.2.2.2.2.1) (v := o99.2.2.2.2.2.2.2.2.2.2.2.2.1)] at hP hD
          generalize H1 = H at hP hS ⊢
          have hP : va_P D xcl (xGw cT zb o99.2.2.2.2.2.2.1 o99.2.2.2.2.2.2.2.2.1 ra rb rf (kP (kS (kT (kR k o99.2.2.2.2.2.2.2.2.2.2.1 o99.2.2.2.2.2.2.2.2.2.2.2.1 o99.2.2.2.2.2.2.2.2.2.2.2.2.1) 2 o99.2.1 o99.2.2.1 o99.2.2.2.1) o99.2.2.2.2.1 (ksa k 1) o99.2.2.2.2.2.1 o99.2.2.2.2.2.2.2.1 o99.2.2.2.2.2.2.2.2.2.1) (kpl k) o99.2.2.2.2.2.2.2.2.2.2.2.2.2) ov (xMw cT aM ad rd gd vad st [])) H := hP
          have hD : va_D A (xGw cT zb o99.2.2.2.2.2.2.1 o99.2.2.2.2.2.2.2.2.1 ra rb rf (kP (kS (kT (kR k o99.2.2.2.2.2.2.2.2.2.2.1 o99.2.2.2.2.2.2.2.2.2.2.2.1 o99.2.2.2.2.2.2.2.2.2.2.2.2.1) 2 o99.2.1 o99.2.2.1 o99.2.2.2.1) o99.2.2.2.2.1 (ksa k 1) o99.2.2.2.2.2.1 o99.2.2.2.2.2.2.2.1 o99.2.2.2.2.2.2.2.2.2.1) (kpl k) o99.2.2.2.2.2.2.2.2.2.2.2.2.2) ov (xMw cT aM ad rd gd vad st [])) := hD
          rw [hr9]
          refine W.eq (g2 := F0 m 613 ls [.int o99.1]) rfl ?_
          refine lv_istore (lv' := [(5, .int o99.1), (4, .int i), (3, .ref (zb 15)), (2, .ref aM), (1, .ref (zb 0)), (0, .ref b)]) hx hb dL_law_613 hl (by decide) rfl (fun ls hl => ?_)
          refine lv_aload_n hx hb dL_law_615 rfl (lv_at hl 3 rfl) ?_
          refine lv_aload_n hx hb dL_law_616 rfl (lv_at hl 5 rfl) ?_
          refine lv_iload hx hb dL_law_617 (lv_at hl 1 rfl) ?_
          refine lv_iconst (v := 1) hx hb dL_law_619 (by decide) ?_
          refine lv_iadd hx hb dL_law_620 ?_
          obtain ⟨hg114, hf⟩ := xifn hf
          refine va_sld hx hb hXs hbl hbA hS (i := (i + (1 : Int32))) hg114 dL_law_621 ?_
          refine W.eq (g2 := F0 m 622 ls [.int (xs (i + (1 : Int32)).toNatClampNeg), .ref aM]) rfl ?_
          refine lv_aload_n hx hb dL_law_622 rfl (lv_at hl 5 rfl) ?_
          refine lv_iload hx hb dL_law_623 (lv_at hl 1 rfl) ?_
          refine lv_iconst (v := 2) hx hb dL_law_625 (by decide) ?_
          refine lv_iadd hx hb dL_law_626 ?_
          obtain ⟨hg115, hf⟩ := xifn hf
          refine va_sld hx hb hXs hbl hbA hS (i := (i + (2 : Int32))) hg115 dL_law_627 ?_
          refine W.eq (g2 := F0 m 628 ls [.int (xs (i + (2 : Int32)).toNatClampNeg), .int (xs (i + (1 : Int32)).toNatClampNeg), .ref aM]) rfl ?_
          refine lv_aload_n hx hb dL_law_628 rfl (lv_at hl 5 rfl) ?_
          refine lv_iload hx hb dL_law_629 (lv_at hl 1 rfl) ?_
          refine lv_iconst (v := 3) hx hb dL_law_631 (by decide) ?_
          refine lv_iadd hx hb dL_law_632 ?_
          obtain ⟨hg116, hf⟩ := xifn hf
          refine va_sld hx hb hXs hbl hbA hS (i := (i + (3 : Int32))) hg116 dL_law_633 ?_
          refine W.eq (g2 := F0 m 634 ls [.int (xs (i + (3 : Int32)).toNatClampNeg), .int (xs (i + (2 : Int32)).toNatClampNeg), .int (xs (i + (1 : Int32)).toNatClampNeg), .ref aM]) rfl ?_
          obtain ⟨o117, hq118, hf⟩ := xbind hf
          obtain ⟨hg119, hf⟩ := xifn hf
          have hm120 : (((wc + 0) + 4) + o117.1) ≤ 601024 ∧ (((wn + 0) + 22) + o117.2.1) ≤ 7293034 := ⟨Nat.le_of_not_lt fun h => hg119 (Or.inl h), Nat.le_of_not_lt fun h => hg119 (Or.inr h)⟩
          obtain ⟨hPc, hDc⟩ := xGw_part hP hD
          have hFc := xm_free hDc hS hA
          refine va_callv (va_runV (C := "ValueBenchModel") (As := [.int (xs (i + (1 : Int32)).toNatClampNeg), .int (xs (i + (2 : Int32)).toNatClampNeg), .int (xs (i + (3 : Int32)).toNatClampNeg)]) (rest := []) ⟨hx, hb, hml, hown, htx⟩ (gM_one0 l hl9 D cT aK aV H.size 104 N aM ad rd gd vad st (xs (i + (1 : Int32)).toNatClampNeg) (xs (i + (2 : Int32)).toNatClampNeg) (xs (i + (3 : Int32)).toNatClampNeg) o117 hq118) ⟨callB_of 3 htx (xw_goodC kw_7_123) rfl rfl rfl (htx _ kw_1_5) (htx _ kw_7_120) ⟨by decide, by decide, by decide +kernel⟩ ⟨Nat.le_of_ble_eq_true rfl, Nat.le_of_ble_eq_true rfl⟩, (htx _ kw_7_121), (htx _ kw_7_122)⟩ ⟨xPre_blind, va_recv hK hPc (ci := 5) rfl (q0 := 0) rfl, (fun U hU hW => ⟨rfl, xPre_of hZ hS hFc hPc hDc hK U hU hW⟩)⟩ rfl rfl hl.1 rfl (lv_room (Nat.le_of_ble_eq_true rfl)) dL_law_634 hm120) hS (fun q _ h => hFc q h) hFc (fun u9 t H1 locs ht hvm hr9 hB hz1 hk1 hS => ?_)
          obtain ⟨hP1, hK1, hD1⟩ := hB
          rw [ht] at hP1
          obtain ⟨ad122, gd123, vad124⟩ := u9
          obtain ⟨hP, hD⟩ := xGw_call (M' := (xMw cT aM ad122 rd gd123 vad124 o117.2.2 [])) hP hD hk1 hFc hP1 hD1
          generalize H1 = H at hP hS ⊢
          refine W.eq (g2 := F0 m 637 ls []) rfl ?_
          refine lv_aload_n hx hb dL_law_637 rfl (lv_at hl 3 rfl) ?_
          obtain ⟨o125, hq126, hf⟩ := xbind hf
          obtain ⟨hg127, hf⟩ := xifn hf
          have hm128 : ((((wc + 0) + 4) + o117.1) + 0) ≤ 601024 ∧ ((((wn + 0) + 22) + o117.2.1) + 0) ≤ 7293034 := ⟨Nat.le_of_not_lt fun h => hg127 (Or.inl h), Nat.le_of_not_lt fun h => hg127 (Or.inr h)⟩
          obtain ⟨hPc, hDc⟩ := xGw_part hP hD
          have hFc := xm_free hDc hS hA
          refine va_calli (va_runV (C := "ValueBenchModel") (As := []) (rest := []) ⟨hx, hb, hml, hown, htx⟩ (gM_thrown l hl9 D cT aK aV H.size N aM ad122 rd gd123 vad124 o117.2.2 o125 hq126) ⟨callB_of 0 htx (xw_goodC kw_5_187) rfl rfl rfl (htx _ kw_1_5) (htx _ kw_5_184) ⟨by decide, by decide, by decide +kernel⟩ ⟨Nat.le_of_ble_eq_true rfl, Nat.le_of_ble_eq_true rfl⟩, (htx _ kw_5_185), (htx _ kw_5_186)⟩ ⟨xPre_blind, va_recv hK hPc (ci := 5) rfl (q0 := 0) rfl, (fun U hU hW => ⟨rfl, xPre_of hZ hS hFc hPc hDc hK U hU hW⟩)⟩ rfl rfl hl.1 rfl (lv_room (Nat.le_of_ble_eq_true rfl)) dL_law_638 hm128) hS (fun q _ h => hFc q h) hFc (fun r129 u9 t H1 locs ht hvm hr9 hB hz1 hk1 hS => ?_)
          obtain ⟨hP1, hK1, hD1⟩ := hB
          rw [ht] at hP1
          obtain ⟨hP, hD⟩ := xGw_call (M' := (xMw cT aM ad122 rd gd123 vad124 o117.2.2 [])) hP hD hk1 hFc hP1 hD1
          generalize H1 = H at hP hS ⊢
          rw [hr9]
          refine W.eq (g2 := F0 m 641 ls [.int o125]) rfl ?_
          refine lv_iload hx hb dL_law_641 (lv_at hl 0 rfl) ?_
          refine lv_icmp_eq (tgt := 648) hx hb dL_law_643 (by decide) (fun hc => ?_) (fun hc => ?_)
          · rw [if_pos hc] at hf
            refine lv_goto (tgt := 906) hx hb dL_law_648 (by decide) ?_
            refine lv_iinc (v := (i + 6)) (lv' := [(4, .int (i + 6)), (5, .int o99.1), (3, .ref (zb 15)), (2, .ref aM), (1, .ref (zb 0)), (0, .ref b)]) hx hb dL_law_906 hl (k := 1) rfl rfl (by decide) rfl (fun ls hl => ?_)
            refine lv_goto (tgt := 23) hx hb dL_law_909 (by decide) ?_
            exact ih (i + 6) (kP (kS (kT (kR k o99.2.2.2.2.2.2.2.2.2.2.1 o99.2.2.2.2.2.2.2.2.2.2.2.1 o99.2.2.2.2.2.2.2.2.2.2.2.2.1) 2 o99.2.1 o99.2.2.1 o99.2.2.2.1) o99.2.2.2.2.1 (ksa k 1) o99.2.2.2.2.2.1 o99.2.2.2.2.2.2.2.1 o99.2.2.2.2.2.2.2.2.2.1) (kpl k) o99.2.2.2.2.2.2.2.2.2.2.2.2.2) ov o117.2.2 ((((wc + 0) + 4) + o117.1) + 0) ((((wn + 0) + 22) + o117.2.1) + 0) zb o99.2.2.2.2.2.2.1 o99.2.2.2.2.2.2.2.2.1 ra rb rf aM ad122 rd gd123 vad124 _ _ ls hf hP hD hS (lv_sub hl [0, 2, 3, 4, 5] rfl) hrf
          · rw [if_neg hc] at hf
            refine lv_iconst (v := 0) hx hb dL_law_646 (by decide) ?_
            exact absurd (Option.some.inj hf) (by decide)
      rw [if_neg hc95] at hf
      by_cases hc99 : ((xs i.toNatClampNeg) &&& (15 : Int32)) = 8
      · rw [if_pos hc99] at hf
        refine lv_tableIn (off := 611) (tgt := 651) hx hb dL_law_40 (by rw [hc99]; decide) (by rw [hc99]; decide) (by rw [hc99]; decide) (by decide) ?_
        refine lv_aload_n hx hb dL_law_651 rfl (lv_at hl 3 rfl) ?_
        refine lv_aload_n hx hb dL_law_652 rfl (lv_at hl 4 rfl) ?_
        refine lv_iload hx hb dL_law_653 (lv_at hl 0 rfl) ?_
        refine lv_iconst (v := 1) hx hb dL_law_655 (by decide) ?_
        refine lv_iadd hx hb dL_law_656 ?_
        obtain ⟨hg100, hf⟩ := xifn hf
        refine va_sld hx hb hXs hbl hbA hS (i := (i + (1 : Int32))) hg100 dL_law_657 ?_
        refine W.eq (g2 := F0 m 658 ls [.int (xs (i + (1 : Int32)).toNatClampNeg), .ref (zb 0)]) rfl ?_
        refine lv_aload_n hx hb dL_law_658 rfl (lv_at hl 4 rfl) ?_
        refine lv_iload hx hb dL_law_659 (lv_at hl 0 rfl) ?_
        refine lv_iconst (v := 2) hx hb dL_law_661 (by decide) ?_
        refine lv_iadd hx hb dL_law_662 ?_
        obtain ⟨hg101, hf⟩ := xifn hf
        refine va_sld hx hb hXs hbl hbA hS (i := (i + (2 : Int32))) hg101 dL_law_663 ?_
        refine W.eq (g2 := F0 m 664 ls [.int (xs (i + (2 : Int32)).toNatClampNeg), .int (xs (i + (1 : Int32)).toNatClampNeg), .ref (zb 0)]) rfl ?_
        refine lv_aload_n hx hb dL_law_664 rfl (lv_at hl 4 rfl) ?_
        refine lv_iload hx hb dL_law_665 (lv_at hl 0 rfl) ?_
        refine lv_iconst (v := 3) hx hb dL_law_667 (by decide) ?_
        refine lv_iadd hx hb dL_law_668 ?_
        obtain ⟨hg102, hf⟩ := xifn hf
        refine va_sld hx hb hXs hbl hbA hS (i := (i + (3 : Int32))) hg102 dL_law_669 ?_
        refine W.eq (g2 := F0 m 670 ls [.int (xs (i + (3 : Int32)).toNatClampNeg), .int (xs (i + (2 : Int32)).toNatClampNeg), .int (xs (i + (1 : Int32)).toNatClampNeg), .ref (zb 0)]) rfl ?_
        refine lv_aload_n hx hb dL_law_670 rfl (lv_at hl 4 rfl) ?_
        refine lv_iload hx hb dL_law_671 (lv_at hl 0 rfl) ?_
        refine lv_iconst (v := 4) hx hb dL_law_673 (by decide) ?_
        refine lv_iadd hx hb dL_law_674 ?_
        obtain ⟨hg103, hf⟩ := xifn hf
        refine va_sld hx hb hXs hbl hbA hS (i := (i + (4 : Int32))) hg103 dL_law_675 ?_
        refine W.eq (g2 := F0 m 676 ls [.int (xs (i + (4 : Int32)).toNatClampNeg), .int (xs (i + (3 : Int32)).toNatClampNeg), .int (xs (i + (2 : Int32)).toNatClampNeg), .int (xs (i + (1 : Int32)).toNatClampNeg), .ref (zb 0)]) rfl ?_
        by_cases hab : xpk (xs (i + (3 : Int32)).toNatClampNeg) = xpk (xs (i + (4 : Int32)).toNatClampNeg)
        · rw [if_pos hab] at hf
          obtain ⟨o104, hq105, hf⟩ := xbind hf
          obtain ⟨hg106, hf⟩ := xifn hf
          have hm107 : ((wc + 0) + 3) ≤ 601024 ∧ ((wn + 0) + 18) ≤ 7293034 := ⟨Nat.le_of_not_lt fun h => hg106 (Or.inl h), Nat.le_of_not_lt fun h => hg106 (Or.inr h)⟩
          obtain ⟨hPc, hDc, hFc, hCc⟩ := xcutC (X := (xCx cT zb tp mp (ra 8) ra rb rf k ov)) (T := (xT cT ra rb k (xMw cT aM ad rd gd vad st []))) (we := [((zb 0), .inr (0, [.ref (zb 1), .ref (zb 3), .ref (zb 5), .ref (zb 7), .ref (zb 8), .ref (ra 8), .int (kpl k), .int (krs k)])), ((zb 1), .inr (1, [.ref (zb 2), .int (ktl k 0), .int (kto k 0)])), ((zb 2), .inl (cT 0, 4096, .inl (ktb k 0))), ((zb 3), .inr (1, [.ref (zb 4), .int (ktl k 1), .int (kto k 1)])), ((zb 4), .inl (cT 0, 4096, .inl (ktb k 1))), ((zb 5), .inr (1, [.ref (zb 6), .int (ktl k 2), .int (kto k 2)])), ((zb 6), .inl (cT 0, 4096, .inl (ktb k 2))), ((zb 7), .inl (cT 3, 8, .inr (.inr (.inr (.inr rf))))), ((zb 8), .inr (3, [.ref (zb 9), .ref (zb 10), .ref tp, .ref mp, .int (ktt k)])), ((zb 9), .inl (cT 1, 2048, .inl (ksa k 0))), ((zb 10), .inl (cT 1, 2048, .inl (ksa k 1))), (tp, .inl (cT 1, 2048, .inl (ksa k 2))), (mp, .inl (cT 1, 2048, .inl (ksa k 3))), ((ra 8), .inr (2, [.ref (rb 8), .int (krz k 8), .int (kro k 8)])), ((rb 8), .inl (cT 2, 4096, .inr (.inl (krc k 8))))]) (wt := [((ra (xpk (xs (i + (3 : Int32)).toNatClampNeg))), .inr (2, [.ref (rb (xpk (xs (i + (3 : Int32)).toNatClampNeg))), .int (krz k (xpk (xs (i + (3 : Int32)).toNatClampNeg))), .int (kro k (xpk (xs (i + (3 : Int32)).toNatClampNeg)))])), ((rb (xpk (xs (i + (3 : Int32)).toNatClampNeg))), .inl (cT 2, 4096, .inr (.inl (krc k (xpk (xs (i + (3 : Int32)).toNatClampNeg))))))]) (wo := []) (wc := [((zb 0), .inr (0, [.ref (zb 1), .ref (zb 3), .ref (zb 5), .ref (zb 7), .ref (zb 8), .ref (ra 8), .int (kpl k), .int (krs k)])), ((zb 1), .inr (1, [.ref (zb 2), .int (ktl k 0), .int (kto k 0)])), ((zb 2), .inl (cT 0, 4096, .inl (ktb k 0))), ((zb 3), .inr (1, [.ref (zb 4), .int (ktl k 1), .int (kto k 1)])), ((zb 4), .inl (cT 0, 4096, .inl (ktb k 1))), ((zb 5), .inr (1, [.ref (zb 6), .int (ktl k 2), .int (kto k 2)])), ((zb 6), .inl (cT 0, 4096, .inl (ktb k 2))), ((zb 7), .inl (cT 3, 8, .inr (.inr (.inr (.inr rf))))), ((zb 8), .inr (3, [.ref (zb 9), .ref (zb 10), .ref tp, .ref mp, .int (ktt k)])), ((zb 9), .inl (cT 1, 2048, .inl (ksa k 0))), ((zb 10), .inl (cT 1, 2048, .inl (ksa k 1))), (tp, .inl (cT 1, 2048, .inl (ksa k 2))), (mp, .inl (cT 1, 2048, .inl (ksa k 3))), ((ra 8), .inr (2, [.ref (rb 8), .int (krz k 8), .int (kro k 8)])), ((rb 8), .inl (cT 2, 4096, .inr (.inl (krc k 8)))), ((ra (xpk (xs (i + (3 : Int32)).toNatClampNeg))), .inr (2, [.ref (rb (xpk (xs (i + (3 : Int32)).toNatClampNeg))), .int (krz k (xpk (xs (i + (3 : Int32)).toNatClampNeg))), .int (kro k (xpk (xs (i + (3 : Int32)).toNatClampNeg)))])), ((rb (xpk (xs (i + (3 : Int32)).toNatClampNeg))), .inl (cT 2, 4096, .inr (.inl (krc k (xpk (xs (i + (3 : Int32)).toNatClampNeg))))))]) hP hD hS hA [16 + (xpk (xs (i + (3 : Int32)).toNatClampNeg)), 24 + (xpk (xs (i + (3 : Int32)).toNatClampNeg))] false rfl (xit1 rfl (xpk8 _)) rfl rfl (xnd1 _ (xpk8 _) false).1
          by_cases hk108 : o104.1 = 0
          · rw [if_pos hk108] at hf
            refine va_calli (vx_runSW (As := [.ref (zb 0), .int (xs (i + (1 : Int32)).toNatClampNeg), .int (xs (i + (2 : Int32)).toNatClampNeg), .int (xs (i + (3 : Int32)).toNatClampNeg), .int (xs (i + (4 : Int32)).toNatClampNeg)]) (rest := []) ⟨hx, hb, hml, hown, htx⟩ (gL_twoa l hl9 D cT aK aV H.size 104 N (zb 0) (zb 1) (zb 2) (zb 3) (zb 4) (zb 5) (zb 6) (zb 7) (zb 8) (zb 9) (zb 10) (ra 8) (rb 8) (ra (xpk (xs (i + (3 : Int32)).toNatClampNeg))) (rb (xpk (xs (i + (3 : Int32)).toNatClampNeg))) rf (ra (xpk (xs (i + (1 : Int32)).toNatClampNeg))) (xs (i + (1 : Int32)).toNatClampNeg) (xs (i + (2 : Int32)).toNatClampNeg) (xs (i + (3 : Int32)).toNatClampNeg) (xs (i + (4 : Int32)).toNatClampNeg) (ktb k 0) (ktl k 0) (kto k 0) (ktb k 1) (ktl k 1) (kto k 1) (ktb k 2) (ktl k 2) (kto k 2) (ksa k 0) (ksa k 1) tp (ksa k 2) mp (ksa k 3) (ktt k) (krc k 8) (krz k 8) (kro k 8) (kpl k) (krs k) (krc k (xpk (xs (i + (3 : Int32)).toNatClampNeg))) (krz k (xpk (xs (i + (3 : Int32)).toNatClampNeg))) (kro k (xpk (xs (i + (3 : Int32)).toNatClampNeg))) (xpkR hrf (xs (i + (1 : Int32)).toNatClampNeg)) (xpkR hrf (xs (i + (3 : Int32)).toNatClampNeg)) (by rw [hab]; exact xpkR hrf (xs (i + (4 : Int32)).toNatClampNeg)) o104 hq105 hk108) (xcSW 5 htx (xw_goodC kw_4_139) rfl rfl rfl (htx _ kw_1_0) (htx _ kw_4_137) ⟨by decide, by decide, by decide +kernel⟩ ⟨Nat.le_of_ble_eq_true rfl, Nat.le_of_ble_eq_true rfl⟩ (htx _ kw_4_138)) ⟨xPre_blind, (fun U hU hW => ⟨rfl, xPre_of hZ hS hFc hPc hDc hK U hU hW⟩)⟩ rfl rfl hl.1 rfl (lv_room (Nat.le_of_ble_eq_true rfl)) dL_law_676 hm107) hS (fun q _ h => hFc q h) hFc (fun r109 u9 t H1 locs ht hvm hr9 hB hz1 hk1 hS => ?_)
            obtain ⟨hP1, hK1, hD1⟩ := hB
            rw [ht] at hP1
            obtain ⟨hP, hD⟩ := xjnC (X := (xCx cT zb tp mp (ra 8) ra rb rf k ov)) (X' := (xCx cT zb tp mp (ra (xpk (xs (i + (1 : Int32)).toNatClampNeg))) ra rb (va_up rf (xs (i + (1 : Int32)).toNatClampNeg).toNatClampNeg (some (ra 8))) (kP (kT (kR k o104.2.2.2.2.1 o104.2.2.2.2.2.1 o104.2.2.2.2.2.2.1) 2 o104.2.1 o104.2.2.1 o104.2.2.2.1) (kpl k) o104.2.2.2.2.2.2.2) ov)) (T := (xT cT ra rb k (xMw cT aM ad rd gd vad st []))) (wt := [((ra (xpk (xs (i + (3 : Int32)).toNatClampNeg))), .inr (2, [.ref (rb (xpk (xs (i + (3 : Int32)).toNatClampNeg))), .int (krz k (xpk (xs (i + (3 : Int32)).toNatClampNeg))), .int (kro k (xpk (xs (i + (3 : Int32)).toNatClampNeg)))])), ((rb (xpk (xs (i + (3 : Int32)).toNatClampNeg))), .inl (cT 2, 4096, .inr (.inl (krc k (xpk (xs (i + (3 : Int32)).toNatClampNeg))))))]) hP hD [16 + (xpk (xs (i + (3 : Int32)).toNatClampNeg)), 24 + (xpk (xs (i + (3 : Int32)).toNatClampNeg))] false rfl rfl xge1 (xnd1 _ (xpk8 _) false).2 (xit1 rfl (xpk8 _)) hCc hk1 hFc hP1 hD1 rfl rfl rfl
            rw [← xT_kR (f := o104.2.2.2.2.1) (n := o104.2.2.2.2.2.1) (v := o104.2.2.2.2.2.2.1)] at hP hD
            generalize H1 = H at hP hS ⊢
            obtain ⟨hg110, hf⟩ := xifn hf
            have hP : va_P D xcl ((xCx cT zb tp mp (ra (xpk (xs (i + (1 : Int32)).toNatClampNeg))) ra rb (va_up rf (xs (i + (1 : Int32)).toNatClampNeg).toNatClampNeg (some (ra 8))) (kP (kT (kR k o104.2.2.2.2.1 o104.2.2.2.2.2.1 o104.2.2.2.2.2.2.1) 2 o104.2.1 o104.2.2.1 o104.2.2.2.1) (kpl k) o104.2.2.2.2.2.2.2) ov) ++ xT cT ra rb (kP (kT (kR k o104.2.2.2.2.1 o104.2.2.2.2.2.1 o104.2.2.2.2.2.2.1) 2 o104.2.1 o104.2.2.1 o104.2.2.2.1) (kpl k) o104.2.2.2.2.2.2.2) (xMw cT aM ad rd gd vad st [])) H := hP
            have hD : va_D A ((xCx cT zb tp mp (ra (xpk (xs (i + (1 : Int32)).toNatClampNeg))) ra rb (va_up rf (xs (i + (1 : Int32)).toNatClampNeg).toNatClampNeg (some (ra 8))) (kP (kT (kR k o104.2.2.2.2.1 o104.2.2.2.2.2.1 o104.2.2.2.2.2.2.1) 2 o104.2.1 o104.2.2.1 o104.2.2.2.1) (kpl k) o104.2.2.2.2.2.2.2) ov) ++ xT cT ra rb (kP (kT (kR k o104.2.2.2.2.1 o104.2.2.2.2.2.1 o104.2.2.2.2.2.2.1) 2 o104.2.1 o104.2.2.1 o104.2.2.2.1) (kpl k) o104.2.2.2.2.2.2.2) (xMw cT aM ad rd gd vad st [])) := hD
            obtain ⟨hP, hD⟩ := xT_sw (xpk8 (xs (i + (1 : Int32)).toNatClampNeg)) hP hD
            have hrf := xsw_rf (xpk8 (xs (i + (1 : Int32)).toNatClampNeg)) hrf
            rw [show va_up rf (xpk (xs (i + (1 : Int32)).toNatClampNeg)) (some (ra 8)) = va_up rf (xs (i + (1 : Int32)).toNatClampNeg).toNatClampNeg (some (ra 8)) from by rw [xpkE hg110]] at hrf
            have hP : va_P D xcl (xGw cT zb tp mp (xsw2 ra (xpk (xs (i + (1 : Int32)).toNatClampNeg))) (xsw2 rb (xpk (xs (i + (1 : Int32)).toNatClampNeg))) (va_up rf (xs (i + (1 : Int32)).toNatClampNeg).toNatClampNeg (some (ra 8))) (kW (kP (kT (kR k o104.2.2.2.2.1 o104.2.2.2.2.2.1 o104.2.2.2.2.2.2.1) 2 o104.2.1 o104.2.2.1 o104.2.2.2.1) (kpl k) o104.2.2.2.2.2.2.2) (xpk (xs (i + (1 : Int32)).toNatClampNeg))) ov (xMw cT aM ad rd gd vad st [])) H := hP
            have hD : va_D A (xGw cT zb tp mp (xsw2 ra (xpk (xs (i + (1 : Int32)).toNatClampNeg))) (xsw2 rb (xpk (xs (i + (1 : Int32)).toNatClampNeg))) (va_up rf (xs (i + (1 : Int32)).toNatClampNeg).toNatClampNeg (some (ra 8))) (kW (kP (kT (kR k o104.2.2.2.2.1 o104.2.2.2.2.2.1 o104.2.2.2.2.2.2.1) 2 o104.2.1 o104.2.2.1 o104.2.2.2.1) (kpl k) o104.2.2.2.2.2.2.2) (xpk (xs (i + (1 : Int32)).toNatClampNeg))) ov (xMw cT aM ad rd gd vad st [])) := hD
            generalize va_up rf (xs (i + (1 : Int32)).toNatClampNeg).toNatClampNeg (some (ra 8)) = rf113 at hP hD hrf
            generalize (xsw2 ra (xpk (xs (i + (1 : Int32)).toNatClampNeg))) = ra111 at hP hD hrf
            generalize (xsw2 rb (xpk (xs (i + (1 : Int32)).toNatClampNeg))) = rb112 at hP hD
            rw [hr9]
            refine W.eq (g2 := F0 m 679 ls [.int o104.1]) rfl ?_
            refine lv_istore (lv' := [(5, .int o104.1), (4, .int i), (3, .ref (zb 15)), (2, .ref aM), (1, .ref (zb 0)), (0, .ref b)]) hx hb dL_law_679 hl (by decide) rfl (fun ls hl => ?_)
            refine lv_aload_n hx hb dL_law_681 rfl (lv_at hl 3 rfl) ?_
            refine lv_aload_n hx hb dL_law_682 rfl (lv_at hl 5 rfl) ?_
            refine lv_iload hx hb dL_law_683 (lv_at hl 1 rfl) ?_
            refine lv_iconst (v := 1) hx hb dL_law_685 (by decide) ?_
            refine lv_iadd hx hb dL_law_686 ?_
            obtain ⟨hg114, hf⟩ := xifn hf
            refine va_sld hx hb hXs hbl hbA hS (i := (i + (1 : Int32))) hg114 dL_law_687 ?_
            refine W.eq (g2 := F0 m 688 ls [.int (xs (i + (1 : Int32)).toNatClampNeg), .ref aM]) rfl ?_
            refine lv_aload_n hx hb dL_law_688 rfl (lv_at hl 5 rfl) ?_
            refine lv_iload hx hb dL_law_689 (lv_at hl 1 rfl) ?_
            refine lv_iconst (v := 2) hx hb dL_law_691 (by decide) ?_
            refine lv_iadd hx hb dL_law_692 ?_
            obtain ⟨hg115, hf⟩ := xifn hf
            refine va_sld hx hb hXs hbl hbA hS (i := (i + (2 : Int32))) hg115 dL_law_693 ?_
            refine W.eq (g2 := F0 m 694 ls [.int (xs (i + (2 : Int32)).toNatClampNeg), .int (xs (i + (1 : Int32)).toNatClampNeg), .ref aM]) rfl ?_
            refine lv_aload_n hx hb dL_law_694 rfl (lv_at hl 5 rfl) ?_
            refine lv_iload hx hb dL_law_695 (lv_at hl 1 rfl) ?_
            refine lv_iconst (v := 3) hx hb dL_law_697 (by decide) ?_
            refine lv_iadd hx hb dL_law_698 ?_
            obtain ⟨hg116, hf⟩ := xifn hf
            refine va_sld hx hb hXs hbl hbA hS (i := (i + (3 : Int32))) hg116 dL_law_699 ?_
            refine W.eq (g2 := F0 m 700 ls [.int (xs (i + (3 : Int32)).toNatClampNeg), .int (xs (i + (2 : Int32)).toNatClampNeg), .int (xs (i + (1 : Int32)).toNatClampNeg), .ref aM]) rfl ?_
            refine lv_aload_n hx hb dL_law_700 rfl (lv_at hl 5 rfl) ?_
            refine lv_iload hx hb dL_law_701 (lv_at hl 1 rfl) ?_
            refine lv_iconst (v := 4) hx hb dL_law_703 (by decide) ?_
            refine lv_iadd hx hb dL_law_704 ?_
            obtain ⟨hg117, hf⟩ := xifn hf
            refine va_sld hx hb hXs hbl hbA hS (i := (i + (4 : Int32))) hg117 dL_law_705 ?_
            refine W.eq (g2 := F0 m 706 ls [.int (xs (i + (4 : Int32)).toNatClampNeg), .int (xs (i + (3 : Int32)).toNatClampNeg), .int (xs (i + (2 : Int32)).toNatClampNeg), .int (xs (i + (1 : Int32)).toNatClampNeg), .ref aM]) rfl ?_
            obtain ⟨o118, hq119, hf⟩ := xbind hf
            obtain ⟨hg120, hf⟩ := xifn hf
            have hm121 : (((wc + 0) + 3) + o118.1) ≤ 601024 ∧ (((wn + 0) + 18) + o118.2.1) ≤ 7293034 := ⟨Nat.le_of_not_lt fun h => hg120 (Or.inl h), Nat.le_of_not_lt fun h => hg120 (Or.inr h)⟩
            obtain ⟨hPc, hDc⟩ := xGw_part hP hD
            have hFc := xm_free hDc hS hA
            refine va_callv (va_runV (C := "ValueBenchModel") (As := [.int (xs (i + (1 : Int32)).toNatClampNeg), .int (xs (i + (2 : Int32)).toNatClampNeg), .int (xs (i + (3 : Int32)).toNatClampNeg), .int (xs (i + (4 : Int32)).toNatClampNeg)]) (rest := []) ⟨hx, hb, hml, hown, htx⟩ (gM_two0 l hl9 D cT aK aV H.size 104 N aM ad rd gd vad st (xs (i + (1 : Int32)).toNatClampNeg) (xs (i + (2 : Int32)).toNatClampNeg) (xs (i + (3 : Int32)).toNatClampNeg) (xs (i + (4 : Int32)).toNatClampNeg) o118 hq119) ⟨callB_of 4 htx (xw_goodC kw_7_127) rfl rfl rfl (htx _ kw_1_5) (htx _ kw_7_124) ⟨by decide, by decide, by decide +kernel⟩ ⟨Nat.le_of_ble_eq_true rfl, Nat.le_of_ble_eq_true rfl⟩, (htx _ kw_7_125), (htx _ kw_7_126)⟩ ⟨xPre_blind, va_recv hK hPc (ci := 5) rfl (q0 := 0) rfl, (fun U hU hW => ⟨rfl, xPre_of hZ hS hFc hPc hDc hK U hU hW⟩)⟩ rfl rfl hl.1 rfl (lv_room (Nat.le_of_ble_eq_true rfl)) dL_law_706 hm121) hS (fun q _ h => hFc q h) hFc (fun u9 t H1 locs ht hvm hr9 hB hz1 hk1 hS => ?_)
            obtain ⟨hP1, hK1, hD1⟩ := hB
            rw [ht] at hP1
            obtain ⟨ad123, gd124, vad125⟩ := u9
            obtain ⟨hP, hD⟩ := xGw_call (M' := (xMw cT aM ad123 rd gd124 vad125 o118.2.2 [])) hP hD hk1 hFc hP1 hD1
            generalize H1 = H at hP hS ⊢
            refine W.eq (g2 := F0 m 709 ls []) rfl ?_
            refine lv_aload_n hx hb dL_law_709 rfl (lv_at hl 3 rfl) ?_
            obtain ⟨o126, hq127, hf⟩ := xbind hf
            obtain ⟨hg128, hf⟩ := xifn hf
            have hm129 : ((((wc + 0) + 3) + o118.1) + 0) ≤ 601024 ∧ ((((wn + 0) + 18) + o118.2.1) + 0) ≤ 7293034 := ⟨Nat.le_of_not_lt fun h => hg128 (Or.inl h), Nat.le_of_not_lt fun h => hg128 (Or.inr h)⟩
            obtain ⟨hPc, hDc⟩ := xGw_part hP hD
            have hFc := xm_free hDc hS hA
            refine va_calli (va_runV (C := "ValueBenchModel") (As := []) (rest := []) ⟨hx, hb, hml, hown, htx⟩ (gM_thrown l hl9 D cT aK aV H.size N aM ad123 rd gd124 vad125 o118.2.2 o126 hq127) ⟨callB_of 0 htx (xw_goodC kw_5_187) rfl rfl rfl (htx _ kw_1_5) (htx _ kw_5_184) ⟨by decide, by decide, by decide +kernel⟩ ⟨Nat.le_of_ble_eq_true rfl, Nat.le_of_ble_eq_true rfl⟩, (htx _ kw_5_185), (htx _ kw_5_186)⟩ ⟨xPre_blind, va_recv hK hPc (ci := 5) rfl (q0 := 0) rfl, (fun U hU hW => ⟨rfl, xPre_of hZ hS hFc hPc hDc hK U hU hW⟩)⟩ rfl rfl hl.1 rfl (lv_room (Nat.le_of_ble_eq_true rfl)) dL_law_710 hm129) hS (fun q _ h => hFc q h) hFc (fun r130 u9 t H1 locs ht hvm hr9 hB hz1 hk1 hS => ?_)
            obtain ⟨hP1, hK1, hD1⟩ := hB
            rw [ht] at hP1
            obtain ⟨hP, hD⟩ := xGw_call (M' := (xMw cT aM ad123 rd gd124 vad125 o118.2.2 [])) hP hD hk1 hFc hP1 hD1
            generalize H1 = H at hP hS ⊢
            rw [hr9]
            refine W.eq (g2 := F0 m 713 ls [.int o126]) rfl ?_
            refine lv_iload hx hb dL_law_713 (lv_at hl 0 rfl) ?_
            refine lv_icmp_eq (tgt := 720) hx hb dL_law_715 (by decide) (fun hc => ?_) (fun hc => ?_)
            · rw [if_pos hc] at hf
              refine lv_goto (tgt := 906) hx hb dL_law_720 (by decide) ?_
              refine lv_iinc (v := (i + 6)) (lv' := [(4, .int (i + 6)), (5, .int o104.1), (3, .ref (zb 15)), (2, .ref aM), (1, .ref (zb 0)), (0, .ref b)]) hx hb dL_law_906 hl (k := 1) rfl rfl (by decide) rfl (fun ls hl => ?_)
              refine lv_goto (tgt := 23) hx hb dL_law_909 (by decide) ?_
              exact ih (i + 6) (kW (kP (kT (kR k o104.2.2.2.2.1 o104.2.2.2.2.2.1 o104.2.2.2.2.2.2.1) 2 o104.2.1 o104.2.2.1 o104.2.2.2.1) (kpl k) o104.2.2.2.2.2.2.2) (xpk (xs (i + (1 : Int32)).toNatClampNeg))) ov o118.2.2 ((((wc + 0) + 3) + o118.1) + 0) ((((wn + 0) + 18) + o118.2.1) + 0) zb tp mp ra111 rb112 rf113 aM ad123 rd gd124 vad125 _ _ ls hf hP hD hS (lv_sub hl [0, 2, 3, 4, 5] rfl) hrf
            · rw [if_neg hc] at hf
              refine lv_iconst (v := 0) hx hb dL_law_718 (by decide) ?_
              exact absurd (Option.some.inj hf) (by decide)
          · rw [if_neg hk108] at hf
            refine va_calli (vx_runSW (As := [.ref (zb 0), .int (xs (i + (1 : Int32)).toNatClampNeg), .int (xs (i + (2 : Int32)).toNatClampNeg), .int (xs (i + (3 : Int32)).toNatClampNeg), .int (xs (i + (4 : Int32)).toNatClampNeg)]) (rest := []) ⟨hx, hb, hml, hown, htx⟩ (gL_twoa_1 l hl9 D cT aK aV H.size 104 N (zb 0) (zb 1) (zb 2) (zb 3) (zb 4) (zb 5) (zb 6) (zb 7) (zb 8) (zb 9) (zb 10) (ra 8) (rb 8) (ra (xpk (xs (i + (3 : Int32)).toNatClampNeg))) (rb (xpk (xs (i + (3 : Int32)).toNatClampNeg))) rf (ra (xpk (xs (i + (1 : Int32)).toNatClampNeg))) (xs (i + (1 : Int32)).toNatClampNeg) (xs (i + (2 : Int32)).toNatClampNeg) (xs (i + (3 : Int32)).toNatClampNeg) (xs (i + (4 : Int32)).toNatClampNeg) (ktb k 0) (ktl k 0) (kto k 0) (ktb k 1) (ktl k 1) (kto k 1) (ktb k 2) (ktl k 2) (kto k 2) (ksa k 0) (ksa k 1) tp (ksa k 2) mp (ksa k 3) (ktt k) (krc k 8) (krz k 8) (kro k 8) (kpl k) (krs k) (krc k (xpk (xs (i + (3 : Int32)).toNatClampNeg))) (krz k (xpk (xs (i + (3 : Int32)).toNatClampNeg))) (kro k (xpk (xs (i + (3 : Int32)).toNatClampNeg))) (xpkR hrf (xs (i + (1 : Int32)).toNatClampNeg)) (xpkR hrf (xs (i + (3 : Int32)).toNatClampNeg)) (by rw [hab]; exact xpkR hrf (xs (i + (4 : Int32)).toNatClampNeg)) o104 hq105 hk108) (xcSW 5 htx (xw_goodC kw_4_139) rfl rfl rfl (htx _ kw_1_0) (htx _ kw_4_137) ⟨by decide, by decide, by decide +kernel⟩ ⟨Nat.le_of_ble_eq_true rfl, Nat.le_of_ble_eq_true rfl⟩ (htx _ kw_4_138)) ⟨xPre_blind, (fun U hU hW => ⟨rfl, xPre_of hZ hS hFc hPc hDc hK U hU hW⟩)⟩ rfl rfl hl.1 rfl (lv_room (Nat.le_of_ble_eq_true rfl)) dL_law_676 hm107) hS (fun q _ h => hFc q h) hFc (fun r119 u9 t H1 locs ht hvm hr9 hB hz1 hk1 hS => ?_)
            obtain ⟨hP1, hK1, hD1⟩ := hB
            rw [ht] at hP1
            obtain ⟨hP, hD⟩ := xjnC (X := (xCx cT zb tp mp (ra 8) ra rb rf k ov)) (X' := (xCx cT zb tp mp (ra 8) ra rb rf (kP (kT (kR k o104.2.2.2.2.1 o104.2.2.2.2.2.1 o104.2.2.2.2.2.2.1) 2 o104.2.1 o104.2.2.1 o104.2.2.2.1) (kpl k) o104.2.2.2.2.2.2.2) ov)) (T := (xT cT ra rb k (xMw cT aM ad rd gd vad st []))) (wt := [((ra (xpk (xs (i + (3 : Int32)).toNatClampNeg))), .inr (2, [.ref (rb (xpk (xs (i + (3 : Int32)).toNatClampNeg))), .int (krz k (xpk (xs (i + (3 : Int32)).toNatClampNeg))), .int (kro k (xpk (xs (i + (3 : Int32)).toNatClampNeg)))])), ((rb (xpk (xs (i + (3 : Int32)).toNatClampNeg))), .inl (cT 2, 4096, .inr (.inl (krc k (xpk (xs (i + (3 : Int32)).toNatClampNeg))))))]) hP hD [16 + (xpk (xs (i + (3 : Int32)).toNatClampNeg)), 24 + (xpk (xs (i + (3 : Int32)).toNatClampNeg))] false rfl rfl xge1 (xnd1 _ (xpk8 _) false).2 (xit1 rfl (xpk8 _)) hCc hk1 hFc hP1 hD1 rfl rfl rfl
            rw [← xT_kR (f := o104.2.2.2.2.1) (n := o104.2.2.2.2.2.1) (v := o104.2.2.2.2.2.2.1)] at hP hD
            generalize H1 = H at hP hS ⊢
            have hP : va_P D xcl (xGw cT zb tp mp ra rb rf (kP (kT (kR k o104.2.2.2.2.1 o104.2.2.2.2.2.1 o104.2.2.2.2.2.2.1) 2 o104.2.1 o104.2.2.1 o104.2.2.2.1) (kpl k) o104.2.2.2.2.2.2.2) ov (xMw cT aM ad rd gd vad st [])) H := hP
            have hD : va_D A (xGw cT zb tp mp ra rb rf (kP (kT (kR k o104.2.2.2.2.1 o104.2.2.2.2.2.1 o104.2.2.2.2.2.2.1) 2 o104.2.1 o104.2.2.1 o104.2.2.2.1) (kpl k) o104.2.2.2.2.2.2.2) ov (xMw cT aM ad rd gd vad st [])) := hD
            rw [hr9]
            refine W.eq (g2 := F0 m 679 ls [.int o104.1]) rfl ?_
            refine lv_istore (lv' := [(5, .int o104.1), (4, .int i), (3, .ref (zb 15)), (2, .ref aM), (1, .ref (zb 0)), (0, .ref b)]) hx hb dL_law_679 hl (by decide) rfl (fun ls hl => ?_)
            refine lv_aload_n hx hb dL_law_681 rfl (lv_at hl 3 rfl) ?_
            refine lv_aload_n hx hb dL_law_682 rfl (lv_at hl 5 rfl) ?_
            refine lv_iload hx hb dL_law_683 (lv_at hl 1 rfl) ?_
            refine lv_iconst (v := 1) hx hb dL_law_685 (by decide) ?_
            refine lv_iadd hx hb dL_law_686 ?_
            obtain ⟨hg120, hf⟩ := xifn hf
            refine va_sld hx hb hXs hbl hbA hS (i := (i + (1 : Int32))) hg120 dL_law_687 ?_
            refine W.eq (g2 := F0 m 688 ls [.int (xs (i + (1 : Int32)).toNatClampNeg), .ref aM]) rfl ?_
            refine lv_aload_n hx hb dL_law_688 rfl (lv_at hl 5 rfl) ?_
            refine lv_iload hx hb dL_law_689 (lv_at hl 1 rfl) ?_
            refine lv_iconst (v := 2) hx hb dL_law_691 (by decide) ?_
            refine lv_iadd hx hb dL_law_692 ?_
            obtain ⟨hg121, hf⟩ := xifn hf
            refine va_sld hx hb hXs hbl hbA hS (i := (i + (2 : Int32))) hg121 dL_law_693 ?_
            refine W.eq (g2 := F0 m 694 ls [.int (xs (i + (2 : Int32)).toNatClampNeg), .int (xs (i + (1 : Int32)).toNatClampNeg), .ref aM]) rfl ?_
            refine lv_aload_n hx hb dL_law_694 rfl (lv_at hl 5 rfl) ?_
            refine lv_iload hx hb dL_law_695 (lv_at hl 1 rfl) ?_
            refine lv_iconst (v := 3) hx hb dL_law_697 (by decide) ?_
            refine lv_iadd hx hb dL_law_698 ?_
            obtain ⟨hg122, hf⟩ := xifn hf
            refine va_sld hx hb hXs hbl hbA hS (i := (i + (3 : Int32))) hg122 dL_law_699 ?_
            refine W.eq (g2 := F0 m 700 ls [.int (xs (i + (3 : Int32)).toNatClampNeg), .int (xs (i + (2 : Int32)).toNatClampNeg), .int (xs (i + (1 : Int32)).toNatClampNeg), .ref aM]) rfl ?_
            refine lv_aload_n hx hb dL_law_700 rfl (lv_at hl 5 rfl) ?_
            refine lv_iload hx hb dL_law_701 (lv_at hl 1 rfl) ?_
            refine lv_iconst (v := 4) hx hb dL_law_703 (by decide) ?_
            refine lv_iadd hx hb dL_law_704 ?_
            obtain ⟨hg123, hf⟩ := xifn hf
            refine va_sld hx hb hXs hbl hbA hS (i := (i + (4 : Int32))) hg123 dL_law_705 ?_
            refine W.eq (g2 := F0 m 706 ls [.int (xs (i + (4 : Int32)).toNatClampNeg), .int (xs (i + (3 : Int32)).toNatClampNeg), .int (xs (i + (2 : Int32)).toNatClampNeg), .int (xs (i + (1 : Int32)).toNatClampNeg), .ref aM]) rfl ?_
            obtain ⟨o124, hq125, hf⟩ := xbind hf
            obtain ⟨hg126, hf⟩ := xifn hf
            have hm127 : (((wc + 0) + 3) + o124.1) ≤ 601024 ∧ (((wn + 0) + 18) + o124.2.1) ≤ 7293034 := ⟨Nat.le_of_not_lt fun h => hg126 (Or.inl h), Nat.le_of_not_lt fun h => hg126 (Or.inr h)⟩
            obtain ⟨hPc, hDc⟩ := xGw_part hP hD
            have hFc := xm_free hDc hS hA
            refine va_callv (va_runV (C := "ValueBenchModel") (As := [.int (xs (i + (1 : Int32)).toNatClampNeg), .int (xs (i + (2 : Int32)).toNatClampNeg), .int (xs (i + (3 : Int32)).toNatClampNeg), .int (xs (i + (4 : Int32)).toNatClampNeg)]) (rest := []) ⟨hx, hb, hml, hown, htx⟩ (gM_two0 l hl9 D cT aK aV H.size 104 N aM ad rd gd vad st (xs (i + (1 : Int32)).toNatClampNeg) (xs (i + (2 : Int32)).toNatClampNeg) (xs (i + (3 : Int32)).toNatClampNeg) (xs (i + (4 : Int32)).toNatClampNeg) o124 hq125) ⟨callB_of 4 htx (xw_goodC kw_7_127) rfl rfl rfl (htx _ kw_1_5) (htx _ kw_7_124) ⟨by decide, by decide, by decide +kernel⟩ ⟨Nat.le_of_ble_eq_true rfl, Nat.le_of_ble_eq_true rfl⟩, (htx _ kw_7_125), (htx _ kw_7_126)⟩ ⟨xPre_blind, va_recv hK hPc (ci := 5) rfl (q0 := 0) rfl, (fun U hU hW => ⟨rfl, xPre_of hZ hS hFc hPc hDc hK U hU hW⟩)⟩ rfl rfl hl.1 rfl (lv_room (Nat.le_of_ble_eq_true rfl)) dL_law_706 hm127) hS (fun q _ h => hFc q h) hFc (fun u9 t H1 locs ht hvm hr9 hB hz1 hk1 hS => ?_)
            obtain ⟨hP1, hK1, hD1⟩ := hB
            rw [ht] at hP1
            obtain ⟨ad129, gd130, vad131⟩ := u9
            obtain ⟨hP, hD⟩ := xGw_call (M' := (xMw cT aM ad129 rd gd130 vad131 o124.2.2 [])) hP hD hk1 hFc hP1 hD1
            generalize H1 = H at hP hS ⊢
            refine W.eq (g2 := F0 m 709 ls []) rfl ?_
            refine lv_aload_n hx hb dL_law_709 rfl (lv_at hl 3 rfl) ?_
            obtain ⟨o132, hq133, hf⟩ := xbind hf
            obtain ⟨hg134, hf⟩ := xifn hf
            have hm135 : ((((wc + 0) + 3) + o124.1) + 0) ≤ 601024 ∧ ((((wn + 0) + 18) + o124.2.1) + 0) ≤ 7293034 := ⟨Nat.le_of_not_lt fun h => hg134 (Or.inl h), Nat.le_of_not_lt fun h => hg134 (Or.inr h)⟩
            obtain ⟨hPc, hDc⟩ := xGw_part hP hD
            have hFc := xm_free hDc hS hA
            refine va_calli (va_runV (C := "ValueBenchModel") (As := []) (rest := []) ⟨hx, hb, hml, hown, htx⟩ (gM_thrown l hl9 D cT aK aV H.size N aM ad129 rd gd130 vad131 o124.2.2 o132 hq133) ⟨callB_of 0 htx (xw_goodC kw_5_187) rfl rfl rfl (htx _ kw_1_5) (htx _ kw_5_184) ⟨by decide, by decide, by decide +kernel⟩ ⟨Nat.le_of_ble_eq_true rfl, Nat.le_of_ble_eq_true rfl⟩, (htx _ kw_5_185), (htx _ kw_5_186)⟩ ⟨xPre_blind, va_recv hK hPc (ci := 5) rfl (q0 := 0) rfl, (fun U hU hW => ⟨rfl, xPre_of hZ hS hFc hPc hDc hK U hU hW⟩)⟩ rfl rfl hl.1 rfl (lv_room (Nat.le_of_ble_eq_true rfl)) dL_law_710 hm135) hS (fun q _ h => hFc q h) hFc (fun r136 u9 t H1 locs ht hvm hr9 hB hz1 hk1 hS => ?_)
            obtain ⟨hP1, hK1, hD1⟩ := hB
            rw [ht] at hP1
            obtain ⟨hP, hD⟩ := xGw_call (M' := (xMw cT aM ad129 rd gd130 vad131 o124.2.2 [])) hP hD hk1 hFc hP1 hD1
            generalize H1 = H at hP hS ⊢
            rw [hr9]
            refine W.eq (g2 := F0 m 713 ls [.int o132]) rfl ?_
            refine lv_iload hx hb dL_law_713 (lv_at hl 0 rfl) ?_
            refine lv_icmp_eq (tgt := 720) hx hb dL_law_715 (by decide) (fun hc => ?_) (fun hc => ?_)
            · rw [if_pos hc] at hf
              refine lv_goto (tgt := 906) hx hb dL_law_720 (by decide) ?_
              refine lv_iinc (v := (i + 6)) (lv' := [(4, .int (i + 6)), (5, .int o104.1), (3, .ref (zb 15)), (2, .ref aM), (1, .ref (zb 0)), (0, .ref b)]) hx hb dL_law_906 hl (k := 1) rfl rfl (by decide) rfl (fun ls hl => ?_)
              refine lv_goto (tgt := 23) hx hb dL_law_909 (by decide) ?_
              exact ih (i + 6) (kP (kT (kR k o104.2.2.2.2.1 o104.2.2.2.2.2.1 o104.2.2.2.2.2.2.1) 2 o104.2.1 o104.2.2.1 o104.2.2.2.1) (kpl k) o104.2.2.2.2.2.2.2) ov o124.2.2 ((((wc + 0) + 3) + o124.1) + 0) ((((wn + 0) + 18) + o124.2.1) + 0) zb tp mp ra rb rf aM ad129 rd gd130 vad131 _ _ ls hf hP hD hS (lv_sub hl [0, 2, 3, 4, 5] rfl) hrf
            · rw [if_neg hc] at hf
              refine lv_iconst (v := 0) hx hb dL_law_718 (by decide) ?_
              exact absurd (Option.some.inj hf) (by decide)
        · rw [if_neg hab] at hf
          obtain ⟨o124, hq125, hf⟩ := xbind hf
          obtain ⟨hg126, hf⟩ := xifn hf
          have hm127 : ((wc + 0) + 3) ≤ 601024 ∧ ((wn + 0) + 18) ≤ 7293034 := ⟨Nat.le_of_not_lt fun h => hg126 (Or.inl h), Nat.le_of_not_lt fun h => hg126 (Or.inr h)⟩
          obtain ⟨hPc, hDc, hFc, hCc⟩ := xcutC (X := (xCx cT zb tp mp (ra 8) ra rb rf k ov)) (T := (xT cT ra rb k (xMw cT aM ad rd gd vad st []))) (we := [((zb 0), .inr (0, [.ref (zb 1), .ref (zb 3), .ref (zb 5), .ref (zb 7), .ref (zb 8), .ref (ra 8), .int (kpl k), .int (krs k)])), ((zb 1), .inr (1, [.ref (zb 2), .int (ktl k 0), .int (kto k 0)])), ((zb 2), .inl (cT 0, 4096, .inl (ktb k 0))), ((zb 3), .inr (1, [.ref (zb 4), .int (ktl k 1), .int (kto k 1)])), ((zb 4), .inl (cT 0, 4096, .inl (ktb k 1))), ((zb 5), .inr (1, [.ref (zb 6), .int (ktl k 2), .int (kto k 2)])), ((zb 6), .inl (cT 0, 4096, .inl (ktb k 2))), ((zb 7), .inl (cT 3, 8, .inr (.inr (.inr (.inr rf))))), ((zb 8), .inr (3, [.ref (zb 9), .ref (zb 10), .ref tp, .ref mp, .int (ktt k)])), ((zb 9), .inl (cT 1, 2048, .inl (ksa k 0))), ((zb 10), .inl (cT 1, 2048, .inl (ksa k 1))), (tp, .inl (cT 1, 2048, .inl (ksa k 2))), (mp, .inl (cT 1, 2048, .inl (ksa k 3))), ((ra 8), .inr (2, [.ref (rb 8), .int (krz k 8), .int (kro k 8)])), ((rb 8), .inl (cT 2, 4096, .inr (.inl (krc k 8))))]) (wt := [((ra (xpk (xs (i + (3 : Int32)).toNatClampNeg))), .inr (2, [.ref (rb (xpk (xs (i + (3 : Int32)).toNatClampNeg))), .int (krz k (xpk (xs (i + (3 : Int32)).toNatClampNeg))), .int (kro k (xpk (xs (i + (3 : Int32)).toNatClampNeg)))])), ((rb (xpk (xs (i + (3 : Int32)).toNatClampNeg))), .inl (cT 2, 4096, .inr (.inl (krc k (xpk (xs (i + (3 : Int32)).toNatClampNeg)))))), ((ra (xpk (xs (i + (4 : Int32)).toNatClampNeg))), .inr (2, [.ref (rb (xpk (xs (i + (4 : Int32)).toNatClampNeg))), .int (krz k (xpk (xs (i + (4 : Int32)).toNatClampNeg))), .int (kro k (xpk (xs (i + (4 : Int32)).toNatClampNeg)))])), ((rb (xpk (xs (i + (4 : Int32)).toNatClampNeg))), .inl (cT 2, 4096, .inr (.inl (krc k (xpk (xs (i + (4 : Int32)).toNatClampNeg))))))]) (wo := []) (wc := [((zb 0), .inr (0, [.ref (zb 1), .ref (zb 3), .ref (zb 5), .ref (zb 7), .ref (zb 8), .ref (ra 8), .int (kpl k), .int (krs k)])), ((zb 1), .inr (1, [.ref (zb 2), .int (ktl k 0), .int (kto k 0)])), ((zb 2), .inl (cT 0, 4096, .inl (ktb k 0))), ((zb 3), .inr (1, [.ref (zb 4), .int (ktl k 1), .int (kto k 1)])), ((zb 4), .inl (cT 0, 4096, .inl (ktb k 1))), ((zb 5), .inr (1, [.ref (zb 6), .int (ktl k 2), .int (kto k 2)])), ((zb 6), .inl (cT 0, 4096, .inl (ktb k 2))), ((zb 7), .inl (cT 3, 8, .inr (.inr (.inr (.inr rf))))), ((zb 8), .inr (3, [.ref (zb 9), .ref (zb 10), .ref tp, .ref mp, .int (ktt k)])), ((zb 9), .inl (cT 1, 2048, .inl (ksa k 0))), ((zb 10), .inl (cT 1, 2048, .inl (ksa k 1))), (tp, .inl (cT 1, 2048, .inl (ksa k 2))), (mp, .inl (cT 1, 2048, .inl (ksa k 3))), ((ra 8), .inr (2, [.ref (rb 8), .int (krz k 8), .int (kro k 8)])), ((rb 8), .inl (cT 2, 4096, .inr (.inl (krc k 8)))), ((ra (xpk (xs (i + (3 : Int32)).toNatClampNeg))), .inr (2, [.ref (rb (xpk (xs (i + (3 : Int32)).toNatClampNeg))), .int (krz k (xpk (xs (i + (3 : Int32)).toNatClampNeg))), .int (kro k (xpk (xs (i + (3 : Int32)).toNatClampNeg)))])), ((rb (xpk (xs (i + (3 : Int32)).toNatClampNeg))), .inl (cT 2, 4096, .inr (.inl (krc k (xpk (xs (i + (3 : Int32)).toNatClampNeg)))))), ((ra (xpk (xs (i + (4 : Int32)).toNatClampNeg))), .inr (2, [.ref (rb (xpk (xs (i + (4 : Int32)).toNatClampNeg))), .int (krz k (xpk (xs (i + (4 : Int32)).toNatClampNeg))), .int (kro k (xpk (xs (i + (4 : Int32)).toNatClampNeg)))])), ((rb (xpk (xs (i + (4 : Int32)).toNatClampNeg))), .inl (cT 2, 4096, .inr (.inl (krc k (xpk (xs (i + (4 : Int32)).toNatClampNeg))))))]) hP hD hS hA [16 + (xpk (xs (i + (3 : Int32)).toNatClampNeg)), 24 + (xpk (xs (i + (3 : Int32)).toNatClampNeg)), 16 + (xpk (xs (i + (4 : Int32)).toNatClampNeg)), 24 + (xpk (xs (i + (4 : Int32)).toNatClampNeg))] false rfl (xit2 rfl (xpk8 _) (xpk8 _)) rfl rfl (xnd2 _ (xpk8 _) _ (xpk8 _) hab false).1
          by_cases hk128 : o124.1 = 0
          · rw [if_pos hk128] at hf
            refine va_calli (vx_runSW (As := [.ref (zb 0), .int (xs (i + (1 : Int32)).toNatClampNeg), .int (xs (i + (2 : Int32)).toNatClampNeg), .int (xs (i + (3 : Int32)).toNatClampNeg), .int (xs (i + (4 : Int32)).toNatClampNeg)]) (rest := []) ⟨hx, hb, hml, hown, htx⟩ (gL_two l hl9 D cT aK aV H.size 104 N (zb 0) (zb 1) (zb 2) (zb 3) (zb 4) (zb 5) (zb 6) (zb 7) (zb 8) (zb 9) (zb 10) (ra 8) (rb 8) (ra (xpk (xs (i + (3 : Int32)).toNatClampNeg))) (rb (xpk (xs (i + (3 : Int32)).toNatClampNeg))) (ra (xpk (xs (i + (4 : Int32)).toNatClampNeg))) (rb (xpk (xs (i + (4 : Int32)).toNatClampNeg))) rf (ra (xpk (xs (i + (1 : Int32)).toNatClampNeg))) (xs (i + (1 : Int32)).toNatClampNeg) (xs (i + (2 : Int32)).toNatClampNeg) (xs (i + (3 : Int32)).toNatClampNeg) (xs (i + (4 : Int32)).toNatClampNeg) (ktb k 0) (ktl k 0) (kto k 0) (ktb k 1) (ktl k 1) (kto k 1) (ktb k 2) (ktl k 2) (kto k 2) (ksa k 0) (ksa k 1) tp (ksa k 2) mp (ksa k 3) (ktt k) (krc k 8) (krz k 8) (kro k 8) (kpl k) (krs k) (krc k (xpk (xs (i + (3 : Int32)).toNatClampNeg))) (krz k (xpk (xs (i + (3 : Int32)).toNatClampNeg))) (kro k (xpk (xs (i + (3 : Int32)).toNatClampNeg))) (krc k (xpk (xs (i + (4 : Int32)).toNatClampNeg))) (krz k (xpk (xs (i + (4 : Int32)).toNatClampNeg))) (kro k (xpk (xs (i + (4 : Int32)).toNatClampNeg))) (xpkR hrf (xs (i + (1 : Int32)).toNatClampNeg)) (xpkR hrf (xs (i + (3 : Int32)).toNatClampNeg)) (xpkR hrf (xs (i + (4 : Int32)).toNatClampNeg)) o124 hq125 hk128) (xcSW 5 htx (xw_goodC kw_4_139) rfl rfl rfl (htx _ kw_1_0) (htx _ kw_4_137) ⟨by decide, by decide, by decide +kernel⟩ ⟨Nat.le_of_ble_eq_true rfl, Nat.le_of_ble_eq_true rfl⟩ (htx _ kw_4_138)) ⟨xPre_blind, (fun U hU hW => ⟨rfl, xPre_of hZ hS hFc hPc hDc hK U hU hW⟩)⟩ rfl rfl hl.1 rfl (lv_room (Nat.le_of_ble_eq_true rfl)) dL_law_676 hm127) hS (fun q _ h => hFc q h) hFc (fun r129 u9 t H1 locs ht hvm hr9 hB hz1 hk1 hS => ?_)
            obtain ⟨hP1, hK1, hD1⟩ := hB
            rw [ht] at hP1
            obtain ⟨hP, hD⟩ := xjnC (X := (xCx cT zb tp mp (ra 8) ra rb rf k ov)) (X' := (xCx cT zb tp mp (ra (xpk (xs (i + (1 : Int32)).toNatClampNeg))) ra rb (va_up rf (xs (i + (1 : Int32)).toNatClampNeg).toNatClampNeg (some (ra 8))) (kP (kT (kR k o124.2.2.2.2.1 o124.2.2.2.2.2.1 o124.2.2.2.2.2.2.1) 2 o124.2.1 o124.2.2.1 o124.2.2.2.1) (kpl k) o124.2.2.2.2.2.2.2) ov)) (T := (xT cT ra rb k (xMw cT aM ad rd gd vad st []))) (wt := [((ra (xpk (xs (i + (3 : Int32)).toNatClampNeg))), .inr (2, [.ref (rb (xpk (xs (i + (3 : Int32)).toNatClampNeg))), .int (krz k (xpk (xs (i + (3 : Int32)).toNatClampNeg))), .int (kro k (xpk (xs (i + (3 : Int32)).toNatClampNeg)))])), ((rb (xpk (xs (i + (3 : Int32)).toNatClampNeg))), .inl (cT 2, 4096, .inr (.inl (krc k (xpk (xs (i + (3 : Int32)).toNatClampNeg)))))), ((ra (xpk (xs (i + (4 : Int32)).toNatClampNeg))), .inr (2, [.ref (rb (xpk (xs (i + (4 : Int32)).toNatClampNeg))), .int (krz k (xpk (xs (i + (4 : Int32)).toNatClampNeg))), .int (kro k (xpk (xs (i + (4 : Int32)).toNatClampNeg)))])), ((rb (xpk (xs (i + (4 : Int32)).toNatClampNeg))), .inl (cT 2, 4096, .inr (.inl (krc k (xpk (xs (i + (4 : Int32)).toNatClampNeg))))))]) hP hD [16 + (xpk (xs (i + (3 : Int32)).toNatClampNeg)), 24 + (xpk (xs (i + (3 : Int32)).toNatClampNeg)), 16 + (xpk (xs (i + (4 : Int32)).toNatClampNeg)), 24 + (xpk (xs (i + (4 : Int32)).toNatClampNeg))] false rfl rfl xge2 (xnd2 _ (xpk8 _) _ (xpk8 _) hab false).2 (xit2 rfl (xpk8 _) (xpk8 _)) hCc hk1 hFc hP1 hD1 rfl rfl rfl
            rw [← xT_kR (f := o124.2.2.2.2.1) (n := o124.2.2.2.2.2.1) (v := o124.2.2.2.2.2.2.1)] at hP hD
            generalize H1 = H at hP hS ⊢
            obtain ⟨hg130, hf⟩ := xifn hf
            have hP : va_P D xcl ((xCx cT zb tp mp (ra (xpk (xs (i + (1 : Int32)).toNatClampNeg))) ra rb (va_up rf (xs (i + (1 : Int32)).toNatClampNeg).toNatClampNeg (some (ra 8))) (kP (kT (kR k o124.2.2.2.2.1 o124.2.2.2.2.2.1 o124.2.2.2.2.2.2.1) 2 o124.2.1 o124.2.2.1 o124.2.2.2.1) (kpl k) o124.2.2.2.2.2.2.2) ov) ++ xT cT ra rb (kP (kT (kR k o124.2.2.2.2.1 o124.2.2.2.2.2.1 o124.2.2.2.2.2.2.1) 2 o124.2.1 o124.2.2.1 o124.2.2.2.1) (kpl k) o124.2.2.2.2.2.2.2) (xMw cT aM ad rd gd vad st [])) H := hP
            have hD : va_D A ((xCx cT zb tp mp (ra (xpk (xs (i + (1 : Int32)).toNatClampNeg))) ra rb (va_up rf (xs (i + (1 : Int32)).toNatClampNeg).toNatClampNeg (some (ra 8))) (kP (kT (kR k o124.2.2.2.2.1 o124.2.2.2.2.2.1 o124.2.2.2.2.2.2.1) 2 o124.2.1 o124.2.2.1 o124.2.2.2.1) (kpl k) o124.2.2.2.2.2.2.2) ov) ++ xT cT ra rb (kP (kT (kR k o124.2.2.2.2.1 o124.2.2.2.2.2.1 o124.2.2.2.2.2.2.1) 2 o124.2.1 o124.2.2.1 o124.2.2.2.1) (kpl k) o124.2.2.2.2.2.2.2) (xMw cT aM ad rd gd vad st [])) := hD
            obtain ⟨hP, hD⟩ := xT_sw (xpk8 (xs (i + (1 : Int32)).toNatClampNeg)) hP hD
            have hrf := xsw_rf (xpk8 (xs (i + (1 : Int32)).toNatClampNeg)) hrf
            rw [show va_up rf (xpk (xs (i + (1 : Int32)).toNatClampNeg)) (some (ra 8)) = va_up rf (xs (i + (1 : Int32)).toNatClampNeg).toNatClampNeg (some (ra 8)) from by rw [xpkE hg130]] at hrf
            have hP : va_P D xcl (xGw cT zb tp mp (xsw2 ra (xpk (xs (i + (1 : Int32)).toNatClampNeg))) (xsw2 rb (xpk (xs (i + (1 : Int32)).toNatClampNeg))) (va_up rf (xs (i + (1 : Int32)).toNatClampNeg).toNatClampNeg (some (ra 8))) (kW (kP (kT (kR k o124.2.2.2.2.1 o124.2.2.2.2.2.1 o124.2.2.2.2.2.2.1) 2 o124.2.1 o124.2.2.1 o124.2.2.2.1) (kpl k) o124.2.2.2.2.2.2.2) (xpk (xs (i + (1 : Int32)).toNatClampNeg))) ov (xMw cT aM ad rd gd vad st [])) H := hP
            have hD : va_D A (xGw cT zb tp mp (xsw2 ra (xpk (xs (i + (1 : Int32)).toNatClampNeg))) (xsw2 rb (xpk (xs (i + (1 : Int32)).toNatClampNeg))) (va_up rf (xs (i + (1 : Int32)).toNatClampNeg).toNatClampNeg (some (ra 8))) (kW (kP (kT (kR k o124.2.2.2.2.1 o124.2.2.2.2.2.1 o124.2.2.2.2.2.2.1) 2 o124.2.1 o124.2.2.1 o124.2.2.2.1) (kpl k) o124.2.2.2.2.2.2.2) (xpk (xs (i + (1 : Int32)).toNatClampNeg))) ov (xMw cT aM ad rd gd vad st [])) := hD
            generalize va_up rf (xs (i + (1 : Int32)).toNatClampNeg).toNatClampNeg (some (ra 8)) = rf133 at hP hD hrf
            generalize (xsw2 ra (xpk (xs (i + (1 : Int32)).toNatClampNeg))) = ra131 at hP hD hrf
            generalize (xsw2 rb (xpk (xs (i + (1 : Int32)).toNatClampNeg))) = rb132 at hP hD
            rw [hr9]
            refine W.eq (g2 := F0 m 679 ls [.int o124.1]) rfl ?_
            refine lv_istore (lv' := [(5, .int o124.1), (4, .int i), (3, .ref (zb 15)), (2, .ref aM), (1, .ref (zb 0)), (0, .ref b)]) hx hb dL_law_679 hl (by decide) rfl (fun ls hl => ?_)
            refine lv_aload_n hx hb dL_law_681 rfl (lv_at hl 3 rfl) ?_
            refine lv_aload_n hx hb dL_law_682 rfl (lv_at hl 5 rfl) ?_
            refine lv_iload hx hb dL_law_683 (lv_at hl 1 rfl) ?_
            refine lv_iconst (v := 1) hx hb dL_law_685 (by decide) ?_
            refine lv_iadd hx hb dL_law_686 ?_
            obtain ⟨hg134, hf⟩ := xifn hf
            refine va_sld hx hb hXs hbl hbA hS (i := (i + (1 : Int32))) hg134 dL_law_687 ?_
            refine W.eq (g2 := F0 m 688 ls [.int (xs (i + (1 : Int32)).toNatClampNeg), .ref aM]) rfl ?_
            refine lv_aload_n hx hb dL_law_688 rfl (lv_at hl 5 rfl) ?_
            refine lv_iload hx hb dL_law_689 (lv_at hl 1 rfl) ?_
            refine lv_iconst (v := 2) hx hb dL_law_691 (by decide) ?_
            refine lv_iadd hx hb dL_law_692 ?_
            obtain ⟨hg135, hf⟩ := xifn hf
            refine va_sld hx hb hXs hbl hbA hS (i := (i + (2 : Int32))) hg135 dL_law_693 ?_
            refine W.eq (g2 := F0 m 694 ls [.int (xs (i + (2 : Int32)).toNatClampNeg), .int (xs (i + (1 : Int32)).toNatClampNeg), .ref aM]) rfl ?_
            refine lv_aload_n hx hb dL_law_694 rfl (lv_at hl 5 rfl) ?_
            refine lv_iload hx hb dL_law_695 (lv_at hl 1 rfl) ?_
            refine lv_iconst (v := 3) hx hb dL_law_697 (by decide) ?_
            refine lv_iadd hx hb dL_law_698 ?_
            obtain ⟨hg136, hf⟩ := xifn hf
            refine va_sld hx hb hXs hbl hbA hS (i := (i + (3 : Int32))) hg136 dL_law_699 ?_
            refine W.eq (g2 := F0 m 700 ls [.int (xs (i + (3 : Int32)).toNatClampNeg), .int (xs (i + (2 : Int32)).toNatClampNeg), .int (xs (i + (1 : Int32)).toNatClampNeg), .ref aM]) rfl ?_
            refine lv_aload_n hx hb dL_law_700 rfl (lv_at hl 5 rfl) ?_
            refine lv_iload hx hb dL_law_701 (lv_at hl 1 rfl) ?_
            refine lv_iconst (v := 4) hx hb dL_law_703 (by decide) ?_
            refine lv_iadd hx hb dL_law_704 ?_
            obtain ⟨hg137, hf⟩ := xifn hf
            refine va_sld hx hb hXs hbl hbA hS (i := (i + (4 : Int32))) hg137 dL_law_705 ?_
            refine W.eq (g2 := F0 m 706 ls [.int (xs (i + (4 : Int32)).toNatClampNeg), .int (xs (i + (3 : Int32)).toNatClampNeg), .int (xs (i + (2 : Int32)).toNatClampNeg), .int (xs (i + (1 : Int32)).toNatClampNeg), .ref aM]) rfl ?_
            obtain ⟨o138, hq139, hf⟩ := xbind hf
            obtain ⟨hg140, hf⟩ := xifn hf
            have hm141 : (((wc + 0) + 3) + o138.1) ≤ 601024 ∧ (((wn + 0) + 18) + o138.2.1) ≤ 7293034 := ⟨Nat.le_of_not_lt fun h => hg140 (Or.inl h), Nat.le_of_not_lt fun h => hg140 (Or.inr h)⟩
            obtain ⟨hPc, hDc⟩ := xGw_part hP hD
            have hFc := xm_free hDc hS hA
            refine va_callv (va_runV (C := "ValueBenchModel") (As := [.int (xs (i + (1 : Int32)).toNatClampNeg), .int (xs (i + (2 : Int32)).toNatClampNeg), .int (xs (i + (3 : Int32)).toNatClampNeg), .int (xs (i + (4 : Int32)).toNatClampNeg)]) (rest := []) ⟨hx, hb, hml, hown, htx⟩ (gM_two0 l hl9 D cT aK aV H.size 104 N aM ad rd gd vad st (xs (i + (1 : Int32)).toNatClampNeg) (xs (i + (2 : Int32)).toNatClampNeg) (xs (i + (3 : Int32)).toNatClampNeg) (xs (i + (4 : Int32)).toNatClampNeg) o138 hq139) ⟨callB_of 4 htx (xw_goodC kw_7_127) rfl rfl rfl (htx _ kw_1_5) (htx _ kw_7_124) ⟨by decide, by decide, by decide +kernel⟩ ⟨Nat.le_of_ble_eq_true rfl, Nat.le_of_ble_eq_true rfl⟩, (htx _ kw_7_125), (htx _ kw_7_126)⟩ ⟨xPre_blind, va_recv hK hPc (ci := 5) rfl (q0 := 0) rfl, (fun U hU hW => ⟨rfl, xPre_of hZ hS hFc hPc hDc hK U hU hW⟩)⟩ rfl rfl hl.1 rfl (lv_room (Nat.le_of_ble_eq_true rfl)) dL_law_706 hm141) hS (fun q _ h => hFc q h) hFc (fun u9 t H1 locs ht hvm hr9 hB hz1 hk1 hS => ?_)
            obtain ⟨hP1, hK1, hD1⟩ := hB
            rw [ht] at hP1
            obtain ⟨ad143, gd144, vad145⟩ := u9
            obtain ⟨hP, hD⟩ := xGw_call (M' := (xMw cT aM ad143 rd gd144 vad145 o138.2.2 [])) hP hD hk1 hFc hP1 hD1
            generalize H1 = H at hP hS ⊢
            refine W.eq (g2 := F0 m 709 ls []) rfl ?_
            refine lv_aload_n hx hb dL_law_709 rfl (lv_at hl 3 rfl) ?_
            obtain ⟨o146, hq147, hf⟩ := xbind hf
            obtain ⟨hg148, hf⟩ := xifn hf
            have hm149 : ((((wc + 0) + 3) + o138.1) + 0) ≤ 601024 ∧ ((((wn + 0) + 18) + o138.2.1) + 0) ≤ 7293034 := ⟨Nat.le_of_not_lt fun h => hg148 (Or.inl h), Nat.le_of_not_lt fun h => hg148 (Or.inr h)⟩
            obtain ⟨hPc, hDc⟩ := xGw_part hP hD
            have hFc := xm_free hDc hS hA
            refine va_calli (va_runV (C := "ValueBenchModel") (As := []) (rest := []) ⟨hx, hb, hml, hown, htx⟩ (gM_thrown l hl9 D cT aK aV H.size N aM ad143 rd gd144 vad145 o138.2.2 o146 hq147) ⟨callB_of 0 htx (xw_goodC kw_5_187) rfl rfl rfl (htx _ kw_1_5) (htx _ kw_5_184) ⟨by decide, by decide, by decide +kernel⟩ ⟨Nat.le_of_ble_eq_true rfl, Nat.le_of_ble_eq_true rfl⟩, (htx _ kw_5_185), (htx _ kw_5_186)⟩ ⟨xPre_blind, va_recv hK hPc (ci := 5) rfl (q0 := 0) rfl, (fun U hU hW => ⟨rfl, xPre_of hZ hS hFc hPc hDc hK U hU hW⟩)⟩ rfl rfl hl.1 rfl (lv_room (Nat.le_of_ble_eq_true rfl)) dL_law_710 hm149) hS (fun q _ h => hFc q h) hFc (fun r150 u9 t H1 locs ht hvm hr9 hB hz1 hk1 hS => ?_)
            obtain ⟨hP1, hK1, hD1⟩ := hB
            rw [ht] at hP1
            obtain ⟨hP, hD⟩ := xGw_call (M' := (xMw cT aM ad143 rd gd144 vad145 o138.2.2 [])) hP hD hk1 hFc hP1 hD1
            generalize H1 = H at hP hS ⊢
            rw [hr9]
            refine W.eq (g2 := F0 m 713 ls [.int o146]) rfl ?_
            refine lv_iload hx hb dL_law_713 (lv_at hl 0 rfl) ?_
            refine lv_icmp_eq (tgt := 720) hx hb dL_law_715 (by decide) (fun hc => ?_) (fun hc => ?_)
            · rw [if_pos hc] at hf
              refine lv_goto (tgt := 906) hx hb dL_law_720 (by decide) ?_
              refine lv_iinc (v := (i + 6)) (lv' := [(4, .int (i + 6)), (5, .int o124.1), (3, .ref (zb 15)), (2, .ref aM), (1, .ref (zb 0)), (0, .ref b)]) hx hb dL_law_906 hl (k := 1) rfl rfl (by decide) rfl (fun ls hl => ?_)
              refine lv_goto (tgt := 23) hx hb dL_law_909 (by decide) ?_
              exact ih (i + 6) (kW (kP (kT (kR k o124.2.2.2.2.1 o124.2.2.2.2.2.1 o124.2.2.2.2.2.2.1) 2 o124.2.1 o124.2.2.1 o124.2.2.2.1) (kpl k) o124.2.2.2.2.2.2.2) (xpk (xs (i + (1 : Int32)).toNatClampNeg))) ov o138.2.2 ((((wc + 0) + 3) + o138.1) + 0) ((((wn + 0) + 18) + o138.2.1) + 0) zb tp mp ra131 rb132 rf133 aM ad143 rd gd144 vad145 _ _ ls hf hP hD hS (lv_sub hl [0, 2, 3, 4, 5] rfl) hrf
            · rw [if_neg hc] at hf
              refine lv_iconst (v := 0) hx hb dL_law_718 (by decide) ?_
              exact absurd (Option.some.inj hf) (by decide)
          · rw [if_neg hk128] at hf
            refine va_calli (vx_runSW (As := [.ref (zb 0), .int (xs (i + (1 : Int32)).toNatClampNeg), .int (xs (i + (2 : Int32)).toNatClampNeg), .int (xs (i + (3 : Int32)).toNatClampNeg), .int (xs (i + (4 : Int32)).toNatClampNeg)]) (rest := []) ⟨hx, hb, hml, hown, htx⟩ (gL_two_1 l hl9 D cT aK aV H.size 104 N (zb 0) (zb 1) (zb 2) (zb 3) (zb 4) (zb 5) (zb 6) (zb 7) (zb 8) (zb 9) (zb 10) (ra 8) (rb 8) (ra (xpk (xs (i + (3 : Int32)).toNatClampNeg))) (rb (xpk (xs (i + (3 : Int32)).toNatClampNeg))) (ra (xpk (xs (i + (4 : Int32)).toNatClampNeg))) (rb (xpk (xs (i + (4 : Int32)).toNatClampNeg))) rf (ra (xpk (xs (i + (1 : Int32)).toNatClampNeg))) (xs (i + (1 : Int32)).toNatClampNeg) (xs (i + (2 : Int32)).toNatClampNeg) (xs (i + (3 : Int32)).toNatClampNeg) (xs (i + (4 : Int32)).toNatClampNeg) (ktb k 0) (ktl k 0) (kto k 0) (ktb k 1) (ktl k 1) (kto k 1) (ktb k 2) (ktl k 2) (kto k 2) (ksa k 0) (ksa k 1) tp (ksa k 2) mp (ksa k 3) (ktt k) (krc k 8) (krz k 8) (kro k 8) (kpl k) (krs k) (krc k (xpk (xs (i + (3 : Int32)).toNatClampNeg))) (krz k (xpk (xs (i + (3 : Int32)).toNatClampNeg))) (kro k (xpk (xs (i + (3 : Int32)).toNatClampNeg))) (krc k (xpk (xs (i + (4 : Int32)).toNatClampNeg))) (krz k (xpk (xs (i + (4 : Int32)).toNatClampNeg))) (kro k (xpk (xs (i + (4 : Int32)).toNatClampNeg))) (xpkR hrf (xs (i + (1 : Int32)).toNatClampNeg)) (xpkR hrf (xs (i + (3 : Int32)).toNatClampNeg)) (xpkR hrf (xs (i + (4 : Int32)).toNatClampNeg)) o124 hq125 hk128) (xcSW 5 htx (xw_goodC kw_4_139) rfl rfl rfl (htx _ kw_1_0) (htx _ kw_4_137) ⟨by decide, by decide, by decide +kernel⟩ ⟨Nat.le_of_ble_eq_true rfl, Nat.le_of_ble_eq_true rfl⟩ (htx _ kw_4_138)) ⟨xPre_blind, (fun U hU hW => ⟨rfl, xPre_of hZ hS hFc hPc hDc hK U hU hW⟩)⟩ rfl rfl hl.1 rfl (lv_room (Nat.le_of_ble_eq_true rfl)) dL_law_676 hm127) hS (fun q _ h => hFc q h) hFc (fun r139 u9 t H1 locs ht hvm hr9 hB hz1 hk1 hS => ?_)
            obtain ⟨hP1, hK1, hD1⟩ := hB
            rw [ht] at hP1
            obtain ⟨hP, hD⟩ := xjnC (X := (xCx cT zb tp mp (ra 8) ra rb rf k ov)) (X' := (xCx cT zb tp mp (ra 8) ra rb rf (kP (kT (kR k o124.2.2.2.2.1 o124.2.2.2.2.2.1 o124.2.2.2.2.2.2.1) 2 o124.2.1 o124.2.2.1 o124.2.2.2.1) (kpl k) o124.2.2.2.2.2.2.2) ov)) (T := (xT cT ra rb k (xMw cT aM ad rd gd vad st []))) (wt := [((ra (xpk (xs (i + (3 : Int32)).toNatClampNeg))), .inr (2, [.ref (rb (xpk (xs (i + (3 : Int32)).toNatClampNeg))), .int (krz k (xpk (xs (i + (3 : Int32)).toNatClampNeg))), .int (kro k (xpk (xs (i + (3 : Int32)).toNatClampNeg)))])), ((rb (xpk (xs (i + (3 : Int32)).toNatClampNeg))), .inl (cT 2, 4096, .inr (.inl (krc k (xpk (xs (i + (3 : Int32)).toNatClampNeg)))))), ((ra (xpk (xs (i + (4 : Int32)).toNatClampNeg))), .inr (2, [.ref (rb (xpk (xs (i + (4 : Int32)).toNatClampNeg))), .int (krz k (xpk (xs (i + (4 : Int32)).toNatClampNeg))), .int (kro k (xpk (xs (i + (4 : Int32)).toNatClampNeg)))])), ((rb (xpk (xs (i + (4 : Int32)).toNatClampNeg))), .inl (cT 2, 4096, .inr (.inl (krc k (xpk (xs (i + (4 : Int32)).toNatClampNeg))))))]) hP hD [16 + (xpk (xs (i + (3 : Int32)).toNatClampNeg)), 24 + (xpk (xs (i + (3 : Int32)).toNatClampNeg)), 16 + (xpk (xs (i + (4 : Int32)).toNatClampNeg)), 24 + (xpk (xs (i + (4 : Int32)).toNatClampNeg))] false rfl rfl xge2 (xnd2 _ (xpk8 _) _ (xpk8 _) hab false).2 (xit2 rfl (xpk8 _) (xpk8 _)) hCc hk1 hFc hP1 hD1 rfl rfl rfl
            rw [← xT_kR (f := o124.2.2.2.2.1) (n := o124.2.2.2.2.2.1) (v := o124.2.2.2.2.2.2.1)] at hP hD
            generalize H1 = H at hP hS ⊢
            have hP : va_P D xcl (xGw cT zb tp mp ra rb rf (kP (kT (kR k o124.2.2.2.2.1 o124.2.2.2.2.2.1 o124.2.2.2.2.2.2.1) 2 o124.2.1 o124.2.2.1 o124.2.2.2.1) (kpl k) o124.2.2.2.2.2.2.2) ov (xMw cT aM ad rd gd vad st [])) H := hP
            have hD : va_D A (xGw cT zb tp mp ra rb rf (kP (kT (kR k o124.2.2.2.2.1 o124.2.2.2.2.2.1 o124.2.2.2.2.2.2.1) 2 o124.2.1 o124.2.2.1 o124.2.2.2.1) (kpl k) o124.2.2.2.2.2.2.2) ov (xMw cT aM ad rd gd vad st [])) := hD
            rw [hr9]
            refine W.eq (g2 := F0 m 679 ls [.int o124.1]) rfl ?_
            refine lv_istore (lv' := [(5, .int o124.1), (4, .int i), (3, .ref (zb 15)), (2, .ref aM), (1, .ref (zb 0)), (0, .ref b)]) hx hb dL_law_679 hl (by decide) rfl (fun ls hl => ?_)
            refine lv_aload_n hx hb dL_law_681 rfl (lv_at hl 3 rfl) ?_
            refine lv_aload_n hx hb dL_law_682 rfl (lv_at hl 5 rfl) ?_
            refine lv_iload hx hb dL_law_683 (lv_at hl 1 rfl) ?_
            refine lv_iconst (v := 1) hx hb dL_law_685 (by decide) ?_
            refine lv_iadd hx hb dL_law_686 ?_
            obtain ⟨hg140, hf⟩ := xifn hf
            refine va_sld hx hb hXs hbl hbA hS (i := (i + (1 : Int32))) hg140 dL_law_687 ?_
            refine W.eq (g2 := F0 m 688 ls [.int (xs (i + (1 : Int32)).toNatClampNeg), .ref aM]) rfl ?_
            refine lv_aload_n hx hb dL_law_688 rfl (lv_at hl 5 rfl) ?_
            refine lv_iload hx hb dL_law_689 (lv_at hl 1 rfl) ?_
            refine lv_iconst (v := 2) hx hb dL_law_691 (by decide) ?_
            refine lv_iadd hx hb dL_law_692 ?_
            obtain ⟨hg141, hf⟩ := xifn hf
            refine va_sld hx hb hXs hbl hbA hS (i := (i + (2 : Int32))) hg141 dL_law_693 ?_
            refine W.eq (g2 := F0 m 694 ls [.int (xs (i + (2 : Int32)).toNatClampNeg), .int (xs (i + (1 : Int32)).toNatClampNeg), .ref aM]) rfl ?_
            refine lv_aload_n hx hb dL_law_694 rfl (lv_at hl 5 rfl) ?_
            refine lv_iload hx hb dL_law_695 (lv_at hl 1 rfl) ?_
            refine lv_iconst (v := 3) hx hb dL_law_697 (by decide) ?_
            refine lv_iadd hx hb dL_law_698 ?_
            obtain ⟨hg142, hf⟩ := xifn hf
            refine va_sld hx hb hXs hbl hbA hS (i := (i + (3 : Int32))) hg142 dL_law_699 ?_
            refine W.eq (g2 := F0 m 700 ls [.int (xs (i + (3 : Int32)).toNatClampNeg), .int (xs (i + (2 : Int32)).toNatClampNeg), .int (xs (i + (1 : Int32)).toNatClampNeg), .ref aM]) rfl ?_
            refine lv_aload_n hx hb dL_law_700 rfl (lv_at hl 5 rfl) ?_
            refine lv_iload hx hb dL_law_701 (lv_at hl 1 rfl) ?_
            refine lv_iconst (v := 4) hx hb dL_law_703 (by decide) ?_
            refine lv_iadd hx hb dL_law_704 ?_
            obtain ⟨hg143, hf⟩ := xifn hf
            refine va_sld hx hb hXs hbl hbA hS (i := (i + (4 : Int32))) hg143 dL_law_705 ?_
            refine W.eq (g2 := F0 m 706 ls [.int (xs (i + (4 : Int32)).toNatClampNeg), .int (xs (i + (3 : Int32)).toNatClampNeg), .int (xs (i + (2 : Int32)).toNatClampNeg), .int (xs (i + (1 : Int32)).toNatClampNeg), .ref aM]) rfl ?_
            obtain ⟨o144, hq145, hf⟩ := xbind hf
            obtain ⟨hg146, hf⟩ := xifn hf
            have hm147 : (((wc + 0) + 3) + o144.1) ≤ 601024 ∧ (((wn + 0) + 18) + o144.2.1) ≤ 7293034 := ⟨Nat.le_of_not_lt fun h => hg146 (Or.inl h), Nat.le_of_not_lt fun h => hg146 (Or.inr h)⟩
            obtain ⟨hPc, hDc⟩ := xGw_part hP hD
            have hFc := xm_free hDc hS hA
            refine va_callv (va_runV (C := "ValueBenchModel") (As := [.int (xs (i + (1 : Int32)).toNatClampNeg), .int (xs (i + (2 : Int32)).toNatClampNeg), .int (xs (i + (3 : Int32)).toNatClampNeg), .int (xs (i + (4 : Int32)).toNatClampNeg)]) (rest := []) ⟨hx, hb, hml, hown, htx⟩ (gM_two0 l hl9 D cT aK aV H.size 104 N aM ad rd gd vad st (xs (i + (1 : Int32)).toNatClampNeg) (xs (i + (2 : Int32)).toNatClampNeg) (xs (i + (3 : Int32)).toNatClampNeg) (xs (i + (4 : Int32)).toNatClampNeg) o144 hq145) ⟨callB_of 4 htx (xw_goodC kw_7_127) rfl rfl rfl (htx _ kw_1_5) (htx _ kw_7_124) ⟨by decide, by decide, by decide +kernel⟩ ⟨Nat.le_of_ble_eq_true rfl, Nat.le_of_ble_eq_true rfl⟩, (htx _ kw_7_125), (htx _ kw_7_126)⟩ ⟨xPre_blind, va_recv hK hPc (ci := 5) rfl (q0 := 0) rfl, (fun U hU hW => ⟨rfl, xPre_of hZ hS hFc hPc hDc hK U hU hW⟩)⟩ rfl rfl hl.1 rfl (lv_room (Nat.le_of_ble_eq_true rfl)) dL_law_706 hm147) hS (fun q _ h => hFc q h) hFc (fun u9 t H1 locs ht hvm hr9 hB hz1 hk1 hS => ?_)
            obtain ⟨hP1, hK1, hD1⟩ := hB
            rw [ht] at hP1
            obtain ⟨ad149, gd150, vad151⟩ := u9
            obtain ⟨hP, hD⟩ := xGw_call (M' := (xMw cT aM ad149 rd gd150 vad151 o144.2.2 [])) hP hD hk1 hFc hP1 hD1
            generalize H1 = H at hP hS ⊢
            refine W.eq (g2 := F0 m 709 ls []) rfl ?_
            refine lv_aload_n hx hb dL_law_709 rfl (lv_at hl 3 rfl) ?_
            obtain ⟨o152, hq153, hf⟩ := xbind hf
            obtain ⟨hg154, hf⟩ := xifn hf
            have hm155 : ((((wc + 0) + 3) + o144.1) + 0) ≤ 601024 ∧ ((((wn + 0) + 18) + o144.2.1) + 0) ≤ 7293034 := ⟨Nat.le_of_not_lt fun h => hg154 (Or.inl h), Nat.le_of_not_lt fun h => hg154 (Or.inr h)⟩
            obtain ⟨hPc, hDc⟩ := xGw_part hP hD
            have hFc := xm_free hDc hS hA
            refine va_calli (va_runV (C := "ValueBenchModel") (As := []) (rest := []) ⟨hx, hb, hml, hown, htx⟩ (gM_thrown l hl9 D cT aK aV H.size N aM ad149 rd gd150 vad151 o144.2.2 o152 hq153) ⟨callB_of 0 htx (xw_goodC kw_5_187) rfl rfl rfl (htx _ kw_1_5) (htx _ kw_5_184) ⟨by decide, by decide, by decide +kernel⟩ ⟨Nat.le_of_ble_eq_true rfl, Nat.le_of_ble_eq_true rfl⟩, (htx _ kw_5_185), (htx _ kw_5_186)⟩ ⟨xPre_blind, va_recv hK hPc (ci := 5) rfl (q0 := 0) rfl, (fun U hU hW => ⟨rfl, xPre_of hZ hS hFc hPc hDc hK U hU hW⟩)⟩ rfl rfl hl.1 rfl (lv_room (Nat.le_of_ble_eq_true rfl)) dL_law_710 hm155) hS (fun q _ h => hFc q h) hFc (fun r156 u9 t H1 locs ht hvm hr9 hB hz1 hk1 hS => ?_)
            obtain ⟨hP1, hK1, hD1⟩ := hB
            rw [ht] at hP1
            obtain ⟨hP, hD⟩ := xGw_call (M' := (xMw cT aM ad149 rd gd150 vad151 o144.2.2 [])) hP hD hk1 hFc hP1 hD1
            generalize H1 = H at hP hS ⊢
            rw [hr9]
            refine W.eq (g2 := F0 m 713 ls [.int o152]) rfl ?_
            refine lv_iload hx hb dL_law_713 (lv_at hl 0 rfl) ?_
            refine lv_icmp_eq (tgt := 720) hx hb dL_law_715 (by decide) (fun hc => ?_) (fun hc => ?_)
            · rw [if_pos hc] at hf
              refine lv_goto (tgt := 906) hx hb dL_law_720 (by decide) ?_
              refine lv_iinc (v := (i + 6)) (lv' := [(4, .int (i + 6)), (5, .int o124.1), (3, .ref (zb 15)), (2, .ref aM), (1, .ref (zb 0)), (0, .ref b)]) hx hb dL_law_906 hl (k := 1) rfl rfl (by decide) rfl (fun ls hl => ?_)
              refine lv_goto (tgt := 23) hx hb dL_law_909 (by decide) ?_
              exact ih (i + 6) (kP (kT (kR k o124.2.2.2.2.1 o124.2.2.2.2.2.1 o124.2.2.2.2.2.2.1) 2 o124.2.1 o124.2.2.1 o124.2.2.2.1) (kpl k) o124.2.2.2.2.2.2.2) ov o144.2.2 ((((wc + 0) + 3) + o144.1) + 0) ((((wn + 0) + 18) + o144.2.1) + 0) zb tp mp ra rb rf aM ad149 rd gd150 vad151 _ _ ls hf hP hD hS (lv_sub hl [0, 2, 3, 4, 5] rfl) hrf
            · rw [if_neg hc] at hf
              refine lv_iconst (v := 0) hx hb dL_law_718 (by decide) ?_
              exact absurd (Option.some.inj hf) (by decide)
      rw [if_neg hc99] at hf
      by_cases hc144 : ((xs i.toNatClampNeg) &&& (15 : Int32)) = 9
      · rw [if_pos hc144] at hf
        refine lv_tableIn (off := 683) (tgt := 723) hx hb dL_law_40 (by rw [hc144]; decide) (by rw [hc144]; decide) (by rw [hc144]; decide) (by decide) ?_
        refine lv_aload_n hx hb dL_law_723 rfl (lv_at hl 3 rfl) ?_
        refine lv_aload_n hx hb dL_law_724 rfl (lv_at hl 4 rfl) ?_
        refine lv_iload hx hb dL_law_725 (lv_at hl 0 rfl) ?_
        refine lv_iconst (v := 1) hx hb dL_law_727 (by decide) ?_
        refine lv_iadd hx hb dL_law_728 ?_
        obtain ⟨hg145, hf⟩ := xifn hf
        refine va_sld hx hb hXs hbl hbA hS (i := (i + (1 : Int32))) hg145 dL_law_729 ?_
        refine W.eq (g2 := F0 m 730 ls [.int (xs (i + (1 : Int32)).toNatClampNeg), .ref (zb 0)]) rfl ?_
        refine lv_aload_n hx hb dL_law_730 rfl (lv_at hl 4 rfl) ?_
        refine lv_iload hx hb dL_law_731 (lv_at hl 0 rfl) ?_
        refine lv_iconst (v := 2) hx hb dL_law_733 (by decide) ?_
        refine lv_iadd hx hb dL_law_734 ?_
        obtain ⟨hg146, hf⟩ := xifn hf
        refine va_sld hx hb hXs hbl hbA hS (i := (i + (2 : Int32))) hg146 dL_law_735 ?_
        refine W.eq (g2 := F0 m 736 ls [.int (xs (i + (2 : Int32)).toNatClampNeg), .int (xs (i + (1 : Int32)).toNatClampNeg), .ref (zb 0)]) rfl ?_
        refine lv_aload_n hx hb dL_law_736 rfl (lv_at hl 4 rfl) ?_
        refine lv_iload hx hb dL_law_737 (lv_at hl 0 rfl) ?_
        refine lv_iconst (v := 3) hx hb dL_law_739 (by decide) ?_
        refine lv_iadd hx hb dL_law_740 ?_
        obtain ⟨hg147, hf⟩ := xifn hf
        refine va_sld hx hb hXs hbl hbA hS (i := (i + (3 : Int32))) hg147 dL_law_741 ?_
        refine W.eq (g2 := F0 m 742 ls [.int (xs (i + (3 : Int32)).toNatClampNeg), .int (xs (i + (2 : Int32)).toNatClampNeg), .int (xs (i + (1 : Int32)).toNatClampNeg), .ref (zb 0)]) rfl ?_
        refine lv_aload_n hx hb dL_law_742 rfl (lv_at hl 4 rfl) ?_
        refine lv_iload hx hb dL_law_743 (lv_at hl 0 rfl) ?_
        refine lv_iconst (v := 4) hx hb dL_law_745 (by decide) ?_
        refine lv_iadd hx hb dL_law_746 ?_
        obtain ⟨hg148, hf⟩ := xifn hf
        refine va_sld hx hb hXs hbl hbA hS (i := (i + (4 : Int32))) hg148 dL_law_747 ?_
        refine W.eq (g2 := F0 m 748 ls [.int (xs (i + (4 : Int32)).toNatClampNeg), .int (xs (i + (3 : Int32)).toNatClampNeg), .int (xs (i + (2 : Int32)).toNatClampNeg), .int (xs (i + (1 : Int32)).toNatClampNeg), .ref (zb 0)]) rfl ?_
        by_cases hab : xpk (xs (i + (3 : Int32)).toNatClampNeg) = xpk (xs (i + (4 : Int32)).toNatClampNeg)
        · rw [if_pos hab] at hf
          obtain ⟨o149, hq150, hf⟩ := xbind hf
          obtain ⟨hg151, hf⟩ := xifn hf
          have hm152 : ((wc + 0) + 3) ≤ 601024 ∧ ((wn + 0) + 18) ≤ 7293034 := ⟨Nat.le_of_not_lt fun h => hg151 (Or.inl h), Nat.le_of_not_lt fun h => hg151 (Or.inr h)⟩
          obtain ⟨hPc, hDc, hFc, hCc⟩ := xcutC (X := (xCx cT zb tp mp (ra 8) ra rb rf k ov)) (T := (xT cT ra rb k (xMw cT aM ad rd gd vad st []))) (we := [((zb 0), .inr (0, [.ref (zb 1), .ref (zb 3), .ref (zb 5), .ref (zb 7), .ref (zb 8), .ref (ra 8), .int (kpl k), .int (krs k)])), ((zb 1), .inr (1, [.ref (zb 2), .int (ktl k 0), .int (kto k 0)])), ((zb 2), .inl (cT 0, 4096, .inl (ktb k 0))), ((zb 3), .inr (1, [.ref (zb 4), .int (ktl k 1), .int (kto k 1)])), ((zb 4), .inl (cT 0, 4096, .inl (ktb k 1))), ((zb 5), .inr (1, [.ref (zb 6), .int (ktl k 2), .int (kto k 2)])), ((zb 6), .inl (cT 0, 4096, .inl (ktb k 2))), ((zb 7), .inl (cT 3, 8, .inr (.inr (.inr (.inr rf))))), ((zb 8), .inr (3, [.ref (zb 9), .ref (zb 10), .ref tp, .ref mp, .int (ktt k)])), ((zb 9), .inl (cT 1, 2048, .inl (ksa k 0))), ((zb 10), .inl (cT 1, 2048, .inl (ksa k 1))), (tp, .inl (cT 1, 2048, .inl (ksa k 2))), (mp, .inl (cT 1, 2048, .inl (ksa k 3))), ((ra 8), .inr (2, [.ref (rb 8), .int (krz k 8), .int (kro k 8)])), ((rb 8), .inl (cT 2, 4096, .inr (.inl (krc k 8))))]) (wt := [((ra (xpk (xs (i + (3 : Int32)).toNatClampNeg))), .inr (2, [.ref (rb (xpk (xs (i + (3 : Int32)).toNatClampNeg))), .int (krz k (xpk (xs (i + (3 : Int32)).toNatClampNeg))), .int (kro k (xpk (xs (i + (3 : Int32)).toNatClampNeg)))])), ((rb (xpk (xs (i + (3 : Int32)).toNatClampNeg))), .inl (cT 2, 4096, .inr (.inl (krc k (xpk (xs (i + (3 : Int32)).toNatClampNeg))))))]) (wo := []) (wc := [((zb 0), .inr (0, [.ref (zb 1), .ref (zb 3), .ref (zb 5), .ref (zb 7), .ref (zb 8), .ref (ra 8), .int (kpl k), .int (krs k)])), ((zb 1), .inr (1, [.ref (zb 2), .int (ktl k 0), .int (kto k 0)])), ((zb 2), .inl (cT 0, 4096, .inl (ktb k 0))), ((zb 3), .inr (1, [.ref (zb 4), .int (ktl k 1), .int (kto k 1)])), ((zb 4), .inl (cT 0, 4096, .inl (ktb k 1))), ((zb 5), .inr (1, [.ref (zb 6), .int (ktl k 2), .int (kto k 2)])), ((zb 6), .inl (cT 0, 4096, .inl (ktb k 2))), ((zb 7), .inl (cT 3, 8, .inr (.inr (.inr (.inr rf))))), ((zb 8), .inr (3, [.ref (zb 9), .ref (zb 10), .ref tp, .ref mp, .int (ktt k)])), ((zb 9), .inl (cT 1, 2048, .inl (ksa k 0))), ((zb 10), .inl (cT 1, 2048, .inl (ksa k 1))), (tp, .inl (cT 1, 2048, .inl (ksa k 2))), (mp, .inl (cT 1, 2048, .inl (ksa k 3))), ((ra 8), .inr (2, [.ref (rb 8), .int (krz k 8), .int (kro k 8)])), ((rb 8), .inl (cT 2, 4096, .inr (.inl (krc k 8)))), ((ra (xpk (xs (i + (3 : Int32)).toNatClampNeg))), .inr (2, [.ref (rb (xpk (xs (i + (3 : Int32)).toNatClampNeg))), .int (krz k (xpk (xs (i + (3 : Int32)).toNatClampNeg))), .int (kro k (xpk (xs (i + (3 : Int32)).toNatClampNeg)))])), ((rb (xpk (xs (i + (3 : Int32)).toNatClampNeg))), .inl (cT 2, 4096, .inr (.inl (krc k (xpk (xs (i + (3 : Int32)).toNatClampNeg))))))]) hP hD hS hA [16 + (xpk (xs (i + (3 : Int32)).toNatClampNeg)), 24 + (xpk (xs (i + (3 : Int32)).toNatClampNeg))] false rfl (xit1 rfl (xpk8 _)) rfl rfl (xnd1 _ (xpk8 _) false).1
          by_cases hk153 : o149.1 = 0
          · rw [if_pos hk153] at hf
            refine va_calli (vx_runSW (As := [.ref (zb 0), .int (xs (i + (1 : Int32)).toNatClampNeg), .int (xs (i + (2 : Int32)).toNatClampNeg), .int (xs (i + (3 : Int32)).toNatClampNeg), .int (xs (i + (4 : Int32)).toNatClampNeg)]) (rest := []) ⟨hx, hb, hml, hown, htx⟩ (gL_sorta l hl9 D cT aK aV H.size 104 N (zb 0) (zb 1) (zb 2) (zb 3) (zb 4) (zb 5) (zb 6) (zb 7) (zb 8) (zb 9) (zb 10) (ra 8) (rb 8) (ra (xpk (xs (i + (3 : Int32)).toNatClampNeg))) (rb (xpk (xs (i + (3 : Int32)).toNatClampNeg))) rf (ra (xpk (xs (i + (1 : Int32)).toNatClampNeg))) (xs (i + (1 : Int32)).toNatClampNeg) (xs (i + (2 : Int32)).toNatClampNeg) (xs (i + (3 : Int32)).toNatClampNeg) (xs (i + (4 : Int32)).toNatClampNeg) (ktb k 0) (ktl k 0) (kto k 0) (ktb k 1) (ktl k 1) (kto k 1) (ktb k 2) (ktl k 2) (kto k 2) (ksa k 0) (ksa k 1) tp (ksa k 2) mp (ksa k 3) (ktt k) (krc k 8) (krz k 8) (kro k 8) (kpl k) (krs k) (krc k (xpk (xs (i + (3 : Int32)).toNatClampNeg))) (krz k (xpk (xs (i + (3 : Int32)).toNatClampNeg))) (kro k (xpk (xs (i + (3 : Int32)).toNatClampNeg))) (xpkR hrf (xs (i + (1 : Int32)).toNatClampNeg)) (xpkR hrf (xs (i + (3 : Int32)).toNatClampNeg)) (by rw [hab]; exact xpkR hrf (xs (i + (4 : Int32)).toNatClampNeg)) o149 hq150 hk153) (xcSW 5 htx (xw_goodC kw_5_14) rfl rfl rfl (htx _ kw_1_0) (htx _ kw_5_12) ⟨by decide, by decide, by decide +kernel⟩ ⟨Nat.le_of_ble_eq_true rfl, Nat.le_of_ble_eq_true rfl⟩ (htx _ kw_5_13)) ⟨xPre_blind, (fun U hU hW => ⟨rfl, xPre_of hZ hS hFc hPc hDc hK U hU hW⟩)⟩ rfl rfl hl.1 rfl (lv_room (Nat.le_of_ble_eq_true rfl)) dL_law_748 hm152) hS (fun q _ h => hFc q h) hFc (fun r154 u9 t H1 locs ht hvm hr9 hB hz1 hk1 hS => ?_)
            obtain ⟨hP1, hK1, hD1⟩ := hB
            rw [ht] at hP1
            obtain ⟨hP, hD⟩ := xjnC (X := (xCx cT zb tp mp (ra 8) ra rb rf k ov)) (X' := (xCx cT zb o149.2.2.2.2.2.2.2.1 o149.2.2.2.2.2.2.2.2.2.1 (ra (xpk (xs (i + (1 : Int32)).toNatClampNeg))) ra rb (va_up rf (xs (i + (1 : Int32)).toNatClampNeg).toNatClampNeg (some (ra 8))) (kP (kS (kT (kR k o149.2.2.2.2.2.2.2.2.2.2.2.1 o149.2.2.2.2.2.2.2.2.2.2.2.2.1 o149.2.2.2.2.2.2.2.2.2.2.2.2.2.1) 2 o149.2.1 o149.2.2.1 o149.2.2.2.1) o149.2.2.2.2.1 o149.2.2.2.2.2.1 o149.2.2.2.2.2.2.1 o149.2.2.2.2.2.2.2.2.1 o149.2.2.2.2.2.2.2.2.2.2.1) (kpl k) o149.2.2.2.2.2.2.2.2.2.2.2.2.2.2) ov)) (T := (xT cT ra rb k (xMw cT aM ad rd gd vad st []))) (wt := [((ra (xpk (xs (i + (3 : Int32)).toNatClampNeg))), .inr (2, [.ref (rb (xpk (xs (i + (3 : Int32)).toNatClampNeg))), .int (krz k (xpk (xs (i + (3 : Int32)).toNatClampNeg))), .int (kro k (xpk (xs (i + (3 : Int32)).toNatClampNeg)))])), ((rb (xpk (xs (i + (3 : Int32)).toNatClampNeg))), .inl (cT 2, 4096, .inr (.inl (krc k (xpk (xs (i + (3 : Int32)).toNatClampNeg))))))]) hP hD [16 + (xpk (xs (i + (3 : Int32)).toNatClampNeg)), 24 + (xpk (xs (i + (3 : Int32)).toNatClampNeg))] false rfl rfl xge1 (xnd1 _ (xpk8 _) false).2 (xit1 rfl (xpk8 _)) hCc hk1 hFc hP1 hD1 rfl rfl rfl
            rw [← xT_kR (f := o149.2.2.2.2.2.2.2.2.2.2.2.1) (n := o149.2.2.2.2.2.2.2.2.2.2.2.2.1) (v := o149.2.2.2.2.2.2.2.2.2.2.2.2.2.1)] at hP hD
            generalize H1 = H at hP hS ⊢
            obtain ⟨hg155, hf⟩ := xifn hf
            have hP : va_P D xcl ((xCx cT zb o149.2.2.2.2.2.2.2.1 o149.2.2.2.2.2.2.2.2.2.1 (ra (xpk (xs (i + (1 : Int32)).toNatClampNeg))) ra rb (va_up rf (xs (i + (1 : Int32)).toNatClampNeg).toNatClampNeg (some (ra 8))) (kP (kS (kT (kR k o149.2.2.2.2.2.2.2.2.2.2.2.1 o149.2.2.2.2.2.2.2.2.2.2.2.2.1 o149.2.2.2.2.2.2.2.2.2.2.2.2.2.1) 2 o149.2.1 o149.2.2.1 o149.2.2.2.1) o149.2.2.2.2.1 o149.2.2.2.2.2.1 o149.2.2.2.2.2.2.1 o149.2.2.2.2.2.2.2.2.1 o149.2.2.2.2.2.2.2.2.2.2.1) (kpl k) o149.2.2.2.2.2.2.2.2.2.2.2.2.2.2) ov) ++ xT cT ra rb (kP (kS (kT (kR k o149.2.2.2.2.2.2.2.2.2.2.2.1 o149.2.2.2.2.2.2.2.2.2.2.2.2.1 o149.2.2.2.2.2.2.2.2.2.2.2.2.2.1) 2 o149.2.1 o149.2.2.1 o149.2.2.2.1) o149.2.2.2.2.1 o149.2.2.2.2.2.1 o149.2.2.2.2.2.2.1 o149.2.2.2.2.2.2.2.2.1 o149.2.2.2.2.2.2.2.2.2.2.1) (kpl k) o149.2.2.2.2.2.2.2.2.2.2.2.2.2.2) (xMw cT aM ad rd gd vad st [])) H := hP
            have hD : va_D A ((xCx cT zb o149.2.2.2.2.2.2.2.1 o149.2.2.2.2.2.2.2.2.2.1 (ra (xpk (xs (i + (1 : Int32)).toNatClampNeg))) ra rb (va_up rf (xs (i + (1 : Int32)).toNatClampNeg).toNatClampNeg (some (ra 8))) (kP (kS (kT (kR k o149.2.2.2.2.2.2.2.2.2.2.2.1 o149.2.2.2.2.2.2.2.2.2.2.2.2.1 o149.2.2.2.2.2.2.2.2.2.2.2.2.2.1) 2 o149.2.1 o149.2.2.1 o149.2.2.2.1) o149.2.2.2.2.1 o149.2.2.2.2.2.1 o149.2.2.2.2.2.2.1 o149.2.2.2.2.2.2.2.2.1 o149.2.2.2.2.2.2.2.2.2.2.1) (kpl k) o149.2.2.2.2.2.2.2.2.2.2.2.2.2.2) ov) ++ xT cT ra rb (kP (kS (kT (kR k o149.2.2.2.2.2.2.2.2.2.2.2.1 o149.2.2.2.2.2.2.2.2.2.2.2.2.1 o149.2.2.2.2.2.2.2.2.2.2.2.2.2.1) 2 o149.2.1 o149.2.2.1 o149.2.2.2.1) o149.2.2.2.2.1 o149.2.2.2.2.2.1 o149.2.2.2.2.2.2.1 o149.2.2.2.2.2.2.2.2.1 o149.2.2.2.2.2.2.2.2.2.2.1) (kpl k) o149.2.2.2.2.2.2.2.2.2.2.2.2.2.2) (xMw cT aM ad rd gd vad st [])) := hD
            obtain ⟨hP, hD⟩ := xT_sw (xpk8 (xs (i + (1 : Int32)).toNatClampNeg)) hP hD
            have hrf := xsw_rf (xpk8 (xs (i + (1 : Int32)).toNatClampNeg)) hrf
            rw [show va_up rf (xpk (xs (i + (1 : Int32)).toNatClampNeg)) (some (ra 8)) = va_up rf (xs (i + (1 : Int32)).toNatClampNeg).toNatClampNeg (some (ra 8)) from by rw [xpkE hg155]] at hrf
            have hP : va_P D xcl (xGw cT zb o149.2.2.2.2.2.2.2.1 o149.2.2.2.2.2.2.2.2.2.1 (xsw2 ra (xpk (xs (i + (1 : Int32)).toNatClampNeg))) (xsw2 rb (xpk (xs (i + (1 : Int32)).toNatClampNeg))) (va_up rf (xs (i + (1 : Int32)).toNatClampNeg).toNatClampNeg (some (ra 8))) (kW (kP (kS (kT (kR k o149.2.2.2.2.2.2.2.2.2.2.2.1 o149.2.2.2.2.2.2.2.2.2.2.2.2.1 o149.2.2.2.2.2.2.2.2.2.2.2.2.2.1) 2 o149.2.1 o149.2.2.1 o149.2.2.2.1) o149.2.2.2.2.1 o149.2.2.2.2.2.1 o149.2.2.2.2.2.2.1 o149.2.2.2.2.2.2.2.2.1 o149.2.2.2.2.2.2.2.2.2.2.1) (kpl k) o149.2.2.2.2.2.2.2.2.2.2.2.2.2.2) (xpk (xs (i + (1 : Int32)).toNatClampNeg))) ov (xMw cT aM ad rd gd vad st [])) H := hP
            have hD : va_D A (xGw cT zb o149.2.2.2.2.2.2.2.1 o149.2.2.2.2.2.2.2.2.2.1 (xsw2 ra (xpk (xs (i + (1 : Int32)).toNatClampNeg))) (xsw2 rb (xpk (xs (i + (1 : Int32)).toNatClampNeg))) (va_up rf (xs (i + (1 : Int32)).toNatClampNeg).toNatClampNeg (some (ra 8))) (kW (kP (kS (kT (kR k o149.2.2.2.2.2.2.2.2.2.2.2.1 o149.2.2.2.2.2.2.2.2.2.2.2.2.1 o149.2.2.2.2.2.2.2.2.2.2.2.2.2.1) 2 o149.2.1 o149.2.2.1 o149.2.2.2.1) o149.2.2.2.2.1 o149.2.2.2.2.2.1 o149.2.2.2.2.2.2.1 o149.2.2.2.2.2.2.2.2.1 o149.2.2.2.2.2.2.2.2.2.2.1) (kpl k) o149.2.2.2.2.2.2.2.2.2.2.2.2.2.2) (xpk (xs (i + (1 : Int32)).toNatClampNeg))) ov (xMw cT aM ad rd gd vad st [])) := hD
            generalize va_up rf (xs (i + (1 : Int32)).toNatClampNeg).toNatClampNeg (some (ra 8)) = rf158 at hP hD hrf
            generalize (xsw2 ra (xpk (xs (i + (1 : Int32)).toNatClampNeg))) = ra156 at hP hD hrf
            generalize (xsw2 rb (xpk (xs (i + (1 : Int32)).toNatClampNeg))) = rb157 at hP hD
            rw [hr9]
            refine W.eq (g2 := F0 m 751 ls [.int o149.1]) rfl ?_
            refine lv_istore (lv' := [(5, .int o149.1), (4, .int i), (3, .ref (zb 15)), (2, .ref aM), (1, .ref (zb 0)), (0, .ref b)]) hx hb dL_law_751 hl (by decide) rfl (fun ls hl => ?_)
            refine lv_aload_n hx hb dL_law_753 rfl (lv_at hl 3 rfl) ?_
            refine lv_aload_n hx hb dL_law_754 rfl (lv_at hl 5 rfl) ?_
            refine lv_iload hx hb dL_law_755 (lv_at hl 1 rfl) ?_
            refine lv_iconst (v := 1) hx hb dL_law_757 (by decide) ?_
            refine lv_iadd hx hb dL_law_758 ?_
            obtain ⟨hg159, hf⟩ := xifn hf
            refine va_sld hx hb hXs hbl hbA hS (i := (i + (1 : Int32))) hg159 dL_law_759 ?_
            refine W.eq (g2 := F0 m 760 ls [.int (xs (i + (1 : Int32)).toNatClampNeg), .ref aM]) rfl ?_
            refine lv_aload_n hx hb dL_law_760 rfl (lv_at hl 5 rfl) ?_
            refine lv_iload hx hb dL_law_761 (lv_at hl 1 rfl) ?_
            refine lv_iconst (v := 2) hx hb dL_law_763 (by decide) ?_
            refine lv_iadd hx hb dL_law_764 ?_
            obtain ⟨hg160, hf⟩ := xifn hf
            refine va_sld hx hb hXs hbl hbA hS (i := (i + (2 : Int32))) hg160 dL_law_765 ?_
            refine W.eq (g2 := F0 m 766 ls [.int (xs (i + (2 : Int32)).toNatClampNeg), .int (xs (i + (1 : Int32)).toNatClampNeg), .ref aM]) rfl ?_
            refine lv_aload_n hx hb dL_law_766 rfl (lv_at hl 5 rfl) ?_
            refine lv_iload hx hb dL_law_767 (lv_at hl 1 rfl) ?_
            refine lv_iconst (v := 3) hx hb dL_law_769 (by decide) ?_
            refine lv_iadd hx hb dL_law_770 ?_
            obtain ⟨hg161, hf⟩ := xifn hf
            refine va_sld hx hb hXs hbl hbA hS (i := (i + (3 : Int32))) hg161 dL_law_771 ?_
            refine W.eq (g2 := F0 m 772 ls [.int (xs (i + (3 : Int32)).toNatClampNeg), .int (xs (i + (2 : Int32)).toNatClampNeg), .int (xs (i + (1 : Int32)).toNatClampNeg), .ref aM]) rfl ?_
            refine lv_aload_n hx hb dL_law_772 rfl (lv_at hl 5 rfl) ?_
            refine lv_iload hx hb dL_law_773 (lv_at hl 1 rfl) ?_
            refine lv_iconst (v := 4) hx hb dL_law_775 (by decide) ?_
            refine lv_iadd hx hb dL_law_776 ?_
            obtain ⟨hg162, hf⟩ := xifn hf
            refine va_sld hx hb hXs hbl hbA hS (i := (i + (4 : Int32))) hg162 dL_law_777 ?_
            refine W.eq (g2 := F0 m 778 ls [.int (xs (i + (4 : Int32)).toNatClampNeg), .int (xs (i + (3 : Int32)).toNatClampNeg), .int (xs (i + (2 : Int32)).toNatClampNeg), .int (xs (i + (1 : Int32)).toNatClampNeg), .ref aM]) rfl ?_
            obtain ⟨o163, hq164, hf⟩ := xbind hf
            obtain ⟨hg165, hf⟩ := xifn hf
            have hm166 : (((wc + 0) + 3) + o163.1) ≤ 601024 ∧ (((wn + 0) + 18) + o163.2.1) ≤ 7293034 := ⟨Nat.le_of_not_lt fun h => hg165 (Or.inl h), Nat.le_of_not_lt fun h => hg165 (Or.inr h)⟩
            obtain ⟨hPc, hDc⟩ := xGw_part hP hD
            have hFc := xm_free hDc hS hA
            refine va_callv (va_runV (C := "ValueBenchModel") (As := [.int (xs (i + (1 : Int32)).toNatClampNeg), .int (xs (i + (2 : Int32)).toNatClampNeg), .int (xs (i + (3 : Int32)).toNatClampNeg), .int (xs (i + (4 : Int32)).toNatClampNeg)]) (rest := []) ⟨hx, hb, hml, hown, htx⟩ (gM_sort0 l hl9 D cT aK aV H.size 104 N aM ad rd gd vad st (xs (i + (1 : Int32)).toNatClampNeg) (xs (i + (2 : Int32)).toNatClampNeg) (xs (i + (3 : Int32)).toNatClampNeg) (xs (i + (4 : Int32)).toNatClampNeg) o163 hq164) ⟨callB_of 4 htx (xw_goodC kw_7_131) rfl rfl rfl (htx _ kw_1_5) (htx _ kw_7_128) ⟨by decide, by decide, by decide +kernel⟩ ⟨Nat.le_of_ble_eq_true rfl, Nat.le_of_ble_eq_true rfl⟩, (htx _ kw_7_129), (htx _ kw_7_130)⟩ ⟨xPre_blind, va_recv hK hPc (ci := 5) rfl (q0 := 0) rfl, (fun U hU hW => ⟨rfl, xPre_of hZ hS hFc hPc hDc hK U hU hW⟩)⟩ rfl rfl hl.1 rfl (lv_room (Nat.le_of_ble_eq_true rfl)) dL_law_778 hm166) hS (fun q _ h => hFc q h) hFc (fun u9 t H1 locs ht hvm hr9 hB hz1 hk1 hS => ?_)
            obtain ⟨hP1, hK1, hD1⟩ := hB
            rw [ht] at hP1
            obtain ⟨ad168, gd169, vad170⟩ := u9
            obtain ⟨hP, hD⟩ := xGw_call (M' := (xMw cT aM ad168 rd gd169 vad170 o163.2.2 [])) hP hD hk1 hFc hP1 hD1
            generalize H1 = H at hP hS ⊢
            refine W.eq (g2 := F0 m 781 ls []) rfl ?_
            refine lv_aload_n hx hb dL_law_781 rfl (lv_at hl 3 rfl) ?_
            obtain ⟨o171, hq172, hf⟩ := xbind hf
            obtain ⟨hg173, hf⟩ := xifn hf
            have hm174 : ((((wc + 0) + 3) + o163.1) + 0) ≤ 601024 ∧ ((((wn + 0) + 18) + o163.2.1) + 0) ≤ 7293034 := ⟨Nat.le_of_not_lt fun h => hg173 (Or.inl h), Nat.le_of_not_lt fun h => hg173 (Or.inr h)⟩
            obtain ⟨hPc, hDc⟩ := xGw_part hP hD
            have hFc := xm_free hDc hS hA
            refine va_calli (va_runV (C := "ValueBenchModel") (As := []) (rest := []) ⟨hx, hb, hml, hown, htx⟩ (gM_thrown l hl9 D cT aK aV H.size N aM ad168 rd gd169 vad170 o163.2.2 o171 hq172) ⟨callB_of 0 htx (xw_goodC kw_5_187) rfl rfl rfl (htx _ kw_1_5) (htx _ kw_5_184) ⟨by decide, by decide, by decide +kernel⟩ ⟨Nat.le_of_ble_eq_true rfl, Nat.le_of_ble_eq_true rfl⟩, (htx _ kw_5_185), (htx _ kw_5_186)⟩ ⟨xPre_blind, va_recv hK hPc (ci := 5) rfl (q0 := 0) rfl, (fun U hU hW => ⟨rfl, xPre_of hZ hS hFc hPc hDc hK U hU hW⟩)⟩ rfl rfl hl.1 rfl (lv_room (Nat.le_of_ble_eq_true rfl)) dL_law_782 hm174) hS (fun q _ h => hFc q h) hFc (fun r175 u9 t H1 locs ht hvm hr9 hB hz1 hk1 hS => ?_)
            obtain ⟨hP1, hK1, hD1⟩ := hB
            rw [ht] at hP1
            obtain ⟨hP, hD⟩ := xGw_call (M' := (xMw cT aM ad168 rd gd169 vad170 o163.2.2 [])) hP hD hk1 hFc hP1 hD1
            generalize H1 = H at hP hS ⊢
            rw [hr9]
            refine W.eq (g2 := F0 m 785 ls [.int o171]) rfl ?_
            refine lv_iload hx hb dL_law_785 (lv_at hl 0 rfl) ?_
            refine lv_icmp_eq (tgt := 792) hx hb dL_law_787 (by decide) (fun hc => ?_) (fun hc => ?_)
            · rw [if_pos hc] at hf
              refine lv_goto (tgt := 906) hx hb dL_law_792 (by decide) ?_
              refine lv_iinc (v := (i + 6)) (lv' := [(4, .int (i + 6)), (5, .int o149.1), (3, .ref (zb 15)), (2, .ref aM), (1, .ref (zb 0)), (0, .ref b)]) hx hb dL_law_906 hl (k := 1) rfl rfl (by decide) rfl (fun ls hl => ?_)
              refine lv_goto (tgt := 23) hx hb dL_law_909 (by decide) ?_
              exact ih (i + 6) (kW (kP (kS (kT (kR k o149.2.2.2.2.2.2.2.2.2.2.2.1 o149.2.2.2.2.2.2.2.2.2.2.2.2.1 o149.2.2.2.2.2.2.2.2.2.2.2.2.2.1) 2 o149.2.1 o149.2.2.1 o149.2.2.2.1) o149.2.2.2.2.1 o149.2.2.2.2.2.1 o149.2.2.2.2.2.2.1 o149.2.2.2.2.2.2.2.2.1 o149.2.2.2.2.2.2.2.2.2.2.1) (kpl k) o149.2.2.2.2.2.2.2.2.2.2.2.2.2.2) (xpk (xs (i + (1 : Int32)).toNatClampNeg))) ov o163.2.2 ((((wc + 0) + 3) + o163.1) + 0) ((((wn + 0) + 18) + o163.2.1) + 0) zb o149.2.2.2.2.2.2.2.1 o149.2.2.2.2.2.2.2.2.2.1 ra156 rb157 rf158 aM ad168 rd gd169 vad170 _ _ ls hf hP hD hS (lv_sub hl [0, 2, 3, 4, 5] rfl) hrf
            · rw [if_neg hc] at hf
              refine lv_iconst (v := 0) hx hb dL_law_790 (by decide) ?_
              exact absurd (Option.some.inj hf) (by decide)
          · rw [if_neg hk153] at hf
            refine va_calli (vx_runSW (As := [.ref (zb 0), .int (xs (i + (1 : Int32)).toNatClampNeg), .int (xs (i + (2 : Int32)).toNatClampNeg), .int (xs (i + (3 : Int32)).toNatClampNeg), .int (xs (i + (4 : Int32)).toNatClampNeg)]) (rest := []) ⟨hx, hb, hml, hown, htx⟩ (gL_sorta_1 l hl9 D cT aK aV H.size 104 N (zb 0) (zb 1) (zb 2) (zb 3) (zb 4) (zb 5) (zb 6) (zb 7) (zb 8) (zb 9) (zb 10) (ra 8) (rb 8) (ra (xpk (xs (i + (3 : Int32)).toNatClampNeg))) (rb (xpk (xs (i + (3 : Int32)).toNatClampNeg))) rf (ra (xpk (xs (i + (1 : Int32)).toNatClampNeg))) (xs (i + (1 : Int32)).toNatClampNeg) (xs (i + (2 : Int32)).toNatClampNeg) (xs (i + (3 : Int32)).toNatClampNeg) (xs (i + (4 : Int32)).toNatClampNeg) (ktb k 0) (ktl k 0) (kto k 0) (ktb k 1) (ktl k 1) (kto k 1) (ktb k 2) (ktl k 2) (kto k 2) (ksa k 0) (ksa k 1) tp (ksa k 2) mp (ksa k 3) (ktt k) (krc k 8) (krz k 8) (kro k 8) (kpl k) (krs k) (krc k (xpk (xs (i + (3 : Int32)).toNatClampNeg))) (krz k (xpk (xs (i + (3 : Int32)).toNatClampNeg))) (kro k (xpk (xs (i + (3 : Int32)).toNatClampNeg))) (xpkR hrf (xs (i + (1 : Int32)).toNatClampNeg)) (xpkR hrf (xs (i + (3 : Int32)).toNatClampNeg)) (by rw [hab]; exact xpkR hrf (xs (i + (4 : Int32)).toNatClampNeg)) o149 hq150 hk153) (xcSW 5 htx (xw_goodC kw_5_14) rfl rfl rfl (htx _ kw_1_0) (htx _ kw_5_12) ⟨by decide, by decide, by decide +kernel⟩ ⟨Nat.le_of_ble_eq_true rfl, Nat.le_of_ble_eq_true rfl⟩ (htx _ kw_5_13)) ⟨xPre_blind, (fun U hU hW => ⟨rfl, xPre_of hZ hS hFc hPc hDc hK U hU hW⟩)⟩ rfl rfl hl.1 rfl (lv_room (Nat.le_of_ble_eq_true rfl)) dL_law_748 hm152) hS (fun q _ h => hFc q h) hFc (fun r164 u9 t H1 locs ht hvm hr9 hB hz1 hk1 hS => ?_)
            obtain ⟨hP1, hK1, hD1⟩ := hB
            rw [ht] at hP1
            obtain ⟨hP, hD⟩ := xjnC (X := (xCx cT zb tp mp (ra 8) ra rb rf k ov)) (X' := (xCx cT zb o149.2.2.2.2.2.2.2.1 o149.2.2.2.2.2.2.2.2.2.1 (ra 8) ra rb rf (kP (kS (kT (kR k o149.2.2.2.2.2.2.2.2.2.2.2.1 o149.2.2.2.2.2.2.2.2.2.2.2.2.1 o149.2.2.2.2.2.2.2.2.2.2.2.2.2.1) 2 o149.2.1 o149.2.2.1 o149.2.2.2.1) o149.2.2.2.2.1 o149.2.2.2.2.2.1 o149.2.2.2.2.2.2.1 o149.2.2.2.2.2.2.2.2.1 o149.2.2.2.2.2.2.2.2.2.2.1) (kpl k) o149.2.2.2.2.2.2.2.2.2.2.2.2.2.2) ov)) (T := (xT cT ra rb k (xMw cT aM ad rd gd vad st []))) (wt := [((ra (xpk (xs (i + (3 : Int32)).toNatClampNeg))), .inr (2, [.ref (rb (xpk (xs (i + (3 : Int32)).toNatClampNeg))), .int (krz k (xpk (xs (i + (3 : Int32)).toNatClampNeg))), .int (kro k (xpk (xs (i + (3 : Int32)).toNatClampNeg)))])), ((rb (xpk (xs (i + (3 : Int32)).toNatClampNeg))), .inl (cT 2, 4096, .inr (.inl (krc k (xpk (xs (i + (3 : Int32)).toNatClampNeg))))))]) hP hD [16 + (xpk (xs (i + (3 : Int32)).toNatClampNeg)), 24 + (xpk (xs (i + (3 : Int32)).toNatClampNeg))] false rfl rfl xge1 (xnd1 _ (xpk8 _) false).2 (xit1 rfl (xpk8 _)) hCc hk1 hFc hP1 hD1 rfl rfl rfl
            rw [← xT_kR (f := o149.2.2.2.2.2.2.2.2.2.2.2.1) (n := o149.2.2.2.2.2.2.2.2.2.2.2.2.1) (v := o149.2.2.2.2.2.2.2.2.2.2.2.2.2.1)] at hP hD
            generalize H1 = H at hP hS ⊢
            have hP : va_P D xcl (xGw cT zb o149.2.2.2.2.2.2.2.1 o149.2.2.2.2.2.2.2.2.2.1 ra rb rf (kP (kS (kT (kR k o149.2.2.2.2.2.2.2.2.2.2.2.1 o149.2.2.2.2.2.2.2.2.2.2.2.2.1 o149.2.2.2.2.2.2.2.2.2.2.2.2.2.1) 2 o149.2.1 o149.2.2.1 o149.2.2.2.1) o149.2.2.2.2.1 o149.2.2.2.2.2.1 o149.2.2.2.2.2.2.1 o149.2.2.2.2.2.2.2.2.1 o149.2.2.2.2.2.2.2.2.2.2.1) (kpl k) o149.2.2.2.2.2.2.2.2.2.2.2.2.2.2) ov (xMw cT aM ad rd gd vad st [])) H := hP
            have hD : va_D A (xGw cT zb o149.2.2.2.2.2.2.2.1 o149.2.2.2.2.2.2.2.2.2.1 ra rb rf (kP (kS (kT (kR k o149.2.2.2.2.2.2.2.2.2.2.2.1 o149.2.2.2.2.2.2.2.2.2.2.2.2.1 o149.2.2.2.2.2.2.2.2.2.2.2.2.2.1) 2 o149.2.1 o149.2.2.1 o149.2.2.2.1) o149.2.2.2.2.1 o149.2.2.2.2.2.1 o149.2.2.2.2.2.2.1 o149.2.2.2.2.2.2.2.2.1 o149.2.2.2.2.2.2.2.2.2.2.1) (kpl k) o149.2.2.2.2.2.2.2.2.2.2.2.2.2.2) ov (xMw cT aM ad rd gd vad st [])) := hD
            rw [hr9]
            refine W.eq (g2 := F0 m 751 ls [.int o149.1]) rfl ?_
            refine lv_istore (lv' := [(5, .int o149.1), (4, .int i), (3, .ref (zb 15)), (2, .ref aM), (1, .ref (zb 0)), (0, .ref b)]) hx hb dL_law_751 hl (by decide) rfl (fun ls hl => ?_)
            refine lv_aload_n hx hb dL_law_753 rfl (lv_at hl 3 rfl) ?_
            refine lv_aload_n hx hb dL_law_754 rfl (lv_at hl 5 rfl) ?_
            refine lv_iload hx hb dL_law_755 (lv_at hl 1 rfl) ?_
            refine lv_iconst (v := 1) hx hb dL_law_757 (by decide) ?_
            refine lv_iadd hx hb dL_law_758 ?_
            obtain ⟨hg165, hf⟩ := xifn hf
            refine va_sld hx hb hXs hbl hbA hS (i := (i + (1 : Int32))) hg165 dL_law_759 ?_
            refine W.eq (g2 := F0 m 760 ls [.int (xs (i + (1 : Int32)).toNatClampNeg), .ref aM]) rfl ?_
            refine lv_aload_n hx hb dL_law_760 rfl (lv_at hl 5 rfl) ?_
            refine lv_iload hx hb dL_law_761 (lv_at hl 1 rfl) ?_
            refine lv_iconst (v := 2) hx hb dL_law_763 (by decide) ?_
            refine lv_iadd hx hb dL_law_764 ?_
            obtain ⟨hg166, hf⟩ := xifn hf
            refine va_sld hx hb hXs hbl hbA hS (i := (i + (2 : Int32))) hg166 dL_law_765 ?_
            refine W.eq (g2 := F0 m 766 ls [.int (xs (i + (2 : Int32)).toNatClampNeg), .int (xs (i + (1 : Int32)).toNatClampNeg), .ref aM]) rfl ?_
            refine lv_aload_n hx hb dL_law_766 rfl (lv_at hl 5 rfl) ?_
            refine lv_iload hx hb dL_law_767 (lv_at hl 1 rfl) ?_
            refine lv_iconst (v := 3) hx hb dL_law_769 (by decide) ?_
            refine lv_iadd hx hb dL_law_770 ?_
            obtain ⟨hg167, hf⟩ := xifn hf
            refine va_sld hx hb hXs hbl hbA hS (i := (i + (3 : Int32))) hg167 dL_law_771 ?_
            refine W.eq (g2 := F0 m 772 ls [.int (xs (i + (3 : Int32)).toNatClampNeg), .int (xs (i + (2 : Int32)).toNatClampNeg), .int (xs (i + (1 : Int32)).toNatClampNeg), .ref aM]) rfl ?_
            refine lv_aload_n hx hb dL_law_772 rfl (lv_at hl 5 rfl) ?_
            refine lv_iload hx hb dL_law_773 (lv_at hl 1 rfl) ?_
            refine lv_iconst (v := 4) hx hb dL_law_775 (by decide) ?_
            refine lv_iadd hx hb dL_law_776 ?_
            obtain ⟨hg168, hf⟩ := xifn hf
            refine va_sld hx hb hXs hbl hbA hS (i := (i + (4 : Int32))) hg168 dL_law_777 ?_
            refine W.eq (g2 := F0 m 778 ls [.int (xs (i + (4 : Int32)).toNatClampNeg), .int (xs (i + (3 : Int32)).toNatClampNeg), .int (xs (i + (2 : Int32)).toNatClampNeg), .int (xs (i + (1 : Int32)).toNatClampNeg), .ref aM]) rfl ?_
            obtain ⟨o169, hq170, hf⟩ := xbind hf
            obtain ⟨hg171, hf⟩ := xifn hf
            have hm172 : (((wc + 0) + 3) + o169.1) ≤ 601024 ∧ (((wn + 0) + 18) + o169.2.1) ≤ 7293034 := ⟨Nat.le_of_not_lt fun h => hg171 (Or.inl h), Nat.le_of_not_lt fun h => hg171 (Or.inr h)⟩
            obtain ⟨hPc, hDc⟩ := xGw_part hP hD
            have hFc := xm_free hDc hS hA
            refine va_callv (va_runV (C := "ValueBenchModel") (As := [.int (xs (i + (1 : Int32)).toNatClampNeg), .int (xs (i + (2 : Int32)).toNatClampNeg), .int (xs (i + (3 : Int32)).toNatClampNeg), .int (xs (i + (4 : Int32)).toNatClampNeg)]) (rest := []) ⟨hx, hb, hml, hown, htx⟩ (gM_sort0 l hl9 D cT aK aV H.size 104 N aM ad rd gd vad st (xs (i + (1 : Int32)).toNatClampNeg) (xs (i + (2 : Int32)).toNatClampNeg) (xs (i + (3 : Int32)).toNatClampNeg) (xs (i + (4 : Int32)).toNatClampNeg) o169 hq170) ⟨callB_of 4 htx (xw_goodC kw_7_131) rfl rfl rfl (htx _ kw_1_5) (htx _ kw_7_128) ⟨by decide, by decide, by decide +kernel⟩ ⟨Nat.le_of_ble_eq_true rfl, Nat.le_of_ble_eq_true rfl⟩, (htx _ kw_7_129), (htx _ kw_7_130)⟩ ⟨xPre_blind, va_recv hK hPc (ci := 5) rfl (q0 := 0) rfl, (fun U hU hW => ⟨rfl, xPre_of hZ hS hFc hPc hDc hK U hU hW⟩)⟩ rfl rfl hl.1 rfl (lv_room (Nat.le_of_ble_eq_true rfl)) dL_law_778 hm172) hS (fun q _ h => hFc q h) hFc (fun u9 t H1 locs ht hvm hr9 hB hz1 hk1 hS => ?_)
            obtain ⟨hP1, hK1, hD1⟩ := hB
            rw [ht] at hP1
            obtain ⟨ad174, gd175, vad176⟩ := u9
            obtain ⟨hP, hD⟩ := xGw_call (M' := (xMw cT aM ad174 rd gd175 vad176 o169.2.2 [])) hP hD hk1 hFc hP1 hD1
            generalize H1 = H at hP hS ⊢
            refine W.eq (g2 := F0 m 781 ls []) rfl ?_
            refine lv_aload_n hx hb dL_law_781 rfl (lv_at hl 3 rfl) ?_
            obtain ⟨o177, hq178, hf⟩ := xbind hf
            obtain ⟨hg179, hf⟩ := xifn hf
            have hm180 : ((((wc + 0) + 3) + o169.1) + 0) ≤ 601024 ∧ ((((wn + 0) + 18) + o169.2.1) + 0) ≤ 7293034 := ⟨Nat.le_of_not_lt fun h => hg179 (Or.inl h), Nat.le_of_not_lt fun h => hg179 (Or.inr h)⟩
            obtain ⟨hPc, hDc⟩ := xGw_part hP hD
            have hFc := xm_free hDc hS hA
            refine va_calli (va_runV (C := "ValueBenchModel") (As := []) (rest := []) ⟨hx, hb, hml, hown, htx⟩ (gM_thrown l hl9 D cT aK aV H.size N aM ad174 rd gd175 vad176 o169.2.2 o177 hq178) ⟨callB_of 0 htx (xw_goodC kw_5_187) rfl rfl rfl (htx _ kw_1_5) (htx _ kw_5_184) ⟨by decide, by decide, by decide +kernel⟩ ⟨Nat.le_of_ble_eq_true rfl, Nat.le_of_ble_eq_true rfl⟩, (htx _ kw_5_185), (htx _ kw_5_186)⟩ ⟨xPre_blind, va_recv hK hPc (ci := 5) rfl (q0 := 0) rfl, (fun U hU hW => ⟨rfl, xPre_of hZ hS hFc hPc hDc hK U hU hW⟩)⟩ rfl rfl hl.1 rfl (lv_room (Nat.le_of_ble_eq_true rfl)) dL_law_782 hm180) hS (fun q _ h => hFc q h) hFc (fun r181 u9 t H1 locs ht hvm hr9 hB hz1 hk1 hS => ?_)
            obtain ⟨hP1, hK1, hD1⟩ := hB
            rw [ht] at hP1
            obtain ⟨hP, hD⟩ := xGw_call (M' := (xMw cT aM ad174 rd gd175 vad176 o169.2.2 [])) hP hD hk1 hFc hP1 hD1
            generalize H1 = H at hP hS ⊢
            rw [hr9]
            refine W.eq (g2 := F0 m 785 ls [.int o177]) rfl ?_
            refine lv_iload hx hb dL_law_785 (lv_at hl 0 rfl) ?_
            refine lv_icmp_eq (tgt := 792) hx hb dL_law_787 (by decide) (fun hc => ?_) (fun hc => ?_)
            · rw [if_pos hc] at hf
              refine lv_goto (tgt := 906) hx hb dL_law_792 (by decide) ?_
              refine lv_iinc (v := (i + 6)) (lv' := [(4, .int (i + 6)), (5, .int o149.1), (3, .ref (zb 15)), (2, .ref aM), (1, .ref (zb 0)), (0, .ref b)]) hx hb dL_law_906 hl (k := 1) rfl rfl (by decide) rfl (fun ls hl => ?_)
              refine lv_goto (tgt := 23) hx hb dL_law_909 (by decide) ?_
              exact ih (i + 6) (kP (kS (kT (kR k o149.2.2.2.2.2.2.2.2.2.2.2.1 o149.2.2.2.2.2.2.2.2.2.2.2.2.1 o149.2.2.2.2.2.2.2.2.2.2.2.2.2.1) 2 o149.2.1 o149.2.2.1 o149.2.2.2.1) o149.2.2.2.2.1 o149.2.2.2.2.2.1 o149.2.2.2.2.2.2.1 o149.2.2.2.2.2.2.2.2.1 o149.2.2.2.2.2.2.2.2.2.2.1) (kpl k) o149.2.2.2.2.2.2.2.2.2.2.2.2.2.2) ov o169.2.2 ((((wc + 0) + 3) + o169.1) + 0) ((((wn + 0) + 18) + o169.2.1) + 0) zb o149.2.2.2.2.2.2.2.1 o149.2.2.2.2.2.2.2.2.2.1 ra rb rf aM ad174 rd gd175 vad176 _ _ ls hf hP hD hS (lv_sub hl [0, 2, 3, 4, 5] rfl) hrf
            · rw [if_neg hc] at hf
              refine lv_iconst (v := 0) hx hb dL_law_790 (by decide) ?_
              exact absurd (Option.some.inj hf) (by decide)
        · rw [if_neg hab] at hf
          obtain ⟨o169, hq170, hf⟩ := xbind hf
          obtain ⟨hg171, hf⟩ := xifn hf
          have hm172 : ((wc + 0) + 3) ≤ 601024 ∧ ((wn + 0) + 18) ≤ 7293034 := ⟨Nat.le_of_not_lt fun h => hg171 (Or.inl h), Nat.le_of_not_lt fun h => hg171 (Or.inr h)⟩
          obtain ⟨hPc, hDc, hFc, hCc⟩ := xcutC (X := (xCx cT zb tp mp (ra 8) ra rb rf k ov)) (T := (xT cT ra rb k (xMw cT aM ad rd gd vad st []))) (we := [((zb 0), .inr (0, [.ref (zb 1), .ref (zb 3), .ref (zb 5), .ref (zb 7), .ref (zb 8), .ref (ra 8), .int (kpl k), .int (krs k)])), ((zb 1), .inr (1, [.ref (zb 2), .int (ktl k 0), .int (kto k 0)])), ((zb 2), .inl (cT 0, 4096, .inl (ktb k 0))), ((zb 3), .inr (1, [.ref (zb 4), .int (ktl k 1), .int (kto k 1)])), ((zb 4), .inl (cT 0, 4096, .inl (ktb k 1))), ((zb 5), .inr (1, [.ref (zb 6), .int (ktl k 2), .int (kto k 2)])), ((zb 6), .inl (cT 0, 4096, .inl (ktb k 2))), ((zb 7), .inl (cT 3, 8, .inr (.inr (.inr (.inr rf))))), ((zb 8), .inr (3, [.ref (zb 9), .ref (zb 10), .ref tp, .ref mp, .int (ktt k)])), ((zb 9), .inl (cT 1, 2048, .inl (ksa k 0))), ((zb 10), .inl (cT 1, 2048, .inl (ksa k 1))), (tp, .inl (cT 1, 2048, .inl (ksa k 2))), (mp, .inl (cT 1, 2048, .inl (ksa k 3))), ((ra 8), .inr (2, [.ref (rb 8), .int (krz k 8), .int (kro k 8)])), ((rb 8), .inl (cT 2, 4096, .inr (.inl (krc k 8))))]) (wt := [((ra (xpk (xs (i + (3 : Int32)).toNatClampNeg))), .inr (2, [.ref (rb (xpk (xs (i + (3 : Int32)).toNatClampNeg))), .int (krz k (xpk (xs (i + (3 : Int32)).toNatClampNeg))), .int (kro k (xpk (xs (i + (3 : Int32)).toNatClampNeg)))])), ((rb (xpk (xs (i + (3 : Int32)).toNatClampNeg))), .inl (cT 2, 4096, .inr (.inl (krc k (xpk (xs (i + (3 : Int32)).toNatClampNeg)))))), ((ra (xpk (xs (i + (4 : Int32)).toNatClampNeg))), .inr (2, [.ref (rb (xpk (xs (i + (4 : Int32)).toNatClampNeg))), .int (krz k (xpk (xs (i + (4 : Int32)).toNatClampNeg))), .int (kro k (xpk (xs (i + (4 : Int32)).toNatClampNeg)))])), ((rb (xpk (xs (i + (4 : Int32)).toNatClampNeg))), .inl (cT 2, 4096, .inr (.inl (krc k (xpk (xs (i + (4 : Int32)).toNatClampNeg))))))]) (wo := []) (wc := [((zb 0), .inr (0, [.ref (zb 1), .ref (zb 3), .ref (zb 5), .ref (zb 7), .ref (zb 8), .ref (ra 8), .int (kpl k), .int (krs k)])), ((zb 1), .inr (1, [.ref (zb 2), .int (ktl k 0), .int (kto k 0)])), ((zb 2), .inl (cT 0, 4096, .inl (ktb k 0))), ((zb 3), .inr (1, [.ref (zb 4), .int (ktl k 1), .int (kto k 1)])), ((zb 4), .inl (cT 0, 4096, .inl (ktb k 1))), ((zb 5), .inr (1, [.ref (zb 6), .int (ktl k 2), .int (kto k 2)])), ((zb 6), .inl (cT 0, 4096, .inl (ktb k 2))), ((zb 7), .inl (cT 3, 8, .inr (.inr (.inr (.inr rf))))), ((zb 8), .inr (3, [.ref (zb 9), .ref (zb 10), .ref tp, .ref mp, .int (ktt k)])), ((zb 9), .inl (cT 1, 2048, .inl (ksa k 0))), ((zb 10), .inl (cT 1, 2048, .inl (ksa k 1))), (tp, .inl (cT 1, 2048, .inl (ksa k 2))), (mp, .inl (cT 1, 2048, .inl (ksa k 3))), ((ra 8), .inr (2, [.ref (rb 8), .int (krz k 8), .int (kro k 8)])), ((rb 8), .inl (cT 2, 4096, .inr (.inl (krc k 8)))), ((ra (xpk (xs (i + (3 : Int32)).toNatClampNeg))), .inr (2, [.ref (rb (xpk (xs (i + (3 : Int32)).toNatClampNeg))), .int (krz k (xpk (xs (i + (3 : Int32)).toNatClampNeg))), .int (kro k (xpk (xs (i + (3 : Int32)).toNatClampNeg)))])), ((rb (xpk (xs (i + (3 : Int32)).toNatClampNeg))), .inl (cT 2, 4096, .inr (.inl (krc k (xpk (xs (i + (3 : Int32)).toNatClampNeg)))))), ((ra (xpk (xs (i + (4 : Int32)).toNatClampNeg))), .inr (2, [.ref (rb (xpk (xs (i + (4 : Int32)).toNatClampNeg))), .int (krz k (xpk (xs (i + (4 : Int32)).toNatClampNeg))), .int (kro k (xpk (xs (i + (4 : Int32)).toNatClampNeg)))])), ((rb (xpk (xs (i + (4 : Int32)).toNatClampNeg))), .inl (cT 2, 4096, .inr (.inl (krc k (xpk (xs (i + (4 : Int32)).toNatClampNeg))))))]) hP hD hS hA [16 + (xpk (xs (i + (3 : Int32)).toNatClampNeg)), 24 + (xpk (xs (i + (3 : Int32)).toNatClampNeg)), 16 + (xpk (xs (i + (4 : Int32)).toNatClampNeg)), 24 + (xpk (xs (i + (4 : Int32)).toNatClampNeg))] false rfl (xit2 rfl (xpk8 _) (xpk8 _)) rfl rfl (xnd2 _ (xpk8 _) _ (xpk8 _) hab false).1
          by_cases hk173 : o169.1 = 0
          · rw [if_pos hk173] at hf
            refine va_calli (vx_runSW (As := [.ref (zb 0), .int (xs (i + (1 : Int32)).toNatClampNeg), .int (xs (i + (2 : Int32)).toNatClampNeg), .int (xs (i + (3 : Int32)).toNatClampNeg), .int (xs (i + (4 : Int32)).toNatClampNeg)]) (rest := []) ⟨hx, hb, hml, hown, htx⟩ (gL_sort l hl9 D cT aK aV H.size 104 N (zb 0) (zb 1) (zb 2) (zb 3) (zb 4) (zb 5) (zb 6) (zb 7) (zb 8) (zb 9) (zb 10) (ra 8) (rb 8) (ra (xpk (xs (i + (3 : Int32)).toNatClampNeg))) (rb (xpk (xs (i + (3 : Int32)).toNatClampNeg))) (ra (xpk (xs (i + (4 : Int32)).toNatClampNeg))) (rb (xpk (xs (i + (4 : Int32)).toNatClampNeg))) rf (ra (xpk (xs (i + (1 : Int32)).toNatClampNeg))) (xs (i + (1 : Int32)).toNatClampNeg) (xs (i + (2 : Int32)).toNatClampNeg) (xs (i + (3 : Int32)).toNatClampNeg) (xs (i + (4 : Int32)).toNatClampNeg) (ktb k 0) (ktl k 0) (kto k 0) (ktb k 1) (ktl k 1) (kto k 1) (ktb k 2) (ktl k 2) (kto k 2) (ksa k 0) (ksa k 1) tp (ksa k 2) mp (ksa k 3) (ktt k) (krc k 8) (krz k 8) (kro k 8) (kpl k) (krs k) (krc k (xpk (xs (i + (3 : Int32)).toNatClampNeg))) (krz k (xpk (xs (i + (3 : Int32)).toNatClampNeg))) (kro k (xpk (xs (i + (3 : Int32)).toNatClampNeg))) (krc k (xpk (xs (i + (4 : Int32)).toNatClampNeg))) (krz k (xpk (xs (i + (4 : Int32)).toNatClampNeg))) (kro k (xpk (xs (i + (4 : Int32)).toNatClampNeg))) (xpkR hrf (xs (i + (1 : Int32)).toNatClampNeg)) (xpkR hrf (xs (i + (3 : Int32)).toNatClampNeg)) (xpkR hrf (xs (i + (4 : Int32)).toNatClampNeg)) o169 hq170 hk173) (xcSW 5 htx (xw_goodC kw_5_14) rfl rfl rfl (htx _ kw_1_0) (htx _ kw_5_12) ⟨by decide, by decide, by decide +kernel⟩ ⟨Nat.le_of_ble_eq_true rfl, Nat.le_of_ble_eq_true rfl⟩ (htx _ kw_5_13)) ⟨xPre_blind, (fun U hU hW => ⟨rfl, xPre_of hZ hS hFc hPc hDc hK U hU hW⟩)⟩ rfl rfl hl.1 rfl (lv_room (Nat.le_of_ble_eq_true rfl)) dL_law_748 hm172) hS (fun q _ h => hFc q h) hFc (fun r174 u9 t H1 locs ht hvm hr9 hB hz1 hk1 hS => ?_)
            obtain ⟨hP1, hK1, hD1⟩ := hB
            rw [ht] at hP1
            obtain ⟨hP, hD⟩ := xjnC (X := (xCx cT zb tp mp (ra 8) ra rb rf k ov)) (X' := (xCx cT zb o169.2.2.2.2.2.2.2.1 o169.2.2.2.2.2.2.2.2.2.1 (ra (xpk (xs (i + (1 : Int32)).toNatClampNeg))) ra rb (va_up rf (xs (i + (1 : Int32)).toNatClampNeg).toNatClampNeg (some (ra 8))) (kP (kS (kT (kR k o169.2.2.2.2.2.2.2.2.2.2.2.1 o169.2.2.2.2.2.2.2.2.2.2.2.2.1 o169.2.2.2.2.2.2.2.2.2.2.2.2.2.1) 2 o169.2.1 o169.2.2.1 o169.2.2.2.1) o169.2.2.2.2.1 o169.2.2.2.2.2.1 o169.2.2.2.2.2.2.1 o169.2.2.2.2.2.2.2.2.1 o169.2.2.2.2.2.2.2.2.2.2.1) (kpl k) o169.2.2.2.2.2.2.2.2.2.2.2.2.2.2) ov)) (T := (xT cT ra rb k (xMw cT aM ad rd gd vad st []))) (wt := [((ra (xpk (xs (i + (3 : Int32)).toNatClampNeg))), .inr (2, [.ref (rb (xpk (xs (i + (3 : Int32)).toNatClampNeg))), .int (krz k (xpk (xs (i + (3 : Int32)).toNatClampNeg))), .int (kro k (xpk (xs (i + (3 : Int32)).toNatClampNeg)))])), ((rb (xpk (xs (i + (3 : Int32)).toNatClampNeg))), .inl (cT 2, 4096, .inr (.inl (krc k (xpk (xs (i + (3 : Int32)).toNatClampNeg)))))), ((ra (xpk (xs (i + (4 : Int32)).toNatClampNeg))), .inr (2, [.ref (rb (xpk (xs (i + (4 : Int32)).toNatClampNeg))), .int (krz k (xpk (xs (i + (4 : Int32)).toNatClampNeg))), .int (kro k (xpk (xs (i + (4 : Int32)).toNatClampNeg)))])), ((rb (xpk (xs (i + (4 : Int32)).toNatClampNeg))), .inl (cT 2, 4096, .inr (.inl (krc k (xpk (xs (i + (4 : Int32)).toNatClampNeg))))))]) hP hD [16 + (xpk (xs (i + (3 : Int32)).toNatClampNeg)), 24 + (xpk (xs (i + (3 : Int32)).toNatClampNeg)), 16 + (xpk (xs (i + (4 : Int32)).toNatClampNeg)), 24 + (xpk (xs (i + (4 : Int32)).toNatClampNeg))] false rfl rfl xge2 (xnd2 _ (xpk8 _) _ (xpk8 _) hab false).2 (xit2 rfl (xpk8 _) (xpk8 _)) hCc hk1 hFc hP1 hD1 rfl rfl rfl
            rw [← xT_kR (f := o169.2.2.2.2.2.2.2.2.2.2.2.1) (n := o169.2.2.2.2.2.2.2.2.2.2.2.2.1) (v := o169.2.2.2.2.2.2.2.2.2.2.2.2.2.1)] at hP hD
            generalize H1 = H at hP hS ⊢
            obtain ⟨hg175, hf⟩ := xifn hf
            have hP : va_P D xcl ((xCx cT zb o169.2.2.2.2.2.2.2.1 o169.2.2.2.2.2.2.2.2.2.1 (ra (xpk (xs (i + (1 : Int32)).toNatClampNeg))) ra rb (va_up rf (xs (i + (1 : Int32)).toNatClampNeg).toNatClampNeg (some (ra 8))) (kP (kS (kT (kR k o169.2.2.2.2.2.2.2.2.2.2.2.1 o169.2.2.2.2.2.2.2.2.2.2.2.2.1 o169.2.2.2.2.2.2.2.2.2.2.2.2.2.1) 2 o169.2.1 o169.2.2.1 o169.2.2.2.1) o169.2.2.2.2.1 o169.2.2.2.2.2.1 o169.2.2.2.2.2.2.1 o169.2.2.2.2.2.2.2.2.1 o169.2.2.2.2.2.2.2.2.2.2.1) (kpl k) o169.2.2.2.2.2.2.2.2.2.2.2.2.2.2) ov) ++ xT cT ra rb (kP (kS (kT (kR k o169.2.2.2.2.2.2.2.2.2.2.2.1 o169.2.2.2.2.2.2.2.2.2.2.2.2.1 o169.2.2.2.2.2.2.2.2.2.2.2.2.2.1) 2 o169.2.1 o169.2.2.1 o169.2.2.2.1) o169.2.2.2.2.1 o169.2.2.2.2.2.1 o169.2.2.2.2.2.2.1 o169.2.2.2.2.2.2.2.2.1 o169.2.2.2.2.2.2.2.2.2.2.1) (kpl k) o169.2.2.2.2.2.2.2.2.2.2.2.2.2.2) (xMw cT aM ad rd gd vad st [])) H := hP
            have hD : va_D A ((xCx cT zb o169.2.2.2.2.2.2.2.1 o169.2.2.2.2.2.2.2.2.2.1 (ra (xpk (xs (i + (1 : Int32)).toNatClampNeg))) ra rb (va_up rf (xs (i + (1 : Int32)).toNatClampNeg).toNatClampNeg (some (ra 8))) (kP (kS (kT (kR k o169.2.2.2.2.2.2.2.2.2.2.2.1 o169.2.2.2.2.2.2.2.2.2.2.2.2.1 o169.2.2.2.2.2.2.2.2.2.2.2.2.2.1) 2 o169.2.1 o169.2.2.1 o169.2.2.2.1) o169.2.2.2.2.1 o169.2.2.2.2.2.1 o169.2.2.2.2.2.2.1 o169.2.2.2.2.2.2.2.2.1 o169.2.2.2.2.2.2.2.2.2.2.1) (kpl k) o169.2.2.2.2.2.2.2.2.2.2.2.2.2.2) ov) ++ xT cT ra rb (kP (kS (kT (kR k o169.2.2.2.2.2.2.2.2.2.2.2.1 o169.2.2.2.2.2.2.2.2.2.2.2.2.1 o169.2.2.2.2.2.2.2.2.2.2.2.2.2.1) 2 o169.2.1 o169.2.2.1 o169.2.2.2.1) o169.2.2.2.2.1 o169.2.2.2.2.2.1 o169.2.2.2.2.2.2.1 o169.2.2.2.2.2.2.2.2.1 o169.2.2.2.2.2.2.2.2.2.2.1) (kpl k) o169.2.2.2.2.2.2.2.2.2.2.2.2.2.2) (xMw cT aM ad rd gd vad st [])) := hD
            obtain ⟨hP, hD⟩ := xT_sw (xpk8 (xs (i + (1 : Int32)).toNatClampNeg)) hP hD
            have hrf := xsw_rf (xpk8 (xs (i + (1 : Int32)).toNatClampNeg)) hrf
            rw [show va_up rf (xpk (xs (i + (1 : Int32)).toNatClampNeg)) (some (ra 8)) = va_up rf (xs (i + (1 : Int32)).toNatClampNeg).toNatClampNeg (some (ra 8)) from by rw [xpkE hg175]] at hrf
            have hP : va_P D xcl (xGw cT zb o169.2.2.2.2.2.2.2.1 o169.2.2.2.2.2.2.2.2.2.1 (xsw2 ra (xpk (xs (i + (1 : Int32)).toNatClampNeg))) (xsw2 rb (xpk (xs (i + (1 : Int32)).toNatClampNeg))) (va_up rf (xs (i + (1 : Int32)).toNatClampNeg).toNatClampNeg (some (ra 8))) (kW (kP (kS (kT (kR k o169.2.2.2.2.2.2.2.2.2.2.2.1 o169.2.2.2.2.2.2.2.2.2.2.2.2.1 o169.2.2.2.2.2.2.2.2.2.2.2.2.2.1) 2 o169.2.1 o169.2.2.1 o169.2.2.2.1) o169.2.2.2.2.1 o169.2.2.2.2.2.1 o169.2.2.2.2.2.2.1 o169.2.2.2.2.2.2.2.2.1 o169.2.2.2.2.2.2.2.2.2.2.1) (kpl k) o169.2.2.2.2.2.2.2.2.2.2.2.2.2.2) (xpk (xs (i + (1 : Int32)).toNatClampNeg))) ov (xMw cT aM ad rd gd vad st [])) H := hP
            have hD : va_D A (xGw cT zb o169.2.2.2.2.2.2.2.1 o169.2.2.2.2.2.2.2.2.2.1 (xsw2 ra (xpk (xs (i + (1 : Int32)).toNatClampNeg))) (xsw2 rb (xpk (xs (i + (1 : Int32)).toNatClampNeg))) (va_up rf (xs (i + (1 : Int32)).toNatClampNeg).toNatClampNeg (some (ra 8))) (kW (kP (kS (kT (kR k o169.2.2.2.2.2.2.2.2.2.2.2.1 o169.2.2.2.2.2.2.2.2.2.2.2.2.1 o169.2.2.2.2.2.2.2.2.2.2.2.2.2.1) 2 o169.2.1 o169.2.2.1 o169.2.2.2.1) o169.2.2.2.2.1 o169.2.2.2.2.2.1 o169.2.2.2.2.2.2.1 o169.2.2.2.2.2.2.2.2.1 o169.2.2.2.2.2.2.2.2.2.2.1) (kpl k) o169.2.2.2.2.2.2.2.2.2.2.2.2.2.2) (xpk (xs (i + (1 : Int32)).toNatClampNeg))) ov (xMw cT aM ad rd gd vad st [])) := hD
            generalize va_up rf (xs (i + (1 : Int32)).toNatClampNeg).toNatClampNeg (some (ra 8)) = rf178 at hP hD hrf
            generalize (xsw2 ra (xpk (xs (i + (1 : Int32)).toNatClampNeg))) = ra176 at hP hD hrf
            generalize (xsw2 rb (xpk (xs (i + (1 : Int32)).toNatClampNeg))) = rb177 at hP hD
            rw [hr9]
            refine W.eq (g2 := F0 m 751 ls [.int o169.1]) rfl ?_
            refine lv_istore (lv' := [(5, .int o169.1), (4, .int i), (3, .ref (zb 15)), (2, .ref aM), (1, .ref (zb 0)), (0, .ref b)]) hx hb dL_law_751 hl (by decide) rfl (fun ls hl => ?_)
            refine lv_aload_n hx hb dL_law_753 rfl (lv_at hl 3 rfl) ?_
            refine lv_aload_n hx hb dL_law_754 rfl (lv_at hl 5 rfl) ?_
            refine lv_iload hx hb dL_law_755 (lv_at hl 1 rfl) ?_
            refine lv_iconst (v := 1) hx hb dL_law_757 (by decide) ?_
            refine lv_iadd hx hb dL_law_758 ?_
            obtain ⟨hg179, hf⟩ := xifn hf
            refine va_sld hx hb hXs hbl hbA hS (i := (i + (1 : Int32))) hg179 dL_law_759 ?_
            refine W.eq (g2 := F0 m 760 ls [.int (xs (i + (1 : Int32)).toNatClampNeg), .ref aM]) rfl ?_
            refine lv_aload_n hx hb dL_law_760 rfl (lv_at hl 5 rfl) ?_
            refine lv_iload hx hb dL_law_761 (lv_at hl 1 rfl) ?_
            refine lv_iconst (v := 2) hx hb dL_law_763 (by decide) ?_
            refine lv_iadd hx hb dL_law_764 ?_
            obtain ⟨hg180, hf⟩ := xifn hf
            refine va_sld hx hb hXs hbl hbA hS (i := (i + (2 : Int32))) hg180 dL_law_765 ?_
            refine W.eq (g2 := F0 m 766 ls [.int (xs (i + (2 : Int32)).toNatClampNeg), .int (xs (i + (1 : Int32)).toNatClampNeg), .ref aM]) rfl ?_
            refine lv_aload_n hx hb dL_law_766 rfl (lv_at hl 5 rfl) ?_
            refine lv_iload hx hb dL_law_767 (lv_at hl 1 rfl) ?_
            refine lv_iconst (v := 3) hx hb dL_law_769 (by decide) ?_
            refine lv_iadd hx hb dL_law_770 ?_
            obtain ⟨hg181, hf⟩ := xifn hf
            refine va_sld hx hb hXs hbl hbA hS (i := (i + (3 : Int32))) hg181 dL_law_771 ?_
            refine W.eq (g2 := F0 m 772 ls [.int (xs (i + (3 : Int32)).toNatClampNeg), .int (xs (i + (2 : Int32)).toNatClampNeg), .int (xs (i + (1 : Int32)).toNatClampNeg), .ref aM]) rfl ?_
            refine lv_aload_n hx hb dL_law_772 rfl (lv_at hl 5 rfl) ?_
            refine lv_iload hx hb dL_law_773 (lv_at hl 1 rfl) ?_
            refine lv_iconst (v := 4) hx hb dL_law_775 (by decide) ?_
            refine lv_iadd hx hb dL_law_776 ?_
            obtain ⟨hg182, hf⟩ := xifn hf
            refine va_sld hx hb hXs hbl hbA hS (i := (i + (4 : Int32))) hg182 dL_law_777 ?_
            refine W.eq (g2 := F0 m 778 ls [.int (xs (i + (4 : Int32)).toNatClampNeg), .int (xs (i + (3 : Int32)).toNatClampNeg), .int (xs (i + (2 : Int32)).toNatClampNeg), .int (xs (i + (1 : Int32)).toNatClampNeg), .ref aM]) rfl ?_
            obtain ⟨o183, hq184, hf⟩ := xbind hf
            obtain ⟨hg185, hf⟩ := xifn hf
            have hm186 : (((wc + 0) + 3) + o183.1) ≤ 601024 ∧ (((wn + 0) + 18) + o183.2.1) ≤ 7293034 := ⟨Nat.le_of_not_lt fun h => hg185 (Or.inl h), Nat.le_of_not_lt fun h => hg185 (Or.inr h)⟩
            obtain ⟨hPc, hDc⟩ := xGw_part hP hD
            have hFc := xm_free hDc hS hA
            refine va_callv (va_runV (C := "ValueBenchModel") (As := [.int (xs (i + (1 : Int32)).toNatClampNeg), .int (xs (i + (2 : Int32)).toNatClampNeg), .int (xs (i + (3 : Int32)).toNatClampNeg), .int (xs (i + (4 : Int32)).toNatClampNeg)]) (rest := []) ⟨hx, hb, hml, hown, htx⟩ (gM_sort0 l hl9 D cT aK aV H.size 104 N aM ad rd gd vad st (xs (i + (1 : Int32)).toNatClampNeg) (xs (i + (2 : Int32)).toNatClampNeg) (xs (i + (3 : Int32)).toNatClampNeg) (xs (i + (4 : Int32)).toNatClampNeg) o183 hq184) ⟨callB_of 4 htx (xw_goodC kw_7_131) rfl rfl rfl (htx _ kw_1_5) (htx _ kw_7_128) ⟨by decide, by decide, by decide +kernel⟩ ⟨Nat.le_of_ble_eq_true rfl, Nat.le_of_ble_eq_true rfl⟩, (htx _ kw_7_129), (htx _ kw_7_130)⟩ ⟨xPre_blind, va_recv hK hPc (ci := 5) rfl (q0 := 0) rfl, (fun U hU hW => ⟨rfl, xPre_of hZ hS hFc hPc hDc hK U hU hW⟩)⟩ rfl rfl hl.1 rfl (lv_room (Nat.le_of_ble_eq_true rfl)) dL_law_778 hm186) hS (fun q _ h => hFc q h) hFc (fun u9 t H1 locs ht hvm hr9 hB hz1 hk1 hS => ?_)
            obtain ⟨hP1, hK1, hD1⟩ := hB
            rw [ht] at hP1
            obtain ⟨ad188, gd189, vad190⟩ := u9
            obtain ⟨hP, hD⟩ := xGw_call (M' := (xMw cT aM ad188 rd gd189 vad190 o183.2.2 [])) hP hD hk1 hFc hP1 hD1
            generalize H1 = H at hP hS ⊢
            refine W.eq (g2 := F0 m 781 ls []) rfl ?_
            refine lv_aload_n hx hb dL_law_781 rfl (lv_at hl 3 rfl) ?_
            obtain ⟨o191, hq192, hf⟩ := xbind hf
            obtain ⟨hg193, hf⟩ := xifn hf
            have hm194 : ((((wc + 0) + 3) + o183.1) + 0) ≤ 601024 ∧ ((((wn + 0) + 18) + o183.2.1) + 0) ≤ 7293034 := ⟨Nat.le_of_not_lt fun h => hg193 (Or.inl h), Nat.le_of_not_lt fun h => hg193 (Or.inr h)⟩
            obtain ⟨hPc, hDc⟩ := xGw_part hP hD
            have hFc := xm_free hDc hS hA
            refine va_calli (va_runV (C := "ValueBenchModel") (As := []) (rest := []) ⟨hx, hb, hml, hown, htx⟩ (gM_thrown l hl9 D cT aK aV H.size N aM ad188 rd gd189 vad190 o183.2.2 o191 hq192) ⟨callB_of 0 htx (xw_goodC kw_5_187) rfl rfl rfl (htx _ kw_1_5) (htx _ kw_5_184) ⟨by decide, by decide, by decide +kernel⟩ ⟨Nat.le_of_ble_eq_true rfl, Nat.le_of_ble_eq_true rfl⟩, (htx _ kw_5_185), (htx _ kw_5_186)⟩ ⟨xPre_blind, va_recv hK hPc (ci := 5) rfl (q0 := 0) rfl, (fun U hU hW => ⟨rfl, xPre_of hZ hS hFc hPc hDc hK U hU hW⟩)⟩ rfl rfl hl.1 rfl (lv_room (Nat.le_of_ble_eq_true rfl)) dL_law_782 hm194) hS (fun q _ h => hFc q h) hFc (fun r195 u9 t H1 locs ht hvm hr9 hB hz1 hk1 hS => ?_)
            obtain ⟨hP1, hK1, hD1⟩ := hB
            rw [ht] at hP1
            obtain ⟨hP, hD⟩ := xGw_call (M' := (xMw cT aM ad188 rd gd189 vad190 o183.2.2 [])) hP hD hk1 hFc hP1 hD1
            generalize H1 = H at hP hS ⊢
            rw [hr9]
            refine W.eq (g2 := F0 m 785 ls [.int o191]) rfl ?_
            refine lv_iload hx hb dL_law_785 (lv_at hl 0 rfl) ?_
            refine lv_icmp_eq (tgt := 792) hx hb dL_law_787 (by decide) (fun hc => ?_) (fun hc => ?_)
            · rw [if_pos hc] at hf
              refine lv_goto (tgt := 906) hx hb dL_law_792 (by decide) ?_
              refine lv_iinc (v := (i + 6)) (lv' := [(4, .int (i + 6)), (5, .int o169.1), (3, .ref (zb 15)), (2, .ref aM), (1, .ref (zb 0)), (0, .ref b)]) hx hb dL_law_906 hl (k := 1) rfl rfl (by decide) rfl (fun ls hl => ?_)
              refine lv_goto (tgt := 23) hx hb dL_law_909 (by decide) ?_
              exact ih (i + 6) (kW (kP (kS (kT (kR k o169.2.2.2.2.2.2.2.2.2.2.2.1 o169.2.2.2.2.2.2.2.2.2.2.2.2.1 o169.2.2.2.2.2.2.2.2.2.2.2.2.2.1) 2 o169.2.1 o169.2.2.1 o169.2.2.2.1) o169.2.2.2.2.1 o169.2.2.2.2.2.1 o169.2.2.2.2.2.2.1 o169.2.2.2.2.2.2.2.2.1 o169.2.2.2.2.2.2.2.2.2.2.1) (kpl k) o169.2.2.2.2.2.2.2.2.2.2.2.2.2.2) (xpk (xs (i + (1 : Int32)).toNatClampNeg))) ov o183.2.2 ((((wc + 0) + 3) + o183.1) + 0) ((((wn + 0) + 18) + o183.2.1) + 0) zb o169.2.2.2.2.2.2.2.1 o169.2.2.2.2.2.2.2.2.2.1 ra176 rb177 rf178 aM ad188 rd gd189 vad190 _ _ ls hf hP hD hS (lv_sub hl [0, 2, 3, 4, 5] rfl) hrf
            · rw [if_neg hc] at hf
              refine lv_iconst (v := 0) hx hb dL_law_790 (by decide) ?_
              exact absurd (Option.some.inj hf) (by decide)
          · rw [if_neg hk173] at hf
            refine va_calli (vx_runSW (As := [.ref (zb 0), .int (xs (i + (1 : Int32)).toNatClampNeg), .int (xs (i + (2 : Int32)).toNatClampNeg), .int (xs (i + (3 : Int32)).toNatClampNeg), .int (xs (i + (4 : Int32)).toNatClampNeg)]) (rest := []) ⟨hx, hb, hml, hown, htx⟩ (gL_sort_1 l hl9 D cT aK aV H.size 104 N (zb 0) (zb 1) (zb 2) (zb 3) (zb 4) (zb 5) (zb 6) (zb 7) (zb 8) (zb 9) (zb 10) (ra 8) (rb 8) (ra (xpk (xs (i + (3 : Int32)).toNatClampNeg))) (rb (xpk (xs (i + (3 : Int32)).toNatClampNeg))) (ra (xpk (xs (i + (4 : Int32)).toNatClampNeg))) (rb (xpk (xs (i + (4 : Int32)).toNatClampNeg))) rf (ra (xpk (xs (i + (1 : Int32)).toNatClampNeg))) (xs (i + (1 : Int32)).toNatClampNeg) (xs (i + (2 : Int32)).toNatClampNeg) (xs (i + (3 : Int32)).toNatClampNeg) (xs (i + (4 : Int32)).toNatClampNeg) (ktb k 0) (ktl k 0) (kto k 0) (ktb k 1) (ktl k 1) (kto k 1) (ktb k 2) (ktl k 2) (kto k 2) (ksa k 0) (ksa k 1) tp (ksa k 2) mp (ksa k 3) (ktt k) (krc k 8) (krz k 8) (kro k 8) (kpl k) (krs k) (krc k (xpk (xs (i + (3 : Int32)).toNatClampNeg))) (krz k (xpk (xs (i + (3 : Int32)).toNatClampNeg))) (kro k (xpk (xs (i + (3 : Int32)).toNatClampNeg))) (krc k (xpk (xs (i + (4 : Int32)).toNatClampNeg))) (krz k (xpk (xs (i + (4 : Int32)).toNatClampNeg))) (kro k (xpk (xs (i + (4 : Int32)).toNatClampNeg))) (xpkR hrf (xs (i + (1 : Int32)).toNatClampNeg)) (xpkR hrf (xs (i + (3 : Int32)).toNatClampNeg)) (xpkR hrf (xs (i + (4 : Int32)).toNatClampNeg)) o169 hq170 hk173) (xcSW 5 htx (xw_goodC kw_5_14) rfl rfl rfl (htx _ kw_1_0) (htx _ kw_5_12) ⟨by decide, by decide, by decide +kernel⟩ ⟨Nat.le_of_ble_eq_true rfl, Nat.le_of_ble_eq_true rfl⟩ (htx _ kw_5_13)) ⟨xPre_blind, (fun U hU hW => ⟨rfl, xPre_of hZ hS hFc hPc hDc hK U hU hW⟩)⟩ rfl rfl hl.1 rfl (lv_room (Nat.le_of_ble_eq_true rfl)) dL_law_748 hm172) hS (fun q _ h => hFc q h) hFc (fun r184 u9 t H1 locs ht hvm hr9 hB hz1 hk1 hS => ?_)
            obtain ⟨hP1, hK1, hD1⟩ := hB
            rw [ht] at hP1
            obtain ⟨hP, hD⟩ := xjnC (X := (xCx cT zb tp mp (ra 8) ra rb rf k ov)) (X' := (xCx cT zb o169.2.2.2.2.2.2.2.1 o169.2.2.2.2.2.2.2.2.2.1 (ra 8) ra rb rf (kP (kS (kT (kR k o169.2.2.2.2.2.2.2.2.2.2.2.1 o169.2.2.2.2.2.2.2.2.2.2.2.2.1 o169.2.2.2.2.2.2.2.2.2.2.2.2.2.1) 2 o169.2.1 o169.2.2.1 o169.2.2.2.1) o169.2.2.2.2.1 o169.2.2.2.2.2.1 o169.2.2.2.2.2.2.1 o169.2.2.2.2.2.2.2.2.1 o169.2.2.2.2.2.2.2.2.2.2.1) (kpl k) o169.2.2.2.2.2.2.2.2.2.2.2.2.2.2) ov)) (T := (xT cT ra rb k (xMw cT aM ad rd gd vad st []))) (wt := [((ra (xpk (xs (i + (3 : Int32)).toNatClampNeg))), .inr (2, [.ref (rb (xpk (xs (i + (3 : Int32)).toNatClampNeg))), .int (krz k (xpk (xs (i + (3 : Int32)).toNatClampNeg))), .int (kro k (xpk (xs (i + (3 : Int32)).toNatClampNeg)))])), ((rb (xpk (xs (i + (3 : Int32)).toNatClampNeg))), .inl (cT 2, 4096, .inr (.inl (krc k (xpk (xs (i + (3 : Int32)).toNatClampNeg)))))), ((ra (xpk (xs (i + (4 : Int32)).toNatClampNeg))), .inr (2, [.ref (rb (xpk (xs (i + (4 : Int32)).toNatClampNeg))), .int (krz k (xpk (xs (i + (4 : Int32)).toNatClampNeg))), .int (kro k (xpk (xs (i + (4 : Int32)).toNatClampNeg)))])), ((rb (xpk (xs (i + (4 : Int32)).toNatClampNeg))), .inl (cT 2, 4096, .inr (.inl (krc k (xpk (xs (i + (4 : Int32)).toNatClampNeg))))))]) hP hD [16 + (xpk (xs (i + (3 : Int32)).toNatClampNeg)), 24 + (xpk (xs (i + (3 : Int32)).toNatClampNeg)), 16 + (xpk (xs (i + (4 : Int32)).toNatClampNeg)), 24 + (xpk (xs (i + (4 : Int32)).toNatClampNeg))] false rfl rfl xge2 (xnd2 _ (xpk8 _) _ (xpk8 _) hab false).2 (xit2 rfl (xpk8 _) (xpk8 _)) hCc hk1 hFc hP1 hD1 rfl rfl rfl
            rw [← xT_kR (f := o169.2.2.2.2.2.2.2.2.2.2.2.1) (n := o169.2.2.2.2.2.2.2.2.2.2.2.2.1) (v := o169.2.2.2.2.2.2.2.2.2.2.2.2.2.1)] at hP hD
            generalize H1 = H at hP hS ⊢
            have hP : va_P D xcl (xGw cT zb o169.2.2.2.2.2.2.2.1 o169.2.2.2.2.2.2.2.2.2.1 ra rb rf (kP (kS (kT (kR k o169.2.2.2.2.2.2.2.2.2.2.2.1 o169.2.2.2.2.2.2.2.2.2.2.2.2.1 o169.2.2.2.2.2.2.2.2.2.2.2.2.2.1) 2 o169.2.1 o169.2.2.1 o169.2.2.2.1) o169.2.2.2.2.1 o169.2.2.2.2.2.1 o169.2.2.2.2.2.2.1 o169.2.2.2.2.2.2.2.2.1 o169.2.2.2.2.2.2.2.2.2.2.1) (kpl k) o169.2.2.2.2.2.2.2.2.2.2.2.2.2.2) ov (xMw cT aM ad rd gd vad st [])) H := hP
            have hD : va_D A (xGw cT zb o169.2.2.2.2.2.2.2.1 o169.2.2.2.2.2.2.2.2.2.1 ra rb rf (kP (kS (kT (kR k o169.2.2.2.2.2.2.2.2.2.2.2.1 o169.2.2.2.2.2.2.2.2.2.2.2.2.1 o169.2.2.2.2.2.2.2.2.2.2.2.2.2.1) 2 o169.2.1 o169.2.2.1 o169.2.2.2.1) o169.2.2.2.2.1 o169.2.2.2.2.2.1 o169.2.2.2.2.2.2.1 o169.2.2.2.2.2.2.2.2.1 o169.2.2.2.2.2.2.2.2.2.2.1) (kpl k) o169.2.2.2.2.2.2.2.2.2.2.2.2.2.2) ov (xMw cT aM ad rd gd vad st [])) := hD
            rw [hr9]
            refine W.eq (g2 := F0 m 751 ls [.int o169.1]) rfl ?_
            refine lv_istore (lv' := [(5, .int o169.1), (4, .int i), (3, .ref (zb 15)), (2, .ref aM), (1, .ref (zb 0)), (0, .ref b)]) hx hb dL_law_751 hl (by decide) rfl (fun ls hl => ?_)
            refine lv_aload_n hx hb dL_law_753 rfl (lv_at hl 3 rfl) ?_
            refine lv_aload_n hx hb dL_law_754 rfl (lv_at hl 5 rfl) ?_
            refine lv_iload hx hb dL_law_755 (lv_at hl 1 rfl) ?_
            refine lv_iconst (v := 1) hx hb dL_law_757 (by decide) ?_
            refine lv_iadd hx hb dL_law_758 ?_
            obtain ⟨hg185, hf⟩ := xifn hf
            refine va_sld hx hb hXs hbl hbA hS (i := (i + (1 : Int32))) hg185 dL_law_759 ?_
            refine W.eq (g2 := F0 m 760 ls [.int (xs (i + (1 : Int32)).toNatClampNeg), .ref aM]) rfl ?_
            refine lv_aload_n hx hb dL_law_760 rfl (lv_at hl 5 rfl) ?_
            refine lv_iload hx hb dL_law_761 (lv_at hl 1 rfl) ?_
            refine lv_iconst (v := 2) hx hb dL_law_763 (by decide) ?_
            refine lv_iadd hx hb dL_law_764 ?_
            obtain ⟨hg186, hf⟩ := xifn hf
            refine va_sld hx hb hXs hbl hbA hS (i := (i + (2 : Int32))) hg186 dL_law_765 ?_
            refine W.eq (g2 := F0 m 766 ls [.int (xs (i + (2 : Int32)).toNatClampNeg), .int (xs (i + (1 : Int32)).toNatClampNeg), .ref aM]) rfl ?_
            refine lv_aload_n hx hb dL_law_766 rfl (lv_at hl 5 rfl) ?_
            refine lv_iload hx hb dL_law_767 (lv_at hl 1 rfl) ?_
            refine lv_iconst (v := 3) hx hb dL_law_769 (by decide) ?_
            refine lv_iadd hx hb dL_law_770 ?_
            obtain ⟨hg187, hf⟩ := xifn hf
            refine va_sld hx hb hXs hbl hbA hS (i := (i + (3 : Int32))) hg187 dL_law_771 ?_
            refine W.eq (g2 := F0 m 772 ls [.int (xs (i + (3 : Int32)).toNatClampNeg), .int (xs (i + (2 : Int32)).toNatClampNeg), .int (xs (i + (1 : Int32)).toNatClampNeg), .ref aM]) rfl ?_
            refine lv_aload_n hx hb dL_law_772 rfl (lv_at hl 5 rfl) ?_
            refine lv_iload hx hb dL_law_773 (lv_at hl 1 rfl) ?_
            refine lv_iconst (v := 4) hx hb dL_law_775 (by decide) ?_
            refine lv_iadd hx hb dL_law_776 ?_
            obtain ⟨hg188, hf⟩ := xifn hf
            refine va_sld hx hb hXs hbl hbA hS (i := (i + (4 : Int32))) hg188 dL_law_777 ?_
            refine W.eq (g2 := F0 m 778 ls [.int (xs (i + (4 : Int32)).toNatClampNeg), .int (xs (i + (3 : Int32)).toNatClampNeg), .int (xs (i + (2 : Int32)).toNatClampNeg), .int (xs (i + (1 : Int32)).toNatClampNeg), .ref aM]) rfl ?_
            obtain ⟨o189, hq190, hf⟩ := xbind hf
            obtain ⟨hg191, hf⟩ := xifn hf
            have hm192 : (((wc + 0) + 3) + o189.1) ≤ 601024 ∧ (((wn + 0) + 18) + o189.2.1) ≤ 7293034 := ⟨Nat.le_of_not_lt fun h => hg191 (Or.inl h), Nat.le_of_not_lt fun h => hg191 (Or.inr h)⟩
            obtain ⟨hPc, hDc⟩ := xGw_part hP hD
            have hFc := xm_free hDc hS hA
            refine va_callv (va_runV (C := "ValueBenchModel") (As := [.int (xs (i + (1 : Int32)).toNatClampNeg), .int (xs (i + (2 : Int32)).toNatClampNeg), .int (xs (i + (3 : Int32)).toNatClampNeg), .int (xs (i + (4 : Int32)).toNatClampNeg)]) (rest := []) ⟨hx, hb, hml, hown, htx⟩ (gM_sort0 l hl9 D cT aK aV H.size 104 N aM ad rd gd vad st (xs (i + (1 : Int32)).toNatClampNeg) (xs (i + (2 : Int32)).toNatClampNeg) (xs (i + (3 : Int32)).toNatClampNeg) (xs (i + (4 : Int32)).toNatClampNeg) o189 hq190) ⟨callB_of 4 htx (xw_goodC kw_7_131) rfl rfl rfl (htx _ kw_1_5) (htx _ kw_7_128) ⟨by decide, by decide, by decide +kernel⟩ ⟨Nat.le_of_ble_eq_true rfl, Nat.le_of_ble_eq_true rfl⟩, (htx _ kw_7_129), (htx _ kw_7_130)⟩ ⟨xPre_blind, va_recv hK hPc (ci := 5) rfl (q0 := 0) rfl, (fun U hU hW => ⟨rfl, xPre_of hZ hS hFc hPc hDc hK U hU hW⟩)⟩ rfl rfl hl.1 rfl (lv_room (Nat.le_of_ble_eq_true rfl)) dL_law_778 hm192) hS (fun q _ h => hFc q h) hFc (fun u9 t H1 locs ht hvm hr9 hB hz1 hk1 hS => ?_)
            obtain ⟨hP1, hK1, hD1⟩ := hB
            rw [ht] at hP1
            obtain ⟨ad194, gd195, vad196⟩ := u9
            obtain ⟨hP, hD⟩ := xGw_call (M' := (xMw cT aM ad194 rd gd195 vad196 o189.2.2 [])) hP hD hk1 hFc hP1 hD1
            generalize H1 = H at hP hS ⊢
            refine W.eq (g2 := F0 m 781 ls []) rfl ?_
            refine lv_aload_n hx hb dL_law_781 rfl (lv_at hl 3 rfl) ?_
            obtain ⟨o197, hq198, hf⟩ := xbind hf
            obtain ⟨hg199, hf⟩ := xifn hf
            have hm200 : ((((wc + 0) + 3) + o189.1) + 0) ≤ 601024 ∧ ((((wn + 0) + 18) + o189.2.1) + 0) ≤ 7293034 := ⟨Nat.le_of_not_lt fun h => hg199 (Or.inl h), Nat.le_of_not_lt fun h => hg199 (Or.inr h)⟩
            obtain ⟨hPc, hDc⟩ := xGw_part hP hD
            have hFc := xm_free hDc hS hA
            refine va_calli (va_runV (C := "ValueBenchModel") (As := []) (rest := []) ⟨hx, hb, hml, hown, htx⟩ (gM_thrown l hl9 D cT aK aV H.size N aM ad194 rd gd195 vad196 o189.2.2 o197 hq198) ⟨callB_of 0 htx (xw_goodC kw_5_187) rfl rfl rfl (htx _ kw_1_5) (htx _ kw_5_184) ⟨by decide, by decide, by decide +kernel⟩ ⟨Nat.le_of_ble_eq_true rfl, Nat.le_of_ble_eq_true rfl⟩, (htx _ kw_5_185), (htx _ kw_5_186)⟩ ⟨xPre_blind, va_recv hK hPc (ci := 5) rfl (q0 := 0) rfl, (fun U hU hW => ⟨rfl, xPre_of hZ hS hFc hPc hDc hK U hU hW⟩)⟩ rfl rfl hl.1 rfl (lv_room (Nat.le_of_ble_eq_true rfl)) dL_law_782 hm200) hS (fun q _ h => hFc q h) hFc (fun r201 u9 t H1 locs ht hvm hr9 hB hz1 hk1 hS => ?_)
            obtain ⟨hP1, hK1, hD1⟩ := hB
            rw [ht] at hP1
            obtain ⟨hP, hD⟩ := xGw_call (M' := (xMw cT aM ad194 rd gd195 vad196 o189.2.2 [])) hP hD hk1 hFc hP1 hD1
            generalize H1 = H at hP hS ⊢
            rw [hr9]
            refine W.eq (g2 := F0 m 785 ls [.int o197]) rfl ?_
            refine lv_iload hx hb dL_law_785 (lv_at hl 0 rfl) ?_
            refine lv_icmp_eq (tgt := 792) hx hb dL_law_787 (by decide) (fun hc => ?_) (fun hc => ?_)
            · rw [if_pos hc] at hf
              refine lv_goto (tgt := 906) hx hb dL_law_792 (by decide) ?_
              refine lv_iinc (v := (i + 6)) (lv' := [(4, .int (i + 6)), (5, .int o169.1), (3, .ref (zb 15)), (2, .ref aM), (1, .ref (zb 0)), (0, .ref b)]) hx hb dL_law_906 hl (k := 1) rfl rfl (by decide) rfl (fun ls hl => ?_)
              refine lv_goto (tgt := 23) hx hb dL_law_909 (by decide) ?_
              exact ih (i + 6) (kP (kS (kT (kR k o169.2.2.2.2.2.2.2.2.2.2.2.1 o169.2.2.2.2.2.2.2.2.2.2.2.2.1 o169.2.2.2.2.2.2.2.2.2.2.2.2.2.1) 2 o169.2.1 o169.2.2.1 o169.2.2.2.1) o169.2.2.2.2.1 o169.2.2.2.2.2.1 o169.2.2.2.2.2.2.1 o169.2.2.2.2.2.2.2.2.1 o169.2.2.2.2.2.2.2.2.2.2.1) (kpl k) o169.2.2.2.2.2.2.2.2.2.2.2.2.2.2) ov o189.2.2 ((((wc + 0) + 3) + o189.1) + 0) ((((wn + 0) + 18) + o189.2.1) + 0) zb o169.2.2.2.2.2.2.2.1 o169.2.2.2.2.2.2.2.2.2.1 ra rb rf aM ad194 rd gd195 vad196 _ _ ls hf hP hD hS (lv_sub hl [0, 2, 3, 4, 5] rfl) hrf
            · rw [if_neg hc] at hf
              refine lv_iconst (v := 0) hx hb dL_law_790 (by decide) ?_
              exact absurd (Option.some.inj hf) (by decide)
      rw [if_neg hc144] at hf
      by_cases hc189 : ((xs i.toNatClampNeg) &&& (15 : Int32)) = 10
      · rw [if_pos hc189] at hf
        refine lv_tableIn (off := 755) (tgt := 795) hx hb dL_law_40 (by rw [hc189]; decide) (by rw [hc189]; decide) (by rw [hc189]; decide) (by decide) ?_
        refine lv_aload_n hx hb dL_law_795 rfl (lv_at hl 3 rfl) ?_
        refine lv_aload_n hx hb dL_law_796 rfl (lv_at hl 4 rfl) ?_
        refine lv_iload hx hb dL_law_797 (lv_at hl 0 rfl) ?_
        refine lv_iconst (v := 1) hx hb dL_law_799 (by decide) ?_
        refine lv_iadd hx hb dL_law_800 ?_
        obtain ⟨hg190, hf⟩ := xifn hf
        refine va_sld hx hb hXs hbl hbA hS (i := (i + (1 : Int32))) hg190 dL_law_801 ?_
        refine W.eq (g2 := F0 m 802 ls [.int (xs (i + (1 : Int32)).toNatClampNeg), .ref (zb 0)]) rfl ?_
        refine lv_aload_n hx hb dL_law_802 rfl (lv_at hl 1 rfl) ?_
        obtain ⟨o191, hq192, hf⟩ := xbind hf
        obtain ⟨hg193, hf⟩ := xifn hf
        have hm194 : ((wc + 0) + 1) ≤ 601024 ∧ ((wn + 0) + 6) ≤ 7293034 := ⟨Nat.le_of_not_lt fun h => hg193 (Or.inl h), Nat.le_of_not_lt fun h => hg193 (Or.inr h)⟩
        obtain ⟨hPc, hDc, hFc, hCc⟩ := xcutC (X := (xCx cT zb tp mp (ra 8) ra rb rf k ov)) (T := (xT cT ra rb k (xMw cT aM ad rd gd vad st []))) (we := [((zb 0), .inr (0, [.ref (zb 1), .ref (zb 3), .ref (zb 5), .ref (zb 7), .ref (zb 8), .ref (ra 8), .int (kpl k), .int (krs k)])), ((zb 1), .inr (1, [.ref (zb 2), .int (ktl k 0), .int (kto k 0)])), ((zb 2), .inl (cT 0, 4096, .inl (ktb k 0))), ((zb 3), .inr (1, [.ref (zb 4), .int (ktl k 1), .int (kto k 1)])), ((zb 4), .inl (cT 0, 4096, .inl (ktb k 1))), ((zb 5), .inr (1, [.ref (zb 6), .int (ktl k 2), .int (kto k 2)])), ((zb 6), .inl (cT 0, 4096, .inl (ktb k 2))), ((zb 7), .inl (cT 3, 8, .inr (.inr (.inr (.inr rf))))), ((zb 8), .inr (3, [.ref (zb 9), .ref (zb 10), .ref tp, .ref mp, .int (ktt k)])), ((zb 9), .inl (cT 1, 2048, .inl (ksa k 0))), ((zb 10), .inl (cT 1, 2048, .inl (ksa k 1))), (tp, .inl (cT 1, 2048, .inl (ksa k 2))), (mp, .inl (cT 1, 2048, .inl (ksa k 3))), ((ra 8), .inr (2, [.ref (rb 8), .int (krz k 8), .int (kro k 8)])), ((rb 8), .inl (cT 2, 4096, .inr (.inl (krc k 8))))]) (wt := []) (wo := [((zb 15), .inl (cT 2, 1, .inr (.inl ov)))]) (wc := [((zb 0), .inr (0, [.ref (zb 1), .ref (zb 3), .ref (zb 5), .ref (zb 7), .ref (zb 8), .ref (ra 8), .int (kpl k), .int (krs k)])), ((zb 1), .inr (1, [.ref (zb 2), .int (ktl k 0), .int (kto k 0)])), ((zb 2), .inl (cT 0, 4096, .inl (ktb k 0))), ((zb 3), .inr (1, [.ref (zb 4), .int (ktl k 1), .int (kto k 1)])), ((zb 4), .inl (cT 0, 4096, .inl (ktb k 1))), ((zb 5), .inr (1, [.ref (zb 6), .int (ktl k 2), .int (kto k 2)])), ((zb 6), .inl (cT 0, 4096, .inl (ktb k 2))), ((zb 7), .inl (cT 3, 8, .inr (.inr (.inr (.inr rf))))), ((zb 8), .inr (3, [.ref (zb 9), .ref (zb 10), .ref tp, .ref mp, .int (ktt k)])), ((zb 9), .inl (cT 1, 2048, .inl (ksa k 0))), ((zb 10), .inl (cT 1, 2048, .inl (ksa k 1))), (tp, .inl (cT 1, 2048, .inl (ksa k 2))), (mp, .inl (cT 1, 2048, .inl (ksa k 3))), ((ra 8), .inr (2, [.ref (rb 8), .int (krz k 8), .int (kro k 8)])), ((rb 8), .inl (cT 2, 4096, .inr (.inl (krc k 8)))), ((zb 15), .inl (cT 2, 1, .inr (.inl ov)))]) hP hD hS hA [] true rfl rfl rfl rfl (xnd0 true)
        refine va_calli (vx_runSW (As := [.ref (zb 0), .int (xs (i + (1 : Int32)).toNatClampNeg), .ref (zb 15)]) (rest := []) ⟨hx, hb, hml, hown, htx⟩ (gL_word l hl9 D cT aK aV H.size N (zb 0) (zb 1) (zb 2) (zb 3) (zb 4) (zb 5) (zb 6) (zb 7) (zb 8) (zb 9) (zb 10) (ra 8) (rb 8) (zb 15) rf (xs (i + (1 : Int32)).toNatClampNeg) (ktb k 0) (ktl k 0) (kto k 0) (ktb k 1) (ktl k 1) (kto k 1) (ktb k 2) (ktl k 2) (kto k 2) (ksa k 0) (ksa k 1) tp (ksa k 2) mp (ksa k 3) (ktt k) (krc k 8) (krz k 8) (kro k 8) (kpl k) (krs k) ov o191 hq192) (xcSW 3 htx (xw_goodC kw_5_59) rfl rfl rfl (htx _ kw_1_0) (htx _ kw_5_57) ⟨by decide, by decide, by decide +kernel⟩ ⟨Nat.le_of_ble_eq_true rfl, Nat.le_of_ble_eq_true rfl⟩ (htx _ kw_5_58)) ⟨xPre_blind, (fun U hU hW => ⟨rfl, xPre_of hZ hS hFc hPc hDc hK U hU hW⟩)⟩ rfl rfl hl.1 rfl (lv_room (Nat.le_of_ble_eq_true rfl)) dL_law_803 hm194) hS (fun q _ h => hFc q h) hFc (fun r195 u9 t H1 locs ht hvm hr9 hB hz1 hk1 hS => ?_)
        obtain ⟨hP1, hK1, hD1⟩ := hB
        rw [ht] at hP1
        obtain ⟨hP, hD⟩ := xjnC (X := (xCx cT zb tp mp (ra 8) ra rb rf k ov)) (X' := (xCx cT zb tp mp (ra 8) ra rb rf k o191.2)) (T := (xT cT ra rb k (xMw cT aM ad rd gd vad st []))) (wt := []) hP hD [] true rfl rfl xge0 List.nodup_nil rfl hCc hk1 hFc hP1 hD1 rfl rfl rfl
        generalize H1 = H at hP hS ⊢
        have hP : va_P D xcl (xGw cT zb tp mp ra rb rf k o191.2 (xMw cT aM ad rd gd vad st [])) H := hP
        have hD : va_D A (xGw cT zb tp mp ra rb rf k o191.2 (xMw cT aM ad rd gd vad st [])) := hD
        rw [hr9]
        refine W.eq (g2 := F0 m 806 ls [.int o191.1]) rfl ?_
        refine lv_istore (lv' := [(5, .int o191.1), (4, .int i), (3, .ref (zb 15)), (2, .ref aM), (1, .ref (zb 0)), (0, .ref b)]) hx hb dL_law_806 hl (by decide) rfl (fun ls hl => ?_)
        refine lv_aload_n hx hb dL_law_808 rfl (lv_at hl 3 rfl) ?_
        refine lv_aload_n hx hb dL_law_809 rfl (lv_at hl 5 rfl) ?_
        refine lv_iload hx hb dL_law_810 (lv_at hl 1 rfl) ?_
        refine lv_iconst (v := 1) hx hb dL_law_812 (by decide) ?_
        refine lv_iadd hx hb dL_law_813 ?_
        obtain ⟨hg196, hf⟩ := xifn hf
        refine va_sld hx hb hXs hbl hbA hS (i := (i + (1 : Int32))) hg196 dL_law_814 ?_
        refine W.eq (g2 := F0 m 815 ls [.int (xs (i + (1 : Int32)).toNatClampNeg), .ref aM]) rfl ?_
        obtain ⟨o197, hq198, hf⟩ := xbind hf
        obtain ⟨hg199, hf⟩ := xifn hf
        have hm200 : (((wc + 0) + 1) + 0) ≤ 601024 ∧ (((wn + 0) + 6) + 0) ≤ 7293034 := ⟨Nat.le_of_not_lt fun h => hg199 (Or.inl h), Nat.le_of_not_lt fun h => hg199 (Or.inr h)⟩
        obtain ⟨hPc, hDc⟩ := xGw_part hP hD
        have hFc := xm_free hDc hS hA
        refine va_calll (va_runV (C := "ValueBenchModel") (As := [.int (xs (i + (1 : Int32)).toNatClampNeg)]) (rest := []) ⟨hx, hb, hml, hown, htx⟩ (gM_word l hl9 D cT aK aV H.size N aM ad rd gd vad st (xs (i + (1 : Int32)).toNatClampNeg) o197 hq198) ⟨callB_of 1 htx (xw_goodC kw_6_182) rfl rfl rfl (htx _ kw_1_5) (htx _ kw_6_179) ⟨by decide, by decide, by decide +kernel⟩ ⟨Nat.le_of_ble_eq_true rfl, Nat.le_of_ble_eq_true rfl⟩, (htx _ kw_6_180), (htx _ kw_6_181)⟩ ⟨xPre_blind, va_recv hK hPc (ci := 5) rfl (q0 := 0) rfl, (fun U hU hW => ⟨rfl, xPre_of hZ hS hFc hPc hDc hK U hU hW⟩)⟩ rfl rfl hl.1 rfl (lv_room (Nat.le_of_ble_eq_true rfl)) dL_law_815 hm200) hS (fun q _ h => hFc q h) hFc (fun r201 u9 t H1 locs ht hvm hr9 hB hz1 hk1 hS => ?_)
        obtain ⟨hP1, hK1, hD1⟩ := hB
        rw [ht] at hP1
        have hr9 := hr9.1
        obtain ⟨hP, hD⟩ := xGw_call (M' := (xMw cT aM ad rd gd vad o197.2 [])) hP hD hk1 hFc hP1 hD1
        generalize H1 = H at hP hS ⊢
        rw [hr9]
        refine W.eq (g2 := F0 m 818 ls [.long o197.1]) rfl ?_
        refine lv_lstore (lv' := [(6, .long o197.1), (5, .int o191.1), (4, .int i), (3, .ref (zb 15)), (2, .ref aM), (1, .ref (zb 0)), (0, .ref b)]) hx hb dL_law_818 hl (by decide) rfl (fun ls hl => ?_)
        refine lv_aload_n hx hb dL_law_820 rfl (lv_at hl 4 rfl) ?_
        obtain ⟨o202, hq203, hf⟩ := xbind hf
        obtain ⟨hg204, hf⟩ := xifn hf
        have hm205 : ((((wc + 0) + 1) + 0) + 0) ≤ 601024 ∧ ((((wn + 0) + 6) + 0) + 0) ≤ 7293034 := ⟨Nat.le_of_not_lt fun h => hg204 (Or.inl h), Nat.le_of_not_lt fun h => hg204 (Or.inr h)⟩
        obtain ⟨hPc, hDc⟩ := xGw_part hP hD
        have hFc := xm_free hDc hS hA
        refine va_calli (va_runV (C := "ValueBenchModel") (As := []) (rest := []) ⟨hx, hb, hml, hown, htx⟩ (gM_thrown l hl9 D cT aK aV H.size N aM ad rd gd vad o197.2 o202 hq203) ⟨callB_of 0 htx (xw_goodC kw_5_187) rfl rfl rfl (htx _ kw_1_5) (htx _ kw_5_184) ⟨by decide, by decide, by decide +kernel⟩ ⟨Nat.le_of_ble_eq_true rfl, Nat.le_of_ble_eq_true rfl⟩, (htx _ kw_5_185), (htx _ kw_5_186)⟩ ⟨xPre_blind, va_recv hK hPc (ci := 5) rfl (q0 := 0) rfl, (fun U hU hW => ⟨rfl, xPre_of hZ hS hFc hPc hDc hK U hU hW⟩)⟩ rfl rfl hl.1 rfl (lv_room (Nat.le_of_ble_eq_true rfl)) dL_law_821 hm205) hS (fun q _ h => hFc q h) hFc (fun r206 u9 t H1 locs ht hvm hr9 hB hz1 hk1 hS => ?_)
        obtain ⟨hP1, hK1, hD1⟩ := hB
        rw [ht] at hP1
        obtain ⟨hP, hD⟩ := xGw_call (M' := (xMw cT aM ad rd gd vad o197.2 [])) hP hD hk1 hFc hP1 hD1
        generalize H1 = H at hP hS ⊢
        rw [hr9]
        refine W.eq (g2 := F0 m 824 ls [.int o202]) rfl ?_
        refine lv_iload hx hb dL_law_824 (lv_at hl 1 rfl) ?_
        refine lv_icmp_eq (tgt := 831) hx hb dL_law_826 (by decide) (fun hc => ?_) (fun hc => ?_)
        · rw [if_pos hc] at hf
          refine lv_iload hx hb dL_law_831 (lv_at hl 1 rfl) ?_
          refine lv_if_ne (tgt := 847) hx hb dL_law_833 (by decide) (fun hc => ?_) (fun hc => ?_)
          · rw [if_neg hc] at hf
            refine lv_goto (tgt := 906) hx hb dL_law_847 (by decide) ?_
            refine lv_iinc (v := (i + 6)) (lv' := [(4, .int (i + 6)), (6, .long o197.1), (5, .int o191.1), (3, .ref (zb 15)), (2, .ref aM), (1, .ref (zb 0)), (0, .ref b)]) hx hb dL_law_906 hl (k := 2) rfl rfl (by decide) rfl (fun ls hl => ?_)
            refine lv_goto (tgt := 23) hx hb dL_law_909 (by decide) ?_
            exact ih (i + 6) k o191.2 o197.2 ((((wc + 0) + 1) + 0) + 0) ((((wn + 0) + 6) + 0) + 0) zb tp mp ra rb rf aM ad rd gd vad _ _ ls hf hP hD hS (lv_sub hl [0, 3, 4, 5, 6] rfl) hrf
          · rw [if_pos hc] at hf
            refine lv_aload_n hx hb dL_law_836 rfl (lv_at hl 3 rfl) ?_
            refine lv_iconst (v := 0) hx hb dL_law_837 (by decide) ?_
            refine va_lald hx hb hK hP 15 2 rfl rfl (show ¬ ((0 : Int32) < 0 ∨ 1 ≤ (0 : Int32).toNatClampNeg) by decide) dL_law_838 ?_
            refine W.eq (g2 := F0 m 839 ls [.long (o191.2 0)]) rfl ?_
            refine lv_lload hx hb dL_law_839 (lv_at hl 0 rfl) ?_
            refine W.lcmp hx hb dL_law_841 ?_
            refine lv_if_eq (tgt := 847) hx hb dL_law_842 (by decide) (fun hc => ?_) (fun hc => ?_)
            · rw [if_pos hc] at hf
              refine lv_goto (tgt := 906) hx hb dL_law_847 (by decide) ?_
              refine lv_iinc (v := (i + 6)) (lv' := [(4, .int (i + 6)), (6, .long o197.1), (5, .int o191.1), (3, .ref (zb 15)), (2, .ref aM), (1, .ref (zb 0)), (0, .ref b)]) hx hb dL_law_906 hl (k := 2) rfl rfl (by decide) rfl (fun ls hl => ?_)
              refine lv_goto (tgt := 23) hx hb dL_law_909 (by decide) ?_
              exact ih (i + 6) k o191.2 o197.2 ((((wc + 0) + 1) + 0) + 0) ((((wn + 0) + 6) + 0) + 0) zb tp mp ra rb rf aM ad rd gd vad _ _ ls hf hP hD hS (lv_sub hl [0, 3, 4, 5, 6] rfl) hrf
            · rw [if_neg hc] at hf
              refine lv_iconst (v := 0) hx hb dL_law_845 (by decide) ?_
              exact absurd (Option.some.inj hf) (by decide)
        · rw [if_neg hc] at hf
          refine lv_iconst (v := 0) hx hb dL_law_829 (by decide) ?_
          exact absurd (Option.some.inj hf) (by decide)
      rw [if_neg hc189] at hf
      by_cases hc191 : ((xs i.toNatClampNeg) &&& (15 : Int32)) = 11
      · rw [if_pos hc191] at hf
        refine lv_tableIn (off := 810) (tgt := 850) hx hb dL_law_40 (by rw [hc191]; decide) (by rw [hc191]; decide) (by rw [hc191]; decide) (by decide) ?_
        refine lv_aload_n hx hb dL_law_850 rfl (lv_at hl 3 rfl) ?_
        refine lv_aload_n hx hb dL_law_851 rfl (lv_at hl 4 rfl) ?_
        refine lv_iload hx hb dL_law_852 (lv_at hl 0 rfl) ?_
        refine lv_iconst (v := 1) hx hb dL_law_854 (by decide) ?_
        refine lv_iadd hx hb dL_law_855 ?_
        obtain ⟨hg192, hf⟩ := xifn hf
        refine va_sld hx hb hXs hbl hbA hS (i := (i + (1 : Int32))) hg192 dL_law_856 ?_
        refine W.eq (g2 := F0 m 857 ls [.int (xs (i + (1 : Int32)).toNatClampNeg), .ref (zb 0)]) rfl ?_
        refine lv_aload_n hx hb dL_law_857 rfl (lv_at hl 1 rfl) ?_
        obtain ⟨o193, hq194, hf⟩ := xbind hf
        obtain ⟨hg195, hf⟩ := xifn hf
        have hm196 : ((wc + 0) + 1) ≤ 601024 ∧ ((wn + 0) + 6) ≤ 7293034 := ⟨Nat.le_of_not_lt fun h => hg195 (Or.inl h), Nat.le_of_not_lt fun h => hg195 (Or.inr h)⟩
        obtain ⟨hPc, hDc, hFc, hCc⟩ := xcutC (X := (xCx cT zb tp mp (ra 8) ra rb rf k ov)) (T := (xT cT ra rb k (xMw cT aM ad rd gd vad st []))) (we := [((zb 0), .inr (0, [.ref (zb 1), .ref (zb 3), .ref (zb 5), .ref (zb 7), .ref (zb 8), .ref (ra 8), .int (kpl k), .int (krs k)])), ((zb 1), .inr (1, [.ref (zb 2), .int (ktl k 0), .int (kto k 0)])), ((zb 2), .inl (cT 0, 4096, .inl (ktb k 0))), ((zb 3), .inr (1, [.ref (zb 4), .int (ktl k 1), .int (kto k 1)])), ((zb 4), .inl (cT 0, 4096, .inl (ktb k 1))), ((zb 5), .inr (1, [.ref (zb 6), .int (ktl k 2), .int (kto k 2)])), ((zb 6), .inl (cT 0, 4096, .inl (ktb k 2))), ((zb 7), .inl (cT 3, 8, .inr (.inr (.inr (.inr rf))))), ((zb 8), .inr (3, [.ref (zb 9), .ref (zb 10), .ref tp, .ref mp, .int (ktt k)])), ((zb 9), .inl (cT 1, 2048, .inl (ksa k 0))), ((zb 10), .inl (cT 1, 2048, .inl (ksa k 1))), (tp, .inl (cT 1, 2048, .inl (ksa k 2))), (mp, .inl (cT 1, 2048, .inl (ksa k 3))), ((ra 8), .inr (2, [.ref (rb 8), .int (krz k 8), .int (kro k 8)])), ((rb 8), .inl (cT 2, 4096, .inr (.inl (krc k 8))))]) (wt := []) (wo := [((zb 15), .inl (cT 2, 1, .inr (.inl ov)))]) (wc := [((zb 0), .inr (0, [.ref (zb 1), .ref (zb 3), .ref (zb 5), .ref (zb 7), .ref (zb 8), .ref (ra 8), .int (kpl k), .int (krs k)])), ((zb 1), .inr (1, [.ref (zb 2), .int (ktl k 0), .int (kto k 0)])), ((zb 2), .inl (cT 0, 4096, .inl (ktb k 0))), ((zb 3), .inr (1, [.ref (zb 4), .int (ktl k 1), .int (kto k 1)])), ((zb 4), .inl (cT 0, 4096, .inl (ktb k 1))), ((zb 5), .inr (1, [.ref (zb 6), .int (ktl k 2), .int (kto k 2)])), ((zb 6), .inl (cT 0, 4096, .inl (ktb k 2))), ((zb 7), .inl (cT 3, 8, .inr (.inr (.inr (.inr rf))))), ((zb 8), .inr (3, [.ref (zb 9), .ref (zb 10), .ref tp, .ref mp, .int (ktt k)])), ((zb 9), .inl (cT 1, 2048, .inl (ksa k 0))), ((zb 10), .inl (cT 1, 2048, .inl (ksa k 1))), (tp, .inl (cT 1, 2048, .inl (ksa k 2))), (mp, .inl (cT 1, 2048, .inl (ksa k 3))), ((ra 8), .inr (2, [.ref (rb 8), .int (krz k 8), .int (kro k 8)])), ((rb 8), .inl (cT 2, 4096, .inr (.inl (krc k 8)))), ((zb 15), .inl (cT 2, 1, .inr (.inl ov)))]) hP hD hS hA [] true rfl rfl rfl rfl (xnd0 true)
        refine va_calli (vx_runSW (As := [.ref (zb 0), .int (xs (i + (1 : Int32)).toNatClampNeg), .ref (zb 15)]) (rest := []) ⟨hx, hb, hml, hown, htx⟩ (gL_count l hl9 D cT aK aV H.size N (zb 0) (zb 1) (zb 2) (zb 3) (zb 4) (zb 5) (zb 6) (zb 7) (zb 8) (zb 9) (zb 10) (ra 8) (rb 8) (zb 15) rf (xs (i + (1 : Int32)).toNatClampNeg) (ktb k 0) (ktl k 0) (kto k 0) (ktb k 1) (ktl k 1) (kto k 1) (ktb k 2) (ktl k 2) (kto k 2) (ksa k 0) (ksa k 1) tp (ksa k 2) mp (ksa k 3) (ktt k) (krc k 8) (krz k 8) (kro k 8) (kpl k) (krs k) ov o193 hq194) (xcSW 3 htx (xw_goodC kw_5_69) rfl rfl rfl (htx _ kw_1_0) (htx _ kw_5_67) ⟨by decide, by decide, by decide +kernel⟩ ⟨Nat.le_of_ble_eq_true rfl, Nat.le_of_ble_eq_true rfl⟩ (htx _ kw_5_68)) ⟨xPre_blind, (fun U hU hW => ⟨rfl, xPre_of hZ hS hFc hPc hDc hK U hU hW⟩)⟩ rfl rfl hl.1 rfl (lv_room (Nat.le_of_ble_eq_true rfl)) dL_law_858 hm196) hS (fun q _ h => hFc q h) hFc (fun r197 u9 t H1 locs ht hvm hr9 hB hz1 hk1 hS => ?_)
        obtain ⟨hP1, hK1, hD1⟩ := hB
        rw [ht] at hP1
        obtain ⟨hP, hD⟩ := xjnC (X := (xCx cT zb tp mp (ra 8) ra rb rf k ov)) (X' := (xCx cT zb tp mp (ra 8) ra rb rf k o193.2)) (T := (xT cT ra rb k (xMw cT aM ad rd gd vad st []))) (wt := []) hP hD [] true rfl rfl xge0 List.nodup_nil rfl hCc hk1 hFc hP1 hD1 rfl rfl rfl
        generalize H1 = H at hP hS ⊢
        have hP : va_P D xcl (xGw cT zb tp mp ra rb rf k o193.2 (xMw cT aM ad rd gd vad st [])) H := hP
        have hD : va_D A (xGw cT zb tp mp ra rb rf k o193.2 (xMw cT aM ad rd gd vad st [])) := hD
        rw [hr9]
        refine W.eq (g2 := F0 m 861 ls [.int o193.1]) rfl ?_
        refine lv_istore (lv' := [(5, .int o193.1), (4, .int i), (3, .ref (zb 15)), (2, .ref aM), (1, .ref (zb 0)), (0, .ref b)]) hx hb dL_law_861 hl (by decide) rfl (fun ls hl => ?_)
        refine lv_aload_n hx hb dL_law_863 rfl (lv_at hl 3 rfl) ?_
        refine lv_aload_n hx hb dL_law_864 rfl (lv_at hl 5 rfl) ?_
        refine lv_iload hx hb dL_law_865 (lv_at hl 1 rfl) ?_
        refine lv_iconst (v := 1) hx hb dL_law_867 (by decide) ?_
        refine lv_iadd hx hb dL_law_868 ?_
        obtain ⟨hg198, hf⟩ := xifn hf
        refine va_sld hx hb hXs hbl hbA hS (i := (i + (1 : Int32))) hg198 dL_law_869 ?_
        refine W.eq (g2 := F0 m 870 ls [.int (xs (i + (1 : Int32)).toNatClampNeg), .ref aM]) rfl ?_
        obtain ⟨o199, hq200, hf⟩ := xbind hf
        obtain ⟨hg201, hf⟩ := xifn hf
        have hm202 : (((wc + 0) + 1) + 0) ≤ 601024 ∧ (((wn + 0) + 6) + 0) ≤ 7293034 := ⟨Nat.le_of_not_lt fun h => hg201 (Or.inl h), Nat.le_of_not_lt fun h => hg201 (Or.inr h)⟩
        obtain ⟨hPc, hDc⟩ := xGw_part hP hD
        have hFc := xm_free hDc hS hA
        refine va_calli (va_runV (C := "ValueBenchModel") (As := [.int (xs (i + (1 : Int32)).toNatClampNeg)]) (rest := []) ⟨hx, hb, hml, hown, htx⟩ (gM_count l hl9 D cT aK aV H.size N aM ad rd gd vad st (xs (i + (1 : Int32)).toNatClampNeg) o199 hq200) ⟨callB_of 1 htx (xw_goodC kw_6_187) rfl rfl rfl (htx _ kw_1_5) (htx _ kw_6_184) ⟨by decide, by decide, by decide +kernel⟩ ⟨Nat.le_of_ble_eq_true rfl, Nat.le_of_ble_eq_true rfl⟩, (htx _ kw_6_185), (htx _ kw_6_186)⟩ ⟨xPre_blind, va_recv hK hPc (ci := 5) rfl (q0 := 0) rfl, (fun U hU hW => ⟨rfl, xPre_of hZ hS hFc hPc hDc hK U hU hW⟩)⟩ rfl rfl hl.1 rfl (lv_room (Nat.le_of_ble_eq_true rfl)) dL_law_870 hm202) hS (fun q _ h => hFc q h) hFc (fun r203 u9 t H1 locs ht hvm hr9 hB hz1 hk1 hS => ?_)
        obtain ⟨hP1, hK1, hD1⟩ := hB
        rw [ht] at hP1
        have hr9 := hr9.1
        obtain ⟨hP, hD⟩ := xGw_call (M' := (xMw cT aM ad rd gd vad o199.2 [])) hP hD hk1 hFc hP1 hD1
        generalize H1 = H at hP hS ⊢
        rw [hr9]
        refine W.eq (g2 := F0 m 873 ls [.int o199.1]) rfl ?_
        refine lv_istore (lv' := [(6, .int o199.1), (5, .int o193.1), (4, .int i), (3, .ref (zb 15)), (2, .ref aM), (1, .ref (zb 0)), (0, .ref b)]) hx hb dL_law_873 hl (by decide) rfl (fun ls hl => ?_)
        refine lv_aload_n hx hb dL_law_875 rfl (lv_at hl 4 rfl) ?_
        obtain ⟨o204, hq205, hf⟩ := xbind hf
        obtain ⟨hg206, hf⟩ := xifn hf
        have hm207 : ((((wc + 0) + 1) + 0) + 0) ≤ 601024 ∧ ((((wn + 0) + 6) + 0) + 0) ≤ 7293034 := ⟨Nat.le_of_not_lt fun h => hg206 (Or.inl h), Nat.le_of_not_lt fun h => hg206 (Or.inr h)⟩
        obtain ⟨hPc, hDc⟩ := xGw_part hP hD
        have hFc := xm_free hDc hS hA
        refine va_calli (va_runV (C := "ValueBenchModel") (As := []) (rest := []) ⟨hx, hb, hml, hown, htx⟩ (gM_thrown l hl9 D cT aK aV H.size N aM ad rd gd vad o199.2 o204 hq205) ⟨callB_of 0 htx (xw_goodC kw_5_187) rfl rfl rfl (htx _ kw_1_5) (htx _ kw_5_184) ⟨by decide, by decide, by decide +kernel⟩ ⟨Nat.le_of_ble_eq_true rfl, Nat.le_of_ble_eq_true rfl⟩, (htx _ kw_5_185), (htx _ kw_5_186)⟩ ⟨xPre_blind, va_recv hK hPc (ci := 5) rfl (q0 := 0) rfl, (fun U hU hW => ⟨rfl, xPre_of hZ hS hFc hPc hDc hK U hU hW⟩)⟩ rfl rfl hl.1 rfl (lv_room (Nat.le_of_ble_eq_true rfl)) dL_law_876 hm207) hS (fun q _ h => hFc q h) hFc (fun r208 u9 t H1 locs ht hvm hr9 hB hz1 hk1 hS => ?_)
        obtain ⟨hP1, hK1, hD1⟩ := hB
        rw [ht] at hP1
        obtain ⟨hP, hD⟩ := xGw_call (M' := (xMw cT aM ad rd gd vad o199.2 [])) hP hD hk1 hFc hP1 hD1
        generalize H1 = H at hP hS ⊢
        rw [hr9]
        refine W.eq (g2 := F0 m 879 ls [.int o204]) rfl ?_
        refine lv_iload hx hb dL_law_879 (lv_at hl 1 rfl) ?_
        refine lv_icmp_eq (tgt := 886) hx hb dL_law_881 (by decide) (fun hc => ?_) (fun hc => ?_)
        · rw [if_pos hc] at hf
          refine lv_iload hx hb dL_law_886 (lv_at hl 1 rfl) ?_
          refine lv_if_ne (tgt := 903) hx hb dL_law_888 (by decide) (fun hc => ?_) (fun hc => ?_)
          · rw [if_neg hc] at hf
            refine lv_goto (tgt := 906) hx hb dL_law_903 (by decide) ?_
            refine lv_iinc (v := (i + 6)) (lv' := [(4, .int (i + 6)), (6, .int o199.1), (5, .int o193.1), (3, .ref (zb 15)), (2, .ref aM), (1, .ref (zb 0)), (0, .ref b)]) hx hb dL_law_906 hl (k := 2) rfl rfl (by decide) rfl (fun ls hl => ?_)
            refine lv_goto (tgt := 23) hx hb dL_law_909 (by decide) ?_
            exact ih (i + 6) k o193.2 o199.2 ((((wc + 0) + 1) + 0) + 0) ((((wn + 0) + 6) + 0) + 0) zb tp mp ra rb rf aM ad rd gd vad _ _ ls hf hP hD hS (lv_sub hl [0, 3, 4, 5, 6] rfl) hrf
          · rw [if_pos hc] at hf
            refine lv_aload_n hx hb dL_law_891 rfl (lv_at hl 3 rfl) ?_
            refine lv_iconst (v := 0) hx hb dL_law_892 (by decide) ?_
            refine va_lald hx hb hK hP 15 2 rfl rfl (show ¬ ((0 : Int32) < 0 ∨ 1 ≤ (0 : Int32).toNatClampNeg) by decide) dL_law_893 ?_
            refine W.eq (g2 := F0 m 894 ls [.long (o193.2 0)]) rfl ?_
            refine lv_iload hx hb dL_law_894 (lv_at hl 0 rfl) ?_
            refine lv_i2l hx hb dL_law_896 rfl ?_
            refine W.lcmp hx hb dL_law_897 ?_
            refine lv_if_eq (tgt := 903) hx hb dL_law_898 (by decide) (fun hc => ?_) (fun hc => ?_)
            · rw [if_pos hc] at hf
              refine lv_goto (tgt := 906) hx hb dL_law_903 (by decide) ?_
              refine lv_iinc (v := (i + 6)) (lv' := [(4, .int (i + 6)), (6, .int o199.1), (5, .int o193.1), (3, .ref (zb 15)), (2, .ref aM), (1, .ref (zb 0)), (0, .ref b)]) hx hb dL_law_906 hl (k := 2) rfl rfl (by decide) rfl (fun ls hl => ?_)
              refine lv_goto (tgt := 23) hx hb dL_law_909 (by decide) ?_
              exact ih (i + 6) k o193.2 o199.2 ((((wc + 0) + 1) + 0) + 0) ((((wn + 0) + 6) + 0) + 0) zb tp mp ra rb rf aM ad rd gd vad _ _ ls hf hP hD hS (lv_sub hl [0, 3, 4, 5, 6] rfl) hrf
            · rw [if_neg hc] at hf
              refine lv_iconst (v := 0) hx hb dL_law_901 (by decide) ?_
              exact absurd (Option.some.inj hf) (by decide)
        · rw [if_neg hc] at hf
          refine lv_iconst (v := 0) hx hb dL_law_884 (by decide) ?_
          exact absurd (Option.some.inj hf) (by decide)
      rw [if_neg hc191] at hf
      refine lv_tableOut (tgt := 906) hx hb dL_law_40 (by have e0 : ((xs i.toNatClampNeg) &&& (15 : Int32)).toInt ≠ 0 := xsw hc4 (by decide); have e1 : ((xs i.toNatClampNeg) &&& (15 : Int32)).toInt ≠ 1 := xsw hc10 (by decide); have e2 : ((xs i.toNatClampNeg) &&& (15 : Int32)).toInt ≠ 2 := xsw hc12 (by decide); have e3 : ((xs i.toNatClampNeg) &&& (15 : Int32)).toInt ≠ 3 := xsw hc14 (by decide); have e4 : ((xs i.toNatClampNeg) &&& (15 : Int32)).toInt ≠ 4 := xsw hc16 (by decide); have e5 : ((xs i.toNatClampNeg) &&& (15 : Int32)).toInt ≠ 5 := xsw hc61 (by decide); have e6 : ((xs i.toNatClampNeg) &&& (15 : Int32)).toInt ≠ 6 := xsw hc78 (by decide); have e7 : ((xs i.toNatClampNeg) &&& (15 : Int32)).toInt ≠ 7 := xsw hc95 (by decide); have e8 : ((xs i.toNatClampNeg) &&& (15 : Int32)).toInt ≠ 8 := xsw hc99 (by decide); have e9 : ((xs i.toNatClampNeg) &&& (15 : Int32)).toInt ≠ 9 := xsw hc144 (by decide); have e10 : ((xs i.toNatClampNeg) &&& (15 : Int32)).toInt ≠ 10 := xsw hc189 (by decide); have e11 : ((xs i.toNatClampNeg) &&& (15 : Int32)).toInt ≠ 11 := xsw hc191 (by decide); omega) (by decide) ?_
      refine lv_iinc (v := (i + 6)) (lv' := [(4, .int (i + 6)), (3, .ref (zb 15)), (2, .ref aM), (1, .ref (zb 0)), (0, .ref b)]) hx hb dL_law_906 hl (k := 0) rfl rfl (by decide) rfl (fun ls hl => ?_)
      refine lv_goto (tgt := 23) hx hb dL_law_909 (by decide) ?_
      exact ih (i + 6) k ov st (wc + 0) (wn + 0) zb tp mp ra rb rf aM ad rd gd vad _ _ ls hf hP hD hS (lv_sub hl [0, 1, 2, 3, 4] rfl) hrf
