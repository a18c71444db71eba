section FEE
variable {st : xS} {n : Nat} {T : Nat → List Nat} {tape prn : List Nat} {pl rs : Int32}
theorem feedS (v : Int32) (hT : RefT st T tape prn pl rs) (hl : tape.length < 4096) : ¬ (xsi st 27 < 0 ∨ xln st 40 ≤ (xsi st 27).toNatClampNeg) ∧ RefT (xsI (xsB st 40 ((xsi st 27).toNatClampNeg) (vp_nar .byte v.toInt8.toInt32)) 27 (xsi st 27 + 1)) T (tape ++ [(v.toInt % 256).toNat]) prn pl rs := by
  obtain ⟨⟨v1, c1, k1, w1, hm⟩, h2, h3, ⟨a1, a2, a3, a4, a5⟩, ⟨b1, b2, b3, b4⟩, h6, h7⟩ := hT
  rw [a2, a1, i3_N (by omega)]
  refine ⟨i3_id2 (by omega) (by omega), ⟨v1, c1, k1, w1, (hm.sb (by decide)).si (by decide) (by decide) (by decide) (by decide)⟩, h2, fun x hx => ?_, ⟨a1, ?_, by rw [List.length_append]; simp; omega, fun c hc => ?_, ?_⟩, ⟨b1, (up_ne (by decide) : va_up st.1 27 (i3 tape.length + 1) 29 = st.1 29).trans b2, b3, ?_⟩, (up_ne (by decide) : va_up st.1 27 (i3 tape.length + 1) 31 = st.1 31).trans h6, (up_ne (by decide) : va_up st.1 27 (i3 tape.length + 1) 30 = st.1 30).trans h7⟩
  · obtain ⟨g1, g2, g3, g4, g5, g6, g7⟩ := h3 x hx
    refine ⟨g1, g2, g3, g4, ?_, g6, ?_⟩
    · show xba (xsB st 40 tape.length (vp_nar .byte v.toInt8.toInt32)) 25 x = _
      rw [xsB_oth (by decide)]
      exact g5
    · show seg (xba (xsB st 40 tape.length (vp_nar .byte v.toInt8.toInt32)) (32 + x)) 0 _
      rw [xsB_oth (by omega)]
      exact g7
  · refine xs_e.trans ?_
    rw [List.length_append, i3_one]
    rfl
  · rcases List.mem_append.mp hc with hc | hc
    · exact a4 c hc
    · simp only [List.mem_singleton] at hc
      rw [hc]
      omega
  · show seg (xba (xsB st 40 tape.length (vp_nar .byte v.toInt8.toInt32)) 40) 0 _
    rw [xsB_same, List.map_append]
    refine seg_app.mpr ⟨seg_of a5 (fun i hi => ?_), ?_⟩
    · rw [List.length_map] at hi
      rw [upd_ne (by omega)]
    · rw [List.length_map, Nat.zero_add]
      refine seg_cons.mpr ⟨?_, seg_nil⟩
      rw [upd_eq]
      have := nar_sb v.toInt
      rw [← x_iz] at this
      exact this
  · show seg (xba (xsB st 40 tape.length (vp_nar .byte v.toInt8.toInt32)) 28) 0 _
    rw [xsB_oth (by decide)]
    exact b4
def FeP (st : xS) (out : Option (Int32 × xS)) (T : Nat → List Nat) (tape prn : List Nat) (pl rs z f : Int32) : Prop := ∃ st', out = some (z, st') ∧ RefT st' T tape prn pl rs ∧ xsi st' 0 = f ∧ pt st' = pt st
theorem FeP.step {st1 : xS} {out : Option (Int32 × xS)} {z f : Int32} (h : FeP st1 out T tape prn pl rs z f) (hp : pt st1 = pt st) : FeP st out T tape prn pl rs z f := by
  obtain ⟨st', h1, h2, h3, h4⟩ := h
  exact ⟨st', h1, h2, h3, h4.trans hp⟩
theorem feB5 {y1 y2 y3 y4 y5 : Int32} (hn : 0 < n) (hT : RefT st T tape prn pl rs) (h0 : xsi st 0 = 0) : FeP st (fM_feed_b n 1 20 y1 y2 y3 y4 y5 st) T tape prn pl rs (i3 tape.length) 0 := by
  obtain ⟨n, rfl⟩ : ∃ j, n = j + 1 := ⟨n - 1, by omega⟩
  rw [fM_feed_b, if_pos (by decide), hT.2.2.2.1.2.1]
  exact ⟨_, rfl, hT, h0, rfl⟩
theorem feB4 {y1 y2 y3 y4 y5 : Int32} (hn : 4 < n) (hT : RefT st T tape prn pl rs) (h0 : xsi st 0 = 0) (hl : tape.length + 4 ≤ 4096) : FeP st (fM_feed_b n 1 16 y1 y2 y3 y4 y5 st) T (tape ++ by4 y5) prn pl rs (i3 (tape.length + 4)) 0 := by
  obtain ⟨n, rfl⟩ : ∃ j, n = j + 4 := ⟨n - 4, by omega⟩
  have s0 := feedS (y5 >>> ((24 : Int32) &&& 31)) hT (by omega)
  rw [fM_feed_b, if_neg (show ¬ (20 : Int32) ≤ 16 by decide), if_pos (show (4 : Int32) ≤ 16 by decide), if_pos (show (8 : Int32) ≤ 16 by decide), if_pos (show (12 : Int32) ≤ 16 by decide), if_pos (show (16 : Int32) ≤ 16 by decide), show ((24 : Int32) - 8 * (16 - 16 / 4 * 4)) &&& 31 = 24 &&& 31 by decide, if_neg s0.1, show (16 : Int32) + 1 = 17 by decide]
  have s1 := feedS (y5 >>> ((16 : Int32) &&& 31)) s0.2 (by simp only [List.length_append, List.length_cons, List.length_nil]; omega)
  rw [fM_feed_b, if_neg (show ¬ (20 : Int32) ≤ 17 by decide), if_pos (show (4 : Int32) ≤ 17 by decide), if_pos (show (8 : Int32) ≤ 17 by decide), if_pos (show (12 : Int32) ≤ 17 by decide), if_pos (show (16 : Int32) ≤ 17 by decide), show ((24 : Int32) - 8 * (17 - 17 / 4 * 4)) &&& 31 = 16 &&& 31 by decide, if_neg s1.1, show (17 : Int32) + 1 = 18 by decide]
  have s2 := feedS (y5 >>> ((8 : Int32) &&& 31)) s1.2 (by simp only [List.length_append, List.length_cons, List.length_nil]; omega)
  rw [fM_feed_b, if_neg (show ¬ (20 : Int32) ≤ 18 by decide), if_pos (show (4 : Int32) ≤ 18 by decide), if_pos (show (8 : Int32) ≤ 18 by decide), if_pos (show (12 : Int32) ≤ 18 by decide), if_pos (show (16 : Int32) ≤ 18 by decide), show ((24 : Int32) - 8 * (18 - 18 / 4 * 4)) &&& 31 = 8 &&& 31 by decide, if_neg s2.1, show (18 : Int32) + 1 = 19 by decide]
  have s3 := feedS (y5 >>> ((0 : Int32) &&& 31)) s2.2 (by simp only [List.length_append, List.length_cons, List.length_nil]; omega)
  rw [fM_feed_b, if_neg (show ¬ (20 : Int32) ≤ 19 by decide), if_pos (show (4 : Int32) ≤ 19 by decide), if_pos (show (8 : Int32) ≤ 19 by decide), if_pos (show (12 : Int32) ≤ 19 by decide), if_pos (show (16 : Int32) ≤ 19 by decide), show ((24 : Int32) - 8 * (19 - 19 / 4 * 4)) &&& 31 = 0 &&& 31 by decide, if_neg s3.1, show (19 : Int32) + 1 = 20 by decide]
  have e0 : ∀ (s : xS) (i : Nat) (v u : Int32), xsi (xsI (xsB s 40 i v) 27 u) 0 = xsi s 0 := fun s i v u => (up_ne (by decide) : va_up s.1 27 u 0 = s.1 0)
  have hap : tape ++ [((y5 >>> ((24 : Int32) &&& 31)).toInt % 256).toNat] ++ [((y5 >>> ((16 : Int32) &&& 31)).toInt % 256).toNat] ++ [((y5 >>> ((8 : Int32) &&& 31)).toInt % 256).toNat] ++ [((y5 >>> ((0 : Int32) &&& 31)).toInt % 256).toNat] = tape ++ by4 y5 := by
    simp only [List.append_assoc]
    rfl
  have hlen : (tape ++ by4 y5).length = tape.length + 4 := by rw [List.length_append]; rfl
  have hT4 := s3.2
  rw [hap] at hT4
  have hfin := feB5 (y1 := y1) (y2 := y2) (y3 := y3) (y4 := y4) (y5 := y5) (n := n) (by omega) hT4 (by rw [e0, e0, e0, e0]; exact h0)
  rw [hlen] at hfin
  exact FeP.step hfin rfl
theorem feB3 {y1 y2 y3 y4 y5 : Int32} (hn : 8 < n) (hT : RefT st T tape prn pl rs) (h0 : xsi st 0 = 0) (hl : tape.length + 8 ≤ 4096) : FeP st (fM_feed_b n 1 12 y1 y2 y3 y4 y5 st) T (tape ++ by4 y4 ++ by4 y5) prn pl rs (i3 (tape.length + 8)) 0 := by
  obtain ⟨n, rfl⟩ : ∃ j, n = j + 4 := ⟨n - 4, by omega⟩
  have s0 := feedS (y4 >>> ((24 : Int32) &&& 31)) hT (by omega)
  rw [fM_feed_b, if_neg (show ¬ (20 : Int32) ≤ 12 by decide), if_pos (show (4 : Int32) ≤ 12 by decide), if_pos (show (8 : Int32) ≤ 12 by decide), if_pos (show (12 : Int32) ≤ 12 by decide), if_neg (show ¬ (16 : Int32) ≤ 12 by decide), show ((24 : Int32) - 8 * (12 - 12 / 4 * 4)) &&& 31 = 24 &&& 31 by decide, if_neg s0.1, show (12 : Int32) + 1 = 13 by decide]
  have s1 := feedS (y4 >>> ((16 : Int32) &&& 31)) s0.2 (by simp only [List.length_append, List.length_cons, List.length_nil]; omega)
  rw [fM_feed_b, if_neg (show ¬ (20 : Int32) ≤ 13 by decide), if_pos (show (4 : Int32) ≤ 13 by decide), if_pos (show (8 : Int32) ≤ 13 by decide), if_pos (show (12 : Int32) ≤ 13 by decide), if_neg (show ¬ (16 : Int32) ≤ 13 by decide), show ((24 : Int32) - 8 * (13 - 13 / 4 * 4)) &&& 31 = 16 &&& 31 by decide, if_neg s1.1, show (13 : Int32) + 1 = 14 by decide]
  have s2 := feedS (y4 >>> ((8 : Int32) &&& 31)) s1.2 (by simp only [List.length_append, List.length_cons, List.length_nil]; omega)
  rw [fM_feed_b, if_neg (show ¬ (20 : Int32) ≤ 14 by decide), if_pos (show (4 : Int32) ≤ 14 by decide), if_pos (show (8 : Int32) ≤ 14 by decide), if_pos (show (12 : Int32) ≤ 14 by decide), if_neg (show ¬ (16 : Int32) ≤ 14 by decide), show ((24 : Int32) - 8 * (14 - 14 / 4 * 4)) &&& 31 = 8 &&& 31 by decide, if_neg s2.1, show (14 : Int32) + 1 = 15 by decide]
  have s3 := feedS (y4 >>> ((0 : Int32) &&& 31)) s2.2 (by simp only [List.length_append, List.length_cons, List.length_nil]; omega)
  rw [fM_feed_b, if_neg (show ¬ (20 : Int32) ≤ 15 by decide), if_pos (show (4 : Int32) ≤ 15 by decide), if_pos (show (8 : Int32) ≤ 15 by decide), if_pos (show (12 : Int32) ≤ 15 by decide), if_neg (show ¬ (16 : Int32) ≤ 15 by decide), show ((24 : Int32) - 8 * (15 - 15 / 4 * 4)) &&& 31 = 0 &&& 31 by decide, if_neg s3.1, show (15 : Int32) + 1 = 16 by decide]
  have e0 : ∀ (s : xS) (i : Nat) (v u : Int32), xsi (xsI (xsB s 40 i v) 27 u) 0 = xsi s 0 := fun s i v u => (up_ne (by decide) : va_up s.1 27 u 0 = s.1 0)
  have hap : tape ++ [((y4 >>> ((24 : Int32) &&& 31)).toInt % 256).toNat] ++ [((y4 >>> ((16 : Int32) &&& 31)).toInt % 256).toNat] ++ [((y4 >>> ((8 : Int32) &&& 31)).toInt % 256).toNat] ++ [((y4 >>> ((0 : Int32) &&& 31)).toInt % 256).toNat] = tape ++ by4 y4 := by
    simp only [List.append_assoc]
    rfl
  have hlen : (tape ++ by4 y4).length = tape.length + 4 := by rw [List.length_append]; rfl
  have hT4 := s3.2
  rw [hap] at hT4
  have hfin := feB4 (y1 := y1) (y2 := y2) (y3 := y3) (y4 := y4) (y5 := y5) (n := n) (by omega) hT4 (by rw [e0, e0, e0, e0]; exact h0) (by omega)
  rw [hlen] at hfin
  exact FeP.step hfin rfl
theorem feB2 {y1 y2 y3 y4 y5 : Int32} (hn : 12 < n) (hT : RefT st T tape prn pl rs) (h0 : xsi st 0 = 0) (hl : tape.length + 12 ≤ 4096) : FeP st (fM_feed_b n 1 8 y1 y2 y3 y4 y5 st) T (tape ++ by4 y3 ++ by4 y4 ++ by4 y5) prn pl rs (i3 (tape.length + 12)) 0 := by
  obtain ⟨n, rfl⟩ : ∃ j, n = j + 4 := ⟨n - 4, by omega⟩
  have s0 := feedS (y3 >>> ((24 : Int32) &&& 31)) hT (by omega)
  rw [fM_feed_b, if_neg (show ¬ (20 : Int32) ≤ 8 by decide), if_pos (show (4 : Int32) ≤ 8 by decide), if_pos (show (8 : Int32) ≤ 8 by decide), if_neg (show ¬ (12 : Int32) ≤ 8 by decide), show ((24 : Int32) - 8 * (8 - 8 / 4 * 4)) &&& 31 = 24 &&& 31 by decide, if_neg s0.1, show (8 : Int32) + 1 = 9 by decide]
  have s1 := feedS (y3 >>> ((16 : Int32) &&& 31)) s0.2 (by simp only [List.length_append, List.length_cons, List.length_nil]; omega)
  rw [fM_feed_b, if_neg (show ¬ (20 : Int32) ≤ 9 by decide), if_pos (show (4 : Int32) ≤ 9 by decide), if_pos (show (8 : Int32) ≤ 9 by decide), if_neg (show ¬ (12 : Int32) ≤ 9 by decide), show ((24 : Int32) - 8 * (9 - 9 / 4 * 4)) &&& 31 = 16 &&& 31 by decide, if_neg s1.1, show (9 : Int32) + 1 = 10 by decide]
  have s2 := feedS (y3 >>> ((8 : Int32) &&& 31)) s1.2 (by simp only [List.length_append, List.length_cons, List.length_nil]; omega)
  rw [fM_feed_b, if_neg (show ¬ (20 : Int32) ≤ 10 by decide), if_pos (show (4 : Int32) ≤ 10 by decide), if_pos (show (8 : Int32) ≤ 10 by decide), if_neg (show ¬ (12 : Int32) ≤ 10 by decide), show ((24 : Int32) - 8 * (10 - 10 / 4 * 4)) &&& 31 = 8 &&& 31 by decide, if_neg s2.1, show (10 : Int32) + 1 = 11 by decide]
  have s3 := feedS (y3 >>> ((0 : Int32) &&& 31)) s2.2 (by simp only [List.length_append, List.length_cons, List.length_nil]; omega)
  rw [fM_feed_b, if_neg (show ¬ (20 : Int32) ≤ 11 by decide), if_pos (show (4 : Int32) ≤ 11 by decide), if_pos (show (8 : Int32) ≤ 11 by decide), if_neg (show ¬ (12 : Int32) ≤ 11 by decide), show ((24 : Int32) - 8 * (11 - 11 / 4 * 4)) &&& 31 = 0 &&& 31 by decide, if_neg s3.1, show (11 : Int32) + 1 = 12 by decide]
  have e0 : ∀ (s : xS) (i : Nat) (v u : Int32), xsi (xsI (xsB s 40 i v) 27 u) 0 = xsi s 0 := fun s i v u => (up_ne (by decide) : va_up s.1 27 u 0 = s.1 0)
  have hap : tape ++ [((y3 >>> ((24 : Int32) &&& 31)).toInt % 256).toNat] ++ [((y3 >>> ((16 : Int32) &&& 31)).toInt % 256).toNat] ++ [((y3 >>> ((8 : Int32) &&& 31)).toInt % 256).toNat] ++ [((y3 >>> ((0 : Int32) &&& 31)).toInt % 256).toNat] = tape ++ by4 y3 := by
    simp only [List.append_assoc]
    rfl
  have hlen : (tape ++ by4 y3).length = tape.length + 4 := by rw [List.length_append]; rfl
  have hT4 := s3.2
  rw [hap] at hT4
  have hfin := feB3 (y1 := y1) (y2 := y2) (y3 := y3) (y4 := y4) (y5 := y5) (n := n) (by omega) hT4 (by rw [e0, e0, e0, e0]; exact h0) (by omega)
  rw [hlen] at hfin
  exact FeP.step hfin rfl
theorem feB1 {y1 y2 y3 y4 y5 : Int32} (hn : 16 < n) (hT : RefT st T tape prn pl rs) (h0 : xsi st 0 = 0) (hl : tape.length + 16 ≤ 4096) : FeP st (fM_feed_b n 1 4 y1 y2 y3 y4 y5 st) T (tape ++ by4 y2 ++ by4 y3 ++ by4 y4 ++ by4 y5) prn pl rs (i3 (tape.length + 16)) 0 := by
  obtain ⟨n, rfl⟩ : ∃ j, n = j + 4 := ⟨n - 4, by omega⟩
  have s0 := feedS (y2 >>> ((24 : Int32) &&& 31)) hT (by omega)
  rw [fM_feed_b, if_neg (show ¬ (20 : Int32) ≤ 4 by decide), if_pos (show (4 : Int32) ≤ 4 by decide), if_neg (show ¬ (8 : Int32) ≤ 4 by decide), show ((24 : Int32) - 8 * (4 - 4 / 4 * 4)) &&& 31 = 24 &&& 31 by decide, if_neg s0.1, show (4 : Int32) + 1 = 5 by decide]
  have s1 := feedS (y2 >>> ((16 : Int32) &&& 31)) s0.2 (by simp only [List.length_append, List.length_cons, List.length_nil]; omega)
  rw [fM_feed_b, if_neg (show ¬ (20 : Int32) ≤ 5 by decide), if_pos (show (4 : Int32) ≤ 5 by decide), if_neg (show ¬ (8 : Int32) ≤ 5 by decide), show ((24 : Int32) - 8 * (5 - 5 / 4 * 4)) &&& 31 = 16 &&& 31 by decide, if_neg s1.1, show (5 : Int32) + 1 = 6 by decide]
  have s2 := feedS (y2 >>> ((8 : Int32) &&& 31)) s1.2 (by simp only [List.length_append, List.length_cons, List.length_nil]; omega)
  rw [fM_feed_b, if_neg (show ¬ (20 : Int32) ≤ 6 by decide), if_pos (show (4 : Int32) ≤ 6 by decide), if_neg (show ¬ (8 : Int32) ≤ 6 by decide), show ((24 : Int32) - 8 * (6 - 6 / 4 * 4)) &&& 31 = 8 &&& 31 by decide, if_neg s2.1, show (6 : Int32) + 1 = 7 by decide]
  have s3 := feedS (y2 >>> ((0 : Int32) &&& 31)) s2.2 (by simp only [List.length_append, List.length_cons, List.length_nil]; omega)
  rw [fM_feed_b, if_neg (show ¬ (20 : Int32) ≤ 7 by decide), if_pos (show (4 : Int32) ≤ 7 by decide), if_neg (show ¬ (8 : Int32) ≤ 7 by decide), show ((24 : Int32) - 8 * (7 - 7 / 4 * 4)) &&& 31 = 0 &&& 31 by decide, if_neg s3.1, show (7 : Int32) + 1 = 8 by decide]
  have e0 : ∀ (s : xS) (i : Nat) (v u : Int32), xsi (xsI (xsB s 40 i v) 27 u) 0 = xsi s 0 := fun s i v u => (up_ne (by decide) : va_up s.1 27 u 0 = s.1 0)
  have hap : tape ++ [((y2 >>> ((24 : Int32) &&& 31)).toInt % 256).toNat] ++ [((y2 >>> ((16 : Int32) &&& 31)).toInt % 256).toNat] ++ [((y2 >>> ((8 : Int32) &&& 31)).toInt % 256).toNat] ++ [((y2 >>> ((0 : Int32) &&& 31)).toInt % 256).toNat] = tape ++ by4 y2 := by
    simp only [List.append_assoc]
    rfl
  have hlen : (tape ++ by4 y2).length = tape.length + 4 := by rw [List.length_append]; rfl
  have hT4 := s3.2
  rw [hap] at hT4
  have hfin := feB2 (y1 := y1) (y2 := y2) (y3 := y3) (y4 := y4) (y5 := y5) (n := n) (by omega) hT4 (by rw [e0, e0, e0, e0]; exact h0) (by omega)
  rw [hlen] at hfin
  exact FeP.step hfin rfl
theorem feB0 {y1 y2 y3 y4 y5 : Int32} (hn : 20 < n) (hT : RefT st T tape prn pl rs) (h0 : xsi st 0 = 0) (hl : tape.length + 20 ≤ 4096) : FeP st (fM_feed_b n 1 0 y1 y2 y3 y4 y5 st) T (tape ++ by4 y1 ++ by4 y2 ++ by4 y3 ++ by4 y4 ++ by4 y5) prn pl rs (i3 (tape.length + 20)) 0 := by
  obtain ⟨n, rfl⟩ : ∃ j, n = j + 4 := ⟨n - 4, by omega⟩
  have s0 := feedS (y1 >>> ((24 : Int32) &&& 31)) hT (by omega)
  rw [fM_feed_b, if_neg (show ¬ (20 : Int32) ≤ 0 by decide), if_neg (show ¬ (4 : Int32) ≤ 0 by decide), show ((24 : Int32) - 8 * (0 - 0 / 4 * 4)) &&& 31 = 24 &&& 31 by decide, if_neg s0.1, show (0 : Int32) + 1 = 1 by decide]
  have s1 := feedS (y1 >>> ((16 : Int32) &&& 31)) s0.2 (by simp only [List.length_append, List.length_cons, List.length_nil]; omega)
  rw [fM_feed_b, if_neg (show ¬ (20 : Int32) ≤ 1 by decide), if_neg (show ¬ (4 : Int32) ≤ 1 by decide), show ((24 : Int32) - 8 * (1 - 1 / 4 * 4)) &&& 31 = 16 &&& 31 by decide, if_neg s1.1, show (1 : Int32) + 1 = 2 by decide]
  have s2 := feedS (y1 >>> ((8 : Int32) &&& 31)) s1.2 (by simp only [List.length_append, List.length_cons, List.length_nil]; omega)
  rw [fM_feed_b, if_neg (show ¬ (20 : Int32) ≤ 2 by decide), if_neg (show ¬ (4 : Int32) ≤ 2 by decide), show ((24 : Int32) - 8 * (2 - 2 / 4 * 4)) &&& 31 = 8 &&& 31 by decide, if_neg s2.1, show (2 : Int32) + 1 = 3 by decide]
  have s3 := feedS (y1 >>> ((0 : Int32) &&& 31)) s2.2 (by simp only [List.length_append, List.length_cons, List.length_nil]; omega)
  rw [fM_feed_b, if_neg (show ¬ (20 : Int32) ≤ 3 by decide), if_neg (show ¬ (4 : Int32) ≤ 3 by decide), show ((24 : Int32) - 8 * (3 - 3 / 4 * 4)) &&& 31 = 0 &&& 31 by decide, if_neg s3.1, show (3 : Int32) + 1 = 4 by decide]
  have e0 : ∀ (s : xS) (i : Nat) (v u : Int32), xsi (xsI (xsB s 40 i v) 27 u) 0 = xsi s 0 := fun s i v u => (up_ne (by decide) : va_up s.1 27 u 0 = s.1 0)
  have hap : tape ++ [((y1 >>> ((24 : Int32) &&& 31)).toInt % 256).toNat] ++ [((y1 >>> ((16 : Int32) &&& 31)).toInt % 256).toNat] ++ [((y1 >>> ((8 : Int32) &&& 31)).toInt % 256).toNat] ++ [((y1 >>> ((0 : Int32) &&& 31)).toInt % 256).toNat] = tape ++ by4 y1 := by
    simp only [List.append_assoc]
    rfl
  have hlen : (tape ++ by4 y1).length = tape.length + 4 := by rw [List.length_append]; rfl
  have hT4 := s3.2
  rw [hap] at hT4
  have hfin := feB1 (y1 := y1) (y2 := y2) (y3 := y3) (y4 := y4) (y5 := y5) (n := n) (by omega) hT4 (by rw [e0, e0, e0, e0]; exact h0) (by omega)
  rw [hlen] at hfin
  exact FeP.step hfin rfl
theorem feed_v (hn : 30 < n) (hT : RefT st T tape prn pl rs) (x1 x2 x3 x4 x5 : Int32) (hl : tape.length + 20 ≤ 4096) : FeP st (fM_feed n st x1 x2 x3 x4 x5) T (tape ++ (by4 x1 ++ by4 x2 ++ by4 x3 ++ by4 x4 ++ by4 x5)) prn pl rs (i3 (tape.length + 20)) 0 := by
  have h := feB0 (y1 := x1) (y2 := x2) (y3 := x3) (y4 := x4) (y5 := x5) (n := n) (by omega) (hT.f0 (v := 0)) xs_e (by omega)
  unfold fM_feed
  rw [hT.2.2.2.1.2.1, show (20 : Int32) = i3 20 from rfl, i3_add, if_pos (by rw [show (4096 : Int32) = i3 4096 from rfl, i3_le (by omega) (by omega)]; omega)]
  simp only [List.append_assoc] at h ⊢
  exact FeP.step h rfl
theorem feed_n (hT : RefT st T tape prn pl rs) (x1 x2 x3 x4 x5 : Int32) (hl : ¬ tape.length + 20 ≤ 4096) : FeP st (fM_feed n st x1 x2 x3 x4 x5) T tape prn pl rs 0 1 := by
  have h40 := hT.2.2.2.1.2.2.1
  unfold fM_feed
  rw [hT.2.2.2.1.2.1, show (20 : Int32) = i3 20 from rfl, i3_add, if_neg (by rw [show (4096 : Int32) = i3 4096 from rfl, i3_le (by omega) (by omega)]; omega)]
  exact ⟨_, rfl, hT.f0.f0, xs_e, rfl⟩
theorem end_v (hT : RefT st T tape prn pl rs) {k : Nat} (hk : k ≤ tape.length) : FeP st (fM_end n st (i3 k)) T (tape.take k) prn pl rs (i3 k) 0 := by
  have h40 := hT.2.2.2.1.2.2.1
  unfold fM_end
  rw [if_neg (i3_nn (by omega)), hT.2.2.2.1.2.1, if_pos (by rw [i3_le (by omega) (by omega)]; exact hk)]
  exact ⟨_, rfl, hT.f0.f27 hk, ((up_ne (by decide) : va_up (xsI st 0 0).1 27 (i3 k) 0 = (xsI st 0 0).1 0)).trans xs_e, rfl⟩
theorem end_n (hT : RefT st T tape prn pl rs) {x : Int32} (h : ¬ (¬ x < 0 ∧ ¬ i3 tape.length < x)) : FeP st (fM_end n st x) T tape prn pl rs 0 1 := by
  have done : FeP st (some ((0 : Int32), xsI (xsI st 0 0) 0 1)) T tape prn pl rs 0 1 := ⟨_, rfl, hT.f0.f0, xs_e, rfl⟩
  unfold fM_end
  by_cases h0 : x < 0
  · rw [if_pos h0]
    exact done
  · rw [if_neg h0, hT.2.2.2.1.2.1, if_neg (fun h1 => h ⟨h0, Int32.not_lt.mpr h1⟩)]
    exact done
theorem count_v (hT : RefT st T tape prn pl rs) {k : Nat} (hk : k ≤ 3) : FeP st (fM_count n st (i3 k)) T tape prn pl rs (if k = 0 then i3 tape.length else if k = 1 then i3 prn.length else if k = 2 then pl else rs) 0 := by
  unfold fM_count
  rw [hT.2.2.2.1.2.1, hT.2.2.2.2.1.2.1, hT.2.2.2.2.2.1, hT.2.2.2.2.2.2]
  obtain rfl | rfl | rfl | rfl : k = 0 ∨ k = 1 ∨ k = 2 ∨ k = 3 := by omega
  all_goals exact ⟨_, rfl, hT.f0, xs_e, rfl⟩
theorem count_n (hT : RefT st T tape prn pl rs) {x : Int32} (h : ¬ (¬ x < 0 ∧ ¬ (3 : Int32) < x)) : FeP st (fM_count n st x) T tape prn pl rs 0 1 := by
  have done : FeP st (some ((0 : Int32), xsI (xsI st 0 0) 0 1)) T tape prn pl rs 0 1 := ⟨_, rfl, hT.f0.f0, xs_e, rfl⟩
  unfold fM_count
  by_cases h0 : x < 0
  · rw [if_pos h0]
    exact done
  · rw [if_neg h0, if_neg (fun h1 => h ⟨h0, Int32.not_lt.mpr h1⟩)]
    exact done
theorem wdL (hp : ∀ c ∈ prn, c < 256) {i : Nat} (hi : i < prn.length) : ∀ (m k n : Nat) (st : xS), k + m = 8 → m < n → RefT st T tape prn pl rs → fM_word_b n 1 (i3 (i + k)) (cW (wA prn i k : Nat)) (i3 i) st = some (cW (wA prn i 8 : Nat), st) := by
  intro m
  induction m with
  | zero =>
    intro k n st hk hn hT
    obtain ⟨n, rfl⟩ : ∃ j, n = j + 1 := ⟨n - 1, by omega⟩
    have h28 := hT.2.2.2.2.1.2.2.1
    obtain rfl : k = 8 := by omega
    rw [fM_word_b, show (8 : Int32) = i3 8 from rfl, i3_add, if_pos (by rw [i3_le (by omega) (by omega)]; omega)]
  | succ m ih =>
    intro k n st hk hn hT
    obtain ⟨n, rfl⟩ : ∃ j, n = j + 1 := ⟨n - 1, by omega⟩
    obtain ⟨b1, b2, b3, b4⟩ := hT.2.2.2.2.1
    have hw : ∀ c : Nat, c < 256 → bt prn (i + k) = c → cW (wA prn i k : Nat) * 256 + cW (c : Nat) = cW (wA prn i (k + 1) : Nat) := by
      intro c hc hb
      have : wA prn i (k + 1) = wA prn i k * 256 + c := by rw [← hb]; rfl
      rw [this]
      show Int64.ofInt _ * Int64.ofInt 256 + Int64.ofInt _ = Int64.ofInt _
      rw [← Int64.ofInt_mul, ← Int64.ofInt_add, Int.natCast_add, Int.natCast_mul]
      rfl
    rw [fM_word_b, show (8 : Int32) = i3 8 from rfl, i3_add, if_neg (by rw [i3_le (by omega) (by omega)]; omega), b2, i3_one]
    by_cases hb : i + k < prn.length
    · have hc := hp _ (List.getElem_mem hb)
      have hbt : bt prn (i + k) = prn[i + k] := by
        unfold bt
        rw [List.getD_eq_getElem?_getD, List.getElem?_eq_getElem hb]
        rfl
      have hv : xba st 28 (i + k) = sb prn[i + k] := by
        have := seg_get b4 (show i + k < (prn.map sb).length by rw [List.length_map]; exact hb)
        rw [Nat.zero_add] at this
        rw [this, List.getElem_map]
      rw [if_neg (by rw [i3_le (by omega) (by omega)]; omega), i3_N (by omega), b1, if_neg (i3_id2 (by omega) (by omega)), hv, sb_and hc, i3_64 (by omega), hw _ hc hbt]
      exact ih (k + 1) n st (by omega) (by omega) hT
    · have hbt : bt prn (i + k) = 0 := by
        unfold bt
        rw [List.getD_eq_getElem?_getD, List.getElem?_eq_none (by omega)]
        rfl
      rw [if_pos (by rw [i3_le (by omega) (by omega)]; omega)]
      have := hw 0 (by omega) hbt
      have h00 : (0 : Int64) = cW ((0 : Nat) : Int) := rfl
      rw [h00, this]
      exact ih (k + 1) n st (by omega) (by omega) hT
def WoP (st : xS) (out : Option (Int64 × xS)) (T : Nat → List Nat) (tape prn : List Nat) (pl rs : Int32) (z : Int64) (f : Int32) : Prop := ∃ st', out = some (z, st') ∧ RefT st' T tape prn pl rs ∧ xsi st' 0 = f ∧ pt st' = pt st
theorem word_v (hn : 20 < n) (hT : RefT st T tape prn pl rs) (hp : ∀ c ∈ prn, c < 256) {k : Nat} (hk : k < prn.length) : WoP st (fM_word n st (i3 k)) T tape prn pl rs (cW (wA prn k 8 : Nat)) 0 := by
  have h28 := hT.2.2.2.2.1.2.2.1
  have h := wdL hp hk 8 0 n (xsI st 0 0) (by omega) (by omega) (hT.f0 (v := 0))
  unfold fM_word
  rw [if_neg (i3_nn (by omega)), hT.2.2.2.2.1.2.1, if_pos (by rw [i3_lt (by omega) (by omega)]; exact hk)]
  exact ⟨_, h, hT.f0, xs_e, rfl⟩
theorem word_n (hT : RefT st T tape prn pl rs) {x : Int32} (h : ¬ (¬ x < 0 ∧ x < i3 prn.length)) : WoP st (fM_word n st x) T tape prn pl rs 0 1 := by
  have done : WoP st (some ((0 : Int32).toInt64, xsI (xsI st 0 0) 0 1)) T tape prn pl rs 0 1 := ⟨_, rfl, hT.f0.f0, xs_e, rfl⟩
  unfold fM_word
  by_cases h0 : x < 0
  · rw [if_pos h0]
    exact done
  · rw [if_neg h0, hT.2.2.2.2.1.2.1, if_neg (fun h1 => h ⟨h0, h1⟩)]
    exact done
def RestT (st : xS) (T : Nat → List Nat) (tape : List Nat) (pl rs : Int32) : Prop := (∃ vs cs ks ws, MS st vs cs ks ws) ∧ Hs st ∧ (∀ x, x < 8 → RegM st x (T x)) ∧ (xln st 40 = 4096 ∧ xsi st 27 = i3 tape.length ∧ tape.length ≤ 4096 ∧ (∀ c ∈ tape, c < 256) ∧ seg (xba st 40) 0 (tape.map sb)) ∧ xln st 28 = 4096 ∧ xsi st 31 = pl ∧ xsi st 30 = rs
theorem RestT.sb (h : RestT st T tape pl rs) {i : Nat} {v : Int32} : RestT (xsB st 28 i v) T tape pl rs := by
  obtain ⟨⟨v1, c1, k1, w1, hm⟩, h2, h3, ⟨a1, a2, a3, a4, a5⟩, h5, h6, h7⟩ := h
  refine ⟨⟨v1, c1, k1, w1, hm.sb (by decide)⟩, h2, fun x hx => ?_, ⟨a1, a2, a3, a4, ?_⟩, h5, h6, h7⟩
  · obtain ⟨g1, g2, g3, g4, g5, g6, g7⟩ := h3 x hx
    refine ⟨g1, g2, g3, g4, ?_, g6, ?_⟩
    · rw [xsB_oth (by decide)]
      exact g5
    · rw [xsB_oth (by omega)]
      exact g7
  · rw [xsB_oth (by decide)]
    exact a5
theorem RefT.f29 (h : RefT st T tape prn pl rs) {v : Int32} : RestT (xsI st 29 v) T tape pl rs := by
  obtain ⟨⟨v1, c1, k1, w1, hm⟩, h2, h3, ⟨a1, a2, a3, a4, a5⟩, ⟨b1, b2, b3, b4⟩, h6, h7⟩ := h
  exact ⟨⟨v1, c1, k1, w1, hm.si (by decide) (by decide) (by decide) (by decide)⟩, h2, h3, ⟨a1, (up_ne (by decide) : va_up st.1 29 v 27 = st.1 27).trans a2, a3, a4, a5⟩, b1, (up_ne (by decide) : va_up st.1 29 v 31 = st.1 31).trans h6, (up_ne (by decide) : va_up st.1 29 v 30 = st.1 30).trans h7⟩
theorem priL {x : Nat} {w : List Nat} (hx : x < 8) (hTx : T x = w) (hw : ∀ c ∈ w, c < 128) : ∀ (q n i : Nat) (st : xS), i + q = w.length → RestT st T tape pl rs → xsi st 29 = i3 w.length → seg (xba st 28) 0 ((w.take i).map sb) → q < n → FeP st (fM_print0_b n 1 (i3 i) (i3 x) st) T tape w pl rs (i3 w.length) (xsi st 0) := by
  intro q
  induction q with
  | zero =>
    intro n i st hi hT h29 hs hn
    obtain ⟨n, rfl⟩ : ∃ j, n = j + 1 := ⟨n - 1, by omega⟩
    rw [List.take_of_length_le (by omega)] at hs
    obtain ⟨h1, h2, h3, h4, h5, h6⟩ := hT
    have h8 := (h3 x hx).2.2.2.2.2.1
    rw [hTx] at h8
    rw [fM_print0_b, h29, if_pos (by rw [i3_le (by omega) (by omega)]; omega)]
    exact ⟨_, rfl, ⟨h1, h2, h3, h4, ⟨h5, h29, h8, hs⟩, h6⟩, rfl, rfl⟩
  | succ q ih =>
    intro n i st hi hT h29 hs hn
    obtain ⟨n, rfl⟩ : ∃ j, n = j + 1 := ⟨n - 1, by omega⟩
    obtain ⟨g1, g2, g3, g4, g5, g6, g7⟩ := hT.2.2.1 x hx
    have b1 := hT.2.2.2.2.1
    rw [hTx] at g7 g6
    have hv : xrb st (32 + x) i = sb w[i] := by
      have := seg_get g7 (show i < (w.map sb).length by rw [List.length_map]; omega)
      rw [Nat.zero_add] at this
      unfold xrb
      rw [if_pos (by omega), this, List.getElem_map]
    have hc := hw w[i] (List.getElem_mem (by omega))
    have hnar : vp_nar .byte (sb w[i]) = sb w[i] := by
      rw [sb_lt hc, vp_nb]
      exact nar_c _ hc
    have hx4 : xrl st (32 + x) = 4096 := by
      unfold xrl
      rw [if_pos (by omega), g4]
    rw [fM_print0_b, h29, if_neg (by rw [i3_le (by omega) (by omega)]; omega), g2, if_neg (i3_idx (by omega) (by omega)), i3_N (by omega), if_neg (by omega), if_neg (fun h => h (Or.inr (Or.inl ⟨by omega, by omega⟩))), i3_N (by omega), hx4, if_neg (i3_id2 (by omega) (by omega)), b1, if_neg (i3_id2 (by omega) (by omega)), hv, hnar, i3_one]
    refine FeP.step (ih n (i + 1) (xsB st 28 i (sb w[i])) (by omega) hT.sb h29 ?_ (by omega)) rfl
    rw [xsB_same, List.take_succ_eq_append_getElem (show i < w.length by omega), List.map_append]
    have hlen : ((w.take i).map sb).length = i := by rw [List.length_map, List.length_take]; omega
    refine seg_app.mpr ⟨seg_of hs (fun k hk => by rw [hlen] at hk; rw [upd_ne (by omega)]), ?_⟩
    rw [hlen, Nat.zero_add]
    exact seg_cons.mpr ⟨by rw [upd_eq], seg_nil⟩
theorem print_v {x : Nat} (hn : 5000 < n) (hT : RefT st T tape prn pl rs) (hx : x < 8) (hw : ∀ c ∈ T x, c < 128) : FeP st (fM_print0 n st (i3 x)) T tape (T x) pl rs (i3 (T x).length) 0 := by
  obtain ⟨st1, e1, m1, m2, m3, m4, m5⟩ := beginM (n := n) hT
  obtain ⟨g1, g2, g3, g4, g5, g6, g7⟩ := m3.2.2.1 x hx
  unfold fM_print0
  rw [e1, Option.bind_some, out_t hx, Option.bind_some, if_pos rfl, g3, if_neg (i3_idx (by omega) (by omega)), i3_N (by omega), g5]
  have := priL hx rfl hw (T x).length n 0 (xsI st1 29 (i3 (T x).length)) (by omega) m3.f29 xs_e seg_nil (by omega)
  rw [show xsi (xsI st1 29 (i3 (T x).length)) 0 = 0 from ((up_ne (by decide) : va_up st1.1 29 (i3 (T x).length) 0 = st1.1 0)).trans m4] at this
  exact FeP.step this m5
theorem print_n {x : Int32} (hT : RefT st T tape prn pl rs) (h : ¬ isR x) : FeP st (fM_print0 n st x) T tape prn pl rs 0 1 := by
  obtain ⟨st1, e1, m1, m2, m3, m4, m5⟩ := beginM (n := n) hT
  unfold fM_print0
  rw [e1, Option.bind_some, out_f h, Option.bind_some, if_neg (by decide)]
  exact ⟨_, rfl, m3.f0, xs_e, m5⟩
end FEE
