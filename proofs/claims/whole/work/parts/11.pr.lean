/-! ===== the printer of ValueBench ===== -/
theorem hexd_all : ∀ c, c < 128 → fJS_charAt13 0 ((i3 c >>> ((4 : Int32) &&& 31)) &&& 15) = some (i3 (hx (c / 16))) ∧ fJS_charAt13 0 (i3 c &&& 15) = some (i3 (hx (c % 16))) := by decide +kernel
theorem hx_lt {d : Nat} (h : d < 16) : hx d < 128 := by unfold hx; split <;> omega
theorem and15 (x : Int32) : ∃ k, k < 16 ∧ x &&& 15 = i3 k := by
  refine ⟨((x.toInt % 4294967296).toNat % 4294967296 % 2 ^ 4 % 4294967296), by omega, ?_⟩
  have := i3_and (x.toInt % 4294967296).toNat 4
  rw [show (15 : Int32) = i3 (2 ^ 4 - 1) from rfl, ← this, ← iz_mod, ← x_iz]
theorem char13 {n : Nat} (x : Int32) : ∃ y, fJS_charAt13 n (x &&& 15) = some y := by
  obtain ⟨k, hk, e⟩ := and15 x
  rw [e]
  unfold fJS_charAt13
  rw [if_neg (i3_idx hk (by omega))]
  exact ⟨_, rfl⟩
section WC
variable {n : Nat} {t : TS}
theorem letterOf_c {c : Nat} (hc : c < 128) : fP_letterOf n (i3 c) = some (if c = 34 then 34 else if c = 92 then 92 else if c = 8 then 98 else if c = 9 then 116 else if c = 10 then 110 else if c = 12 then 102 else if c = 13 then 114 else -1) := by
  unfold fP_letterOf
  rw [show (8 : Int32) = i3 8 from rfl, show (9 : Int32) = i3 9 from rfl, show (10 : Int32) = i3 10 from rfl, show (12 : Int32) = i3 12 from rfl, show (13 : Int32) = i3 13 from rfl, show (34 : Int32) = i3 34 from rfl, show (92 : Int32) = i3 92 from rfl]
  simp only [i3_eq (show c < 2147483648 by omega) (show 8 < 2147483648 by omega), i3_eq (show c < 2147483648 by omega) (show 9 < 2147483648 by omega), i3_eq (show c < 2147483648 by omega) (show 10 < 2147483648 by omega), i3_eq (show c < 2147483648 by omega) (show 12 < 2147483648 by omega), i3_eq (show c < 2147483648 by omega) (show 13 < 2147483648 by omega), i3_eq (show c < 2147483648 by omega) (show 34 < 2147483648 by omega), i3_eq (show c < 2147483648 by omega) (show 92 < 2147483648 by omega)]
  by_cases h1 : c = 8
  · subst h1; rfl
  by_cases h2 : c = 9
  · subst h2; rfl
  by_cases h3 : c = 10
  · subst h3; rfl
  by_cases h4 : c = 12
  · subst h4; rfl
  by_cases h5 : c = 13
  · subst h5; rfl
  by_cases h6 : c = 34
  · subst h6; rfl
  by_cases h7 : c = 92
  · subst h7; rfl
  simp only [h1, h2, h3, h4, h5, h6, h7, if_false]
theorem two_w (ht : RV t) {c : Nat} (hc : c < 128) : ∃ t' : TS, ((fT_add n 92 t.1 (i3 t.2.1) t.2.2).bind fun o4 => (fT_add n (i3 c) o4.1 o4.2.1 o4.2.2).bind fun o6 => some (o6.1, o6.2.1, o6.2.2)) = some (t'.1, i3 t'.2.1, t'.2.2) ∧ Wr t ([92, c].map sb) t' := by
  obtain ⟨t1, e1, h1⟩ := add_c (n := n) ht (c := 92) (by omega)
  obtain ⟨t2, e2, h2⟩ := add_c (n := n) h1.v hc
  refine ⟨t2, ?_, h1.app h2⟩
  rw [show (92 : Int32) = i3 92 from rfl, e1, Option.bind_some]
  dsimp only
  rw [e2, Option.bind_some]
theorem six_w (ht : RV t) {x y : Int32} {a b : Option Int32} {c e : Nat} (ha : a = some x) (hb : b = some y) : ∃ t' : TS, ((fT_add n 92 t.1 (i3 t.2.1) t.2.2).bind fun o4 => (fT_add n 117 o4.1 o4.2.1 o4.2.2).bind fun o6 => (fT_add n 48 o6.1 o6.2.1 o6.2.2).bind fun o8 => (fT_add n 48 o8.1 o8.2.1 o8.2.2).bind fun o10 => a.bind fun o12 => (fT_add n o12 o10.1 o10.2.1 o10.2.2).bind fun o15 => b.bind fun o17 => (fT_add n o17 o15.1 o15.2.1 o15.2.2).bind fun o20 => some (o20.1, o20.2.1, o20.2.2)) = some (t'.1, i3 t'.2.1, t'.2.2) ∧ RV t' ∧ (c < 128 → e < 128 → x = i3 c → y = i3 e → Wr t ([92, 117, 48, 48, c, e].map sb) t') := by
  obtain ⟨t1, e1, h1⟩ := add_c (n := n) ht (c := 92) (by omega)
  obtain ⟨t2, e2, h2⟩ := add_c (n := n) h1.v (c := 117) (by omega)
  obtain ⟨t3, e3, h3⟩ := add_c (n := n) h2.v (c := 48) (by omega)
  obtain ⟨t4, e4, h4⟩ := add_c (n := n) h3.v (c := 48) (by omega)
  obtain ⟨t5, e5, h5⟩ := add_x (n := n) h4.v x
  obtain ⟨t6, e6, h6⟩ := add_x (n := n) h5.v y
  refine ⟨t6, ?_, h6.v, fun hc he hx hy => ?_⟩
  · rw [ha, hb, show (92 : Int32) = i3 92 from rfl, show (117 : Int32) = i3 117 from rfl, show (48 : Int32) = i3 48 from rfl, e1, Option.bind_some]
    dsimp only
    rw [e2, Option.bind_some]
    dsimp only
    rw [e3, Option.bind_some]
    dsimp only
    rw [e4, Option.bind_some]
    dsimp only
    rw [Option.bind_some, e5, Option.bind_some]
    dsimp only
    rw [Option.bind_some, e6, Option.bind_some]
  · rw [hx, i3_int (by omega), show ((c : Int) % 256).toNat = c by omega] at h5
    rw [hy, i3_int (by omega), show ((e : Int) % 256).toNat = e by omega] at h6
    exact ((((h1.app h2).app h3).app h4).app h5).app h6
/-- any code is written; one below 128 as printed -/
theorem writeCode_w (ht : RV t) (x : Int32) : ∃ t' : TS, fP_writeCode n x t.1 (i3 t.2.1) t.2.2 = some (t'.1, i3 t'.2.1, t'.2.2) ∧ RV t' ∧ (∀ c, c < 128 → x = i3 c → Wr t ((esc c).map sb) t') := by
  unfold fP_writeCode
  by_cases hx : ∃ c, c < 128 ∧ x = i3 c
  · obtain ⟨c, hc, rfl⟩ := hx
    rw [letterOf_c hc, Option.bind_some]
    have fin : ∀ t' : TS, Wr t ((esc c).map sb) t' → ∀ c', c' < 128 → i3 c = i3 c' → Wr t ((esc c').map sb) t' := fun t' h c' hc' he => by
      rw [i3_eq (by omega) (by omega)] at he
      rw [← he]
      exact h
    by_cases h1 : c = 34 ∨ c = 92 ∨ c = 8 ∨ c = 9 ∨ c = 10 ∨ c = 12 ∨ c = 13
    · obtain ⟨e, he, h2, h3⟩ : ∃ e, e < 128 ∧ esc c = [92, e] ∧ (if c = 34 then 34 else if c = 92 then 92 else if c = 8 then 98 else if c = 9 then 116 else if c = 10 then 110 else if c = 12 then 102 else if c = 13 then 114 else -1 : Int32) = i3 e := by
        rcases h1 with rfl | rfl | rfl | rfl | rfl | rfl | rfl
        · exact ⟨34, by decide⟩
        · exact ⟨92, by decide⟩
        · exact ⟨98, by decide⟩
        · exact ⟨116, by decide⟩
        · exact ⟨110, by decide⟩
        · exact ⟨102, by decide⟩
        · exact ⟨114, by decide⟩
      obtain ⟨t', e1, g1⟩ := two_w (n := n) ht he
      rw [h3, if_neg (by rw [i3_m1 (by omega)]; exact not_false)]
      exact ⟨t', e1, g1.v, fin t' (by rw [h2]; exact g1)⟩
    · have h2 : (if c = 34 then 34 else if c = 92 then 92 else if c = 8 then 98 else if c = 9 then 116 else if c = 10 then 110 else if c = 12 then 102 else if c = 13 then 114 else -1 : Int32) = -1 := by
        rw [if_neg (by omega), if_neg (by omega), if_neg (by omega), if_neg (by omega), if_neg (by omega), if_neg (by omega), if_neg (by omega)]
      rw [h2, if_pos rfl]
      obtain ⟨d1, d2⟩ := hexd_all c hc
      obtain ⟨t', e1, g1, g2⟩ := six_w (n := n) ht (c := hx (c / 16)) (e := hx (c % 16)) (show fJS_charAt13 n ((i3 c >>> ((4 : Int32) &&& 31)) &&& 15) = _ from d1) (show fJS_charAt13 n (i3 c &&& 15) = _ from d2)
      have g3 := g2 (hx_lt (by omega)) (hx_lt (by omega)) rfl rfl
      by_cases h3 : c < 32
      · have h4 : esc c = [92, 117, 48, 48, hx (c / 16), hx (c % 16)] := by
          unfold esc
          rw [if_neg (by omega), if_neg (by omega), if_neg (by omega), if_neg (by omega), if_neg (by omega), if_neg (by omega), if_neg (by omega), if_pos (by omega)]
        rw [if_pos (by rw [show (32 : Int32) = i3 32 from rfl, i3_lt (by omega) (by omega)]; exact h3)]
        exact ⟨t', e1, g1, fin t' (by rw [h4]; exact g3)⟩
      · rw [if_neg (by rw [show (32 : Int32) = i3 32 from rfl, i3_lt (by omega) (by omega)]; exact h3)]
        by_cases h5 : c = 127
        · have h4 : esc c = [92, 117, 48, 48, hx (c / 16), hx (c % 16)] := by
            unfold esc
            rw [if_neg (by omega), if_neg (by omega), if_neg (by omega), if_neg (by omega), if_neg (by omega), if_neg (by omega), if_neg (by omega), if_pos (by omega)]
          rw [if_pos (by rw [h5]; rfl)]
          exact ⟨t', e1, g1, fin t' (by rw [h4]; exact g3)⟩
        · have h4 : esc c = [c] := by
            unfold esc
            rw [if_neg (by omega), if_neg (by omega), if_neg (by omega), if_neg (by omega), if_neg (by omega), if_neg (by omega), if_neg (by omega), if_neg (by omega)]
          obtain ⟨t', e1, g1⟩ := add_c (n := n) ht hc
          rw [if_neg (by rw [show (127 : Int32) = i3 127 from rfl, i3_eq (by omega) (by omega)]; exact h5), e1]
          exact ⟨t', rfl, g1.v, fin t' (by rw [h4]; exact g1)⟩
  · have nn : ∀ t' : TS, ∀ c, c < 128 → x = i3 c → Wr t ((esc c).map sb) t' := fun t' c hc e => absurd ⟨c, hc, e⟩ hx
    obtain ⟨y, hy⟩ : ∃ y, fP_letterOf n x = some y := by
      unfold fP_letterOf
      split <;> (try split) <;> (try split) <;> (try split) <;> (try split) <;> (try split) <;> (try split) <;> exact ⟨_, rfl⟩
    rw [hy, Option.bind_some]
    obtain ⟨a, ha⟩ := char13 (n := n) (x >>> ((4 : Int32) &&& 31))
    obtain ⟨b, hb⟩ := char13 (n := n) x
    obtain ⟨t', e1, g1, _⟩ := six_w (n := n) ht (c := 0) (e := 0) ha hb
    by_cases h1 : y = -1
    · rw [if_pos h1]
      by_cases h2 : x < 32
      · rw [if_pos h2]
        exact ⟨t', e1, g1, nn t'⟩
      · rw [if_neg h2]
        by_cases h3 : x = 127
        · rw [if_pos h3]
          exact ⟨t', e1, g1, nn t'⟩
        · rw [if_neg h3]
          obtain ⟨t', e1, g1⟩ := add_x (n := n) ht x
          rw [e1]
          exact ⟨t', rfl, g1.v, nn t'⟩
    · rw [if_neg h1]
      obtain ⟨t1, e1, g1⟩ := add_c (n := n) ht (c := 92) (by omega)
      obtain ⟨t2, e2, g2⟩ := add_x (n := n) g1.v y
      rw [show (92 : Int32) = i3 92 from rfl, e1, Option.bind_some]
      dsimp only
      rw [e2]
      exact ⟨t2, rfl, g2.v, nn t2⟩
end WC
section WS
variable {f : Nat → Int64} {p v : Nat} {o : Int32} {s : Sx}
theorem ws_loop (h : At f v p (strc s)) (hs : sok s) : ∀ (s' : Sx) (n i : Nat) (t : TS), s.drop i = s' → i + s'.length = s.length → s'.length < n → RV t → ∃ t' : TS, fP_writeString_b f (i3 v) o n 1 (i3 i) (i3 p) t.1 (i3 t.2.1) t.2.2 = some (t'.1, i3 t'.2.1, t'.2.2) ∧ Wr t ((s'.flatMap esc ++ [34]).map sb) t' := by
  have hle := h.le
  intro s'
  induction s' with
  | nil =>
    intro n i t hd hi hn ht
    rw [List.length_nil] at hi
    obtain ⟨n, rfl⟩ : ∃ j, n = j + 1 := ⟨n - 1, by omega⟩
    obtain ⟨t1, e1, g1⟩ := add_c (n := n) ht (c := 34) (by omega)
    refine ⟨t1, ?_, g1⟩
    rw [fP_writeString_b, h.slen, Option.bind_some, if_pos (by rw [i3_le (by omega) (by omega)]; omega), show (34 : Int32) = i3 34 from rfl, e1]
    rfl
  | cons c s' ih =>
    intro n i t hd hi hn ht
    rw [List.length_cons] at hi hn
    obtain ⟨n, rfl⟩ : ∃ j, n = j + 1 := ⟨n - 1, by omega⟩
    have hc : s[i]'(by omega) = c := by
      have := List.getElem_drop (xs := s) (i := i) (j := 0) (h := by rw [List.length_drop]; omega)
      simp only [hd] at this
      simpa using this.symm
    have hc1 : c < 128 := by rw [← hc]; exact hs _ (List.getElem_mem _)
    obtain ⟨t1, e1, g0, g1⟩ := writeCode_w (n := n) ht (i3 c)
    obtain ⟨t2, e2, g2⟩ := ih n (i + 1) t1 (by rw [← List.drop_drop, hd]; rfl) (by omega) (by omega) g0
    refine ⟨t2, ?_, ?_⟩
    · rw [fP_writeString_b, h.slen, Option.bind_some, if_neg (by rw [i3_le (by omega) (by omega)]; omega), h.scode (i := i) (by omega), Option.bind_some, hc, e1, Option.bind_some]
      dsimp only
      rw [i3_one, e2]
    · rw [List.flatMap_cons, List.append_assoc, List.map_append]
      exact (g1 c hc1 rfl).app g2
theorem writeString_w {n : Nat} {t : TS} (h : At f v p (strc s)) (hs : sok s) (hn : 4096 < n) (ht : RV t) : ∃ t' : TS, fP_writeString n (i3 p) f (i3 v) o t.1 (i3 t.2.1) t.2.2 = some (t'.1, i3 t'.2.1, t'.2.2) ∧ Wr t ((qt s).map sb) t' := by
  have hle := h.le
  obtain ⟨t1, e1, g1⟩ := add_c (n := n) ht (c := 34) (by omega)
  obtain ⟨t2, e2, g2⟩ := ws_loop (o := o) h hs s n 0 t1 rfl (by omega) (by omega) g1.v
  refine ⟨t2, ?_, g1.app g2⟩
  unfold fP_writeString
  rw [show (34 : Int32) = i3 34 from rfl, e1, Option.bind_some]
  exact e2
end WS
