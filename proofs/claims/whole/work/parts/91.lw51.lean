theorem xin {A0 : Nat → Prop} {D : va_G} {cl : List vw_C} {ws wc w1 ws' : va_W} {H H1 : Heap} (hP : va_P D cl ws H) (hD : va_D A0 ws) (is : List Nat) (hC : is.map (fun i => ws[i]?) = wc.map some) (hk : ∀ q : Nat, q < H.size → ¬ va_A wc H.size q → H1[q]? = H[q]?) (hF : ∀ q, va_A wc H.size q → A0 q) (hP1 : va_P D cl w1 H1) (hD1 : va_D (va_A wc H.size) w1)
    (hw : ∀ (j : Nat) (q : Nat × va_E), ws'[j]? = some q → (∃ k : Nat, is[k]? = some j ∧ w1[k]? = some q) ∨ (j ∉ is ∧ ws[j]? = some q)) (hi : ∀ (j k k' : Nat), is[k]? = some j → is[k']? = some j → k = k') : va_P D cl ws' H1 ∧ va_D A0 ws' := by
  have apart : ∀ (j : Nat) (q : Nat × va_E), j ∉ is → ws[j]? = some q → q.1 < H.size ∧ ¬ va_A wc H.size q.1 := by
    intro j q hj hq
    have hl := (hP j q hq).lt
    refine ⟨hl, fun h => ?_⟩
    rcases h with ⟨k2, e, h⟩ | h
    · obtain ⟨i, h3, h4⟩ := va_in_of is hC h
      have hij := hD.1 j i q (q.1, e) hq h4 rfl
      subst hij
      exact hj (List.mem_of_getElem? h3)
    · omega
  refine ⟨fun j q hq => ?_, ⟨fun i j x y hx hy hxy => ?_, fun j q hq => ?_⟩⟩
  · rcases hw j q hq with ⟨k, h1, h2⟩ | ⟨h1, h2⟩
    · exact hP1 k q h2
    · obtain ⟨g1, g2⟩ := apart j q h1 h2
      exact (hP j q h2).kept (hk q.1 g1 g2)
  · rcases hw i x hx with ⟨k, h1, h2⟩ | ⟨h1, h2⟩
    · rcases hw j y hy with ⟨k', h3, h4⟩ | ⟨h3, h4⟩
      · have := hD1.1 k k' x y h2 h4 hxy
        subst this
        exact Option.some.inj (h1.symm.trans h3)
      · exact absurd (by rw [← hxy]; exact hD1.2 k x h2) (apart j y h3 h4).2
    · rcases hw j y hy with ⟨k', h3, h4⟩ | ⟨h3, h4⟩
      · exact absurd (by rw [hxy]; exact hD1.2 k' y h4) (apart i x h1 h2).2
      · exact hD.1 i j x y h2 h4 hxy
  · rcases hw j q hq with ⟨k, h1, h2⟩ | ⟨h1, h2⟩
    · exact hF q.1 (hD1.2 k q h2)
    · exact hD.2 j q h2
/-- behind a call of ValueBench: the sixteen cells in front, the rows that were lent as they were -/
theorem xinC {A0 : Nat → Prop} {D : va_G} {cl : List vw_C} {X X' T wc w1 : va_W} {H H1 : Heap} (hP : va_P D cl (X ++ T) H) (hD : va_D A0 (X ++ T)) (it : List Nat) (out : Bool) (hX : X.length = 16) (hX' : X'.length = 16) (hit : ∀ j ∈ it, 16 ≤ j) (hnd : ∀ (j k k' : Nat), it[k]? = some j → it[k']? = some j → k = k')
    (hC : (List.range 15 ++ it ++ (if out then [15] else [])).map (fun i => (X ++ T)[i]?) = wc.map some) (hk : ∀ q : Nat, q < H.size → ¬ va_A wc H.size q → H1[q]? = H[q]?) (hF : ∀ q, va_A wc H.size q → A0 q) (hP1 : va_P D cl w1 H1) (hD1 : va_D (va_A wc H.size) w1)
    (h1 : ∀ j, j < 15 → X'[j]? = w1[j]?) (h2 : X'[15]? = if out then w1[15 + it.length]? else X[15]?) (h3 : ∀ (k j : Nat), it[k]? = some j → w1[15 + k]? = (X ++ T)[j]?) : va_P D cl (X' ++ T) H1 ∧ va_D A0 (X' ++ T) := by
  have hl : (List.range 15 ++ it).length = 15 + it.length := by simp
  have g1 : ∀ j, j < 15 → (List.range 15 ++ it ++ (if out then [15] else []))[j]? = some j := fun j hj => by
    rw [List.getElem?_append_left (by rw [hl]; omega), List.getElem?_append_left (by simpa using hj), List.getElem?_range hj]
  have g2 : ∀ k, k < it.length → (List.range 15 ++ it ++ (if out then [15] else []))[15 + k]? = it[k]? := fun k hk9 => by
    rw [List.getElem?_append_left (by rw [hl]; omega), List.getElem?_append_right (by simp), List.length_range, Nat.add_sub_cancel_left]
  have g3 : ∀ j k, (List.range 15 ++ it ++ (if out then [15] else []))[k]? = some j → (k < 15 ∧ j = k) ∨ (∃ k', k = 15 + k' ∧ it[k']? = some j) ∨ (out = true ∧ k = 15 + it.length ∧ j = 15) := fun j k h => by
    by_cases hk9 : k < 15
    · rw [g1 k hk9] at h
      exact Or.inl ⟨hk9, (Option.some.inj h).symm⟩
    · by_cases hk8 : k < 15 + it.length
      · have e : k = 15 + (k - 15) := by omega
        rw [e, g2 (k - 15) (by omega)] at h
        exact Or.inr (Or.inl ⟨k - 15, e, h⟩)
      · rw [List.getElem?_append_right (by rw [hl]; omega), hl] at h
        cases out with
        | false => simp at h
        | true =>
          have e := (List.getElem?_eq_some_iff.mp h).1
          simp at e
          have e2 : k - (15 + it.length) = 0 := by omega
          rw [e2] at h
          exact Or.inr (Or.inr ⟨rfl, by omega, (Option.some.inj h).symm⟩)
  refine xin hP hD (List.range 15 ++ it ++ (if out then [15] else [])) hC hk hF hP1 hD1 (fun j q hq => ?_) (fun j k k' h4 h5 => ?_)
  · by_cases hj : j < 15
    · rw [List.getElem?_append_left (by omega), h1 j hj] at hq
      exact Or.inl ⟨j, g1 j hj, hq⟩
    · by_cases hj2 : j = 15
      · subst hj2
        rw [List.getElem?_append_left (by omega), h2] at hq
        cases out with
        | true =>
          refine Or.inl ⟨15 + it.length, ?_, hq⟩
          rw [List.getElem?_append_right (by rw [hl]; omega), hl, Nat.sub_self]
          rfl
        | false =>
          refine Or.inr ⟨fun hm => ?_, ?_⟩
          · obtain ⟨k, hk9⟩ := List.getElem?_of_mem hm
            rcases g3 15 k hk9 with ⟨a, b⟩ | ⟨k', a, b⟩ | ⟨a, b⟩
            · omega
            · have := hit 15 (List.mem_of_getElem? b)
              omega
            · cases a
          · rw [List.getElem?_append_left (by omega)]
            exact hq
      · have hq2 : (X ++ T)[j]? = some q := by
          rw [List.getElem?_append_right (by omega), hX'] at hq
          rw [List.getElem?_append_right (by omega), hX]
          exact hq
        by_cases hm : j ∈ it
        · obtain ⟨k, hk9⟩ := List.getElem?_of_mem hm
          have hk8 := (List.getElem?_eq_some_iff.mp hk9).1
          exact Or.inl ⟨15 + k, (g2 k hk8).trans hk9, (h3 k j hk9).trans hq2⟩
        · refine Or.inr ⟨fun hm2 => ?_, hq2⟩
          obtain ⟨k, hk9⟩ := List.getElem?_of_mem hm2
          rcases g3 j k hk9 with ⟨a, b⟩ | ⟨k', a, b⟩ | ⟨a, b, b'⟩
          · omega
          · exact hm (List.mem_of_getElem? b)
          · omega
  · rcases g3 j k h4 with ⟨a, b⟩ | ⟨k1, a, b⟩ | ⟨a, b, b'⟩ <;> rcases g3 j k' h5 with ⟨a2, b2⟩ | ⟨k2, a2, b2⟩ | ⟨a2, b2, b2'⟩
    · omega
    · have := hit j (List.mem_of_getElem? b2)
      omega
    · omega
    · have := hit j (List.mem_of_getElem? b)
      omega
    · have := hnd j k1 k2 b b2
      omega
    · have := hit j (List.mem_of_getElem? b)
      omega
    · omega
    · have := hit j (List.mem_of_getElem? b2)
      omega
    · omega
/-- behind a call of the reference -/
theorem xinM {A0 : Nat → Prop} {D : va_G} {cl : List vw_C} {C M M' : va_W} {H H1 : Heap} (hP : va_P D cl (C ++ M) H) (hD : va_D A0 (C ++ M)) (hk : ∀ q : Nat, q < H.size → ¬ va_A M H.size q → H1[q]? = H[q]?) (hF : ∀ q, va_A M H.size q → A0 q) (hP1 : va_P D cl M' H1) (hD1 : va_D (va_A M H.size) M') : va_P D cl (C ++ M') H1 ∧ va_D A0 (C ++ M') := by
  have inC : ∀ (k : Nat) (q : Nat × va_E), C[k]? = some q → (C ++ M)[k]? = some q := fun k q h => by
    rw [List.getElem?_append_left (List.getElem?_eq_some_iff.mp h).1]; exact h
  have inM : ∀ (k : Nat) (q : Nat × va_E), M[k]? = some q → (C ++ M)[C.length + k]? = some q := fun k q h => by
    rw [List.getElem?_append_right (Nat.le_add_right _ _), Nat.add_sub_cancel_left]; exact h
  have apart : ∀ (k : Nat) (q : Nat × va_E), C[k]? = some q → q.1 < H.size ∧ ¬ va_A M H.size q.1 := fun k q h => by
    have hl := (hP k q (inC k q h)).lt
    refine ⟨hl, fun h9 => ?_⟩
    rcases h9 with ⟨k2, e, h9⟩ | h9
    · have := hD.1 k (C.length + k2) q (q.1, e) (inC k q h) (inM k2 _ h9) rfl
      have := (List.getElem?_eq_some_iff.mp h).1
      omega
    · omega
  refine ⟨va_P.app (fun k q h => ?_) hP1, va_D.app ⟨fun i j x y hx hy hxy => hD.1 i j x y (inC i x hx) (inC j y hy) hxy, fun k q h => hD.2 k q (inC k q h)⟩ (hD1.weaken (fun k q _ h => hF q.1 h)) (fun i j x y hx hy hxy => (apart i x hx).2 (by rw [hxy]; exact hD1.2 j y hy))⟩
  obtain ⟨g1, g2⟩ := apart k q h
  exact (hP k q (inC k q h)).kept (hk q.1 g1 g2)
theorem xpartM {A0 : Nat → Prop} {D : va_G} {cl : List vw_C} {C M : va_W} {H : Heap} (hP : va_P D cl (C ++ M) H) (hD : va_D A0 (C ++ M)) : va_P D cl M H ∧ va_D A0 M := by
  have inM : ∀ (k : Nat) (q : Nat × va_E), M[k]? = some q → (C ++ M)[C.length + k]? = some q := fun k q h => by
    rw [List.getElem?_append_right (Nat.le_add_right _ _), Nat.add_sub_cancel_left]; exact h
  exact ⟨fun k q h => hP _ q (inM k q h), fun i j x y hx hy hxy => by
    have := hD.1 _ _ x y (inM i x hx) (inM j y hy) hxy
    omega, fun k q h => hD.2 _ q (inM k q h)⟩
/-- two cells change places -/
theorem xswp {A0 : Nat → Prop} {D : va_G} {cl : List vw_C} {ws : va_W} {H : Heap} {i j : Nat} {x y : Nat × va_E} (hP : va_P D cl ws H) (hD : va_D A0 ws) (hij : i ≠ j) (hx : ws[i]? = some x) (hy : ws[j]? = some y) : va_P D cl ((ws.set i y).set j x) H ∧ va_D A0 ((ws.set i y).set j x) := by
  have hil := (List.getElem?_eq_some_iff.mp hx).1
  have hjl := (List.getElem?_eq_some_iff.mp hy).1
  have key : ∀ (k : Nat) (q : Nat × va_E), ((ws.set i y).set j x)[k]? = some q → ws[if k = j then i else if k = i then j else k]? = some q := by
    intro k q h
    rw [List.getElem?_set] at h
    by_cases hk : j = k
    · subst hk
      rw [if_pos rfl] at h
      rw [if_pos rfl, hx]
      simp [hjl] at h
      rw [h]
    · rw [if_neg hk, List.getElem?_set] at h
      rw [if_neg (fun e => hk e.symm)]
      by_cases hk2 : i = k
      · subst hk2
        rw [if_pos rfl] at h
        rw [if_pos rfl, hy]
        simp [hil] at h
        rw [h]
      · rw [if_neg hk2] at h
        rw [if_neg (fun e => hk2 e.symm)]
        exact h
  refine ⟨hP.by _ key, hD.by _ key (fun a b _ _ hab => ?_)⟩
  by_cases h1 : a = j
  · rw [if_pos h1] at hab
    by_cases h2 : b = j
    · omega
    · rw [if_neg h2] at hab
      by_cases h4 : b = i
      · rw [if_pos h4] at hab
        omega
      · rw [if_neg h4] at hab
        omega
  · rw [if_neg h1] at hab
    by_cases h3 : a = i
    · rw [if_pos h3] at hab
      by_cases h2 : b = j
      · rw [if_pos h2] at hab
        omega
      · rw [if_neg h2] at hab
        by_cases h4 : b = i
        · omega
        · rw [if_neg h4] at hab
          omega
    · rw [if_neg h3] at hab
      by_cases h2 : b = j
      · rw [if_pos h2] at hab
        omega
      · rw [if_neg h2] at hab
        by_cases h4 : b = i
        · rw [if_pos h4] at hab
          omega
        · rw [if_neg h4] at hab
          omega
def xCx (cT : Nat → ClassId) (zb : Nat → Nat) (tp mp sf : Nat) (ra rb : Nat → Nat) (rf : Nat → Option Nat) (k : xC) (ov : Nat → Int64) : va_W := [
  (zb 0, .inr (0, [.ref (zb 1), .ref (zb 3), .ref (zb 5), .ref (zb 7), .ref (zb 8), .ref sf, .int (kpl k), .int (krs k)])),
  (zb 1, .inr (1, [.ref (zb 2), .int (ktl k 0), .int (kto k 0)])), (zb 2, .inl (cT 0, 4096, .inl (ktb k 0))),
  (zb 3, .inr (1, [.ref (zb 4), .int (ktl k 1), .int (kto k 1)])), (zb 4, .inl (cT 0, 4096, .inl (ktb k 1))),
  (zb 5, .inr (1, [.ref (zb 6), .int (ktl k 2), .int (kto k 2)])), (zb 6, .inl (cT 0, 4096, .inl (ktb k 2))),
  (zb 7, .inl (cT 3, 8, .inr (.inr (.inr (.inr rf))))),
  (zb 8, .inr (3, [.ref (zb 9), .ref (zb 10), .ref tp, .ref mp, .int (ktt k)])),
  (zb 9, .inl (cT 1, 2048, .inl (ksa k 0))), (zb 10, .inl (cT 1, 2048, .inl (ksa k 1))), (tp, .inl (cT 1, 2048, .inl (ksa k 2))), (mp, .inl (cT 1, 2048, .inl (ksa k 3))),
  (ra 8, .inr (2, [.ref (rb 8), .int (krz k 8), .int (kro k 8)])), (rb 8, .inl (cT 2, 4096, .inr (.inl (krc k 8)))),
  (zb 15, .inl (cT 2, 1, .inr (.inl ov)))]
def xRo (ra rb : Nat → Nat) (k : xC) : va_W := (List.range 8).map (fun r => (ra r, .inr (2, [.ref (rb r), .int (krz k r), .int (kro k r)])))
def xRa (cT : Nat → ClassId) (rb : Nat → Nat) (k : xC) : va_W := (List.range 8).map (fun r => (rb r, .inl (cT 2, 4096, .inr (.inl (krc k r)))))
def xT (cT : Nat → ClassId) (ra rb : Nat → Nat) (k : xC) (M : va_W) : va_W := xRo ra rb k ++ (xRa cT rb k ++ M)
theorem xpk8 (x : Int32) : xpk x < 8 := by
  unfold xpk
  split
  · decide
  · next h => exact xlt h
theorem xpkE {x : Int32} (h : ¬ (x < 0 ∨ 8 ≤ x.toNatClampNeg)) : xpk x = x.toNatClampNeg := by
  unfold xpk
  rw [if_neg h]
theorem xRo_at {ra rb : Nat → Nat} {k : xC} {r : Nat} (h : r < 8) : (xRo ra rb k)[r]? = some (ra r, .inr (2, [.ref (rb r), .int (krz k r), .int (kro k r)])) := by
  unfold xRo
  rw [List.getElem?_map, List.getElem?_range h]
  rfl
theorem xRa_at {cT : Nat → ClassId} {rb : Nat → Nat} {k : xC} {r : Nat} (h : r < 8) : (xRa cT rb k)[r]? = some (rb r, .inl (cT 2, 4096, .inr (.inl (krc k r)))) := by
  unfold xRa
  rw [List.getElem?_map, List.getElem?_range h]
  rfl
theorem xT_o {cT : Nat → ClassId} {ra rb : Nat → Nat} {k : xC} {M X : va_W} (hX : X.length = 16) {r : Nat} (h : r < 8) : (X ++ xT cT ra rb k M)[16 + r]? = some (ra r, .inr (2, [.ref (rb r), .int (krz k r), .int (kro k r)])) := by
  unfold xT
  rw [List.getElem?_append_right (by omega), hX, Nat.add_sub_cancel_left, List.getElem?_append_left (by simpa [xRo] using h), xRo_at h]
theorem xT_a {cT : Nat → ClassId} {ra rb : Nat → Nat} {k : xC} {M X : va_W} (hX : X.length = 16) {r : Nat} (h : r < 8) : (X ++ xT cT ra rb k M)[24 + r]? = some (rb r, .inl (cT 2, 4096, .inr (.inl (krc k r)))) := by
  unfold xT
  have e : (xRo ra rb k).length = 8 := by simp [xRo]
  rw [List.getElem?_append_right (by omega), hX, List.getElem?_append_right (by omega), e, List.getElem?_append_left (by simp [xRa]; omega), show 24 + r - 16 - 8 = r by omega, xRa_at h]
/-- the register and the spare row change places -/
theorem xT_sw {A : Nat → Prop} {D : va_G} {cl : List vw_C} {H : Heap} {cT : Nat → ClassId} {zb : Nat → Nat} {tp mp : Nat} {ra rb : Nat → Nat} {rf : Nat → Option Nat} {k : xC} {ov : Nat → Int64} {M : va_W} {t : Nat} (ht : t < 8) (hP : va_P D cl (xCx cT zb tp mp (ra t) ra rb rf k ov ++ xT cT ra rb k M) H) (hD : va_D A (xCx cT zb tp mp (ra t) ra rb rf k ov ++ xT cT ra rb k M)) :
    va_P D cl (xCx cT zb tp mp (xsw2 ra t 8) (xsw2 ra t) (xsw2 rb t) rf (kW k t) ov ++ xT cT (xsw2 ra t) (xsw2 rb t) (kW k t) M) H ∧ va_D A (xCx cT zb tp mp (xsw2 ra t 8) (xsw2 ra t) (xsw2 rb t) rf (kW k t) ov ++ xT cT (xsw2 ra t) (xsw2 rb t) (kW k t) M) := by
  obtain ⟨hP1, hD1⟩ := xswp (i := 13) (j := 16 + t) hP hD (by omega) rfl (xT_o rfl ht)
  obtain ⟨hP2, hD2⟩ := xswp (i := 14) (j := 24 + t) (x := (rb 8, .inl (cT 2, 4096, .inr (.inl (krc k 8))))) (y := (rb t, .inl (cT 2, 4096, .inr (.inl (krc k t))))) hP1 hD1 (by omega) (by rw [List.getElem?_set_ne (by omega)]; rfl) (by rw [List.getElem?_set_ne (by omega), List.getElem?_set_ne (by omega)]; exact xT_a rfl ht)
  have s8 : ∀ {α : Type} (f : Nat → α), xsw2 f t 8 = f t := fun f => by unfold xsw2; rw [va_up_ne _ _ (by omega), va_up_self]
  have st : ∀ {α : Type} (f : Nat → α), xsw2 f t t = f 8 := fun f => by unfold xsw2; rw [va_up_self]
  have sn : ∀ {α : Type} (f : Nat → α) {r : Nat}, r < 8 → r ≠ t → xsw2 f t r = f r := fun f r h1 h2 => by unfold xsw2; rw [va_up_ne _ _ h2, va_up_ne _ _ (by omega)]
  have e : (((((xCx cT zb tp mp (ra t) ra rb rf k ov ++ xT cT ra rb k M).set 13 (ra t, .inr (2, [.ref (rb t), .int (krz k t), .int (kro k t)]))).set (16 + t) (ra 8, .inr (2, [.ref (rb 8), .int (krz k 8), .int (kro k 8)]))).set 14 (rb t, .inl (cT 2, 4096, .inr (.inl (krc k t))))).set (24 + t) (rb 8, .inl (cT 2, 4096, .inr (.inl (krc k 8))))) = xCx cT zb tp mp (xsw2 ra t 8) (xsw2 ra t) (xsw2 rb t) rf (kW k t) ov ++ xT cT (xsw2 ra t) (xsw2 rb t) (kW k t) M := by
    apply List.ext_getElem?
    intro i
    by_cases hi : i < 16
    · have hX : ∀ (W T : va_W), W.length = 16 → (W ++ T)[i]? = W[i]? := fun W T h => List.getElem?_append_left (by omega)
      rw [hX (xCx cT zb tp mp (xsw2 ra t 8) (xsw2 ra t) (xsw2 rb t) rf (kW k t) ov) _ rfl, List.getElem?_set_ne (by omega)]
      by_cases h14 : i = 14
      · subst h14
        rw [List.getElem?_set_self (by rw [List.length_set, List.length_set, List.length_append]; show _ < 16 + _; omega)]
        show _ = some (xsw2 rb t 8, Sum.inl (cT 2, 4096, Sum.inr (Sum.inl (xsw2 (krc k) t 8))))
        rw [s8, s8]
      · rw [List.getElem?_set_ne (fun q => h14 q.symm), List.getElem?_set_ne (by omega)]
        by_cases h13 : i = 13
        · subst h13
          rw [List.getElem?_set_self (by rw [List.length_append]; show _ < 16 + _; omega)]
          show _ = some (xsw2 ra t 8, Sum.inr (2, [Value.ref (xsw2 rb t 8), Value.int (xsw2 (krz k) t 8), Value.int (xsw2 (kro k) t 8)]))
          rw [s8, s8, s8, s8]
        · rw [List.getElem?_set_ne (fun q => h13 q.symm), hX (xCx cT zb tp mp (ra t) ra rb rf k ov) _ rfl, s8]
          have : i = 0 ∨ i = 1 ∨ i = 2 ∨ i = 3 ∨ i = 4 ∨ i = 5 ∨ i = 6 ∨ i = 7 ∨ i = 8 ∨ i = 9 ∨ i = 10 ∨ i = 11 ∨ i = 12 ∨ i = 15 := by omega
          rcases this with rfl | rfl | rfl | rfl | rfl | rfl | rfl | rfl | rfl | rfl | rfl | rfl | rfl | rfl <;> rfl
    · by_cases hi2 : i < 24
      · have e9 : i = 16 + (i - 16) := by omega
        rw [e9, xT_o (X := xCx cT zb tp mp (xsw2 ra t 8) (xsw2 ra t) (xsw2 rb t) rf (kW k t) ov) rfl (by omega), List.getElem?_set_ne (by omega), List.getElem?_set_ne (by omega)]
        by_cases h9 : i - 16 = t
        · rw [h9, List.getElem?_set_self (by rw [List.length_set, List.length_append]; show _ < 16 + _; simp [xT, xRo, xRa]; omega)]
          show _ = some (xsw2 ra t t, Sum.inr (2, [Value.ref (xsw2 rb t t), Value.int (xsw2 (krz k) t t), Value.int (xsw2 (kro k) t t)]))
          rw [st, st, st, st]
        · rw [List.getElem?_set_ne (by omega), List.getElem?_set_ne (by omega), xT_o rfl (by omega)]
          show _ = some (xsw2 ra t (i - 16), Sum.inr (2, [Value.ref (xsw2 rb t (i - 16)), Value.int (xsw2 (krz k) t (i - 16)), Value.int (xsw2 (kro k) t (i - 16))]))
          rw [sn ra (by omega) h9, sn rb (by omega) h9, sn (krz k) (by omega) h9, sn (kro k) (by omega) h9]
      · by_cases hi3 : i < 32
        · have e9 : i = 24 + (i - 24) := by omega
          rw [e9, xT_a (X := xCx cT zb tp mp (xsw2 ra t 8) (xsw2 ra t) (xsw2 rb t) rf (kW k t) ov) rfl (by omega)]
          by_cases h9 : i - 24 = t
          · rw [h9, List.getElem?_set_self (by rw [List.length_set, List.length_set, List.length_set, List.length_append]; show _ < 16 + _; simp [xT, xRo, xRa]; omega)]
            show _ = some (xsw2 rb t t, Sum.inl (cT 2, 4096, Sum.inr (Sum.inl (xsw2 (krc k) t t))))
            rw [st, st]
          · rw [List.getElem?_set_ne (by omega), List.getElem?_set_ne (by omega), List.getElem?_set_ne (by omega), List.getElem?_set_ne (by omega), xT_a rfl (by omega)]
            show _ = some (xsw2 rb t (i - 24), Sum.inl (cT 2, 4096, Sum.inr (Sum.inl (xsw2 (krc k) t (i - 24)))))
            rw [sn rb (by omega) h9, sn (krc k) (by omega) h9]
        · rw [List.getElem?_set_ne (by omega), List.getElem?_set_ne (by omega), List.getElem?_set_ne (by omega), List.getElem?_set_ne (by omega), List.getElem?_append_right (by show 16 ≤ _; omega), List.getElem?_append_right (by show 16 ≤ _; omega)]
          show (xT cT ra rb k M)[i - 16]? = (xT cT (xsw2 ra t) (xsw2 rb t) (kW k t) M)[i - 16]?
          unfold xT
          have eo : ∀ (a b : Nat → Nat) (k : xC), (xRo a b k).length = 8 := fun _ _ _ => by simp [xRo]
          have ea : ∀ (b : Nat → Nat) (k : xC), (xRa cT b k).length = 8 := fun _ _ => by simp [xRa]
          have hM : ∀ (a b : Nat → Nat) (k : xC), (xRo a b k ++ (xRa cT b k ++ M))[i - 16]? = M[i - 16 - 8 - 8]? := fun a b k => by
            rw [List.getElem?_append_right (by rw [eo]; omega), eo, List.getElem?_append_right (by rw [ea]; omega), ea]
          rw [hM, hM]
  rw [e] at hP2 hD2
  exact ⟨hP2, hD2⟩
theorem xndinj {it : List Nat} (h : it.Nodup) : ∀ (j k k' : Nat), it[k]? = some j → it[k']? = some j → k = k' := by
  intro j k k' h1 h2
  obtain ⟨g1, e1⟩ := List.getElem?_eq_some_iff.mp h1
  obtain ⟨g2, e2⟩ := List.getElem?_eq_some_iff.mp h2
  have hp := List.pairwise_iff_getElem.mp h
  rcases Nat.lt_trichotomy k k' with q | q | q
  · exact absurd (e1.trans e2.symm) (hp k k' g1 g2 q)
  · exact q
  · exact absurd (e2.trans e1.symm) (hp k' k g2 g1 q)
theorem xnd0 (o : Bool) : va_nd (List.range 15 ++ ([] : List Nat) ++ (if o then [15] else [])) = true := by cases o <;> decide
theorem xnd1 : ∀ a, a < 8 → ∀ o : Bool, va_nd (List.range 15 ++ [16 + a, 24 + a] ++ (if o then [15] else [])) = true ∧ [16 + a, 24 + a].Nodup := by decide
theorem xnd2 : ∀ a, a < 8 → ∀ b, b < 8 → ¬ a = b → ∀ o : Bool, va_nd (List.range 15 ++ [16 + a, 24 + a, 16 + b, 24 + b] ++ (if o then [15] else [])) = true ∧ [16 + a, 24 + a, 16 + b, 24 + b].Nodup := by decide
theorem xcutC {D : va_G} {cl : List vw_C} {A : Nat → Prop} {X T we wt wo wc : va_W} {H H0 : Heap} {locs : List Loc} (hP : va_P D cl (X ++ T) H) (hD : va_D A (X ++ T)) (hS : va_S A H0 H locs) (hA : ∀ q, H0.size ≤ q → A q) (it : List Nat) (out : Bool) (hwe : (List.range 15).map (fun i => (X ++ T)[i]?) = we.map some) (hit : it.map (fun i => (X ++ T)[i]?) = wt.map some) (hwo : (if out then [15] else []).map (fun i => (X ++ T)[i]?) = wo.map some) (hwc : we ++ wt ++ wo = wc) (hn : va_nd (List.range 15 ++ it ++ (if out then [15] else [])) = true) :
    va_P D cl wc H ∧ va_D A wc ∧ (∀ q, va_A wc H.size q → A q) ∧ (List.range 15 ++ it ++ (if out then [15] else [])).map (fun i => (X ++ T)[i]?) = wc.map some := by
  have h2 : (List.range 15 ++ it ++ (if out then [15] else [])).map (fun i => (X ++ T)[i]?) = wc.map some := by
    rw [List.map_append, List.map_append, hwe, hit, hwo, ← hwc, List.map_append, List.map_append]
  have h1 : (List.range 15 ++ it ++ (if out then [15] else [])).filterMap (fun i => (X ++ T)[i]?) = wc := by
    have e : ∀ (l : List Nat) (w : va_W), l.map (fun i => (X ++ T)[i]?) = w.map some → l.filterMap (fun i => (X ++ T)[i]?) = w := by
      intro l
      induction l with
      | nil => intro w h; cases w with | nil => rfl | cons a t => cases h
      | cons a t ih =>
        intro w h
        cases w with
        | nil => cases h
        | cons x w =>
          obtain ⟨e1, e2⟩ := List.cons.inj h
          rw [List.filterMap_cons_some e1, ih w e2]
    exact e _ _ h2
  obtain ⟨a1, a2, a3⟩ := xcut hP hD hS hA _ h1 h2 hn
  exact ⟨a1, a2, a3, h2⟩
theorem xjnC {A0 : Nat → Prop} {D : va_G} {cl : List vw_C} {X X' T wc w1 wt : va_W} {H H1 : Heap} (hP : va_P D cl (X ++ T) H) (hD : va_D A0 (X ++ T)) (it : List Nat) (out : Bool) (hX : X.length = 16) (hX' : X'.length = 16) (hge : ∀ j ∈ it, 16 ≤ j) (hnd : it.Nodup) (hit : it.map (fun i => (X ++ T)[i]?) = wt.map some)
    (hC : (List.range 15 ++ it ++ (if out then [15] else [])).map (fun i => (X ++ T)[i]?) = wc.map some) (hk : ∀ q : Nat, q < H.size → ¬ va_A wc H.size q → H1[q]? = H[q]?) (hF : ∀ q, va_A wc H.size q → A0 q) (hP1 : va_P D cl w1 H1) (hD1 : va_D (va_A wc H.size) w1)
    (h1 : X'.take 15 = w1.take 15) (h2 : X'[15]? = if out then w1[15 + it.length]? else X[15]?) (h3 : (w1.drop 15).take it.length = wt) : va_P D cl (X' ++ T) H1 ∧ va_D A0 (X' ++ T) := by
  refine xinC hP hD it out hX hX' hge (xndinj hnd) hC hk hF hP1 hD1 (fun j hj => ?_) h2 (fun k j hk9 => ?_)
  · rw [← List.getElem?_take_of_lt hj, h1, List.getElem?_take_of_lt hj]
  · have hlt := (List.getElem?_eq_some_iff.mp hk9).1
    have e1 : (it.map (fun i => (X ++ T)[i]?))[k]? = some (X ++ T)[j]? := by rw [List.getElem?_map, hk9]; rfl
    rw [hit, List.getElem?_map] at e1
    have e2 : wt[k]? = w1[15 + k]? := by rw [← h3, List.getElem?_take_of_lt hlt, List.getElem?_drop]
    rw [e2] at e1
    cases h9 : w1[15 + k]? with
    | none => rw [h9] at e1; cases e1
    | some q => rw [h9] at e1; exact Option.some.inj e1
theorem xsw_rf {ra : Nat → Nat} {rf : Nat → Option Nat} {t : Nat} (ht : t < 8) (h : ∀ r, r < 8 → rf r = some (ra r)) : ∀ r, r < 8 → va_up rf t (some (ra 8)) r = some (xsw2 ra t r) := by
  intro r hr
  by_cases e : r = t
  · subst e
    rw [va_up_self]
    unfold xsw2
    rw [va_up_self]
  · rw [va_up_ne _ _ e, h r hr]
    unfold xsw2
    rw [va_up_ne _ _ e, va_up_ne _ _ (by omega)]
theorem xpkR {rf : Nat → Option Nat} {ra : Nat → Nat} (h : ∀ r, r < 8 → rf r = some (ra r)) (x : Int32) : ¬ (x < 0 ∨ 8 ≤ x.toNatClampNeg) → rf x.toNatClampNeg = some (ra (xpk x)) := fun g => by
  rw [← xpkE g]
  exact h _ (xpk8 x)
theorem xit1 {cT : Nat → ClassId} {ra rb : Nat → Nat} {k : xC} {M X : va_W} (hX : X.length = 16) {a : Nat} (h : a < 8) : [16 + a, 24 + a].map (fun i => (X ++ xT cT ra rb k M)[i]?) = ([(ra a, .inr (2, [.ref (rb a), .int (krz k a), .int (kro k a)])), (rb a, .inl (cT 2, 4096, .inr (.inl (krc k a))))] : va_W).map some := by
  show [(X ++ xT cT ra rb k M)[16 + a]?, (X ++ xT cT ra rb k M)[24 + a]?] = _
  rw [xT_o hX h, xT_a hX h]
  rfl
theorem xit2 {cT : Nat → ClassId} {ra rb : Nat → Nat} {k : xC} {M X : va_W} (hX : X.length = 16) {a b : Nat} (h : a < 8) (h' : b < 8) : [16 + a, 24 + a, 16 + b, 24 + b].map (fun i => (X ++ xT cT ra rb k M)[i]?) = ([(ra a, .inr (2, [.ref (rb a), .int (krz k a), .int (kro k a)])), (rb a, .inl (cT 2, 4096, .inr (.inl (krc k a)))), (ra b, .inr (2, [.ref (rb b), .int (krz k b), .int (kro k b)])), (rb b, .inl (cT 2, 4096, .inr (.inl (krc k b))))] : va_W).map some := by
  show [(X ++ xT cT ra rb k M)[16 + a]?, (X ++ xT cT ra rb k M)[24 + a]?, (X ++ xT cT ra rb k M)[16 + b]?, (X ++ xT cT ra rb k M)[24 + b]?] = _
  rw [xT_o hX h, xT_a hX h, xT_o hX h', xT_a hX h']
  rfl
theorem xge1 {a : Nat} : ∀ j ∈ [16 + a, 24 + a], 16 ≤ j := fun j h => by simp at h; omega
theorem xge2 {a b : Nat} : ∀ j ∈ [16 + a, 24 + a, 16 + b, 24 + b], 16 ≤ j := fun j h => by simp at h; omega
theorem xge0 : ∀ j ∈ ([] : List Nat), 16 ≤ j := fun j h => nomatch h
/-- the world of the law: of ValueBench, of the reference -/
def xGw (cT : Nat → ClassId) (zb : Nat → Nat) (tp mp : Nat) (ra rb : Nat → Nat) (rf : Nat → Option Nat) (k : xC) (ov : Nat → Int64) (M : va_W) : va_W := xCx cT zb tp mp (ra 8) ra rb rf k ov ++ xT cT ra rb k M
theorem xGw_M {cT : Nat → ClassId} {zb : Nat → Nat} {tp mp : Nat} {ra rb : Nat → Nat} {rf : Nat → Option Nat} {k : xC} {ov : Nat → Int64} {M : va_W} : xGw cT zb tp mp ra rb rf k ov M = (xCx cT zb tp mp (ra 8) ra rb rf k ov ++ (xRo ra rb k ++ xRa cT rb k)) ++ M := by
  unfold xGw xT
  rw [List.append_assoc, List.append_assoc]
theorem xGw_call {A0 : Nat → Prop} {D : va_G} {cl : List vw_C} {cT : Nat → ClassId} {zb : Nat → Nat} {tp mp : Nat} {ra rb : Nat → Nat} {rf : Nat → Option Nat} {k : xC} {ov : Nat → Int64} {M M' : va_W} {H H1 : Heap} (hP : va_P D cl (xGw cT zb tp mp ra rb rf k ov M) H) (hD : va_D A0 (xGw cT zb tp mp ra rb rf k ov M)) (hk : ∀ q : Nat, q < H.size → ¬ va_A M H.size q → H1[q]? = H[q]?) (hF : ∀ q, va_A M H.size q → A0 q) (hP1 : va_P D cl M' H1) (hD1 : va_D (va_A M H.size) M') : va_P D cl (xGw cT zb tp mp ra rb rf k ov M') H1 ∧ va_D A0 (xGw cT zb tp mp ra rb rf k ov M') := by
  rw [xGw_M] at hP hD ⊢
  exact xinM hP hD hk hF hP1 hD1
theorem xGw_part {A0 : Nat → Prop} {D : va_G} {cl : List vw_C} {cT : Nat → ClassId} {zb : Nat → Nat} {tp mp : Nat} {ra rb : Nat → Nat} {rf : Nat → Option Nat} {k : xC} {ov : Nat → Int64} {M : va_W} {H : Heap} (hP : va_P D cl (xGw cT zb tp mp ra rb rf k ov M) H) (hD : va_D A0 (xGw cT zb tp mp ra rb rf k ov M)) : va_P D cl M H ∧ va_D A0 M := by
  rw [xGw_M] at hP hD
  exact xpartM hP hD
theorem xT_kR {cT : Nat → ClassId} {ra rb : Nat → Nat} {k : xC} {M : va_W} {f : Nat → Int64} {n v : Int32} : xT cT ra rb (kR k f n v) M = xT cT ra rb k M := by
  have u : ∀ {α : Type} (g : Nat → α) (x : α) {r : Nat}, r < 8 → va_up g 8 x r = g r := fun g x r h => va_up_ne _ _ (by omega)
  have e1 : xRo ra rb (kR k f n v) = xRo ra rb k := by
    unfold xRo
    apply List.map_congr_left
    intro r hr
    have hr := List.mem_range.mp hr
    show (ra r, Sum.inr (2, [Value.ref (rb r), Value.int (va_up (krz k) 8 n r), Value.int (va_up (kro k) 8 v r)])) = _
    rw [u _ _ hr, u _ _ hr]
  have e2 : xRa cT rb (kR k f n v) = xRa cT rb k := by
    unfold xRa
    apply List.map_congr_left
    intro r hr
    have hr := List.mem_range.mp hr
    show (rb r, Sum.inl (cT 2, 4096, Sum.inr (Sum.inl (va_up (krc k) 8 f r)))) = _
    rw [u _ _ hr]
  unfold xT
  rw [e1, e2]
