def xca (vad : Nat → Nat) (c : Nat) : Option Nat := if c = 0 then none else some (vad (c - 1))
def xcf (vad : Nat → Nat) (g : Nat → Nat) : Nat → Option Nat := fun i => xca vad (g i)
def xv (vad : Nat → Nat) (c : Nat) : Value := va_rf (xca vad c)
def xrg (rd : Nat → Nat) : Nat → Option Nat := fun j => if j < 8 then some (rd j) else none
def xra (ad rd gd : Nat → Nat) (c : Nat) : Nat := if c = 3 then ad 3 else if c < 41 then rd (c - 32) else gd (c - 41)
def xrs (ad rd gd : Nat → Nat) (c : Nat) : Value := if c = 0 then .null else .ref (xra ad rd gd c)
def xVf (st : xS) (p : Nat) : List Value := [.int (xpi st 0 p), .long (xpl st p), .int (xpi st 2 p), .int (xpi st 3 p), .int (xpi st 4 p), .int (xpi st 5 p)]
def xMf (ad rd gd : Nat → Nat) (st : xS) : List Value := (.int (xsi st 0) :: .ref (ad 1) :: .int (xsi st 2) :: .ref (ad 3) :: .int (xsi st 4) :: .ref (ad 5) :: .ref (ad 6) :: .int (xsi st 7) :: .int (xsi st 8) :: .int (xsi st 9) :: .ref (ad 10) :: .ref (ad 11) :: .int (xsi st 12) :: .ref (ad 13) :: .ref (ad 14) :: xrs ad rd gd (xsr st) :: .int (xsi st 16) :: .int (xsi st 17) :: .int (xsi st 18) :: .int (xsi st 19) :: .int (xsi st 20) :: .ref (ad 21) :: .int (xsi st 22) :: .int (xsi st 23) :: .ref (ad 24) :: .ref (ad 25) :: .ref (rd 8) :: .int (xsi st 27) :: .ref (ad 28) :: .int (xsi st 29) :: .int (xsi st 30) :: .int (xsi st 31) :: [])
def xMa (cT : Nat → ClassId) (ad rd vad : Nat → Nat) (st : xS) : va_W := [(ad 1, .inl (cT 4, xln st 1, .inr (.inr (.inr (.inr (xcf vad (xvc st 1))))))), (ad 3, .inl (cT 0, xln st 3, .inl (xba st 3))), (ad 5, .inl (cT 4, xln st 5, .inr (.inr (.inr (.inr (xcf vad (xvc st 5))))))), (ad 6, .inl (cT 4, xln st 6, .inr (.inr (.inr (.inr (xcf vad (xvc st 6))))))), (ad 10, .inl (cT 4, xln st 10, .inr (.inr (.inr (.inr (xcf vad (xvc st 10))))))), (ad 11, .inl (cT 4, xln st 11, .inr (.inr (.inr (.inr (xcf vad (xvc st 11))))))), (ad 13, .inl (cT 1, xln st 13, .inl (xba st 13))), (ad 14, .inl (cT 1, xln st 14, .inl (xba st 14))), (ad 21, .inl (cT 0, xln st 21, .inl (xba st 21))), (ad 24, .inl (cT 5, xln st 24, .inr (.inr (.inr (.inr (xrg rd)))))), (ad 25, .inl (cT 1, xln st 25, .inl (xba st 25))), (ad 28, .inl (cT 0, xln st 28, .inl (xba st 28))), (rd 0, .inl (cT 0, xln st 32, .inl (xba st 32))), (rd 1, .inl (cT 0, xln st 33, .inl (xba st 33))), (rd 2, .inl (cT 0, xln st 34, .inl (xba st 34))), (rd 3, .inl (cT 0, xln st 35, .inl (xba st 35))), (rd 4, .inl (cT 0, xln st 36, .inl (xba st 36))), (rd 5, .inl (cT 0, xln st 37, .inl (xba st 37))), (rd 6, .inl (cT 0, xln st 38, .inl (xba st 38))), (rd 7, .inl (cT 0, xln st 39, .inl (xba st 39))), (rd 8, .inl (cT 0, xln st 40, .inl (xba st 40)))]
def xMg (cT : Nat → ClassId) (gd : Nat → Nat) (st : xS) : va_W := (List.range (xgl st)).reverse.map (fun j => (gd j, .inl (cT 0, xgn st j, .inl (xgb st j))))
def xMt (vad : Nat → Nat) (st : xS) : va_W := (List.range (xct st)).map (fun p => (vad p, .inr (6, xVf st p)))
def xMe (cT : Nat → ClassId) (aM : Nat) (ad rd gd vad : Nat → Nat) (st : xS) : va_W := (aM, .inr (5, xMf ad rd gd st)) :: xMa cT ad rd vad st
def xMw (cT : Nat → ClassId) (aM : Nat) (ad rd gd vad : Nat → Nat) (st : xS) (ex : va_W) : va_W := xMe cT aM ad rd gd vad st ++ (ex ++ (xMg cT gd st ++ xMt vad st))
theorem xv0 (vad : Nat → Nat) : xv vad 0 = .null := rfl
theorem xv1 {vad : Nat → Nat} {c : Nat} (h : ¬ c = 0) : xv vad c = .ref (vad (c - 1)) := by
  unfold xv xca
  rw [if_neg h]
  rfl
theorem xvE {vad vad' : Nat → Nat} {n c : Nat} (hx : ∀ p, p < n → vad' p = vad p) (h : ¬ n < c) : xv vad c = xv vad' c := by
  by_cases h0 : c = 0
  · rw [h0]; rfl
  · rw [xv1 h0, xv1 h0, hx (c - 1) (by omega)]
theorem xvcat (vad : Nat → Nat) (c : Nat) : (xv vad c).category = 1 := by
  by_cases h0 : c = 0
  · rw [h0]; rfl
  · rw [xv1 h0]; rfl
theorem xvor (vad : Nat → Nat) (c : Nat) : xv vad c = .null ∨ ∃ a, xv vad c = .ref a := va_rf_or _
theorem xrsor (ad rd gd : Nat → Nat) (c : Nat) : xrs ad rd gd c = .null ∨ ∃ a, xrs ad rd gd c = .ref a := by
  unfold xrs
  split
  · exact Or.inl rfl
  · exact Or.inr ⟨_, rfl⟩
theorem xMw_g {cT : Nat → ClassId} {aM : Nat} {ad rd gd vad : Nat → Nat} {st : xS} {ex : va_W} {j : Nat} (h : j < xgl st) : (xMw cT aM ad rd gd vad st ex)[22 + (ex.length + (xgl st - 1 - j))]? = some (gd j, .inl (cT 0, xgn st j, .inl (xgb st j))) := by
  show (_ ++ _)[22 + (ex.length + (xgl st - 1 - j))]? = _
  rw [List.getElem?_append_right (by show 22 ≤ _; omega)]
  show (_ ++ _)[22 + (ex.length + (xgl st - 1 - j)) - 22]? = _
  rw [Nat.add_sub_cancel_left, List.getElem?_append_right (Nat.le_add_right _ _), Nat.add_sub_cancel_left, List.getElem?_append_left (by simp [xMg]; omega)]
  have e : xgl st - 1 - (xgl st - 1 - j) = j := by omega
  rw [xMg, List.getElem?_map, List.getElem?_reverse (by simp; omega), List.length_range, e, List.getElem?_range h]
  rfl
theorem xMw_v {cT : Nat → ClassId} {aM : Nat} {ad rd gd vad : Nat → Nat} {st : xS} {ex : va_W} {p : Nat} (h : p < xct st) : (xMw cT aM ad rd gd vad st ex)[22 + (ex.length + (xgl st + p))]? = some (vad p, .inr (6, xVf st p)) := by
  show (_ ++ _)[22 + (ex.length + (xgl st + p))]? = _
  rw [List.getElem?_append_right (by show 22 ≤ _; omega)]
  show (_ ++ _)[22 + (ex.length + (xgl st + p)) - 22]? = _
  rw [Nat.add_sub_cancel_left, List.getElem?_append_right (Nat.le_add_right _ _), Nat.add_sub_cancel_left, List.getElem?_append_right (by simp [xMg])]
  simp [xMg, xMt, h]
theorem xMt_set {vad : Nat → Nat} {st st' : xS} {p : Nat} {fs : List Value} (hc : xct st' = xct st) (h1 : xVf st' p = fs) (h2 : ∀ q, q ≠ p → xVf st' q = xVf st q) : (xMt vad st).set p (vad p, .inr (6, fs)) = xMt vad st' := by
  unfold xMt
  rw [hc]
  apply List.ext_getElem?
  intro i
  rw [List.getElem?_set, List.getElem?_map, List.getElem?_map]
  by_cases hi : i < xct st
  · rw [List.getElem?_range hi]
    by_cases hp : p = i
    · subst hp
      simp [hi, h1]
    · simp [hp, h2 i (fun q => hp q.symm)]
  · have : (List.range (xct st))[i]? = none := List.getElem?_eq_none (by simpa using Nat.not_lt.mp hi)
    rw [this]
    by_cases hp : p = i
    · subst hp
      simp [Nat.not_lt.mp hi]
    · simp [hp]
theorem xMw_vset {cT : Nat → ClassId} {aM : Nat} {ad rd gd vad : Nat → Nat} {st st' : xS} {ex : va_W} {p : Nat} {fs : List Value} (he : xMe cT aM ad rd gd vad st = xMe cT aM ad rd gd vad st') (hg : xMg cT gd st = xMg cT gd st') (hc : xct st' = xct st) (h1 : xVf st' p = fs) (h2 : ∀ q, q ≠ p → xVf st' q = xVf st q) :
    (xMw cT aM ad rd gd vad st ex).set (22 + (ex.length + (xgl st + p))) (vad p, .inr (6, fs)) = xMw cT aM ad rd gd vad st' ex := by
  unfold xMw
  have e1 : (xMe cT aM ad rd gd vad st).length = 22 := rfl
  have e2 : (xMg cT gd st).length = xgl st := by simp [xMg]
  rw [List.set_append_right _ _ (by rw [e1]; omega), e1, Nat.add_sub_cancel_left, List.set_append_right _ _ (Nat.le_add_right _ _), Nat.add_sub_cancel_left, List.set_append_right _ _ (by rw [e2]; omega), e2, Nat.add_sub_cancel_left, xMt_set hc h1 h2, he, hg]

section XM
variable {p : Program} {l : Launch} {e : Env} {R : Room} {s : State} {m : MethodId} {args : Array Value} {below : List Frame} {meth : Method} {c : Code} {H : Heap} {locs : List Loc} {cells slots : Nat} {Q : State → Prop}
variable {cc : ByteArray} {pc : Nat} {ls : Array Slot} {rest : List Value} {A : Nat → Prop} {H0 : Heap} {D : va_G} {cT : Nat → ClassId} {aM : Nat} {ad rd gd vad : Nat → Nat} {st : xS} {ex : va_W}
theorem xm_get (hx : p.tables.exec = Jvm.exec) (hb : c.code = cc) (htx : ∀ w ∈ xw, w.before args s = true) {own : String} {index : Nat} (hown : s.vm.findClass own = some m.cls) (hK : va_K D xcl (xty cT) s) (hP : va_P D xcl (xMw cT aM ad rd gd vad st ex) H)
    (k : Nat) (hk : k < 32) {v : Value} (hv : (xMf ad rd gd st)[k]? = some v) (hlink : (Cond.fieldLink own index "ValueBenchModel" (TM k).2.1 (TM k).2.2.1).before args s = true) (hs : (TM k).1 = "ValueBenchModel") (hdg : decode cc pc = .ok (.getfield index, 3))
    (kk : W p l e R s m args below meth c H locs cells slots Q (F0 m (pc + 3) ls (v :: rest))) : W p l e R s m args below meth c H locs cells slots Q (F0 m pc ls (.ref aM :: rest)) :=
  va_get (D := D) (ci := 5) (v := v) (C := "ValueBenchModel") (T := TM) (N := 32) hx hb htx inM hown hK hP 0 rfl rfl k hk hlink (fun _ h => by rw [hs] at h; exact h) hv hdg kk
theorem xm_put (hx : p.tables.exec = Jvm.exec) (hb : c.code = cc) (htx : ∀ w ∈ xw, w.before args s = true) {own : String} {index : Nat} (hown : s.vm.findClass own = some m.cls) (hK : va_K D xcl (xty cT) s) (hP : va_P D xcl (xMw cT aM ad rd gd vad st ex) H) (hD : va_D A (xMw cT aM ad rd gd vad st ex)) (hS : va_S A H0 H locs)
    (k : Nat) (hk : k < 32) {v : Value} {W' : va_W} (he : (aM, Sum.inr (5, (xMf ad rd gd st).set k v)) :: (xMa cT ad rd vad st ++ (ex ++ (xMg cT gd st ++ xMt vad st))) = W') (hlink : (Cond.fieldLink own index "ValueBenchModel" (TM k).2.1 (TM k).2.2.1).before args s = true) (hs : (TM k).1 = "ValueBenchModel") (hfin : (TM k).2.2.2 = false) {ty : FieldType} (hty : parseFieldDescriptor (TM k).2.2.1 = some ty) (hn : narrow ty v = v) (hf : fits ty v = true) (hdg : decode cc pc = .ok (.putfield index, 3))
    (kk : ∀ (H1 : Heap) (locs1 : List Loc), va_P D xcl W' H1 → va_D A W' → va_S A H0 H1 locs1 → W p l e R s m args below meth c H1 locs1 cells slots Q (F0 m (pc + 3) ls rest)) : W p l e R s m args below meth c H locs cells slots Q (F0 m pc ls (v :: .ref aM :: rest)) :=
  va_put (D := D) (ci := 5) (v := v) (ty := ty) (C := "ValueBenchModel") (T := TM) (N := 32) hx hb htx inM tyM tyM_ok nmM hown hK hP hD hS 0 rfl rfl k hk hlink (fun _ h => by rw [hs] at h; exact h) hfin hty hn hf hk hdg (fun H1 locs1 a1 a2 a3 => kk H1 locs1 (he ▸ a1) (he ▸ a2) a3)
theorem xm_vget (hx : p.tables.exec = Jvm.exec) (hb : c.code = cc) (htx : ∀ w ∈ xw, w.before args s = true) {index : Nat} {host : String} (hown : s.vm.findClass "ValueBenchModel" = some m.cls) (hK : va_K D xcl (xty cT) s) (hP : va_P D xcl (xMw cT aM ad rd gd vad st ex) H)
    (k : Nat) (hk : k < 6) {x : Nat} (hg : ¬ (x = 0 ∨ xct st < x)) {v : Value} (hv : (xVf st (x - 1))[k]? = some v) (hlink : (Cond.fieldLinkNest "ValueBenchModel" index "ValueBenchModel$V" (TV k).2.1 (TV k).2.2.1 host).before args s = true) (hs : (TV k).1 = "ValueBenchModel$V") (hdg : decode cc pc = .ok (.getfield index, 3))
    (kk : W p l e R s m args below meth c H locs cells slots Q (F0 m (pc + 3) ls (v :: rest))) : W p l e R s m args below meth c H locs cells slots Q (F0 m pc ls (xv vad x :: rest)) := by
  have h0 : ¬ x = 0 := fun h => hg (Or.inl h)
  have h1 : x - 1 < xct st := by
    have := fun h => hg (Or.inr h)
    omega
  rw [xv1 h0]
  exact va_getN (D := D) (ci := 6) (v := v) (C := "ValueBenchModel$V") (T := TV) (N := 6) hx hb htx inV hown hK hP _ (xMw_v h1) rfl k hk hlink (fun _ h => by rw [hs] at h; exact h) hv hdg kk
theorem xm_vput (hx : p.tables.exec = Jvm.exec) (hb : c.code = cc) (htx : ∀ w ∈ xw, w.before args s = true) {index : Nat} {host : String} (hown : s.vm.findClass "ValueBenchModel" = some m.cls) (hK : va_K D xcl (xty cT) s) (hP : va_P D xcl (xMw cT aM ad rd gd vad st ex) H) (hD : va_D A (xMw cT aM ad rd gd vad st ex)) (hS : va_S A H0 H locs)
    (k : Nat) (hk : k < 6) {x : Nat} (hg : ¬ (x = 0 ∨ xct st < x)) {v : Value} (st' : xS) (he : xMe cT aM ad rd gd vad st = xMe cT aM ad rd gd vad st') (hG : xMg cT gd st = xMg cT gd st') (hc : xct st' = xct st) (h1 : xVf st' (x - 1) = (xVf st (x - 1)).set k v) (h2 : ∀ q, q ≠ x - 1 → xVf st' q = xVf st q)
    (hlink : (Cond.fieldLinkNest "ValueBenchModel" index "ValueBenchModel$V" (TV k).2.1 (TV k).2.2.1 host).before args s = true) (hs : (TV k).1 = "ValueBenchModel$V") (hfin : (TV k).2.2.2 = false) {ty : FieldType} (hty : parseFieldDescriptor (TV k).2.2.1 = some ty) (hn : narrow ty v = v) (hf : fits ty v = true) (hdg : decode cc pc = .ok (.putfield index, 3))
    (kk : ∀ (H1 : Heap) (locs1 : List Loc), va_P D xcl (xMw cT aM ad rd gd vad st' ex) H1 → va_D A (xMw cT aM ad rd gd vad st' ex) → va_S A H0 H1 locs1 → W p l e R s m args below meth c H1 locs1 cells slots Q (F0 m (pc + 3) ls rest)) : W p l e R s m args below meth c H locs cells slots Q (F0 m pc ls (v :: xv vad x :: rest)) := by
  have h0 : ¬ x = 0 := fun h => hg (Or.inl h)
  have h3 : x - 1 < xct st := by
    have := fun h => hg (Or.inr h)
    omega
  rw [xv1 h0]
  have hset := xMw_vset (cT := cT) (aM := aM) (ad := ad) (rd := rd) (gd := gd) (vad := vad) (ex := ex) (p := x - 1) he hG hc h1 h2
  exact va_putN (D := D) (ci := 6) (v := v) (ty := ty) (C := "ValueBenchModel$V") (T := TV) (N := 6) hx hb htx inV tyV tyV_ok nmV hown hK hP hD hS _ (xMw_v h3) rfl k hk hlink (fun _ h => by rw [hs] at h; exact h) hfin hty hn hf hk hdg (fun H1 locs1 a1 a2 a3 => kk H1 locs1 (hset ▸ a1) (hset ▸ a2) a3)
theorem xm_aload_n (hx : p.tables.exec = Jvm.exec) (hb : c.code = cc) {k : Fin 4} {i : Nat} {v : Value} (hv : v = .null ∨ ∃ a, v = .ref a) (hdg : decode cc pc = .ok (.aload_n k, 1)) (hi : (k : Nat) = i) (hl : ls[i]? = some (.val v))
    (kk : W p l e R s m args below meth c H locs cells slots Q (F0 m (pc + 1) ls (v :: rest))) : W p l e R s m args below meth c H locs cells slots Q (F0 m pc ls rest) := by
  rcases hv with rfl | ⟨a, rfl⟩
  · exact lv_aload_nN hx hb hdg hi hl kk
  · exact lv_aload_n hx hb hdg hi hl kk
theorem xm_aload (hx : p.tables.exec = Jvm.exec) (hb : c.code = cc) {i : Nat} {v : Value} (hv : v = .null ∨ ∃ a, v = .ref a) (hdg : decode cc pc = .ok (.aload i, 2)) (hl : ls[i]? = some (.val v))
    (kk : W p l e R s m args below meth c H locs cells slots Q (F0 m (pc + 2) ls (v :: rest))) : W p l e R s m args below meth c H locs cells slots Q (F0 m pc ls rest) := by
  rcases hv with rfl | ⟨a, rfl⟩
  · exact lv_aloadN hx hb hdg hl kk
  · exact lv_aload hx hb hdg hl kk
theorem xm_astore_n (hx : p.tables.exec = Jvm.exec) (hb : c.code = cc) {k : Fin 4} {i nL : Nat} {v : Value} (hv : v = .null ∨ ∃ a, v = .ref a) {lv lv' : List (Nat × Value)} (hdg : decode cc pc = .ok (.astore_n k, 1)) (hi : (k : Nat) = i) (h : lv_has ls nL lv) (hn : i < nL) (hl : (i, v) :: lv.filter (fun q => !(q.1 == i) && !(q.1 + 1 == i && q.2.category == 2)) = lv')
    (kk : ∀ ls' : Array Slot, lv_has ls' nL lv' → W p l e R s m args below meth c H locs cells slots Q (F0 m (pc + 1) ls' rest)) : W p l e R s m args below meth c H locs cells slots Q (F0 m pc ls (v :: rest)) := by
  rcases hv with rfl | ⟨a, rfl⟩
  · exact lv_astore_nN hx hb hdg hi h hn hl kk
  · exact lv_astore_n hx hb hdg hi h hn hl kk
theorem xm_astore (hx : p.tables.exec = Jvm.exec) (hb : c.code = cc) {i nL : Nat} {v : Value} (hv : v = .null ∨ ∃ a, v = .ref a) {lv lv' : List (Nat × Value)} (hdg : decode cc pc = .ok (.astore i, 2)) (h : lv_has ls nL lv) (hn : i < nL) (hl : (i, v) :: lv.filter (fun q => !(q.1 == i) && !(q.1 + 1 == i && q.2.category == 2)) = lv')
    (kk : ∀ ls' : Array Slot, lv_has ls' nL lv' → W p l e R s m args below meth c H locs cells slots Q (F0 m (pc + 2) ls' rest)) : W p l e R s m args below meth c H locs cells slots Q (F0 m pc ls (v :: rest)) := by
  rcases hv with rfl | ⟨a, rfl⟩
  · exact lv_astoreN hx hb hdg h hn hl kk
  · exact lv_astore hx hb hdg h hn hl kk
theorem xm_ifnull (hx : p.tables.exec = Jvm.exec) (hb : c.code = cc) {x : Nat} {off : Int} {tgt : Nat} (hdg : decode cc pc = .ok (.ifnull off, 3)) (ht : (pc : Int) + off = (tgt : Int)) (k1 : x = 0 → W p l e R s m args below meth c H locs cells slots Q (F0 m tgt ls rest)) (k2 : ¬ x = 0 → W p l e R s m args below meth c H locs cells slots Q (F0 m (pc + 3) ls rest)) : W p l e R s m args below meth c H locs cells slots Q (F0 m pc ls (xv vad x :: rest)) := by
  by_cases h : x = 0
  · rw [h]
    exact lv_ifnullN hx hb hdg ht (k1 h)
  · rw [xv1 h]
    exact lv_ifnull hx hb hdg (k2 h)
theorem xm_ifnonnull (hx : p.tables.exec = Jvm.exec) (hb : c.code = cc) {x : Nat} {off : Int} {tgt : Nat} (hdg : decode cc pc = .ok (.ifnonnull off, 3)) (ht : (pc : Int) + off = (tgt : Int)) (k1 : ¬ x = 0 → W p l e R s m args below meth c H locs cells slots Q (F0 m tgt ls rest)) (k2 : x = 0 → W p l e R s m args below meth c H locs cells slots Q (F0 m (pc + 3) ls rest)) : W p l e R s m args below meth c H locs cells slots Q (F0 m pc ls (xv vad x :: rest)) := by
  by_cases h : x = 0
  · rw [h]
    exact lv_ifnonnullN hx hb hdg (k2 h)
  · rw [xv1 h]
    exact lv_ifnonnull hx hb hdg ht (k1 h)
end XM
theorem xcf_up {vad : Nat → Nat} {g : Nat → Nat} {i x : Nat} : va_up (xcf vad g) i (xca vad x) = xcf vad (va_up g i x) := by
  funext j
  by_cases h : j = i
  · simp [va_up, xcf, h]
  · simp [va_up, xcf, h]
theorem xm_keep {D : va_G} {cl : List vw_C} {ws : va_W} {H H1 : Heap} (hP : va_P D cl ws H) (hk : ∀ q : Nat, q < H.size → ¬ va_A [] H.size q → H1[q]? = H[q]?) : va_P D cl ws H1 :=
  hP.kept fun k q hq => hk q.1 (hP k q hq).lt fun h => by
    rcases h with ⟨j, e, h⟩ | h
    · simp at h
    · exact absurd (hP k q hq).lt (Nat.not_lt.mpr h)
theorem xm_part {D : va_G} {cl : List vw_C} {A : Nat → Prop} {X cx G W1 W2 : va_W} {H : Heap} (hP : va_P D cl W1 H) (hD : va_D A W1) (e1 : W1 = X ++ G) (is : List Nat) (hs : is.map (fun i => X[i]?) = cx.map some) (hn : va_nd is = true) (e2 : cx ++ G = W2) : va_P D cl W2 H ∧ va_D A W2 := by
  subst e1
  subst e2
  exact ⟨hP.part is hs, hD.part is hn hs⟩
theorem xMt_A {vad : Nat → Nat} {st : xS} {q : Nat} : xMt (va_up vad (xct st) q) (xsA st) = xMt vad st ++ [(q, .inr (6, [.int 0, .long 0, .int 0, .int 0, .int 0, .int 0]))] := by
  show (List.range (xct st + 1)).map _ = _
  rw [List.range_succ, List.map_append]
  congr 1
  · apply List.map_congr_left
    intro p hp
    have hne : p ≠ xct st := Nat.ne_of_lt (List.mem_range.mp hp)
    have u : ∀ f : Nat → Int32, upd f (xct st) 0 p = f p := fun f => by unfold upd; rw [if_neg hne]
    show (va_up vad (xct st) q p, Sum.inr (6, [Value.int (upd (xpi st 0) (xct st) 0 p), Value.long (va_up (xpl st) (xct st) 0 p), Value.int (upd (xpi st 2) (xct st) 0 p), Value.int (upd (xpi st 3) (xct st) 0 p), Value.int (upd (xpi st 4) (xct st) 0 p), Value.int (upd (xpi st 5) (xct st) 0 p)])) = _
    rw [va_up_ne _ _ hne, va_up_ne _ _ hne, u, u, u, u, u]
    rfl
  · have u : ∀ f : Nat → Int32, upd f (xct st) 0 (xct st) = 0 := fun f => by unfold upd; rw [if_pos rfl]
    show [(va_up vad (xct st) q (xct st), Sum.inr (6, [Value.int (upd (xpi st 0) (xct st) 0 (xct st)), Value.long (va_up (xpl st) (xct st) 0 (xct st)), Value.int (upd (xpi st 2) (xct st) 0 (xct st)), Value.int (upd (xpi st 3) (xct st) 0 (xct st)), Value.int (upd (xpi st 4) (xct st) 0 (xct st)), Value.int (upd (xpi st 5) (xct st) 0 (xct st))]))] = _
    rw [va_up_self, va_up_self, u, u, u, u, u]
theorem xcf_A {vad : Nat → Nat} {n q : Nat} {g : Nat → Nat} (h : ∀ i, g i ≤ n) : xcf (va_up vad n q) g = xcf vad g := by
  funext i
  unfold xcf xca
  split
  · rfl
  · have := h i
    rw [va_up_ne _ _ (by omega)]
theorem xMe_A {cT : Nat → ClassId} {aM : Nat} {ad rd gd vad : Nat → Nat} {st : xS} {q : Nat} (h : xIn st) : xMe cT aM ad rd gd (va_up vad (xct st) q) (xsA st) = xMe cT aM ad rd gd vad st := by
  show (_ :: [_, _, _, _, _, _, _, _, _, _, _, _, _, _, _, _, _, _, _, _, _]) = (_ :: [_, _, _, _, _, _, _, _, _, _, _, _, _, _, _, _, _, _, _, _, _])
  rw [show (xvc (xsA st)) = xvc st from rfl, xcf_A (fun i => (h i).1), xcf_A (fun i => (h i).2.1), xcf_A (fun i => (h i).2.2.1), xcf_A (fun i => (h i).2.2.2.1), xcf_A (fun i => (h i).2.2.2.2)]
  rfl
theorem xMg_O {cT : Nat → ClassId} {gd : Nat → Nat} {st : xS} {n a : Nat} {f : Nat → Int32} : xMg cT (va_up gd (xgl st) a) (xsO st n f) = (a, .inl (cT 0, xln st 3, .inl (xba st 3))) :: xMg cT gd st := by
  show (List.range (xgl st + 1)).reverse.map _ = _
  rw [List.range_succ, List.reverse_append]
  show (_ :: ((List.range (xgl st)).reverse.map _)) = _
  congr 1
  · show (va_up gd (xgl st) a (xgl st), Sum.inl (cT 0, va_up (xgn st) (xgl st) (xln st 3) (xgl st), Sum.inl (va_up (xgb st) (xgl st) (xba st 3) (xgl st)))) = _
    rw [va_up_self, va_up_self, va_up_self]
  · apply List.map_congr_left
    intro j hj
    have hne : j ≠ xgl st := Nat.ne_of_lt (List.mem_range.mp (List.mem_reverse.mp hj))
    show (va_up gd (xgl st) a j, Sum.inl (cT 0, va_up (xgn st) (xgl st) (xln st 3) j, Sum.inl (va_up (xgb st) (xgl st) (xba st 3) j))) = _
    rw [va_up_ne _ _ hne, va_up_ne _ _ hne, va_up_ne _ _ hne]
theorem xr8 {c : Nat} (h : 32 ≤ c ∧ c < 41) : c = 32 ∨ c = 33 ∨ c = 34 ∨ c = 35 ∨ c = 36 ∨ c = 37 ∨ c = 38 ∨ c = 39 ∨ c = 40 := by omega
theorem xrs_row {ad rd gd : Nat → Nat} {r : Nat} (h : r < 8) : xrs ad rd gd (32 + r) = .ref (rd r) := by
  unfold xrs xra
  rw [if_neg (by omega), if_neg (by omega), if_pos (by omega), Nat.add_sub_cancel_left]
section XM2
variable {p : Program} {l : Launch} {e : Env} {R : Room} {s : State} {m : MethodId} {args : Array Value} {below : List Frame} {meth : Method} {c : Code} {H : Heap} {locs : List Loc} {cells slots : Nat} {Q : State → Prop}
variable {cc : ByteArray} {pc : Nat} {ls : Array Slot} {rest : List Value} {A : Nat → Prop} {H0 : Heap} {D : va_G} {cT : Nat → ClassId} {aM : Nat} {ad rd gd vad : Nat → Nat} {st : xS} {ex : va_W}
theorem xm_ast (hx : p.tables.exec = Jvm.exec) (hb : c.code = cc) (hK : va_K D xcl (xty cT) s) (hP : va_P D xcl (xMw cT aM ad rd gd vad st ex) H) (hD : va_D A (xMw cT aM ad rd gd vad st ex)) (hS : va_S A H0 H locs) (q : Nat) {a n : Nat} {g : Nat → Nat} (ha : (xMw cT aM ad rd gd vad st ex)[q]? = some (a, .inl (cT 4, n, .inr (.inr (.inr (.inr (xcf vad g))))))) {x : Nat} (hgx : ¬ xct st < x) {i : Int32} (hin : vp_in i n) (hdg : decode cc pc = .ok (.aastore, 1))
    {W' : va_W} (he : (xMw cT aM ad rd gd vad st ex).set q (a, .inl (cT 4, n, .inr (.inr (.inr (.inr (xcf vad (va_up g i.toNatClampNeg x))))))) = W')
    (kk : ∀ (H1 : Heap) (locs1 : List Loc), va_P D xcl W' H1 → va_D A W' → va_S A H0 H1 locs1 → W p l e R s m args below meth c H1 locs1 cells slots Q (F0 m (pc + 1) ls rest)) : W p l e R s m args below meth c H locs cells slots Q (F0 m pc ls (xv vad x :: .int i :: .ref a :: rest)) := by
  have he2 := he
  rw [← xcf_up] at he2
  by_cases h0 : x = 0
  · subst h0
    exact va_astqN hx hb hK hP hD hS q 4 ha rfl hin hdg (fun H1 locs1 a1 a2 a3 => kk H1 locs1 (he2 ▸ a1) (he2 ▸ a2) a3)
  · have e9 : xca vad x = some (vad (x - 1)) := by unfold xca; rw [if_neg h0]
    rw [e9] at he2
    rw [xv1 h0]
    exact va_astq (r := ("ValueBenchModel$V", TV, 6)) hx hb hK hP hD hS q 4 _ 6 ha rfl (xMw_v (by omega)) rfl hin hdg (fun H1 locs1 a1 a2 a3 => kk H1 locs1 (he2 ▸ a1) (he2 ▸ a2) a3)
theorem xm_newV (hx : p.tables.exec = Jvm.exec) (hb : c.code = cc) (htx : ∀ w ∈ xw, w.before args s = true) {own : String} {index : Nat} (hown : s.vm.findClass own = some m.cls) (hcl : (Cond.classLink own index "ValueBenchModel$V").before args s = true) (hinst : (Cond.instantiable "ValueBenchModel$V" 6).before args s = true) (hini : (Cond.initialized "ValueBenchModel$V").before args s = true)
    (hK : va_K D xcl (xty cT) s) (hP : va_P D xcl (xMw cT aM ad rd gd vad st []) H) (hD : va_D A (xMw cT aM ad rd gd vad st [])) (hS : va_S A H0 H locs) (hA : ∀ q, H0.size ≤ q → A q) (hI : xIn st) (hcells : cells + 1 ≤ R.cells) (hslots : slots + 6 ≤ R.slots) (hdg : decode cc pc = .ok (.new index, 3))
    (kk : ∀ (q : Nat) (H1 : Heap), va_P D xcl (xMw cT aM ad rd gd (va_up vad (xct st) q) (xsA st) []) H1 → va_D A (xMw cT aM ad rd gd (va_up vad (xct st) q) (xsA st) []) → va_S A H0 H1 locs → (∀ p, p < xct st → va_up vad (xct st) q p = vad p) →
      W p l e R s m args below meth c H1 locs (cells + 1) (slots + 6) Q (F0 m (pc + 3) ls (xv (va_up vad (xct st) q) (xct st + 1) :: rest))) : W p l e R s m args below meth c H locs cells slots Q (F0 m pc ls rest) := by
  refine va_new (ci := 6) (fs := [.int 0, .long 0, .int 0, .int 0, .int 0, .int 0]) (C := "ValueBenchModel$V") (T := TV) (N := 6) hx hb htx inV tyV tyV_ok hown hcl hinst hini hK hP hD hS hA rfl (by decide +kernel) hcells hslots hdg (fun q H1 a1 a2 a3 => ?_)
  have ew : xMw cT aM ad rd gd vad st [] ++ [(q, Sum.inr (6, [.int 0, .long 0, .int 0, .int 0, .int 0, .int 0]))] = xMw cT aM ad rd gd (va_up vad (xct st) q) (xsA st) [] := by
    unfold xMw
    rw [xMe_A hI, xMt_A, List.nil_append, List.nil_append, List.append_assoc, List.append_assoc]
    rfl
  rw [ew] at a1 a2
  have h9 := kk q H1 a1 a2 a3 (fun p hp => va_up_ne _ _ (Nat.ne_of_lt hp))
  rw [xv1 (Nat.succ_ne_zero _), Nat.succ_sub_one, va_up_self] at h9
  exact h9
theorem xm_tmpP {D : va_G} {cl : List vw_C} {H : Heap} {x : Nat × va_E} (h : va_P D cl (xMw cT aM ad rd gd vad st ex ++ [x]) H) : va_P D cl (xMw cT aM ad rd gd vad st (ex ++ [x])) H := by
  unfold xMw at h ⊢
  rw [← List.append_assoc (xMe cT aM ad rd gd vad st) ex] at h
  have h2 := h.swap
  rw [List.append_assoc, List.append_assoc, ← List.append_assoc ex] at h2
  exact h2
theorem xm_tmpD {A : Nat → Prop} {x : Nat × va_E} (h : va_D A (xMw cT aM ad rd gd vad st ex ++ [x])) : va_D A (xMw cT aM ad rd gd vad st (ex ++ [x])) := by
  unfold xMw at h ⊢
  rw [← List.append_assoc (xMe cT aM ad rd gd vad st) ex] at h
  have h2 := h.swap
  rw [List.append_assoc, List.append_assoc, ← List.append_assoc ex] at h2
  exact h2
theorem xm_sld (hx : p.tables.exec = Jvm.exec) (hb : c.code = cc) (hK : va_K D xcl (xty cT) s) (hP : va_P D xcl (xMw cT aM ad rd gd vad st ex) H) {x : Nat} (hg : xrok st x) {i : Int32} (hin : vp_in i (xrl st x)) (hdg : decode cc pc = .ok (.baload, 1))
    (kk : W p l e R s m args below meth c H locs cells slots Q (F0 m (pc + 1) ls (.int (xrb st x i.toNatClampNeg) :: rest))) : W p l e R s m args below meth c H locs cells slots Q (F0 m pc ls (.int i :: xrs ad rd gd x :: rest)) := by
  rcases hg with rfl | h | ⟨h, h'⟩
  · exact va_bald hx hb hK hP 2 0 rfl rfl hin hdg kk
  · rcases xr8 h with rfl | rfl | rfl | rfl | rfl | rfl | rfl | rfl | rfl
    · exact va_bald hx hb hK hP 13 0 rfl rfl hin hdg kk
    · exact va_bald hx hb hK hP 14 0 rfl rfl hin hdg kk
    · exact va_bald hx hb hK hP 15 0 rfl rfl hin hdg kk
    · exact va_bald hx hb hK hP 16 0 rfl rfl hin hdg kk
    · exact va_bald hx hb hK hP 17 0 rfl rfl hin hdg kk
    · exact va_bald hx hb hK hP 18 0 rfl rfl hin hdg kk
    · exact va_bald hx hb hK hP 19 0 rfl rfl hin hdg kk
    · exact va_bald hx hb hK hP 20 0 rfl rfl hin hdg kk
    · exact va_bald hx hb hK hP 21 0 rfl rfl hin hdg kk
  · have h1 : ¬ x < 41 := Nat.not_lt.mpr h
    unfold xrl at hin
    unfold xrb at kk
    rw [if_neg h1] at hin kk
    unfold xrs xra
    rw [if_neg (by omega), if_neg (by omega), if_neg h1]
    exact va_bald hx hb hK hP _ 0 (xMw_g (j := x - 41) (by omega)) rfl hin hdg kk
theorem xm_rst (hx : p.tables.exec = Jvm.exec) (hb : c.code = cc) (hK : va_K D xcl (xty cT) s) (hP : va_P D xcl (xMw cT aM ad rd gd vad st ex) H) (hD : va_D A (xMw cT aM ad rd gd vad st ex)) (hS : va_S A H0 H locs) {r : Nat} (hr : r < 8) {i v : Int32} (hin : vp_in i (xln st (32 + r))) (hdg : decode cc pc = .ok (.bastore, 1))
    (kk : ∀ (H1 : Heap) (locs1 : List Loc), va_P D xcl (xMw cT aM ad rd gd vad (xsB st (32 + r) i.toNatClampNeg (vp_nar .byte v)) ex) H1 → va_D A (xMw cT aM ad rd gd vad (xsB st (32 + r) i.toNatClampNeg (vp_nar .byte v)) ex) → va_S A H0 H1 locs1 → W p l e R s m args below meth c H1 locs1 cells slots Q (F0 m (pc + 1) ls rest)) : W p l e R s m args below meth c H locs cells slots Q (F0 m pc ls (.int v :: .int i :: .ref (rd r) :: rest)) := by
  have h8 : r = 0 ∨ r = 1 ∨ r = 2 ∨ r = 3 ∨ r = 4 ∨ r = 5 ∨ r = 6 ∨ r = 7 := by omega
  rcases h8 with rfl | rfl | rfl | rfl | rfl | rfl | rfl | rfl
  · exact va_bast hx hb hK hP hD hS 13 0 rfl rfl hin hdg kk
  · exact va_bast hx hb hK hP hD hS 14 0 rfl rfl hin hdg kk
  · exact va_bast hx hb hK hP hD hS 15 0 rfl rfl hin hdg kk
  · exact va_bast hx hb hK hP hD hS 16 0 rfl rfl hin hdg kk
  · exact va_bast hx hb hK hP hD hS 17 0 rfl rfl hin hdg kk
  · exact va_bast hx hb hK hP hD hS 18 0 rfl rfl hin hdg kk
  · exact va_bast hx hb hK hP hD hS 19 0 rfl rfl hin hdg kk
  · exact va_bast hx hb hK hP hD hS 20 0 rfl rfl hin hdg kk
end XM2
theorem xm_free {A : Nat → Prop} {ws : va_W} {H H0 : Heap} {locs : List Loc} (hD : va_D A ws) (hS : va_S A H0 H locs) (hA : ∀ q, H0.size ≤ q → A q) : ∀ q, va_A ws H.size q → A q := fun q h => by
  rcases h with ⟨k, e, h⟩ | h
  · exact hD.2 k (q, e) h
  · exact hA q (Nat.le_trans hS.1 h)
theorem xm_free0 {A : Nat → Prop} {H H0 : Heap} {locs : List Loc} (hS : va_S A H0 H locs) (hA : ∀ q, H0.size ≤ q → A q) : ∀ q, va_A [] H.size q → A q := fun q h => by
  rcases h with ⟨k, e, h⟩ | h
  · simp at h
  · exact hA q (Nat.le_trans hS.1 h)
theorem xm_D0 : va_D (fun _ => True) ([] : va_W) := ⟨fun i j x y h _ _ => by simp at h, fun _ _ _ => trivial⟩
theorem xm_Dnil {A : Nat → Prop} : va_D A ([] : va_W) := ⟨fun i j x y h _ _ => by simp at h, fun k q h => by simp at h⟩
theorem xm_Pnil {D : va_G} {cl : List vw_C} {H : Heap} : va_P D cl ([] : va_W) H := fun k q h => by simp at h
abbrev xU : Type := (Nat → Nat) × (Nat → Nat) × (Nat → Nat)
abbrev xE (vad : Nat → Nat) (st st' : xS) (u : xU) : Prop := (∀ p, p < xct st → u.2.2 p = vad p) ∧ xct st ≤ xct st'
theorem xmoE {α : Type} {f g : α → Nat} {c s : Nat} {o : Option α} {out : α} (h : xmo f g c s o = some out) : (c ≤ f out ∧ s ≤ g out) ∧ o = some out := by
  obtain ⟨a, h1, h2⟩ := xbind h
  obtain ⟨h3, h4⟩ := xifn h2
  obtain rfl := Option.some.inj h4
  exact ⟨⟨Nat.le_of_not_lt fun q => h3 (Or.inl q), Nat.le_of_not_lt fun q => h3 (Or.inr q)⟩, h1⟩
abbrev xMetY (l : Launch) (y : MethodName) (w : List Cond) (f cs sl lo : Nat) (D : va_G) (cT : Nat → ClassId) (aK aV : Nat → Nat) (sz : Nat) (av : List Value) (pre : va_W) (X : String) (px : xU → Prop) (P : (Nat → Prop) → xU → State → Prop) : Prop := vx_Met l y w { frames := f, cells := cs, slots := sl, locals := lo } (va_Pc av (xPre D xcl cT aK aV sz pre)) (fun _ _ _ _ => False) (vx_X px (fun E u t => E = X ∧ P (va_A pre sz) u t) (va_A pre sz)) cs sl (va_A pre sz)
theorem xloopM {p : Program} {l : Launch} {e : Env} {R : Room} {s : State} {m : MethodId} {args : Array Value} {below : List Frame} {meth : Method} {c : Code} {H1 : Heap} {locs1 : List Loc} {cells slots : Nat} {Q : State → Prop} {g : JFrame} {σ : Type} (inv : Nat → σ → Heap → List Loc → Array Slot → Prop) (pcs cs ss : σ → Nat) (h0 : ∀ x H locs ls, ¬ inv 0 x H locs ls)
    (hs : ∀ n, (∀ x H locs ls, inv n x H locs ls → W p l e R s m args below meth c H locs (cs x) (ss x) Q (F0 m (pcs x) ls [])) → ∀ x H locs ls, inv (n + 1) x H locs ls → W p l e R s m args below meth c H locs (cs x) (ss x) Q (F0 m (pcs x) ls [])) (kk : (∀ n x H locs ls, inv n x H locs ls → W p l e R s m args below meth c H locs (cs x) (ss x) Q (F0 m (pcs x) ls [])) → W p l e R s m args below meth c H1 locs1 cells slots Q g) : W p l e R s m args below meth c H1 locs1 cells slots Q g := by
  refine kk (fun n => ?_)
  induction n with
  | zero => exact fun x H locs ls h => absurd h (h0 x H locs ls)
  | succ n ih => exact hs n ih
theorem xrsE {ad ad' rd gd gd' : Nat → Nat} {c : Nat} (h : ¬ ¬ (c = 0 ∨ (32 ≤ c ∧ c < 41))) : xrs ad rd gd c = xrs ad' rd gd' c := by
  rcases Decidable.not_not.mp h with rfl | ⟨h1, h2⟩
  · rfl
  · unfold xrs xra
    rw [if_neg (by omega), if_neg (by omega), if_pos h2, if_neg (by omega), if_neg (by omega), if_pos h2]
theorem xlt {n : Nat} {x : Int32} (h : ¬ (x < 0 ∨ n ≤ x.toNatClampNeg)) : x.toNatClampNeg < n := Nat.lt_of_not_le fun q => h (Or.inr q)
theorem xdef {p : Prop} (i : Decidable p) {α : Type} {t : Option α} {out : α} (h : @ite _ p i t none = some out) : p ∧ t = some out := by
  by_cases hc : p
  · rw [if_pos hc] at h
    exact ⟨hc, h⟩
  · rw [if_neg hc] at h
    exact nomatch h
theorem xrscat (ad rd gd : Nat → Nat) (c : Nat) : (xrs ad rd gd c).category = 1 := by
  unfold xrs
  split <;> rfl
theorem xrgE {ad rd gd : Nat → Nat} {j : Nat} (h : j < 8) : va_rf (xrg rd j) = xrs ad rd gd (32 + j) := by
  rw [xrs_row h]
  unfold xrg
  rw [if_pos h]
  rfl
theorem xVf_P {st : xS} {p : Nat} {v : Int32} (k : Nat) (hk : k = 0 ∨ k = 2 ∨ k = 3 ∨ k = 4 ∨ k = 5) : xVf (xsP st k p v) p = (xVf st p).set k (.int v) := by
  rcases hk with rfl | rfl | rfl | rfl | rfl <;> simp [xVf, xpi, xpl, xsP, va_up, upd]
theorem xVf_P2 {st : xS} {p : Nat} {v : Int32} (k : Nat) (hk : k = 0 ∨ k = 2 ∨ k = 3 ∨ k = 4 ∨ k = 5) : ∀ q, q ≠ p → xVf (xsP st k p v) q = xVf st q := by
  intro q hq
  rcases hk with rfl | rfl | rfl | rfl | rfl <;> simp [xVf, xpi, xpl, xsP, va_up, upd, hq]
theorem xVf_N {st : xS} {p : Nat} {v : Int64} : xVf (xsN st p v) p = (xVf st p).set 1 (.long v) := by
  simp [xVf, xpi, xpl, xsN, va_up]
theorem xVf_N2 {st : xS} {p : Nat} {v : Int64} : ∀ q, q ≠ p → xVf (xsN st p v) q = xVf st q := by
  intro q hq
  simp [xVf, xpi, xpl, xsN, va_up, hq]
theorem xcf_0 (vad : Nat → Nat) : (fun _ => none : Nat → Option Nat) = xcf vad (fun _ => 0) := rfl
theorem xfit {v : Value} (h : v = .null ∨ ∃ a, v = .ref a) : fits (.array .byte) v = true := by
  rcases h with rfl | ⟨a, rfl⟩ <;> rfl
theorem xnar {v : Value} (h : v = .null ∨ ∃ a, v = .ref a) : narrow (.array .byte) v = v := by
  rcases h with rfl | ⟨a, rfl⟩ <;> rfl
theorem xrs_O {ad rd gd : Nat → Nat} {q g c : Nat} (h : c < 41 + g) : xrs ad rd gd c = xrs (va_up ad 3 q) rd (va_up gd g (ad 3)) (if c = 3 then 41 + g else c) := by
  unfold xrs xra
  by_cases h3 : c = 3
  · subst h3
    rw [if_pos rfl, if_neg (by omega), if_pos rfl, if_neg (by omega), if_neg (by omega), if_neg (by omega), Nat.add_sub_cancel_left, va_up_self]
  · simp only [if_neg h3]
    by_cases h0 : c = 0
    · rw [if_pos h0, if_pos h0]
    · rw [if_neg h0, if_neg h0]
      by_cases h4 : c < 41
      · rw [if_pos h4, if_pos h4]
      · rw [if_neg h4, if_neg h4, va_up_ne _ _ (by omega)]
theorem xMf_O {ad rd gd : Nat → Nat} {st : xS} {q n : Nat} {f : Nat → Int32} (h : xsr st < 41 + xgl st) : (xMf ad rd gd st).set 3 (.ref q) = xMf (va_up ad 3 q) rd (va_up gd (xgl st) (ad 3)) (xsO st n f) := by
  unfold xMf
  rw [xrs_O (q := q) h]
  rfl
theorem xMw_O {cT : Nat → ClassId} {aM q n : Nat} {ad rd gd vad : Nat → Nat} {st : xS} {f : Nat → Int32} : (xMe cT aM (va_up ad 3 q) rd (va_up gd (xgl st) (ad 3)) vad (xsO st n f) ++ [(ad 3, .inl (cT 0, xln st 3, .inl (xba st 3)))]) ++ (xMg cT gd st ++ xMt vad st) = xMw cT aM (va_up ad 3 q) rd (va_up gd (xgl st) (ad 3)) vad (xsO st n f) [] := by
  unfold xMw
  rw [xMg_O, List.append_assoc]
  rfl
theorem xm_room {st : List Value} {m : MethodId} {pc : Nat} {ls : Array Slot} {rest : List Value} (h : (st.map fun v => v.category).sum ≤ 8) : 2 * (F0 m pc ls rest).monitorRoom + (st.map fun v => v.category).sum ≤ 8 := lv_room h
section XM3
variable {p : Program} {l : Launch} {e : Env} {R : Room} {s : State} {m : MethodId} {args : Array Value} {below : List Frame} {meth : Method} {c : Code} {H : Heap} {locs : List Loc} {cells slots : Nat} {Q : State → Prop} {cc : ByteArray} {pc : Nat} {ls : Array Slot} {rest : List Value}
theorem xm_ldcS (hexec : p.tables.exec = Jvm.exec) (hb : c.code = cc) {own tx : String} {index q : Nat} (hown : s.vm.findClass own = some m.cls) (hZ : vk_R own index tx q s) (hdg : decode cc pc = .ok (.ldc_w index, 3))
    (k : W p l e R s m args below meth c H locs cells slots Q (F0 m (pc + 3) ls (.ref q :: rest))) : W p l e R s m args below meth c H locs cells slots Q (F0 m pc ls rest) := by
  intro T hT X
  obtain ⟨t, a1, b1⟩ := k T hT X
  exact ⟨t, X.ldcStringW hexec hown (text := tx) (a := q) hZ.1 hZ.2 (g := F0 m pc ls rest) rfl (by rw [hb]; exact hdg) t a1, b1⟩
end XM3
theorem xcI (v : Int32) : (Value.int v).category = 1 := rfl
theorem xcL (v : Int64) : (Value.long v).category = 2 := rfl
theorem xcR (v : Nat) : (Value.ref v).category = 1 := rfl
theorem xcN : Value.null.category = 1 := rfl
