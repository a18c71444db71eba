/-! ===== xs: the words of every method in one list, the world in one form, contracts in one form ===== -/
def xw : List Cond := lw_tbl.filter goodWord
theorem xw_t {w : Cond} (h : w ∈ tables_1) (g : goodWord w = true) : w ∈ xw := List.mem_filter.mpr ⟨List.mem_append_right _ h, g⟩
theorem xw_p {w : Cond} (h : w ∈ k2_sels lw_privs) (g : goodWord w = true) : w ∈ xw := List.mem_filter.mpr ⟨List.mem_append_left _ h, g⟩
theorem xw_in : ∀ w ∈ xw, w ∈ lw_tbl := fun _ h => (List.mem_filter.mp h).1
theorem xw_good : GoodIn xw xw := fun _ h => ⟨h, good_of_word (List.mem_filter.mp h).2⟩
theorem xw_goodC {c : Cond} (hc : c ∈ xw) : GoodIn xw (c :: xw) := fun w h => (List.mem_cons.mp h).elim (fun e => by rw [e]; exact xw_good c hc) (xw_good w)
theorem x_t1 {w : Cond} (h : w ∈ tables_1_1) : w ∈ tables_1 := List.mem_append_left _ h
theorem x_t2 {w : Cond} (h : w ∈ tables_1_2) : w ∈ tables_1 := List.mem_append_right _ (List.mem_append_left _ h)
theorem x_t3 {w : Cond} (h : w ∈ tables_1_3) : w ∈ tables_1 := List.mem_append_right _ (List.mem_append_right _ (List.mem_append_left _ h))
theorem x_t4 {w : Cond} (h : w ∈ tables_1_4) : w ∈ tables_1 := List.mem_append_right _ (List.mem_append_right _ (List.mem_append_right _ (List.mem_append_left _ h)))
theorem x_t5 {w : Cond} (h : w ∈ tables_1_5) : w ∈ tables_1 := List.mem_append_right _ (List.mem_append_right _ (List.mem_append_right _ (List.mem_append_right _ (List.mem_append_left _ h))))
theorem x_t6 {w : Cond} (h : w ∈ tables_1_6) : w ∈ tables_1 := List.mem_append_right _ (List.mem_append_right _ (List.mem_append_right _ (List.mem_append_right _ (List.mem_append_right _ (List.mem_append_left _ h)))))
theorem x_t7 {w : Cond} (h : w ∈ tables_1_7) : w ∈ tables_1 := List.mem_append_right _ (List.mem_append_right _ (List.mem_append_right _ (List.mem_append_right _ (List.mem_append_right _ (List.mem_append_right _ h)))))
/-- the array classes of the world: bytes, ints, longs, rows, values -/
def xty (cT : Nat → ClassId) : List (ClassId × FieldType) := [(cT 0, .byte), (cT 1, .int), (cT 2, .long), (cT 3, .object "ValueBench$Row"), (cT 4, .object "ValueBenchModel$V")]
theorem xk_RA {s : State} {c1 c2 : ClassId} {ty : FieldType} (h1 : va_RA s c1 ty) (h2 : va_RA s c2 ty) : c1 = c2 := by
  cases ty with
  | object C =>
    obtain ⟨_, _, _, _, _, a⟩ := h1
    obtain ⟨_, _, _, _, _, b⟩ := h2
    exact Option.some.inj (a.symm.trans b)
  | _ => exact Option.some.inj (Eq.trans (Eq.symm h1) h2)
/-- a new array's class is the one that is known for its type -/
theorem xk_eq {D : va_G} {cl : List vw_C} {tys : List (ClassId × FieldType)} {s : State} {cA c : ClassId} {ty : FieldType} (h : va_K D cl (tys ++ [(cA, ty)]) s) (i : Nat) (hi : tys[i]? = some (c, ty)) : cA = c := by
  have h1 := (h.2 tys.length (cA, ty) (by simp)).2
  have h2 := (h.2 i (c, ty) (by rw [List.getElem?_append_left (List.getElem?_eq_some_iff.mp hi).1]; exact hi)).2
  exact xk_RA h1 h2
theorem xk_drop {D : va_G} {cl : List vw_C} {tys : List (ClassId × FieldType)} {s : State} {x : ClassId × FieldType} (h : va_K D cl (tys ++ [x]) s) : va_K D cl tys s :=
  ⟨h.1, fun k q hk => h.2 k q (by rw [List.getElem?_append_left (List.getElem?_eq_some_iff.mp hk).1]; exact hk)⟩
def xnF : List (Nat × String × String) := [(93, "kind", "I"), (96, "n", "J"), (100, "off", "I"), (103, "count", "I"), (106, "depth", "I"), (109, "weight", "I")]
def xnM : List (String × Nat × MethodName) := [("ValueBench", 9, ⟨"ValueBench$Text", "<init>", "()V"⟩), ("ValueBench", 30, ⟨"ValueBench$Sorter", "<init>", "()V"⟩), ("ValueBench", 35, ⟨"ValueBench$Row", "<init>", "()V"⟩), ("ValueBenchModel", 92, ⟨"ValueBenchModel$V", "<init>", "()V"⟩)]
/-- what lies around: links among nest mates, arrays of objects, what a throw reads -/
def xa (A : Nat → Prop) (U : State) (H : Heap) : Prop :=
  (∀ q ∈ xnF, va_Nw (.fieldLinkNest "ValueBenchModel" q.1 "ValueBenchModel$V" q.2.1 q.2.2 "ValueBenchModel") U) ∧ (∀ q ∈ xnM, va_Nw (.methodLinkNest q.1 q.2.1 q.2.2 q.1) U) ∧
  (va_AO "ValueBench$Row" U ∧ va_AO "ValueBenchModel$V" U) ∧
  vx_Zq Bundle.tN "UNASSIGNED_STACK" Bundle.steD A U H ∧ vx_Zq Bundle.tN "SUPPRESSED_SENTINEL" Bundle.listD A U H
theorem xa.warm {A : Nat → Prop} {s U : State} {H : Heap} (hW : s.WarmedH U.vm) (h : xa A s H) : xa A U H :=
  ⟨fun q hq => (h.1 q hq).warmF hW, fun q hq => (h.2.1 q hq).warmM hW, ⟨va_AO.moved hW.alike h.2.2.1.1, va_AO.moved hW.alike h.2.2.1.2⟩, vx_Zq.moved hW.alike h.2.2.2.1, vx_Zq.moved hW.alike h.2.2.2.2⟩
theorem xa.kept {A : Nat → Prop} {U : State} {H H1 : Heap} (h : xa A U H) (hq : ∀ a : Nat, a < H.size → ¬ A a → H1[a]? = H[a]?) : xa A U H1 :=
  ⟨h.1, h.2.1, h.2.2.1, h.2.2.2.1.kept hq, h.2.2.2.2.kept hq⟩
theorem xa.narrow {A B : Nat → Prop} {U : State} {H : Heap} (h : xa A U H) (hAB : ∀ q, B q → A q) : xa B U H :=
  ⟨h.1, h.2.1, h.2.2.1, h.2.2.2.1.narrow hAB, h.2.2.2.2.narrow hAB⟩
theorem xa.blind {A : Nat → Prop} {U : State} {g : JFrame} {mk : MethodId} {a : Array Value} {H : Heap} (h : xa A U H) : xa A (U.calling g mk a) H :=
  ⟨fun q hq => va_Nw.same rfl rfl (h.1 q hq), fun q hq => va_Nw.same rfl rfl (h.2.1 q hq), ⟨va_AO.moved (Vm.Alike.refl U.vm) h.2.2.1.1, va_AO.moved (Vm.Alike.refl U.vm) h.2.2.1.2⟩, vx_Zq.moved (Vm.Alike.refl U.vm) h.2.2.2.1, vx_Zq.moved (Vm.Alike.refl U.vm) h.2.2.2.2⟩
/-- a contract's start: the cells ws, and nothing else -/
def xPre (D : va_G) (cl : List vw_C) (cT : Nat → ClassId) (sz : Nat) (ws : va_W) (U : State) : Prop :=
  U.heap.size = sz ∧ xa (va_A ws sz) U U.heap ∧ va_P D cl ws U.heap ∧ va_K D cl (xty cT) U ∧ va_D (fun _ => True) ws
/-- .. and what is behind it -/
def xB (D : va_G) (cl : List vw_C) (cT : Nat → ClassId) (A : Nat → Prop) (ws : va_W) (t : State) : Prop :=
  va_P D cl ws t.heap ∧ va_K D cl (xty cT) t ∧ va_D A ws
theorem xPre_blind {D : va_G} {cl : List vw_C} {cT : Nat → ClassId} {sz : Nat} {ws : va_W} {av : List Value} : FrameBlind (va_Pc av (xPre D cl cT sz ws)) := by
  intro a U g mk q
  obtain ⟨q0, q1, q2, q3, q4, q5⟩ := q
  exact ⟨q0, q1, q2.blind, q3, va_K.moved (u := U) (U := U.calling g mk a) (Vm.Alike.refl U.vm) q4, q5⟩
theorem xPre_of {D : va_G} {cl : List vw_C} {cT : Nat → ClassId} {A : Nat → Prop} {s : State} {H : Heap} {locs : List Loc} {wc : va_W} (hZ : xa A s s.heap) (hS : va_S A s.heap H locs) (hF : ∀ q, va_A wc H.size q → A q) (hP : va_P D cl wc H) (hD : va_D A wc) (hK : va_K D cl (xty cT) s) :
    ∀ U : State, U.heap = H → s.WarmedH U.vm → xPre D cl cT H.size wc U := fun U hU hW => by
  subst hU
  exact ⟨rfl, ((hZ.kept hS.2.1).narrow hF).warm hW, hP, va_K.moved hW.alike hK, hD.weaken (fun _ _ _ _ => trivial)⟩
