/-! ===== xs: the words of every method in one list, the world in one form, contracts in one form ===== -/
def xw : List Cond := lw_tbl.filter goodWord
theorem xw_t {w : Cond} (h : w ∈ tables_1) (g : goodWord w = true) : w ∈ xw := List.mem_filter.mpr ⟨List.mem_append_right _ h, g⟩
theorem xw_p {w : Cond} (h : w ∈ k2_sels lw_privs) (g : goodWord w = true) : w ∈ xw := List.mem_filter.mpr ⟨List.mem_append_left _ h, g⟩
theorem xw_in : ∀ w ∈ xw, w ∈ lw_tbl := fun _ h => (List.mem_filter.mp h).1
theorem xw_good : GoodIn xw xw := fun _ h => ⟨h, good_of_word (List.mem_filter.mp h).2⟩
theorem xw_goodC {c : Cond} (hc : c ∈ xw) : GoodIn xw (c :: xw) := fun w h => (List.mem_cons.mp h).elim (fun e => by rw [e]; exact xw_good c hc) (xw_good w)
theorem x_t1 {w : Cond} (h : w ∈ tables_1_1) : w ∈ tables_1 := List.mem_append_left _ h
theorem x_t2 {w : Cond} (h : w ∈ tables_1_2) : w ∈ tables_1 := List.mem_append_right _ (List.mem_append_left _ h)
theorem x_t3 {w : Cond} (h : w ∈ tables_1_3) : w ∈ tables_1 := List.mem_append_right _ (List.mem_append_right _ (List.mem_append_left _ h))
theorem x_t4 {w : Cond} (h : w ∈ tables_1_4) : w ∈ tables_1 := List.mem_append_right _ (List.mem_append_right _ (List.mem_append_right _ (List.mem_append_left _ h)))
theorem x_t5 {w : Cond} (h : w ∈ tables_1_5) : w ∈ tables_1 := List.mem_append_right _ (List.mem_append_right _ (List.mem_append_right _ (List.mem_append_right _ (List.mem_append_left _ h))))
theorem x_t6 {w : Cond} (h : w ∈ tables_1_6) : w ∈ tables_1 := List.mem_append_right _ (List.mem_append_right _ (List.mem_append_right _ (List.mem_append_right _ (List.mem_append_right _ (List.mem_append_left _ h)))))
theorem x_t7 {w : Cond} (h : w ∈ tables_1_7) : w ∈ tables_1 := List.mem_append_right _ (List.mem_append_right _ (List.mem_append_right _ (List.mem_append_right _ (List.mem_append_right _ (List.mem_append_right _ h)))))
/-- the array classes of the world: bytes, ints, longs, rows, values -/
def xty (cT : Nat → ClassId) : List (ClassId × FieldType) := [(cT 0, .byte), (cT 1, .int), (cT 2, .long), (cT 3, .object "ValueBench$Row"), (cT 4, .object "ValueBenchModel$V")]
theorem xk_RA {s : State} {c1 c2 : ClassId} {ty : FieldType} (h1 : va_RA s c1 ty) (h2 : va_RA s c2 ty) : c1 = c2 := by
  cases ty with
  | object C =>
    obtain ⟨_, _, _, _, _, a⟩ := h1
    obtain ⟨_, _, _, _, _, b⟩ := h2
    exact Option.some.inj (a.symm.trans b)
  | _ => exact Option.some.inj (Eq.trans (Eq.symm h1) h2)
/-- a new array's class is the one that is known for its type -/
theorem xk_eq {D : va_G} {cl : List vw_C} {tys : List (ClassId × FieldType)} {s : State} {cA c : ClassId} {ty : FieldType} (h : va_K D cl (tys ++ [(cA, ty)]) s) (i : Nat) (hi : tys[i]? = some (c, ty)) : cA = c := by
  have h1 := (h.2 tys.length (cA, ty) (by simp)).2
  have h2 := (h.2 i (c, ty) (by rw [List.getElem?_append_left (List.getElem?_eq_some_iff.mp hi).1]; exact hi)).2
  exact xk_RA h1 h2
theorem xk_drop {D : va_G} {cl : List vw_C} {tys : List (ClassId × FieldType)} {s : State} {x : ClassId × FieldType} (h : va_K D cl (tys ++ [x]) s) : va_K D cl tys s :=
  ⟨h.1, fun k q hk => h.2 k q (by rw [List.getElem?_append_left (List.getElem?_eq_some_iff.mp hk).1]; exact hk)⟩
def xnF : List (Nat × String × String) := [(93, "kind", "I"), (96, "n", "J"), (100, "off", "I"), (103, "count", "I"), (106, "depth", "I"), (109, "weight", "I")]
def xnM : List (String × Nat × MethodName) := [("ValueBench", 9, ⟨"ValueBench$Text", "<init>", "()V"⟩), ("ValueBench", 30, ⟨"ValueBench$Sorter", "<init>", "()V"⟩), ("ValueBench", 35, ⟨"ValueBench$Row", "<init>", "()V"⟩), ("ValueBenchModel", 92, ⟨"ValueBenchModel$V", "<init>", "()V"⟩)]
def xex : List String := ["java/lang/IndexOutOfBoundsException", "java/lang/IllegalArgumentException", "java/lang/UnsupportedOperationException", "java/lang/ArithmeticException"]
def xdc : List MethodName := [⟨"java/lang/RuntimeException", "<init>", "()V"⟩, ⟨"java/lang/Exception", "<init>", "()V"⟩, ⟨"java/lang/Throwable", "<init>", "()V"⟩, ⟨"java/lang/RuntimeException", "<init>", "(Ljava/lang/String;)V"⟩, ⟨"java/lang/Exception", "<init>", "(Ljava/lang/String;)V"⟩, ⟨"java/lang/Throwable", "<init>", "(Ljava/lang/String;)V"⟩]
def xnc : List (String × String) := [("java/lang/IndexOutOfBoundsException", "java/lang/IllegalArgumentException"), ("java/lang/IndexOutOfBoundsException", "java/lang/UnsupportedOperationException"), ("java/lang/IndexOutOfBoundsException", "java/lang/ArithmeticException"), ("java/lang/IllegalArgumentException", "java/lang/IndexOutOfBoundsException"), ("java/lang/IllegalArgumentException", "java/lang/UnsupportedOperationException"), ("java/lang/IllegalArgumentException", "java/lang/ArithmeticException"), ("java/lang/UnsupportedOperationException", "java/lang/IndexOutOfBoundsException"), ("java/lang/UnsupportedOperationException", "java/lang/IllegalArgumentException"), ("java/lang/UnsupportedOperationException", "java/lang/ArithmeticException"), ("java/lang/ArithmeticException", "java/lang/IndexOutOfBoundsException"), ("java/lang/ArithmeticException", "java/lang/IllegalArgumentException"), ("java/lang/ArithmeticException", "java/lang/UnsupportedOperationException")]
def xstr : List (String × Nat × String × Nat) := [("ValueBench", 53, "the tape is full", 0), ("ValueBench", 91, "broken JSON", 1), ("ValueBench", 138, "no byte of the result", 2), ("ValueBench", 151, "a number out of range", 3), ("ValueBench", 156, "type", 4), ("ValueBench", 159, "range", 5), ("ValueBench", 161, "zero", 6), ("ValueBench", 163, "number", 7), ("ValueBench", 165, "json", 8), ("ValueBench", 172, "a value beyond the limits", 9), ("ValueBench$Printer", 15, "null", 10), ("ValueBench$Printer", 23, "false", 11), ("ValueBench$Printer", 25, "true", 12), ("ValueBench$Printer", 76, "0123456789abcdef", 13), ("ValueBench$Reader", 55, "null", 10), ("ValueBench$Reader", 61, "false", 11), ("ValueBench$Reader", 63, "true", 12), ("ValueBenchModel", 69, "null", 10), ("ValueBenchModel", 236, "true", 12), ("ValueBenchModel", 238, "false", 11), ("ValueBenchModel", 284, "u00", 14)]
def xlen : List Nat := [16, 11, 21, 21, 4, 5, 4, 6, 4, 25, 4, 5, 4, 16, 3]
def xbyt : List (List Int32) := [[116, 104, 101, 32, 116, 97, 112, 101, 32, 105, 115, 32, 102, 117, 108, 108], [98, 114, 111, 107, 101, 110, 32, 74, 83, 79, 78], [110, 111, 32, 98, 121, 116, 101, 32, 111, 102, 32, 116, 104, 101, 32, 114, 101, 115, 117, 108, 116], [97, 32, 110, 117, 109, 98, 101, 114, 32, 111, 117, 116, 32, 111, 102, 32, 114, 97, 110, 103, 101], [116, 121, 112, 101], [114, 97, 110, 103, 101], [122, 101, 114, 111], [110, 117, 109, 98, 101, 114], [106, 115, 111, 110], [97, 32, 118, 97, 108, 117, 101, 32, 98, 101, 121, 111, 110, 100, 32, 116, 104, 101, 32, 108, 105, 109, 105, 116, 115], [110, 117, 108, 108], [102, 97, 108, 115, 101], [116, 114, 117, 101], [48, 49, 50, 51, 52, 53, 54, 55, 56, 57, 97, 98, 99, 100, 101, 102], [117, 48, 48]]
/-- what lies around: links among nest mates, arrays of objects, what a throw reads, what a catch asks, the texts -/
def xa (aK aV : Nat → Nat) (A : Nat → Prop) (U : State) (H : Heap) : Prop :=
  (∀ q ∈ xnF, va_Nw (.fieldLinkNest "ValueBenchModel" q.1 "ValueBenchModel$V" q.2.1 q.2.2 "ValueBenchModel") U) ∧ (∀ q ∈ xnM, va_Nw (.methodLinkNest q.1 q.2.1 q.2.2 q.1) U) ∧
  (va_AO "ValueBench$Row" U ∧ va_AO "ValueBenchModel$V" U) ∧
  vx_Zq Bundle.tN "UNASSIGNED_STACK" Bundle.steD A U H ∧ vx_Zq Bundle.tN "SUPPRESSED_SENTINEL" Bundle.listD A U H ∧
  (∀ E ∈ xex, va_Nw (.castable E E) U) ∧ (∀ y ∈ xdc, va_Nw (.declares y) U) ∧ (∀ q ∈ xnc, va_Nc q.1 q.2 U) ∧
  (∀ q ∈ xstr, vk_R q.1 q.2.1 q.2.2.1 (aK q.2.2.2) U) ∧ vk_S 15 xlen xbyt aK aV A U H ∧ va_Z "java/lang/String" "COMPACT_STRINGS" "Z" (.int 1) A U H ∧ va_Zq "jdk/internal/util/Preconditions" "SIOOBE_FORMATTER" "Ljava/util/function/BiFunction;" A U H
theorem xa.warm {aK aV : Nat → Nat} {A : Nat → Prop} {s U : State} {H : Heap} (hW : s.WarmedH U.vm) (h : xa aK aV A s H) : xa aK aV A U H := by
  obtain ⟨h1, h2, h3, h4, h5, h6, h7, h8, h9, h10, h11, h12⟩ := h
  exact ⟨fun q hq => (h1 q hq).warmF hW, fun q hq => (h2 q hq).warmM hW, ⟨va_AO.moved hW.alike h3.1, va_AO.moved hW.alike h3.2⟩, vx_Zq.moved hW.alike h4, vx_Zq.moved hW.alike h5, fun q hq => (h6 q hq).warmC hW, fun q hq => (h7 q hq).warmD hW, fun q hq => va_Nc.moved hW.alike (h8 q hq), fun q hq => (h9 q hq).warm hW, vk_S.moved hW.alike h10, va_Z.moved hW.alike h11, va_Zq.moved hW.alike h12⟩
theorem xa.kept {aK aV : Nat → Nat} {A : Nat → Prop} {U : State} {H H1 : Heap} (h : xa aK aV A U H) (hq : ∀ a : Nat, a < H.size → ¬ A a → H1[a]? = H[a]?) : xa aK aV A U H1 := by
  obtain ⟨h1, h2, h3, h4, h5, h6, h7, h8, h9, h10, h11, h12⟩ := h
  exact ⟨h1, h2, h3, h4.kept hq, h5.kept hq, h6, h7, h8, h9, h10.kept hq, h11.kept hq, h12.kept hq⟩
theorem xa.narrow {aK aV : Nat → Nat} {A B : Nat → Prop} {U : State} {H : Heap} (h : xa aK aV A U H) (hAB : ∀ q, B q → A q) : xa aK aV B U H := by
  obtain ⟨h1, h2, h3, h4, h5, h6, h7, h8, h9, h10, h11, h12⟩ := h
  exact ⟨h1, h2, h3, h4.narrow hAB, h5.narrow hAB, h6, h7, h8, h9, h10.narrow hAB, h11.narrow hAB, h12.narrow hAB⟩
theorem xa.blind {aK aV : Nat → Nat} {A : Nat → Prop} {U : State} {g : JFrame} {mk : MethodId} {a : Array Value} {H : Heap} (h : xa aK aV A U H) : xa aK aV A (U.calling g mk a) H := by
  obtain ⟨h1, h2, h3, h4, h5, h6, h7, h8, h9, h10, h11, h12⟩ := h
  exact ⟨fun q hq => va_Nw.same rfl rfl (h1 q hq), fun q hq => va_Nw.same rfl rfl (h2 q hq), ⟨va_AO.moved (Vm.Alike.refl U.vm) h3.1, va_AO.moved (Vm.Alike.refl U.vm) h3.2⟩, vx_Zq.moved (Vm.Alike.refl U.vm) h4, vx_Zq.moved (Vm.Alike.refl U.vm) h5, fun q hq => va_Nw.same rfl rfl (h6 q hq), fun q hq => va_Nw.same rfl rfl (h7 q hq), fun q hq => va_Nc.moved (u := U) (U := U.calling g mk a) (Vm.Alike.refl U.vm) (h8 q hq), fun q hq => vk_R.same (u := U) (U := U.calling g mk a) rfl (h9 q hq), vk_S.moved (Vm.Alike.refl U.vm) h10, va_Z.moved (Vm.Alike.refl U.vm) h11, va_Zq.moved (Vm.Alike.refl U.vm) h12⟩
/-- a contract's start: the cells ws, and nothing else -/
def xPre (D : va_G) (cl : List vw_C) (cT : Nat → ClassId) (aK aV : Nat → Nat) (sz : Nat) (ws : va_W) (U : State) : Prop :=
  U.heap.size = sz ∧ xa aK aV (va_A ws sz) U U.heap ∧ va_P D cl ws U.heap ∧ va_K D cl (xty cT) U ∧ va_D (fun _ => True) ws
/-- .. and what is behind it -/
def xB (D : va_G) (cl : List vw_C) (cT : Nat → ClassId) (A : Nat → Prop) (ws : va_W) (t : State) : Prop :=
  va_P D cl ws t.heap ∧ va_K D cl (xty cT) t ∧ va_D A ws
theorem xPre_blind {D : va_G} {cl : List vw_C} {cT : Nat → ClassId} {aK aV : Nat → Nat} {sz : Nat} {ws : va_W} {av : List Value} : FrameBlind (va_Pc av (xPre D cl cT aK aV sz ws)) := by
  intro a U g mk q
  obtain ⟨q0, q1, q2, q3, q4, q5⟩ := q
  exact ⟨q0, q1, q2.blind, q3, va_K.moved (u := U) (U := U.calling g mk a) (Vm.Alike.refl U.vm) q4, q5⟩
theorem xPre_of {D : va_G} {cl : List vw_C} {cT : Nat → ClassId} {aK aV : Nat → Nat} {A : Nat → Prop} {s : State} {H : Heap} {locs : List Loc} {wc : va_W} (hZ : xa aK aV A s s.heap) (hS : va_S A s.heap H locs) (hF : ∀ q, va_A wc H.size q → A q) (hP : va_P D cl wc H) (hD : va_D A wc) (hK : va_K D cl (xty cT) s) :
    ∀ U : State, U.heap = H → s.WarmedH U.vm → xPre D cl cT aK aV H.size wc U := fun U hU hW => by
  subst hU
  exact ⟨rfl, ((hZ.kept hS.2.1).narrow hF).warm hW, hP, va_K.moved hW.alike hK, hD.weaken (fun _ _ _ _ => trivial)⟩
/-- a call that throws: what comes is what the callee's contract says of it -/
theorem xx_thr {p : Program} {l : Launch} {e : Env} {R : Room} {s : State} {m : MethodId} {args : Array Value} {below : List Frame} {meth : Method} {c : Code} {H : Heap} {locs : List Loc} {cells slots : Nat} {Q : State → Prop} {mc ms : Nat} {free : Addr → Prop} {A0 : Nat → Prop} {H0 : Heap} {pc : Nat} {ls : Array Slot} {st0 rest : List Value}
    {SX : Type} {px : SX → Prop} {BX : String → SX → State → Prop} {AX : Nat → Prop} (hr : vx_Run p l e R s m args below meth c H locs cells slots mc ms (F0 m pc ls st0) rest (fun _ _ _ => False) (vx_X px BX AX) free) (hS : va_S A0 H0 H locs) (hf : ∀ q, free q → A0 q) (hAX : ∀ q, q < H.size → AX q → A0 q)
    (kx : ∀ (E : String) (ce : Cell) (q9 : Addr) (u : SX) (t : State) (H1 : Heap) (locs1 : List Loc), t.heap = H1 → s.vm.Alike t.vm → px u → BX E u t → H.size ≤ H1.size → (∀ q : Nat, q < H.size → ¬ AX q → H1[q]? = H[q]?) → va_S A0 H0 H1 locs1 → H1[q9]? = some ce → ce.vm = .none → s.vm.findClass E = some ce.cls → vx_W p l e R s m args below meth c H1 locs1 (cells + mc) (slots + ms) Q (F0 m pc ls rest) q9) :
    W p l e R s m args below meth c H locs cells slots Q (F0 m pc ls st0) := by
  intro T hT X
  rcases hr T hT X with ⟨v, st₀, t, T', L, h0, X', hL, e1, e2, hF, st⟩ | ⟨q, st₀, t, T', L, E, ce, h0, X', hL, e1, e2, ⟨u, hp, hb, hF⟩, hce, hcv, hcl, st⟩
  · exact hF.elim
  · obtain ⟨k1, k2, k3⟩ := vx_keep h0 e1 hS hAX hf hL hF
    obtain ⟨t2, a1, b1⟩ := kx E ce q u t T'.heap (locs ++ L) e1.symm (by rw [← e2]; exact X'.warmed.alike) hp hb k1 k2 k3 (by rw [e1]; exact hce) hcv hcl T' rfl X'
    exact ⟨t2, st.trans a1, b1⟩
/-- the world behind a throw: the heap has grown, the cells are as they were -/
theorem xx_grown {A : Nat → Prop} {s t : State} {H : Heap} {locs : List Loc} (hS : va_S A s.heap H locs) (hz : H.size ≤ t.heap.size) (hk : ∀ q : Nat, q < H.size → t.heap[q]? = H[q]?) : va_F A s t :=
  ⟨Nat.le_trans hS.1 hz, fun q h1 h2 => (hk q (Nat.lt_of_lt_of_le h1 hS.1)).trans (hS.2.1 q h1 h2)⟩
theorem xx_keepP {D : va_G} {cl : List vw_C} {ws : va_W} {H H1 : Heap} (hP : va_P D cl ws H) (hk : ∀ q : Nat, q < H.size → H1[q]? = H[q]?) : va_P D cl ws H1 := fun k q hq => (hP k q hq).kept (hk q.1 (hP k q hq).lt)
theorem xcVW {R : Room} {s : State} {args : Array Value} {own C : String} {index maxL mc ms : Nat} {y : MethodName} {bytes : ByteArray} {ret : Option FieldType} {hh : List (Nat × Nat × Nat × Nat)} {Ts ws ws' : List Cond} {rm : Room} (n : Nat) (ht : ∀ w ∈ Ts, w.before args s = true) (hG : GoodIn Ts ws) (hw : ws = Cond.codeWith y bytes maxL ret hh :: ws') (hrc : rm.cells = mc) (hrs : rm.slots = ms) (hini : (Cond.initialized y.cls).before args s = true) (hl : (Cond.methodLink own index y).before args s = true)
    (hd : y.cls ≠ "java/lang/invoke/MethodHandle" ∧ y.cls ≠ "java/lang/invoke/VarHandle" ∧ (parseMethodDescriptor y.desc).map (fun d => d.parameters.length) = some n) (hR : rm.frames + 1 ≤ R.frames ∧ 8 + (maxL + 11) + rm.locals ≤ R.locals) (hin : (Cond.instanceMethod y).before args s = true) (hse : (Cond.selects C y y).before args s = true) :
    vx_CVW R s args own C index y bytes maxL ret hh ws rm mc ms n := by
  have hc : Cond.codeWith y bytes maxL ret hh ∈ ws := by rw [hw]; exact List.mem_cons_self
  refine ⟨⟨hrc, hrs, hR.1, hR.2, pay_in ht hG, hc⟩, ht _ (hG _ hc).1, hini, ⟨hd.1, hd.2.1⟩, fun sig h => ?_, hl, hin, hse⟩
  have h2 := hd.2.2
  rw [h] at h2
  exact (Option.some.inj h2).symm
theorem xcSW {R : Room} {s : State} {args : Array Value} {own : String} {index maxL mc ms : Nat} {y : MethodName} {bytes : ByteArray} {ret : Option FieldType} {hh : List (Nat × Nat × Nat × Nat)} {Ts ws ws' : List Cond} {rm : Room} (n : Nat) (ht : ∀ w ∈ Ts, w.before args s = true) (hG : GoodIn Ts ws) (hw : ws = Cond.codeWith y bytes maxL ret hh :: ws') (hrc : rm.cells = mc) (hrs : rm.slots = ms) (hini : (Cond.initialized y.cls).before args s = true) (hl : (Cond.methodLink own index y).before args s = true)
    (hd : y.cls ≠ "java/lang/invoke/MethodHandle" ∧ y.cls ≠ "java/lang/invoke/VarHandle" ∧ (parseMethodDescriptor y.desc).map (fun d => d.parameters.length) = some n) (hR : rm.frames + 1 ≤ R.frames ∧ 8 + (maxL + 11) + rm.locals ≤ R.locals) (hst : (Cond.static y).before args s = true) :
    vx_CSW R s args own index y bytes maxL ret hh ws rm mc ms n := by
  have hc : Cond.codeWith y bytes maxL ret hh ∈ ws := by rw [hw]; exact List.mem_cons_self
  refine ⟨⟨hrc, hrs, hR.1, hR.2, pay_in ht hG, hc⟩, ht _ (hG _ hc).1, hini, ⟨hd.1, hd.2.1⟩, fun sig h => ?_, hl, hst⟩
  have h2 := hd.2.2
  rw [h] at h2
  exact (Option.some.inj h2).symm
