/-! ===== xs: the words of every method in one list, the world in one form, contracts in one form ===== -/
def xw : List Cond := lw_tbl.filter goodWord
theorem xw_t {w : Cond} (h : w ∈ tables_1) (g : goodWord w = true) : w ∈ xw := List.mem_filter.mpr ⟨List.mem_append_right _ h, g⟩
theorem xw_p {w : Cond} (h : w ∈ k2_sels lw_privs) (g : goodWord w = true) : w ∈ xw := List.mem_filter.mpr ⟨List.mem_append_left _ h, g⟩
theorem xw_in : ∀ w ∈ xw, w ∈ lw_tbl := fun _ h => (List.mem_filter.mp h).1
theorem xw_good : GoodIn xw xw := fun _ h => ⟨h, good_of_word (List.mem_filter.mp h).2⟩
theorem xw_goodC {c : Cond} (hc : c ∈ xw) : GoodIn xw (c :: xw) := fun w h => (List.mem_cons.mp h).elim (fun e => by rw [e]; exact xw_good c hc) (xw_good w)
theorem x_t1 {w : Cond} (h : w ∈ tables_1_1) : w ∈ tables_1 := List.mem_append_left _ h
theorem x_t2 {w : Cond} (h : w ∈ tables_1_2) : w ∈ tables_1 := List.mem_append_right _ (List.mem_append_left _ h)
theorem x_t3 {w : Cond} (h : w ∈ tables_1_3) : w ∈ tables_1 := List.mem_append_right _ (List.mem_append_right _ (List.mem_append_left _ h))
theorem x_t4 {w : Cond} (h : w ∈ tables_1_4) : w ∈ tables_1 := List.mem_append_right _ (List.mem_append_right _ (List.mem_append_right _ (List.mem_append_left _ h)))
theorem x_t5 {w : Cond} (h : w ∈ tables_1_5) : w ∈ tables_1 := List.mem_append_right _ (List.mem_append_right _ (List.mem_append_right _ (List.mem_append_right _ (List.mem_append_left _ h))))
theorem x_t6 {w : Cond} (h : w ∈ tables_1_6) : w ∈ tables_1 := List.mem_append_right _ (List.mem_append_right _ (List.mem_append_right _ (List.mem_append_right _ (List.mem_append_right _ (List.mem_append_left _ h)))))
theorem x_t7 {w : Cond} (h : w ∈ tables_1_7) : w ∈ tables_1 := List.mem_append_right _ (List.mem_append_right _ (List.mem_append_right _ (List.mem_append_right _ (List.mem_append_right _ (List.mem_append_right _ h)))))
/-- the array classes of the world: bytes, ints, longs, rows, values -/
def xty (cT : Nat → ClassId) : List (ClassId × FieldType) := [(cT 0, .byte), (cT 1, .int), (cT 2, .long), (cT 3, .object "ValueBench$Row"), (cT 4, .object "ValueBenchModel$V"), (cT 5, .array .byte)]
theorem xk_RA {s : State} {c1 c2 : ClassId} {ty : FieldType} (h1 : va_RA s c1 ty) (h2 : va_RA s c2 ty) : c1 = c2 := by
  cases ty with
  | object C =>
    obtain ⟨_, _, _, _, _, a⟩ := h1
    obtain ⟨_, _, _, _, _, b⟩ := h2
    exact Option.some.inj (a.symm.trans b)
  | _ => exact Option.some.inj (Eq.trans (Eq.symm h1) h2)
/-- a new array's class is the one that is known for its type -/
theorem xk_eq {D : va_G} {cl : List vw_C} {tys : List (ClassId × FieldType)} {s : State} {cA c : ClassId} {ty : FieldType} (h : va_K D cl (tys ++ [(cA, ty)]) s) (i : Nat) (hi : tys[i]? = some (c, ty)) : cA = c := by
  have h1 := (h.2 tys.length (cA, ty) (by simp)).2
  have h2 := (h.2 i (c, ty) (by rw [List.getElem?_append_left (List.getElem?_eq_some_iff.mp hi).1]; exact hi)).2
  exact xk_RA h1 h2
theorem xk_drop {D : va_G} {cl : List vw_C} {tys : List (ClassId × FieldType)} {s : State} {x : ClassId × FieldType} (h : va_K D cl (tys ++ [x]) s) : va_K D cl tys s :=
  ⟨h.1, fun k q hk => h.2 k q (by rw [List.getElem?_append_left (List.getElem?_eq_some_iff.mp hk).1]; exact hk)⟩
def xnF : List (Nat × String × String) := [(93, "kind", "I"), (96, "n", "J"), (100, "off", "I"), (103, "count", "I"), (106, "depth", "I"), (109, "weight", "I")]
def xnM : List (String × Nat × MethodName) := [("ValueBench", 9, ⟨"ValueBench$Text", "<init>", "()V"⟩), ("ValueBench", 30, ⟨"ValueBench$Sorter", "<init>", "()V"⟩), ("ValueBench", 35, ⟨"ValueBench$Row", "<init>", "()V"⟩), ("ValueBenchModel", 92, ⟨"ValueBenchModel$V", "<init>", "()V"⟩)]
def xex : List String := ["java/lang/IndexOutOfBoundsException", "java/lang/IllegalArgumentException", "java/lang/UnsupportedOperationException", "java/lang/ArithmeticException"]
def xdc : List MethodName := [⟨"java/lang/RuntimeException", "<init>", "()V"⟩, ⟨"java/lang/Exception", "<init>", "()V"⟩, ⟨"java/lang/Throwable", "<init>", "()V"⟩, ⟨"java/lang/RuntimeException", "<init>", "(Ljava/lang/String;)V"⟩, ⟨"java/lang/Exception", "<init>", "(Ljava/lang/String;)V"⟩, ⟨"java/lang/Throwable", "<init>", "(Ljava/lang/String;)V"⟩]
def xnc : List (String × String) := [("java/lang/IndexOutOfBoundsException", "java/lang/IllegalArgumentException"), ("java/lang/IndexOutOfBoundsException", "java/lang/UnsupportedOperationException"), ("java/lang/IndexOutOfBoundsException", "java/lang/ArithmeticException"), ("java/lang/IllegalArgumentException", "java/lang/IndexOutOfBoundsException"), ("java/lang/IllegalArgumentException", "java/lang/UnsupportedOperationException"), ("java/lang/IllegalArgumentException", "java/lang/ArithmeticException"), ("java/lang/UnsupportedOperationException", "java/lang/IndexOutOfBoundsException"), ("java/lang/UnsupportedOperationException", "java/lang/IllegalArgumentException"), ("java/lang/UnsupportedOperationException", "java/lang/ArithmeticException"), ("java/lang/ArithmeticException", "java/lang/IndexOutOfBoundsException"), ("java/lang/ArithmeticException", "java/lang/IllegalArgumentException"), ("java/lang/ArithmeticException", "java/lang/UnsupportedOperationException")]
def xstr : List (String × Nat × String × Nat) := [("ValueBench", 53, "the tape is full", 0), ("ValueBench", 91, "broken JSON", 1), ("ValueBench", 138, "no byte of the result", 2), ("ValueBench", 151, "a number out of range", 3), ("ValueBench", 156, "type", 4), ("ValueBench", 159, "range", 5), ("ValueBench", 161, "zero", 6), ("ValueBench", 163, "number", 7), ("ValueBench", 165, "json", 8), ("ValueBench", 172, "a value beyond the limits", 9), ("ValueBench$Printer", 15, "null", 10), ("ValueBench$Printer", 23, "false", 11), ("ValueBench$Printer", 25, "true", 12), ("ValueBench$Printer", 76, "0123456789abcdef", 13), ("ValueBench$Reader", 55, "null", 10), ("ValueBench$Reader", 61, "false", 11), ("ValueBench$Reader", 63, "true", 12), ("ValueBenchModel", 69, "null", 10), ("ValueBenchModel", 236, "true", 12), ("ValueBenchModel", 238, "false", 11), ("ValueBenchModel", 284, "u00", 14)]
def xlen : List Nat := [16, 11, 21, 21, 4, 5, 4, 6, 4, 25, 4, 5, 4, 16, 3]
def xbyt : List (List Int32) := [[116, 104, 101, 32, 116, 97, 112, 101, 32, 105, 115, 32, 102, 117, 108, 108], [98, 114, 111, 107, 101, 110, 32, 74, 83, 79, 78], [110, 111, 32, 98, 121, 116, 101, 32, 111, 102, 32, 116, 104, 101, 32, 114, 101, 115, 117, 108, 116], [97, 32, 110, 117, 109, 98, 101, 114, 32, 111, 117, 116, 32, 111, 102, 32, 114, 97, 110, 103, 101], [116, 121, 112, 101], [114, 97, 110, 103, 101], [122, 101, 114, 111], [110, 117, 109, 98, 101, 114], [106, 115, 111, 110], [97, 32, 118, 97, 108, 117, 101, 32, 98, 101, 121, 111, 110, 100, 32, 116, 104, 101, 32, 108, 105, 109, 105, 116, 115], [110, 117, 108, 108], [102, 97, 108, 115, 101], [116, 114, 117, 101], [48, 49, 50, 51, 52, 53, 54, 55, 56, 57, 97, 98, 99, 100, 101, 102], [117, 48, 48]]
/-- what lies around: links among nest mates, arrays of objects, what a throw reads, what a catch asks, the texts -/
def xa (aK aV : Nat → Nat) (A : Nat → Prop) (U : State) (H : Heap) : Prop :=
  (∀ q ∈ xnF, va_Nw (.fieldLinkNest "ValueBenchModel" q.1 "ValueBenchModel$V" q.2.1 q.2.2 "ValueBenchModel") U) ∧ (∀ q ∈ xnM, va_Nw (.methodLinkNest q.1 q.2.1 q.2.2 q.1) U) ∧
  (va_AO "ValueBench$Row" U ∧ va_AO "ValueBenchModel$V" U) ∧
  vx_Zq Bundle.tN "UNASSIGNED_STACK" Bundle.steD A U H ∧ vx_Zq Bundle.tN "SUPPRESSED_SENTINEL" Bundle.listD A U H ∧
  (∀ E ∈ xex, va_Nw (.castable E E) U) ∧ (∀ y ∈ xdc, va_Nw (.declares y) U) ∧ (∀ q ∈ xnc, va_Nc q.1 q.2 U) ∧
  (∀ q ∈ xstr, vk_R q.1 q.2.1 q.2.2.1 (aK q.2.2.2) U) ∧ vk_S 15 xlen xbyt aK aV A U H ∧ va_Z "java/lang/String" "COMPACT_STRINGS" "Z" (.int 1) A U H ∧ va_Zq "jdk/internal/util/Preconditions" "SIOOBE_FORMATTER" "Ljava/util/function/BiFunction;" A U H ∧ (Cond.arrayOver (.array .byte)).before #[] U = true
theorem xa.warm {aK aV : Nat → Nat} {A : Nat → Prop} {s U : State} {H : Heap} (hW : s.WarmedH U.vm) (h : xa aK aV A s H) : xa aK aV A U H := by
  obtain ⟨h1, h2, h3, h4, h5, h6, h7, h8, h9, h10, h11, h12, h13⟩ := h
  exact ⟨fun q hq => (h1 q hq).warmF hW, fun q hq => (h2 q hq).warmM hW, ⟨va_AO.moved hW.alike h3.1, va_AO.moved hW.alike h3.2⟩, vx_Zq.moved hW.alike h4, vx_Zq.moved hW.alike h5, fun q hq => (h6 q hq).warmC hW, fun q hq => (h7 q hq).warmD hW, fun q hq => va_Nc.moved hW.alike (h8 q hq), fun q hq => (h9 q hq).warm hW, vk_S.moved hW.alike h10, va_Z.moved hW.alike h11, va_Zq.moved hW.alike h12, arrayOver_alikeB hW.alike h13⟩
theorem xa.kept {aK aV : Nat → Nat} {A : Nat → Prop} {U : State} {H H1 : Heap} (h : xa aK aV A U H) (hq : ∀ a : Nat, a < H.size → ¬ A a → H1[a]? = H[a]?) : xa aK aV A U H1 := by
  obtain ⟨h1, h2, h3, h4, h5, h6, h7, h8, h9, h10, h11, h12, h13⟩ := h
  exact ⟨h1, h2, h3, h4.kept hq, h5.kept hq, h6, h7, h8, h9, h10.kept hq, h11.kept hq, h12.kept hq, h13⟩
theorem xa.narrow {aK aV : Nat → Nat} {A B : Nat → Prop} {U : State} {H : Heap} (h : xa aK aV A U H) (hAB : ∀ q, B q → A q) : xa aK aV B U H := by
  obtain ⟨h1, h2, h3, h4, h5, h6, h7, h8, h9, h10, h11, h12, h13⟩ := h
  exact ⟨h1, h2, h3, h4.narrow hAB, h5.narrow hAB, h6, h7, h8, h9, h10.narrow hAB, h11.narrow hAB, h12.narrow hAB, h13⟩
theorem xa.blind {aK aV : Nat → Nat} {A : Nat → Prop} {U : State} {g : JFrame} {mk : MethodId} {a : Array Value} {H : Heap} (h : xa aK aV A U H) : xa aK aV A (U.calling g mk a) H := by
  obtain ⟨h1, h2, h3, h4, h5, h6, h7, h8, h9, h10, h11, h12, h13⟩ := h
  exact ⟨fun q hq => va_Nw.same rfl rfl (h1 q hq), fun q hq => va_Nw.same rfl rfl (h2 q hq), ⟨va_AO.moved (Vm.Alike.refl U.vm) h3.1, va_AO.moved (Vm.Alike.refl U.vm) h3.2⟩, vx_Zq.moved (Vm.Alike.refl U.vm) h4, vx_Zq.moved (Vm.Alike.refl U.vm) h5, fun q hq => va_Nw.same rfl rfl (h6 q hq), fun q hq => va_Nw.same rfl rfl (h7 q hq), fun q hq => va_Nc.moved (u := U) (U := U.calling g mk a) (Vm.Alike.refl U.vm) (h8 q hq), fun q hq => vk_R.same (u := U) (U := U.calling g mk a) rfl (h9 q hq), vk_S.moved (Vm.Alike.refl U.vm) h10, va_Z.moved (Vm.Alike.refl U.vm) h11, va_Zq.moved (Vm.Alike.refl U.vm) h12, arrayOver_alikeB (Vm.Alike.refl U.vm) h13⟩
/-- a contract's start: the cells ws, and nothing else -/
def xPre (D : va_G) (cl : List vw_C) (cT : Nat → ClassId) (aK aV : Nat → Nat) (sz : Nat) (ws : va_W) (U : State) : Prop :=
  U.heap.size = sz ∧ xa aK aV (va_A ws sz) U U.heap ∧ va_P D cl ws U.heap ∧ va_K D cl (xty cT) U ∧ va_D (fun _ => True) ws
/-- .. and what is behind it -/
def xB (D : va_G) (cl : List vw_C) (cT : Nat → ClassId) (A : Nat → Prop) (ws : va_W) (t : State) : Prop :=
  va_P D cl ws t.heap ∧ va_K D cl (xty cT) t ∧ va_D A ws
theorem xPre_blind {D : va_G} {cl : List vw_C} {cT : Nat → ClassId} {aK aV : Nat → Nat} {sz : Nat} {ws : va_W} {av : List Value} : FrameBlind (va_Pc av (xPre D cl cT aK aV sz ws)) := by
  intro a U g mk q
  obtain ⟨q0, q1, q2, q3, q4, q5⟩ := q
  exact ⟨q0, q1, q2.blind, q3, va_K.moved (u := U) (U := U.calling g mk a) (Vm.Alike.refl U.vm) q4, q5⟩
theorem xPre_of {D : va_G} {cl : List vw_C} {cT : Nat → ClassId} {aK aV : Nat → Nat} {A : Nat → Prop} {s : State} {H : Heap} {locs : List Loc} {wc : va_W} (hZ : xa aK aV A s s.heap) (hS : va_S A s.heap H locs) (hF : ∀ q, va_A wc H.size q → A q) (hP : va_P D cl wc H) (hD : va_D A wc) (hK : va_K D cl (xty cT) s) :
    ∀ U : State, U.heap = H → s.WarmedH U.vm → xPre D cl cT aK aV H.size wc U := fun U hU hW => by
  subst hU
  exact ⟨rfl, ((hZ.kept hS.2.1).narrow hF).warm hW, hP, va_K.moved hW.alike hK, hD.weaken (fun _ _ _ _ => trivial)⟩
/-- a call that throws: what comes is what the callee's contract says of it -/
theorem xx_thr {p : Program} {l : Launch} {e : Env} {R : Room} {s : State} {m : MethodId} {args : Array Value} {below : List Frame} {meth : Method} {c : Code} {H : Heap} {locs : List Loc} {cells slots : Nat} {Q : State → Prop} {mc ms : Nat} {free : Addr → Prop} {A0 : Nat → Prop} {H0 : Heap} {pc : Nat} {ls : Array Slot} {st0 rest : List Value}
    {SX : Type} {px : SX → Prop} {BX : String → SX → State → Prop} {AX : Nat → Prop} (hr : vx_Run p l e R s m args below meth c H locs cells slots mc ms (F0 m pc ls st0) rest (fun _ _ _ => False) (vx_X px BX AX) free) (hS : va_S A0 H0 H locs) (hf : ∀ q, free q → A0 q) (hAX : ∀ q, q < H.size → AX q → A0 q)
    (kx : ∀ (E : String) (ce : Cell) (q9 : Addr) (u : SX) (t : State) (H1 : Heap) (locs1 : List Loc), t.heap = H1 → s.vm.Alike t.vm → px u → BX E u t → H.size ≤ H1.size → (∀ q : Nat, q < H.size → ¬ AX q → H1[q]? = H[q]?) → va_S A0 H0 H1 locs1 → H1[q9]? = some ce → ce.vm = .none → s.vm.findClass E = some ce.cls → vx_W p l e R s m args below meth c H1 locs1 (cells + mc) (slots + ms) Q (F0 m pc ls rest) q9) :
    W p l e R s m args below meth c H locs cells slots Q (F0 m pc ls st0) := by
  intro T hT X
  rcases hr T hT X with ⟨v, st₀, t, T', L, h0, X', hL, e1, e2, hF, st⟩ | ⟨q, st₀, t, T', L, E, ce, h0, X', hL, e1, e2, ⟨u, hp, hb, hF⟩, hce, hcv, hcl, st⟩
  · exact hF.elim
  · obtain ⟨k1, k2, k3⟩ := vx_keep h0 e1 hS hAX hf hL hF
    obtain ⟨t2, a1, b1⟩ := kx E ce q u t T'.heap (locs ++ L) e1.symm (by rw [← e2]; exact X'.warmed.alike) hp hb k1 k2 k3 (by rw [e1]; exact hce) hcv hcl T' rfl X'
    exact ⟨t2, st.trans a1, b1⟩
/-- the world behind a throw: the heap has grown, the cells are as they were -/
theorem xx_grown {A : Nat → Prop} {s t : State} {H : Heap} {locs : List Loc} (hS : va_S A s.heap H locs) (hz : H.size ≤ t.heap.size) (hk : ∀ q : Nat, q < H.size → t.heap[q]? = H[q]?) : va_F A s t :=
  ⟨Nat.le_trans hS.1 hz, fun q h1 h2 => (hk q (Nat.lt_of_lt_of_le h1 hS.1)).trans (hS.2.1 q h1 h2)⟩
theorem xx_keepP {D : va_G} {cl : List vw_C} {ws : va_W} {H H1 : Heap} (hP : va_P D cl ws H) (hk : ∀ q : Nat, q < H.size → H1[q]? = H[q]?) : va_P D cl ws H1 := fun k q hq => (hP k q hq).kept (hk q.1 (hP k q hq).lt)
theorem xcVW {R : Room} {s : State} {args : Array Value} {own C : String} {index maxL mc ms : Nat} {y : MethodName} {bytes : ByteArray} {ret : Option FieldType} {hh : List (Nat × Nat × Nat × Nat)} {Ts ws ws' : List Cond} {rm : Room} (n : Nat) (ht : ∀ w ∈ Ts, w.before args s = true) (hG : GoodIn Ts ws) (hw : ws = Cond.codeWith y bytes maxL ret hh :: ws') (hrc : rm.cells = mc) (hrs : rm.slots = ms) (hini : (Cond.initialized y.cls).before args s = true) (hl : (Cond.methodLink own index y).before args s = true)
    (hd : y.cls ≠ "java/lang/invoke/MethodHandle" ∧ y.cls ≠ "java/lang/invoke/VarHandle" ∧ (parseMethodDescriptor y.desc).map (fun d => d.parameters.length) = some n) (hR : rm.frames + 1 ≤ R.frames ∧ 8 + (maxL + 11) + rm.locals ≤ R.locals) (hin : (Cond.instanceMethod y).before args s = true) (hse : (Cond.selects C y y).before args s = true) :
    vx_CVW R s args own C index y bytes maxL ret hh ws rm mc ms n := by
  have hc : Cond.codeWith y bytes maxL ret hh ∈ ws := by rw [hw]; exact List.mem_cons_self
  refine ⟨⟨hrc, hrs, hR.1, hR.2, pay_in ht hG, hc⟩, ht _ (hG _ hc).1, hini, ⟨hd.1, hd.2.1⟩, fun sig h => ?_, hl, hin, hse⟩
  have h2 := hd.2.2
  rw [h] at h2
  exact (Option.some.inj h2).symm
theorem xcSW {R : Room} {s : State} {args : Array Value} {own : String} {index maxL mc ms : Nat} {y : MethodName} {bytes : ByteArray} {ret : Option FieldType} {hh : List (Nat × Nat × Nat × Nat)} {Ts ws ws' : List Cond} {rm : Room} (n : Nat) (ht : ∀ w ∈ Ts, w.before args s = true) (hG : GoodIn Ts ws) (hw : ws = Cond.codeWith y bytes maxL ret hh :: ws') (hrc : rm.cells = mc) (hrs : rm.slots = ms) (hini : (Cond.initialized y.cls).before args s = true) (hl : (Cond.methodLink own index y).before args s = true)
    (hd : y.cls ≠ "java/lang/invoke/MethodHandle" ∧ y.cls ≠ "java/lang/invoke/VarHandle" ∧ (parseMethodDescriptor y.desc).map (fun d => d.parameters.length) = some n) (hR : rm.frames + 1 ≤ R.frames ∧ 8 + (maxL + 11) + rm.locals ≤ R.locals) (hst : (Cond.static y).before args s = true) :
    vx_CSW R s args own index y bytes maxL ret hh ws rm mc ms n := by
  have hc : Cond.codeWith y bytes maxL ret hh ∈ ws := by rw [hw]; exact List.mem_cons_self
  refine ⟨⟨hrc, hrs, hR.1, hR.2, pay_in ht hG, hc⟩, ht _ (hG _ hc).1, hini, ⟨hd.1, hd.2.1⟩, fun sig h => ?_, hl, hst⟩
  have h2 := hd.2.2
  rw [h] at h2
  exact (Option.some.inj h2).symm
/-! ===== arrays of arrays of bytes ===== -/
theorem xx_D9 {A : Nat → Prop} {ws : va_W} {n : Nat} {e0 e1 e2 e3 e4 e5 e6 e7 e8 : va_E} (hD : va_D A ws) (hlt : ∀ (k : Nat) (x : Nat × va_E), ws[k]? = some x → x.1 < n) (hA : ∀ q, n ≤ q → A q) : va_D A (ws ++ [(n, e0), (n + 1, e1), (n + 2, e2), (n + 3, e3), (n + 4, e4), (n + 5, e5), (n + 6, e6), (n + 7, e7), (n + 8, e8)]) := by
  have h9 : ∀ (k : Nat) (x : Nat × va_E), ([(n, e0), (n + 1, e1), (n + 2, e2), (n + 3, e3), (n + 4, e4), (n + 5, e5), (n + 6, e6), (n + 7, e7), (n + 8, e8)] : va_W)[k]? = some x → x.1 = n + k := by
    intro k x hx
    have hk : k < 9 := (List.getElem?_eq_some_iff.mp hx).1
    rcases (by omega : k = 0 ∨ k = 1 ∨ k = 2 ∨ k = 3 ∨ k = 4 ∨ k = 5 ∨ k = 6 ∨ k = 7 ∨ k = 8) with rfl | rfl | rfl | rfl | rfl | rfl | rfl | rfl | rfl <;> (cases hx; rfl)
  refine ⟨fun i j x y hi hj hxy => ?_, fun k x hk => ?_⟩
  · rcases Nat.lt_or_ge i ws.length with h1 | h1 <;> rcases Nat.lt_or_ge j ws.length with h2 | h2
    · rw [List.getElem?_append_left h1] at hi
      rw [List.getElem?_append_left h2] at hj
      exact hD.1 i j x y hi hj hxy
    · rw [List.getElem?_append_left h1] at hi
      rw [List.getElem?_append_right h2] at hj
      have a1 := hlt _ _ hi
      have a2 := h9 _ _ hj
      omega
    · rw [List.getElem?_append_right h1] at hi
      rw [List.getElem?_append_left h2] at hj
      have a1 := hlt _ _ hj
      have a2 := h9 _ _ hi
      omega
    · rw [List.getElem?_append_right h1] at hi
      rw [List.getElem?_append_right h2] at hj
      have a1 := h9 _ _ hj
      have a2 := h9 _ _ hi
      omega
  · rcases Nat.lt_or_ge k ws.length with h1 | h1
    · rw [List.getElem?_append_left h1] at hk
      exact hD.2 k x hk
    · rw [List.getElem?_append_right h1] at hk
      exact hA _ (by have := h9 _ _ hk; omega)
section X2D
variable {p : Program} {l : Launch} {e : Env} {R : Room} {s : State} {m : MethodId} {args : Array Value} {below : List Frame} {meth : Method} {c : Code} {H : Heap} {locs : List Loc} {cells slots : Nat} {Q : State → Prop}
variable {cc : ByteArray} {pc : Nat} {ls : Array Slot} {rest : List Value} {D : va_G} {cl : List vw_C} {A : Nat → Prop} {a : Nat} {tys : List (ClassId × FieldType)} {ws : va_W} {H0 : Heap}
theorem xx_aldA (hexec : p.tables.exec = Jvm.exec) (hb : c.code = cc) (hK : va_K D cl tys s) (hP : va_P D cl ws H) (q0 t0 : Nat) {cA : ClassId} {C : FieldType} {n : Nat} {f : Nat → Option Nat} (ha : ws[q0]? = some (a, .inl (cA, n, .inr (.inr (.inr (.inr f)))))) (ht : tys[t0]? = some (cA, .array C)) {i : Int32} (hin : vp_in i n) (hdg : decode cc pc = .ok (.aaload, 1))
    (kk : W p l e R s m args below meth c H locs cells slots Q (F0 m (pc + 1) ls (va_rf (f i.toNatClampNeg) :: rest))) : W p l e R s m args below meth c H locs cells slots Q (F0 m pc ls (.int i :: .ref a :: rest)) := by
  have hlt : i.toNatClampNeg < n := Nat.not_le.mp fun q => hin (Or.inr q)
  exact W.aald (v := va_rf (f i.toNatClampNeg)) (ty := .array C) hexec hb (hP q0 _ ha) ((hK.2 t0 _ ht).1 n (fun j => va_rf (f j))) rfl (fun q => by cases q) (by show ¬ (i < 0 ∨ (arrV _ _ _).slots.size ≤ _); rw [arrV_size]; exact hin) (by show (arrV _ _ _).slots[_]? = _; rw [arrV_read _ _ hlt]) rfl rfl hdg kk
/-- eight rows, by their addresses -/
def x8 (w0 w1 w2 w3 w4 w5 w6 w7 : Nat) : Nat → Option Nat := fun j => [some w0, some w1, some w2, some w3, some w4, some w5, some w6, some w7].getD j none
theorem xx_outer (cA : ClassId) (N h0 : Nat) : ∀ i, Jvm.Free.Multi.outerC cA N h0 i = { cls := cA, slots := (Jvm.Free.Multi.outerC cA N h0 i).slots, vm := .none }
  | 0 => rfl
  | i + 1 => by
    show (Jvm.Free.Multi.outerC cA N h0 i).setSlot i (.ref (h0 + 1 + i)) = _
    rw [xx_outer cA N h0 i]
    rfl
theorem xx_outer8 (cA : ClassId) (h : Nat) : Jvm.Free.Multi.outerC cA 8 h 8 = vp_cell cA (8, .inr (.inr (.inr (.inr (x8 (h + 1) (h + 2) (h + 3) (h + 4) (h + 5) (h + 6) (h + 7) (h + 8)))))) := by
  rw [xx_outer]
  show ({ cls := cA, slots := _, vm := .none } : Cell) = { cls := cA, slots := _, vm := .none }
  congr 1
theorem xx_mna (hexec : p.tables.exec = Jvm.exec) (hb : c.code = cc) {own : String} {index : Nat} (hown : s.vm.findClass own = some m.cls) (hclink : (Cond.classLink own index "[[B").before args s = true) (hover : (Cond.arrayOver (.array .byte)).before args s = true) (harr : (Cond.arrayClass .byte).before args s = true)
    (hK : va_K D cl tys s) (hP : va_P D cl ws H) (hD : va_D A ws) (hS : va_S A H0 H locs) (hA : ∀ q, H0.size ≤ q → A q) {cA cB : ClassId} (t5 t0 : Nat) (h5 : tys[t5]? = some (cA, .array .byte)) (h0 : tys[t0]? = some (cB, .byte))
    (hcells : cells + 9 ≤ R.cells) (hslots : slots + 32776 ≤ R.slots) (hdg : decode cc pc = .ok (.multianewarray index 2, 4))
    (kk : ∀ (q w0 w1 w2 w3 w4 w5 w6 w7 : Nat) (H1 : Heap), va_P D cl (ws ++ [(q, .inl (cA, 8, .inr (.inr (.inr (.inr (x8 w0 w1 w2 w3 w4 w5 w6 w7)))))), (w0, .inl (cB, 4096, .inl (fun _ => 0))), (w1, .inl (cB, 4096, .inl (fun _ => 0))), (w2, .inl (cB, 4096, .inl (fun _ => 0))), (w3, .inl (cB, 4096, .inl (fun _ => 0))), (w4, .inl (cB, 4096, .inl (fun _ => 0))), (w5, .inl (cB, 4096, .inl (fun _ => 0))), (w6, .inl (cB, 4096, .inl (fun _ => 0))), (w7, .inl (cB, 4096, .inl (fun _ => 0)))]) H1 →
      va_D A (ws ++ [(q, .inl (cA, 8, .inr (.inr (.inr (.inr (x8 w0 w1 w2 w3 w4 w5 w6 w7)))))), (w0, .inl (cB, 4096, .inl (fun _ => 0))), (w1, .inl (cB, 4096, .inl (fun _ => 0))), (w2, .inl (cB, 4096, .inl (fun _ => 0))), (w3, .inl (cB, 4096, .inl (fun _ => 0))), (w4, .inl (cB, 4096, .inl (fun _ => 0))), (w5, .inl (cB, 4096, .inl (fun _ => 0))), (w6, .inl (cB, 4096, .inl (fun _ => 0))), (w7, .inl (cB, 4096, .inl (fun _ => 0)))]) → va_S A H0 H1 locs →
      W p l e R s m args below meth c H1 locs (cells + 1 + 8) (slots + 8 + 8 * 4096) Q (F0 m (pc + 4) ls (.ref q :: rest))) : W p l e R s m args below meth c H locs cells slots Q (F0 m pc ls (.int 4096 :: .int 8 :: rest)) := by
  intro T hT X
  obtain ⟨vm₁, cA', comp, hW, hfA, hfC, hO, hI, X1, st⟩ := X.multianewarray2F hexec (own := own) (index := index) (ty := .byte) hown hclink hover harr (g := F0 m pc ls (.int 4096 :: .int 8 :: rest)) rfl (by rw [hb]; exact hdg) (n := 8) (k := 4096) (rest := rest) rfl (by decide) (by decide) (by decide) (by decide) (by decide) rfl rfl hcells hslots
  have e5 : cA' = cA := Option.some.inj (hfA.symm.trans (hK.2 t5 _ h5).2)
  have e0 : comp = cB := Option.some.inj (hfC.symm.trans (hK.2 t0 _ h0).2)
  subst e5 e0
  obtain ⟨f1, f2, f3, f4⟩ := Jvm.Free.Multi.fill_facts (T.setVm vm₁) cA' comp 8 4096 (.int 0) 8
  have hz : (T.setVm vm₁).heap.size = H.size := by show T.heap.size = _; rw [hT]
  rw [hz] at f1 f2
  have fo : ∀ q : Nat, q < H.size → (Jvm.Free.Multi.fill (T.setVm vm₁) cA' comp 8 4096 (.int 0) 8).heap[q]? = H[q]? := fun q hq => by
    rw [Jvm.Free.Multi.fill_old (T.setVm vm₁) cA' comp 8 4096 (.int 0) (by rw [hz]; exact hq) 8]
    show T.heap[q]? = _
    rw [hT]
  have fi : ∀ j, j < 8 → (Jvm.Free.Multi.fill (T.setVm vm₁) cA' comp 8 4096 (.int 0) 8).heap[H.size + 1 + j]? = some (vp_cell comp (4096, .inl (fun _ => 0))) := fun j hj => by
    have := Jvm.Free.Multi.fill_inner (T.setVm vm₁) cA' comp 8 4096 (.int 0) 8 j hj
    rw [hz] at this
    rw [this]
    exact congrArg some (arrV_new comp 4096 (.int 0))
  have hkP := hP.kept (H1 := (Jvm.Free.Multi.fill (T.setVm vm₁) cA' comp 8 4096 (.int 0) 8).heap) (fun k x hx => fo x.1 (hP k x hx).lt)
  have n0 : va_at D cl (H.size, .inl (cA', 8, .inr (.inr (.inr (.inr (x8 (H.size + 1) (H.size + 2) (H.size + 3) (H.size + 4) (H.size + 5) (H.size + 6) (H.size + 7) (H.size + 8))))))) (Jvm.Free.Multi.fill (T.setVm vm₁) cA' comp 8 4096 (.int 0) 8).heap := by
    show _ = some _
    rw [f2, xx_outer8]
  have all9 : ∀ (L : va_W), (∀ x ∈ L, va_at D cl x (Jvm.Free.Multi.fill (T.setVm vm₁) cA' comp 8 4096 (.int 0) 8).heap) → va_P D cl L (Jvm.Free.Multi.fill (T.setVm vm₁) cA' comp 8 4096 (.int 0) 8).heap := fun L h k x hx => h x (List.mem_of_getElem? hx)
  have hlt : ∀ (k : Nat) (x : Nat × va_E), ws[k]? = some x → x.1 < H.size := fun k x hx => (hP k x hx).lt
  obtain ⟨t, a1, b1⟩ := kk H.size (H.size + 1) (H.size + 2) (H.size + 3) (H.size + 4) (H.size + 5) (H.size + 6) (H.size + 7) (H.size + 8) _
    (hkP.app (all9 _ (by
      intro x hx
      rcases List.mem_cons.mp hx with rfl | hx
      · exact n0
      rcases List.mem_cons.mp hx with rfl | hx
      · exact fi 0 (by decide)
      rcases List.mem_cons.mp hx with rfl | hx
      · exact fi 1 (by decide)
      rcases List.mem_cons.mp hx with rfl | hx
      · exact fi 2 (by decide)
      rcases List.mem_cons.mp hx with rfl | hx
      · exact fi 3 (by decide)
      rcases List.mem_cons.mp hx with rfl | hx
      · exact fi 4 (by decide)
      rcases List.mem_cons.mp hx with rfl | hx
      · exact fi 5 (by decide)
      rcases List.mem_cons.mp hx with rfl | hx
      · exact fi 6 (by decide)
      rcases List.mem_cons.mp hx with rfl | hx
      · exact fi 7 (by decide)
      cases hx)))
    (xx_D9 hD hlt (fun q hq => hA q (Nat.le_trans hS.1 hq)))
    ⟨Nat.le_trans hS.1 (by rw [f1]; omega), fun x h1 h2 => (fo x (Nat.lt_of_lt_of_le h1 hS.1)).trans (hS.2.1 x h1 h2), hS.2.2⟩
    _ rfl X1
  exact ⟨t, st t (by rw [hT]; exact a1), b1⟩
end X2D
def xPD (D : va_G) (cl : List vw_C) (A : Nat → Prop) (ws : va_W) (H : Heap) : Prop := va_P D cl ws H ∧ va_D A ws
theorem xsub {D : va_G} {cl : List vw_C} {A : Nat → Prop} {ws wc : va_W} {H : Heap} (hP : va_P D cl ws H) (hD : va_D A ws) (is : List Nat) (h : is.filterMap (fun i => ws[i]?) = wc) (h2 : is.map (fun i => ws[i]?) = wc.map some) (hn : va_nd is = true) : va_P D cl wc H ∧ va_D A wc := ⟨hP.sub is h, hD.sub is hn h2⟩
theorem xcut {D : va_G} {cl : List vw_C} {A : Nat → Prop} {ws wc : va_W} {H H0 : Heap} {locs : List Loc} (hP : va_P D cl ws H) (hD : va_D A ws) (hS : va_S A H0 H locs) (hA : ∀ q, H0.size ≤ q → A q) (is : List Nat) (h : is.filterMap (fun i => ws[i]?) = wc) (h2 : is.map (fun i => ws[i]?) = wc.map some) (hn : va_nd is = true) : va_P D cl wc H ∧ va_D A wc ∧ ∀ q, va_A wc H.size q → A q := ⟨hP.sub is h, hD.sub is hn h2, va_free hD hS hA is h2⟩
theorem xjoin {A0 : Nat → Prop} {D : va_G} {cl : List vw_C} {ws wc W : va_W} {H H1 : Heap} (hP : va_P D cl ws H) (hD : va_D A0 ws) (isC isR : List Nat) (n : Nat) (hC : isC.map (fun i => ws[i]?) = wc.map some) (hR : isR.map (fun i => ws[i]?) = (W.take n).map some) (hn : va_nd isR = true) (hdis : ∀ i ∈ isR, i ∉ isC)
    (hk : ∀ q : Nat, q < H.size → ¬ va_A wc H.size q → H1[q]? = H[q]?) (hF : ∀ q, va_A wc H.size q → A0 q) (hP1 : va_P D cl (W.drop n) H1) (hD1 : va_D (va_A wc H.size) (W.drop n)) : va_P D cl W H1 ∧ va_D A0 W := by
  have h := va_join (wr := W.take n) (w1 := W.drop n) hP hD isC isR hC hR hn hdis hk hF hP1 hD1
  rw [List.take_append_drop] at h
  exact h
