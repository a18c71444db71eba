def TB : u_T := fun k => match k with
  | 0 => ("ValueBench", "tape", "LValueBench$Text;", true)
  | 1 => ("ValueBench", "result", "LValueBench$Text;", true)
  | 2 => ("ValueBench", "scratch", "LValueBench$Text;", true)
  | 3 => ("ValueBench", "registers", "[LValueBench$Row;", true)
  | 4 => ("ValueBench", "sorter", "LValueBench$Sorter;", true)
  | 5 => ("ValueBench", "spare", "LValueBench$Row;", false)
  | 6 => ("ValueBench", "place", "I", false)
  | _ => ("ValueBench", "reason", "I", false)
def tyB : Nat → FieldType := fun k => match k with
  | 0 => (.object "ValueBench$Text")
  | 1 => (.object "ValueBench$Text")
  | 2 => (.object "ValueBench$Text")
  | 3 => (.array (.object "ValueBench$Row"))
  | 4 => (.object "ValueBench$Sorter")
  | 5 => (.object "ValueBench$Row")
  | 6 => .int
  | _ => .int
theorem nmB : ∀ a, a < 8 → ∀ b, b < 8 → a ≠ b → (TB a).2.1 ≠ (TB b).2.1 := by decide +kernel
theorem tyB_ok : ∀ k, k < 8 → parseFieldDescriptor (TB k).2.2.1 = some (tyB k) := by decide +kernel
theorem inB : ∀ w ∈ u_ws "ValueBench" TB 8, w ∈ xw := List.forall_mem_cons.mpr ⟨xw_t (x_t1 (List.mem_of_getElem? (i := 103) rfl)) rfl, List.forall_mem_cons.mpr ⟨xw_t (x_t1 (List.mem_of_getElem? (i := 105) rfl)) rfl, List.forall_mem_cons.mpr ⟨xw_t (x_t1 (List.mem_of_getElem? (i := 107) rfl)) rfl, List.forall_mem_cons.mpr ⟨xw_t (x_t1 (List.mem_of_getElem? (i := 109) rfl)) rfl, List.forall_mem_cons.mpr ⟨xw_t (x_t1 (List.mem_of_getElem? (i := 111) rfl)) rfl, List.forall_mem_cons.mpr ⟨xw_t (x_t1 (List.mem_of_getElem? (i := 113) rfl)) rfl, List.forall_mem_cons.mpr ⟨xw_t (x_t1 (List.mem_of_getElem? (i := 115) rfl)) rfl, List.forall_mem_cons.mpr ⟨xw_t (x_t1 (List.mem_of_getElem? (i := 117) rfl)) rfl, fun _ h => absurd h List.not_mem_nil⟩⟩⟩⟩⟩⟩⟩⟩
def TT : u_T := fun k => match k with
  | 0 => ("ValueBench$Text", "bytes", "[B", true)
  | 1 => ("ValueBench$Text", "length", "I", false)
  | _ => ("ValueBench$Text", "over", "Z", false)
def tyT : Nat → FieldType := fun k => match k with
  | 0 => (.array .byte)
  | 1 => .int
  | _ => .boolean
theorem nmT : ∀ a, a < 3 → ∀ b, b < 3 → a ≠ b → (TT a).2.1 ≠ (TT b).2.1 := by decide +kernel
theorem tyT_ok : ∀ k, k < 3 → parseFieldDescriptor (TT k).2.2.1 = some (tyT k) := by decide +kernel
theorem inT : ∀ w ∈ u_ws "ValueBench$Text" TT 3, w ∈ xw := List.forall_mem_cons.mpr ⟨xw_t (x_t1 (List.mem_of_getElem? (i := 46) rfl)) rfl, List.forall_mem_cons.mpr ⟨xw_t (x_t1 (List.mem_of_getElem? (i := 48) rfl)) rfl, List.forall_mem_cons.mpr ⟨xw_t (x_t1 (List.mem_of_getElem? (i := 50) rfl)) rfl, fun _ h => absurd h List.not_mem_nil⟩⟩⟩
def TR : u_T := fun k => match k with
  | 0 => ("ValueBench$Row", "cells", "[J", true)
  | 1 => ("ValueBench$Row", "size", "I", false)
  | _ => ("ValueBench$Row", "over", "Z", false)
def tyR : Nat → FieldType := fun k => match k with
  | 0 => (.array .long)
  | 1 => .int
  | _ => .boolean
theorem nmR : ∀ a, a < 3 → ∀ b, b < 3 → a ≠ b → (TR a).2.1 ≠ (TR b).2.1 := by decide +kernel
theorem tyR_ok : ∀ k, k < 3 → parseFieldDescriptor (TR k).2.2.1 = some (tyR k) := by decide +kernel
theorem inR : ∀ w ∈ u_ws "ValueBench$Row" TR 3, w ∈ xw := List.forall_mem_cons.mpr ⟨xw_t (x_t1 (List.mem_of_getElem? (i := 87) rfl)) rfl, List.forall_mem_cons.mpr ⟨xw_t (x_t1 (List.mem_of_getElem? (i := 89) rfl)) rfl, List.forall_mem_cons.mpr ⟨xw_t (x_t1 (List.mem_of_getElem? (i := 91) rfl)) rfl, fun _ h => absurd h List.not_mem_nil⟩⟩⟩
def TS : u_T := fun k => match k with
  | 0 => ("ValueBench$Sorter", "keyAt", "[I", true)
  | 1 => ("ValueBench$Sorter", "elementAt", "[I", true)
  | 2 => ("ValueBench$Sorter", "turns", "[I", false)
  | 3 => ("ValueBench$Sorter", "merged", "[I", false)
  | _ => ("ValueBench$Sorter", "total", "I", false)
def tyS : Nat → FieldType := fun k => match k with
  | 0 => (.array .int)
  | 1 => (.array .int)
  | 2 => (.array .int)
  | 3 => (.array .int)
  | _ => .int
theorem nmS : ∀ a, a < 5 → ∀ b, b < 5 → a ≠ b → (TS a).2.1 ≠ (TS b).2.1 := by decide +kernel
theorem tyS_ok : ∀ k, k < 5 → parseFieldDescriptor (TS k).2.2.1 = some (tyS k) := by decide +kernel
theorem inS : ∀ w ∈ u_ws "ValueBench$Sorter" TS 5, w ∈ xw := List.forall_mem_cons.mpr ⟨xw_t (x_t1 (List.mem_of_getElem? (i := 67) rfl)) rfl, List.forall_mem_cons.mpr ⟨xw_t (x_t1 (List.mem_of_getElem? (i := 69) rfl)) rfl, List.forall_mem_cons.mpr ⟨xw_t (x_t1 (List.mem_of_getElem? (i := 71) rfl)) rfl, List.forall_mem_cons.mpr ⟨xw_t (x_t1 (List.mem_of_getElem? (i := 73) rfl)) rfl, List.forall_mem_cons.mpr ⟨xw_t (x_t1 (List.mem_of_getElem? (i := 75) rfl)) rfl, fun _ h => absurd h List.not_mem_nil⟩⟩⟩⟩⟩
def TD : u_T := fun k => match k with
  | 0 => ("ValueBench$Reader", "source", "LValueBench$Text;", true)
  | 1 => ("ValueBench$Reader", "out", "LValueBench$Row;", true)
  | 2 => ("ValueBench$Reader", "at", "I", false)
  | _ => ("ValueBench$Reader", "place", "I", false)
def tyD : Nat → FieldType := fun k => match k with
  | 0 => (.object "ValueBench$Text")
  | 1 => (.object "ValueBench$Row")
  | 2 => .int
  | _ => .int
theorem nmD : ∀ a, a < 4 → ∀ b, b < 4 → a ≠ b → (TD a).2.1 ≠ (TD b).2.1 := by decide +kernel
theorem tyD_ok : ∀ k, k < 4 → parseFieldDescriptor (TD k).2.2.1 = some (tyD k) := by decide +kernel
theorem inD : ∀ w ∈ u_ws "ValueBench$Reader" TD 4, w ∈ xw := List.forall_mem_cons.mpr ⟨xw_t (x_t2 (List.mem_of_getElem? (i := 33) rfl)) rfl, List.forall_mem_cons.mpr ⟨xw_t (x_t2 (List.mem_of_getElem? (i := 35) rfl)) rfl, List.forall_mem_cons.mpr ⟨xw_t (x_t2 (List.mem_of_getElem? (i := 37) rfl)) rfl, List.forall_mem_cons.mpr ⟨xw_t (x_t2 (List.mem_of_getElem? (i := 39) rfl)) rfl, fun _ h => absurd h List.not_mem_nil⟩⟩⟩⟩
def TM : u_T := fun k => match k with
  | 0 => ("ValueBenchModel", "failed", "I", false)
  | 1 => ("ValueBenchModel", "made", "[LValueBenchModel$V;", false)
  | 2 => ("ValueBenchModel", "madeTop", "I", false)
  | 3 => ("ValueBenchModel", "chars", "[B", false)
  | 4 => ("ValueBenchModel", "charTop", "I", false)
  | 5 => ("ValueBenchModel", "kids", "[LValueBenchModel$V;", false)
  | 6 => ("ValueBenchModel", "names", "[LValueBenchModel$V;", false)
  | 7 => ("ValueBenchModel", "kidTop", "I", false)
  | 8 => ("ValueBenchModel", "reason", "I", false)
  | 9 => ("ValueBenchModel", "parts", "I", false)
  | 10 => ("ValueBenchModel", "waitKids", "[LValueBenchModel$V;", false)
  | 11 => ("ValueBenchModel", "waitNames", "[LValueBenchModel$V;", false)
  | 12 => ("ValueBenchModel", "waiting", "I", false)
  | 13 => ("ValueBenchModel", "index", "[I", false)
  | 14 => ("ValueBenchModel", "other", "[I", false)
  | 15 => ("ValueBenchModel", "source", "[B", false)
  | 16 => ("ValueBenchModel", "at", "I", false)
  | 17 => ("ValueBenchModel", "stop", "I", false)
  | 18 => ("ValueBenchModel", "opened", "I", false)
  | 19 => ("ValueBenchModel", "mostOpen", "I", false)
  | 20 => ("ValueBenchModel", "place", "I", false)
  | 21 => ("ValueBenchModel", "printed", "[B", false)
  | 22 => ("ValueBenchModel", "printedSize", "I", false)
  | 23 => ("ValueBenchModel", "mostPrinted", "I", false)
  | 24 => ("ValueBenchModel", "registers", "[[B", true)
  | 25 => ("ValueBenchModel", "registerSizes", "[I", true)
  | 26 => ("ValueBenchModel", "tape", "[B", true)
  | 27 => ("ValueBenchModel", "taped", "I", false)
  | 28 => ("ValueBenchModel", "result", "[B", true)
  | 29 => ("ValueBenchModel", "size", "I", false)
  | 30 => ("ValueBenchModel", "refused", "I", false)
  | _ => ("ValueBenchModel", "readPlace", "I", false)
def tyM : Nat → FieldType := fun k => match k with
  | 0 => .int
  | 1 => (.array (.object "ValueBenchModel$V"))
  | 2 => .int
  | 3 => (.array .byte)
  | 4 => .int
  | 5 => (.array (.object "ValueBenchModel$V"))
  | 6 => (.array (.object "ValueBenchModel$V"))
  | 7 => .int
  | 8 => .int
  | 9 => .int
  | 10 => (.array (.object "ValueBenchModel$V"))
  | 11 => (.array (.object "ValueBenchModel$V"))
  | 12 => .int
  | 13 => (.array .int)
  | 14 => (.array .int)
  | 15 => (.array .byte)
  | 16 => .int
  | 17 => .int
  | 18 => .int
  | 19 => .int
  | 20 => .int
  | 21 => (.array .byte)
  | 22 => .int
  | 23 => .int
  | 24 => (.array (.array .byte))
  | 25 => (.array .int)
  | 26 => (.array .byte)
  | 27 => .int
  | 28 => (.array .byte)
  | 29 => .int
  | 30 => .int
  | _ => .int
theorem nmM : ∀ a, a < 32 → ∀ b, b < 32 → a ≠ b → (TM a).2.1 ≠ (TM b).2.1 := by decide +kernel
theorem tyM_ok : ∀ k, k < 32 → parseFieldDescriptor (TM k).2.2.1 = some (tyM k) := by decide +kernel
theorem inM : ∀ w ∈ u_ws "ValueBenchModel" TM 32, w ∈ xw := List.forall_mem_cons.mpr ⟨xw_t (x_t5 (List.mem_of_getElem? (i := 119) rfl)) rfl, List.forall_mem_cons.mpr ⟨xw_t (x_t5 (List.mem_of_getElem? (i := 121) rfl)) rfl, List.forall_mem_cons.mpr ⟨xw_t (x_t5 (List.mem_of_getElem? (i := 123) rfl)) rfl, List.forall_mem_cons.mpr ⟨xw_t (x_t5 (List.mem_of_getElem? (i := 125) rfl)) rfl, List.forall_mem_cons.mpr ⟨xw_t (x_t5 (List.mem_of_getElem? (i := 127) rfl)) rfl, List.forall_mem_cons.mpr ⟨xw_t (x_t5 (List.mem_of_getElem? (i := 129) rfl)) rfl, List.forall_mem_cons.mpr ⟨xw_t (x_t5 (List.mem_of_getElem? (i := 131) rfl)) rfl, List.forall_mem_cons.mpr ⟨xw_t (x_t5 (List.mem_of_getElem? (i := 133) rfl)) rfl, List.forall_mem_cons.mpr ⟨xw_t (x_t5 (List.mem_of_getElem? (i := 135) rfl)) rfl, List.forall_mem_cons.mpr ⟨xw_t (x_t5 (List.mem_of_getElem? (i := 137) rfl)) rfl, List.forall_mem_cons.mpr ⟨xw_t (x_t5 (List.mem_of_getElem? (i := 139) rfl)) rfl, List.forall_mem_cons.mpr ⟨xw_t (x_t5 (List.mem_of_getElem? (i := 141) rfl)) rfl, List.forall_mem_cons.mpr ⟨xw_t (x_t5 (List.mem_of_getElem? (i := 143) rfl)) rfl, List.forall_mem_cons.mpr ⟨xw_t (x_t5 (List.mem_of_getElem? (i := 145) rfl)) rfl, List.forall_mem_cons.mpr ⟨xw_t (x_t5 (List.mem_of_getElem? (i := 147) rfl)) rfl, List.forall_mem_cons.mpr ⟨xw_t (x_t5 (List.mem_of_getElem? (i := 149) rfl)) rfl, List.forall_mem_cons.mpr ⟨xw_t (x_t5 (List.mem_of_getElem? (i := 151) rfl)) rfl, List.forall_mem_cons.mpr ⟨xw_t (x_t5 (List.mem_of_getElem? (i := 153) rfl)) rfl, List.forall_mem_cons.mpr ⟨xw_t (x_t5 (List.mem_of_getElem? (i := 155) rfl)) rfl, List.forall_mem_cons.mpr ⟨xw_t (x_t5 (List.mem_of_getElem? (i := 157) rfl)) rfl, List.forall_mem_cons.mpr ⟨xw_t (x_t5 (List.mem_of_getElem? (i := 159) rfl)) rfl, List.forall_mem_cons.mpr ⟨xw_t (x_t5 (List.mem_of_getElem? (i := 161) rfl)) rfl, List.forall_mem_cons.mpr ⟨xw_t (x_t5 (List.mem_of_getElem? (i := 163) rfl)) rfl, List.forall_mem_cons.mpr ⟨xw_t (x_t5 (List.mem_of_getElem? (i := 165) rfl)) rfl, List.forall_mem_cons.mpr ⟨xw_t (x_t5 (List.mem_of_getElem? (i := 167) rfl)) rfl, List.forall_mem_cons.mpr ⟨xw_t (x_t5 (List.mem_of_getElem? (i := 169) rfl)) rfl, List.forall_mem_cons.mpr ⟨xw_t (x_t5 (List.mem_of_getElem? (i := 171) rfl)) rfl, List.forall_mem_cons.mpr ⟨xw_t (x_t5 (List.mem_of_getElem? (i := 173) rfl)) rfl, List.forall_mem_cons.mpr ⟨xw_t (x_t5 (List.mem_of_getElem? (i := 175) rfl)) rfl, List.forall_mem_cons.mpr ⟨xw_t (x_t5 (List.mem_of_getElem? (i := 177) rfl)) rfl, List.forall_mem_cons.mpr ⟨xw_t (x_t5 (List.mem_of_getElem? (i := 179) rfl)) rfl, List.forall_mem_cons.mpr ⟨xw_t (x_t5 (List.mem_of_getElem? (i := 181) rfl)) rfl, fun _ h => absurd h List.not_mem_nil⟩⟩⟩⟩⟩⟩⟩⟩⟩⟩⟩⟩⟩⟩⟩⟩⟩⟩⟩⟩⟩⟩⟩⟩⟩⟩⟩⟩⟩⟩⟩⟩
def TV : u_T := fun k => match k with
  | 0 => ("ValueBenchModel$V", "kind", "I", false)
  | 1 => ("ValueBenchModel$V", "n", "J", false)
  | 2 => ("ValueBenchModel$V", "off", "I", false)
  | 3 => ("ValueBenchModel$V", "count", "I", false)
  | 4 => ("ValueBenchModel$V", "depth", "I", false)
  | _ => ("ValueBenchModel$V", "weight", "I", false)
def tyV : Nat → FieldType := fun k => match k with
  | 0 => .int
  | 1 => .long
  | 2 => .int
  | 3 => .int
  | 4 => .int
  | _ => .int
theorem nmV : ∀ a, a < 6 → ∀ b, b < 6 → a ≠ b → (TV a).2.1 ≠ (TV b).2.1 := by decide +kernel
theorem tyV_ok : ∀ k, k < 6 → parseFieldDescriptor (TV k).2.2.1 = some (tyV k) := by decide +kernel
theorem inV : ∀ w ∈ u_ws "ValueBenchModel$V" TV 6, w ∈ xw := List.forall_mem_cons.mpr ⟨xw_t (x_t6 (List.mem_of_getElem? (i := 28) rfl)) rfl, List.forall_mem_cons.mpr ⟨xw_t (x_t6 (List.mem_of_getElem? (i := 30) rfl)) rfl, List.forall_mem_cons.mpr ⟨xw_t (x_t6 (List.mem_of_getElem? (i := 32) rfl)) rfl, List.forall_mem_cons.mpr ⟨xw_t (x_t6 (List.mem_of_getElem? (i := 34) rfl)) rfl, List.forall_mem_cons.mpr ⟨xw_t (x_t6 (List.mem_of_getElem? (i := 36) rfl)) rfl, List.forall_mem_cons.mpr ⟨xw_t (x_t6 (List.mem_of_getElem? (i := 38) rfl)) rfl, fun _ h => absurd h List.not_mem_nil⟩⟩⟩⟩⟩⟩
abbrev xcl : List vw_C := [("ValueBench", TB, 8), ("ValueBench$Text", TT, 3), ("ValueBench$Row", TR, 3), ("ValueBench$Sorter", TS, 5), ("ValueBench$Reader", TD, 4), ("ValueBenchModel", TM, 32), ("ValueBenchModel$V", TV, 6)]
abbrev xMet (l : Launch) (y : MethodName) (w : List Cond) (f cs sl lo : Nat) (D : va_G) (cT : Nat → ClassId) (aK aV : Nat → Nat) (sz : Nat) (av : List Value) (pre : va_W) (Q : (Nat → Prop) → Array Value → State → Outcome → State → Prop) : Prop := Met l y w { frames := f, cells := cs, slots := sl, locals := lo } (va_Pc av (xPre D xcl cT aK aV sz pre)) (Q (va_A pre sz)) cs sl (va_A pre sz)
abbrev xMetX (l : Launch) (y : MethodName) (w : List Cond) (f cs sl lo : Nat) (D : va_G) (cT : Nat → ClassId) (aK aV : Nat → Nat) (sz : Nat) (av : List Value) (pre : va_W) (X : String) (P : (Nat → Prop) → State → Prop) : Prop := vx_Met l y w { frames := f, cells := cs, slots := sl, locals := lo } (va_Pc av (xPre D xcl cT aK aV sz pre)) (fun _ _ _ _ => False) (vx_X (fun _ : Unit => True) (fun E _ t => E = X ∧ P (va_A pre sz) t) (va_A pre sz)) cs sl (va_A pre sz)
def yB_init : MethodName := ⟨"ValueBench", "<init>", "()V"⟩
def yB_binary : MethodName := ⟨"ValueBench", "binary", "(IIII)V"⟩
def yB_compare : MethodName := ⟨"ValueBench", "compare", "(II)I"⟩
def yB_count : MethodName := ⟨"ValueBench", "count", "(I)I"⟩
def yB_demand : MethodName := ⟨"ValueBench", "demand", "(Z)V"⟩
def yB_demandDone : MethodName := ⟨"ValueBench", "demandDone", "(I)V"⟩
def yB_end : MethodName := ⟨"ValueBench", "end", "(I)I"⟩
def yB_feed : MethodName := ⟨"ValueBench", "feed", "(IIIII)I"⟩
def yB_isRegister : MethodName := ⟨"ValueBench", "isRegister", "(I)Z"⟩
def yB_isWithin : MethodName := ⟨"ValueBench", "isWithin", "(II)Z"⟩
def yB_keepSpare : MethodName := ⟨"ValueBench", "keepSpare", "(I)I"⟩
def yB_one : MethodName := ⟨"ValueBench", "one", "(III)V"⟩
def yB_print : MethodName := ⟨"ValueBench", "print", "(I)I"⟩
def yB_read : MethodName := ⟨"ValueBench", "read", "(I)I"⟩
def yB_same : MethodName := ⟨"ValueBench", "same", "(II)Z"⟩
def yB_sort : MethodName := ⟨"ValueBench", "sort", "(IIII)V"⟩
def yB_two : MethodName := ⟨"ValueBench", "two", "(IIII)V"⟩
def yB_word : MethodName := ⟨"ValueBench", "word", "(I)J"⟩
def yK_apply : MethodName := ⟨"ValueBench$Keyed", "apply", "(ILValueBench$Row;LValueBench$Row;LValueBench$Sorter;LValueBench$Row;)I"⟩
def yA_apply : MethodName := ⟨"ValueBench$Operators", "apply", "(ILValueBench$Row;LValueBench$Row;LValueBench$Row;)I"⟩
def yA_minus : MethodName := ⟨"ValueBench$Operators", "minus", "(LValueBench$Row;LValueBench$Row;LValueBench$Row;)I"⟩
def yA_pieces : MethodName := ⟨"ValueBench$Operators", "pieces", "(LValueBench$Row;LValueBench$Row;LValueBench$Row;)I"⟩
def yA_plus : MethodName := ⟨"ValueBench$Operators", "plus", "(LValueBench$Row;LValueBench$Row;LValueBench$Row;)I"⟩
def yA_times : MethodName := ⟨"ValueBench$Operators", "times", "(LValueBench$Row;LValueBench$Row;LValueBench$Row;)I"⟩
def yO_isSame : MethodName := ⟨"ValueBench$Order", "isSame", "(LValueBench$Row;ILValueBench$Row;I)Z"⟩
def yO_of : MethodName := ⟨"ValueBench$Order", "of", "(LValueBench$Row;ILValueBench$Row;II)I"⟩
def yH_apply : MethodName := ⟨"ValueBench$Pairs", "apply", "(ILValueBench$Row;LValueBench$Row;LValueBench$Text;LValueBench$Row;)I"⟩
def yH_areOfOneKind : MethodName := ⟨"ValueBench$Pairs", "areOfOneKind", "(LValueBench$Row;ILValueBench$Row;I)Z"⟩
def yH_areStrings : MethodName := ⟨"ValueBench$Pairs", "areStrings", "(LValueBench$Row;LValueBench$Row;)Z"⟩
def yH_at : MethodName := ⟨"ValueBench$Pairs", "at", "(LValueBench$Row;LValueBench$Row;LValueBench$Row;)I"⟩
def yH_contains : MethodName := ⟨"ValueBench$Pairs", "contains", "(LValueBench$Row;LValueBench$Row;LValueBench$Row;)I"⟩
def yH_copy : MethodName := ⟨"ValueBench$Pairs", "copy", "(LValueBench$Row;ILValueBench$Row;)I"⟩
def yH_flat : MethodName := ⟨"ValueBench$Pairs", "flat", "(LValueBench$Row;LValueBench$Row;LValueBench$Row;)I"⟩
def yH_has : MethodName := ⟨"ValueBench$Pairs", "has", "(LValueBench$Row;LValueBench$Row;LValueBench$Row;)I"⟩
def yH_indices : MethodName := ⟨"ValueBench$Pairs", "indices", "(LValueBench$Row;LValueBench$Row;LValueBench$Row;)I"⟩
def yH_isIn : MethodName := ⟨"ValueBench$Pairs", "isIn", "(LValueBench$Row;ILValueBench$Row;II)Z"⟩
def yH_joined : MethodName := ⟨"ValueBench$Pairs", "joined", "(LValueBench$Row;LValueBench$Row;LValueBench$Text;LValueBench$Row;)I"⟩
def yH_nothing : MethodName := ⟨"ValueBench$Pairs", "nothing", "(LValueBench$Row;)I"⟩
def yH_truth : MethodName := ⟨"ValueBench$Pairs", "truth", "(ZLValueBench$Row;)I"⟩
def yH_withoutBeginning : MethodName := ⟨"ValueBench$Pairs", "withoutBeginning", "(LValueBench$Row;LValueBench$Row;LValueBench$Row;)I"⟩
def yH_withoutEnd : MethodName := ⟨"ValueBench$Pairs", "withoutEnd", "(LValueBench$Row;LValueBench$Row;LValueBench$Row;)I"⟩
def yP_letterOf : MethodName := ⟨"ValueBench$Printer", "letterOf", "(I)I"⟩
def yP_write : MethodName := ⟨"ValueBench$Printer", "write", "(LValueBench$Row;ILValueBench$Text;I)V"⟩
def yP_writeCode : MethodName := ⟨"ValueBench$Printer", "writeCode", "(ILValueBench$Text;)V"⟩
def yP_writeList : MethodName := ⟨"ValueBench$Printer", "writeList", "(LValueBench$Row;ILValueBench$Text;I)V"⟩
def yP_writeString : MethodName := ⟨"ValueBench$Printer", "writeString", "(LValueBench$Row;ILValueBench$Text;)V"⟩
def yD_init : MethodName := ⟨"ValueBench$Reader", "<init>", "(LValueBench$Text;LValueBench$Row;)V"⟩
def yD_broken : MethodName := ⟨"ValueBench$Reader", "broken", "(I)Z"⟩
def yD_isDigit : MethodName := ⟨"ValueBench$Reader", "isDigit", "(I)Z"⟩
def yD_number : MethodName := ⟨"ValueBench$Reader", "number", "()Z"⟩
def yD_readValue : MethodName := ⟨"ValueBench$Reader", "readValue", "()I"⟩
def yD_skipBlanks : MethodName := ⟨"ValueBench$Reader", "skipBlanks", "()V"⟩
def yD_value : MethodName := ⟨"ValueBench$Reader", "value", "(I)Z"⟩
def yR_init : MethodName := ⟨"ValueBench$Row", "<init>", "()V"⟩
def yR_after : MethodName := ⟨"ValueBench$Row", "after", "(I)I"⟩
def yR_cell : MethodName := ⟨"ValueBench$Row", "cell", "(I)J"⟩
def yR_clear : MethodName := ⟨"ValueBench$Row", "clear", "()V"⟩
def yR_close : MethodName := ⟨"ValueBench$Row", "close", "(III)V"⟩
def yR_code : MethodName := ⟨"ValueBench$Row", "code", "(II)I"⟩
def yR_is : MethodName := ⟨"ValueBench$Row", "is", "(II)Z"⟩
def yR_isOver : MethodName := ⟨"ValueBench$Row", "isOver", "()Z"⟩
def yR_kind : MethodName := ⟨"ValueBench$Row", "kind", "(I)I"⟩
def yR_length : MethodName := ⟨"ValueBench$Row", "length", "(I)I"⟩
def yR_number : MethodName := ⟨"ValueBench$Row", "number", "(I)J"⟩
def yR_open : MethodName := ⟨"ValueBench$Row", "open", "()I"⟩
def yR_put : MethodName := ⟨"ValueBench$Row", "put", "(J)V"⟩
def yR_putCells : MethodName := ⟨"ValueBench$Row", "putCells", "(LValueBench$Row;II)V"⟩
def yR_putCopy : MethodName := ⟨"ValueBench$Row", "putCopy", "(LValueBench$Row;I)V"⟩
def yR_putNull : MethodName := ⟨"ValueBench$Row", "putNull", "()V"⟩
def yR_putNumber : MethodName := ⟨"ValueBench$Row", "putNumber", "(J)V"⟩
def yR_putText : MethodName := ⟨"ValueBench$Row", "putText", "(LValueBench$Text;)V"⟩
def yR_putTruth : MethodName := ⟨"ValueBench$Row", "putTruth", "(Z)V"⟩
def yG_apply : MethodName := ⟨"ValueBench$Singles", "apply", "(ILValueBench$Row;LValueBench$Text;LValueBench$Sorter;LValueBench$Row;)I"⟩
def yG_codes : MethodName := ⟨"ValueBench$Singles", "codes", "(LValueBench$Row;LValueBench$Row;)I"⟩
def yG_fromJson : MethodName := ⟨"ValueBench$Singles", "fromJson", "(LValueBench$Row;LValueBench$Text;LValueBench$Row;)I"⟩
def yG_inCase : MethodName := ⟨"ValueBench$Singles", "inCase", "(LValueBench$Row;IILValueBench$Row;)I"⟩
def yG_isOfNumbers : MethodName := ⟨"ValueBench$Singles", "isOfNumbers", "(LValueBench$Row;)Z"⟩
def yG_keys : MethodName := ⟨"ValueBench$Singles", "keys", "(LValueBench$Row;LValueBench$Row;)I"⟩
def yG_length : MethodName := ⟨"ValueBench$Singles", "length", "(LValueBench$Row;LValueBench$Row;)I"⟩
def yG_ofCodes : MethodName := ⟨"ValueBench$Singles", "ofCodes", "(LValueBench$Row;LValueBench$Row;)I"⟩
def yG_printed : MethodName := ⟨"ValueBench$Singles", "printed", "(LValueBench$Row;LValueBench$Text;LValueBench$Row;)I"⟩
def yG_reversed : MethodName := ⟨"ValueBench$Singles", "reversed", "(LValueBench$Row;LValueBench$Sorter;LValueBench$Row;)I"⟩
def yG_toNumber : MethodName := ⟨"ValueBench$Singles", "toNumber", "(LValueBench$Row;LValueBench$Text;LValueBench$Row;)I"⟩
def yS_init : MethodName := ⟨"ValueBench$Sorter", "<init>", "()V"⟩
def yT_init : MethodName := ⟨"ValueBench$Text", "<init>", "()V"⟩
def yT_add : MethodName := ⟨"ValueBench$Text", "add", "(I)V"⟩
def yT_addInt : MethodName := ⟨"ValueBench$Text", "addInt", "(I)V"⟩
def yT_addNumber : MethodName := ⟨"ValueBench$Text", "addNumber", "(J)V"⟩
def yT_addWord : MethodName := ⟨"ValueBench$Text", "addWord", "(Ljava/lang/String;)V"⟩
def yT_at : MethodName := ⟨"ValueBench$Text", "at", "(I)I"⟩
def yT_clear : MethodName := ⟨"ValueBench$Text", "clear", "()V"⟩
def yT_isOver : MethodName := ⟨"ValueBench$Text", "isOver", "()Z"⟩
def yT_keep : MethodName := ⟨"ValueBench$Text", "keep", "(I)V"⟩
def yT_size : MethodName := ⟨"ValueBench$Text", "size", "()I"⟩
def yL_binary : MethodName := ⟨"ValueBenchLaw", "binary", "(LValueBench;IIII)I"⟩
def yL_compare : MethodName := ⟨"ValueBenchLaw", "compare", "(LValueBench;II[J)I"⟩
def yL_count : MethodName := ⟨"ValueBenchLaw", "count", "(LValueBench;I[J)I"⟩
def yL_end : MethodName := ⟨"ValueBenchLaw", "end", "(LValueBench;I[J)I"⟩
def yL_feed : MethodName := ⟨"ValueBenchLaw", "feed", "(LValueBench;IIIII[J)I"⟩
def yL_one : MethodName := ⟨"ValueBenchLaw", "one", "(LValueBench;III)I"⟩
def yL_print : MethodName := ⟨"ValueBenchLaw", "print", "(LValueBench;I[J)I"⟩
def yL_read : MethodName := ⟨"ValueBenchLaw", "read", "(LValueBench;I[J)I"⟩
def yL_same : MethodName := ⟨"ValueBenchLaw", "same", "(LValueBench;II[J)I"⟩
def yL_sort : MethodName := ⟨"ValueBenchLaw", "sort", "(LValueBench;IIII)I"⟩
def yL_two : MethodName := ⟨"ValueBenchLaw", "two", "(LValueBench;IIII)I"⟩
def yL_word : MethodName := ⟨"ValueBenchLaw", "word", "(LValueBench;I[J)I"⟩
def yM_init : MethodName := ⟨"ValueBenchModel", "<init>", "()V"⟩
def yM_added : MethodName := ⟨"ValueBenchModel", "added", "(LValueBenchModel$V;LValueBenchModel$V;)LValueBenchModel$V;"⟩
def yM_alike : MethodName := ⟨"ValueBenchModel", "alike", "(LValueBenchModel$V;LValueBenchModel$V;)Z"⟩
def yM_array : MethodName := ⟨"ValueBenchModel", "array", "(LValueBenchModel$V;)LValueBenchModel$V;"⟩
def yM_at : MethodName := ⟨"ValueBenchModel", "at", "(LValueBenchModel$V;LValueBenchModel$V;)LValueBenchModel$V;"⟩
def yM_bad : MethodName := ⟨"ValueBenchModel", "bad", "(I)V"⟩
def yM_begin : MethodName := ⟨"ValueBenchModel", "begin", "()V"⟩
def yM_binary0 : MethodName := ⟨"ValueBenchModel", "binary", "(IIII)V"⟩
def yM_binary1 : MethodName := ⟨"ValueBenchModel", "binary", "(ILValueBenchModel$V;LValueBenchModel$V;)LValueBenchModel$V;"⟩
def yM_blanks : MethodName := ⟨"ValueBenchModel", "blanks", "()V"⟩
def yM_cased : MethodName := ⟨"ValueBenchModel", "cased", "(LValueBenchModel$V;Z)LValueBenchModel$V;"⟩
def yM_clear : MethodName := ⟨"ValueBenchModel", "clear", "()V"⟩
def yM_compare : MethodName := ⟨"ValueBenchModel", "compare", "(II)I"⟩
def yM_contains : MethodName := ⟨"ValueBenchModel", "contains", "(LValueBenchModel$V;LValueBenchModel$V;)Z"⟩
def yM_count : MethodName := ⟨"ValueBenchModel", "count", "(I)I"⟩
def yM_digit : MethodName := ⟨"ValueBenchModel", "digit", "(I)Z"⟩
def yM_end : MethodName := ⟨"ValueBenchModel", "end", "(I)I"⟩
def yM_explode : MethodName := ⟨"ValueBenchModel", "explode", "(LValueBenchModel$V;)LValueBenchModel$V;"⟩
def yM_fail : MethodName := ⟨"ValueBenchModel", "fail", "(I)I"⟩
def yM_feed : MethodName := ⟨"ValueBenchModel", "feed", "(IIIII)I"⟩
def yM_finish : MethodName := ⟨"ValueBenchModel", "finish", "(IIIII)V"⟩
def yM_flatten : MethodName := ⟨"ValueBenchModel", "flatten", "(LValueBenchModel$V;LValueBenchModel$V;)LValueBenchModel$V;"⟩
def yM_fresh : MethodName := ⟨"ValueBenchModel", "fresh", "(I)LValueBenchModel$V;"⟩
def yM_fromJson : MethodName := ⟨"ValueBenchModel", "fromJson", "(LValueBenchModel$V;)LValueBenchModel$V;"⟩
def yM_has : MethodName := ⟨"ValueBenchModel", "has", "(LValueBenchModel$V;LValueBenchModel$V;)LValueBenchModel$V;"⟩
def yM_implode : MethodName := ⟨"ValueBenchModel", "implode", "(LValueBenchModel$V;)LValueBenchModel$V;"⟩
def yM_indices : MethodName := ⟨"ValueBenchModel", "indices", "(LValueBenchModel$V;LValueBenchModel$V;)LValueBenchModel$V;"⟩
def yM_isTrue : MethodName := ⟨"ValueBenchModel", "isTrue", "(LValueBenchModel$V;)Z"⟩
def yM_joined : MethodName := ⟨"ValueBenchModel", "joined", "(LValueBenchModel$V;LValueBenchModel$V;)LValueBenchModel$V;"⟩
def yM_json : MethodName := ⟨"ValueBenchModel", "json", "([BII)LValueBenchModel$V;"⟩
def yM_keysOf : MethodName := ⟨"ValueBenchModel", "keysOf", "(LValueBenchModel$V;Z)LValueBenchModel$V;"⟩
def yM_length : MethodName := ⟨"ValueBenchModel", "length", "(LValueBenchModel$V;)LValueBenchModel$V;"⟩
def yM_letter : MethodName := ⟨"ValueBenchModel", "letter", "(I)V"⟩
def yM_number : MethodName := ⟨"ValueBenchModel", "number", "(J)LValueBenchModel$V;"⟩
def yM_one0 : MethodName := ⟨"ValueBenchModel", "one", "(III)V"⟩
def yM_one1 : MethodName := ⟨"ValueBenchModel", "one", "(ILValueBenchModel$V;)LValueBenchModel$V;"⟩
def yM_order : MethodName := ⟨"ValueBenchModel", "order", "(LValueBenchModel$V;LValueBenchModel$V;)I"⟩
def yM_out : MethodName := ⟨"ValueBenchModel", "out", "(I)Z"⟩
def yM_peek : MethodName := ⟨"ValueBenchModel", "peek", "()I"⟩
def yM_print0 : MethodName := ⟨"ValueBenchModel", "print", "(I)I"⟩
def yM_print1 : MethodName := ⟨"ValueBenchModel", "print", "(LValueBenchModel$V;)V"⟩
def yM_put0 : MethodName := ⟨"ValueBenchModel", "put", "(I)V"⟩
def yM_put1 : MethodName := ⟨"ValueBenchModel", "put", "(Ljava/lang/String;)V"⟩
def yM_putNumber : MethodName := ⟨"ValueBenchModel", "putNumber", "(J)V"⟩
def yM_putString : MethodName := ⟨"ValueBenchModel", "putString", "(LValueBenchModel$V;)V"⟩
def yM_read : MethodName := ⟨"ValueBenchModel", "read", "(I)I"⟩
def yM_refuse : MethodName := ⟨"ValueBenchModel", "refuse", "(I)LValueBenchModel$V;"⟩
def yM_register : MethodName := ⟨"ValueBenchModel", "register", "(I)LValueBenchModel$V;"⟩
def yM_reversed : MethodName := ⟨"ValueBenchModel", "reversed", "(LValueBenchModel$V;)LValueBenchModel$V;"⟩
def yM_same0 : MethodName := ⟨"ValueBenchModel", "same", "(II)Z"⟩
def yM_same1 : MethodName := ⟨"ValueBenchModel", "same", "(LValueBenchModel$V;LValueBenchModel$V;)Z"⟩
def yM_says : MethodName := ⟨"ValueBenchModel", "says", "(Ljava/lang/String;I)LValueBenchModel$V;"⟩
def yM_sort0 : MethodName := ⟨"ValueBenchModel", "sort", "(IIII)V"⟩
def yM_store : MethodName := ⟨"ValueBenchModel", "store", "(ILValueBenchModel$V;)I"⟩
def yM_string : MethodName := ⟨"ValueBenchModel", "string", "(I)LValueBenchModel$V;"⟩
def yM_text : MethodName := ⟨"ValueBenchModel", "text", "(LValueBenchModel$V;)LValueBenchModel$V;"⟩
def yM_thrown : MethodName := ⟨"ValueBenchModel", "thrown", "()I"⟩
def yM_times : MethodName := ⟨"ValueBenchModel", "times", "(LValueBenchModel$V;LValueBenchModel$V;)LValueBenchModel$V;"⟩
def yM_toNumber : MethodName := ⟨"ValueBenchModel", "toNumber", "(LValueBenchModel$V;)LValueBenchModel$V;"⟩
def yM_told : MethodName := ⟨"ValueBenchModel", "told", "(LValueBenchModel$V;)LValueBenchModel$V;"⟩
def yM_truth : MethodName := ⟨"ValueBenchModel", "truth", "(Z)LValueBenchModel$V;"⟩
def yM_two0 : MethodName := ⟨"ValueBenchModel", "two", "(IIII)V"⟩
def yM_two1 : MethodName := ⟨"ValueBenchModel", "two", "(ILValueBenchModel$V;LValueBenchModel$V;)LValueBenchModel$V;"⟩
def yM_value : MethodName := ⟨"ValueBenchModel", "value", "()LValueBenchModel$V;"⟩
def yM_whole : MethodName := ⟨"ValueBenchModel", "whole", "(II)LValueBenchModel$V;"⟩
def yM_word : MethodName := ⟨"ValueBenchModel", "word", "(I)J"⟩
def yV_init : MethodName := ⟨"ValueBenchModel$V", "<init>", "()V"⟩
def yJS_charAt : MethodName := ⟨"java/lang/String", "charAt", "(I)C"⟩
def yJS_checkIndex : MethodName := ⟨"java/lang/String", "checkIndex", "(II)V"⟩
def yJS_coder : MethodName := ⟨"java/lang/String", "coder", "()B"⟩
def yJS_isLatin1 : MethodName := ⟨"java/lang/String", "isLatin1", "()Z"⟩
def yJS_length : MethodName := ⟨"java/lang/String", "length", "()I"⟩
def yJT_charAt : MethodName := ⟨"java/lang/StringLatin1", "charAt", "([BI)C"⟩
def yJP_checkIndex : MethodName := ⟨"jdk/internal/util/Preconditions", "checkIndex", "(IILjava/util/function/BiFunction;)I"⟩
def wyB_init : List Cond := .code yB_init prog_1_method_1_code 2 none :: xw
def wyB_binary : List Cond := .code yB_binary prog_1_method_6_code 5 none :: xw
def wyB_compare : List Cond := .code yB_compare prog_1_method_7_code 3 (some .int) :: xw
def wyB_count : List Cond := .code yB_count prog_1_method_13_code 2 (some .int) :: xw
def wyB_demand : List Cond := .code yB_demand prog_1_method_16_code 1 none :: xw
def wyB_demandDone : List Cond := .code yB_demandDone prog_1_method_17_code 2 none :: xw
def wyB_end : List Cond := .code yB_end prog_1_method_3_code 2 (some .int) :: xw
def wyB_feed : List Cond := .code yB_feed prog_1_method_2_code 6 (some .int) :: xw
def wyB_isRegister : List Cond := .code yB_isRegister prog_1_method_14_code 1 (some .boolean) :: xw
def wyB_isWithin : List Cond := .code yB_isWithin prog_1_method_15_code 2 (some .boolean) :: xw
def wyB_keepSpare : List Cond := .code yB_keepSpare prog_1_method_18_code 3 (some .int) :: xw
def wyB_one : List Cond := .code yB_one prog_1_method_9_code 4 none :: xw
def wyB_print : List Cond := .code yB_print prog_1_method_5_code 2 (some .int) :: xw
def wyB_read : List Cond := .code yB_read prog_1_method_4_code 2 (some .int) :: xw
def wyB_same : List Cond := .code yB_same prog_1_method_8_code 3 (some .boolean) :: xw
def wyB_sort : List Cond := .code yB_sort prog_1_method_11_code 5 none :: xw
def wyB_two : List Cond := .code yB_two prog_1_method_10_code 5 none :: xw
def wyB_word : List Cond := .code yB_word prog_1_method_12_code 5 (some .long) :: xw
def wyK_apply : List Cond := .code yK_apply prog_2_method_2_code 5 (some .int) :: xw
def wyA_apply : List Cond := .code yA_apply prog_3_method_2_code 4 (some .int) :: xw
def wyA_minus : List Cond := .code yA_minus prog_3_method_10_code 7 (some .int) :: xw
def wyA_pieces : List Cond := .code yA_pieces prog_3_method_14_code 5 (some .int) :: xw
def wyA_plus : List Cond := .code yA_plus prog_3_method_6_code 3 (some .int) :: xw
def wyA_times : List Cond := .code yA_times prog_3_method_12_code 3 (some .int) :: xw
def wyO_isSame : List Cond := .code yO_isSame prog_4_method_3_code 4 (some .boolean) :: xw
def wyO_of : List Cond := .code yO_of prog_4_method_2_code 5 (some .int) :: xw
def wyH_apply : List Cond := .code yH_apply prog_5_method_2_code 5 (some .int) :: xw
def wyH_areOfOneKind : List Cond := .code yH_areOfOneKind prog_5_method_9_code 4 (some .boolean) :: xw
def wyH_areStrings : List Cond := .code yH_areStrings prog_5_method_6_code 2 (some .boolean) :: xw
def wyH_at : List Cond := .code yH_at prog_5_method_28_code 4 (some .int) :: xw
def wyH_contains : List Cond := .code yH_contains prog_5_method_8_code 3 (some .int) :: xw
def wyH_copy : List Cond := .code yH_copy prog_5_method_5_code 3 (some .int) :: xw
def wyH_flat : List Cond := .code yH_flat prog_5_method_26_code 5 (some .int) :: xw
def wyH_has : List Cond := .code yH_has prog_5_method_7_code 3 (some .int) :: xw
def wyH_indices : List Cond := .code yH_indices prog_5_method_22_code 6 (some .int) :: xw
def wyH_isIn : List Cond := .code yH_isIn prog_5_method_11_code 5 (some .boolean) :: xw
def wyH_joined : List Cond := .code yH_joined prog_5_method_16_code 6 (some .int) :: xw
def wyH_nothing : List Cond := .code yH_nothing prog_5_method_4_code 1 (some .int) :: xw
def wyH_truth : List Cond := .code yH_truth prog_5_method_3_code 2 (some .int) :: xw
def wyH_withoutBeginning : List Cond := .code yH_withoutBeginning prog_5_method_20_code 3 (some .int) :: xw
def wyH_withoutEnd : List Cond := .code yH_withoutEnd prog_5_method_21_code 3 (some .int) :: xw
def wyP_letterOf : List Cond := .code yP_letterOf prog_6_method_6_code 1 (some .int) :: xw
def wyP_write : List Cond := .code yP_write prog_6_method_2_code 4 none :: xw
def wyP_writeCode : List Cond := .code yP_writeCode prog_6_method_5_code 3 none :: xw
def wyP_writeList : List Cond := .code yP_writeList prog_6_method_3_code 7 none :: xw
def wyP_writeString : List Cond := .code yP_writeString prog_6_method_4_code 4 none :: xw
def wyD_init : List Cond := .code yD_init prog_7_method_1_code 3 none :: xw
def wyD_broken : List Cond := .code yD_broken prog_7_method_5_code 2 (some .boolean) :: xw
def wyD_isDigit : List Cond := .code yD_isDigit prog_7_method_13_code 1 (some .boolean) :: xw
def wyD_number : List Cond := .code yD_number prog_7_method_12_code 5 (some .boolean) :: xw
def wyD_readValue : List Cond := .code yD_readValue prog_7_method_2_code 1 (some .int) :: xw
def wyD_skipBlanks : List Cond := .code yD_skipBlanks prog_7_method_8_code 1 none :: xw
def wyD_value : List Cond := .code yD_value prog_7_method_10_code 2 (some .boolean) :: xw
def wyR_init : List Cond := .code yR_init prog_8_method_1_code 1 none :: xw
def wyR_after : List Cond := .code yR_after prog_8_method_11_code 2 (some .int) :: xw
def wyR_cell : List Cond := .code yR_cell prog_8_method_5_code 2 (some .long) :: xw
def wyR_clear : List Cond := .code yR_clear prog_8_method_2_code 1 none :: xw
def wyR_close : List Cond := .code yR_close prog_8_method_26_code 4 none :: xw
def wyR_code : List Cond := .code yR_code prog_8_method_10_code 4 (some .int) :: xw
def wyR_is : List Cond := .code yR_is prog_8_method_7_code 3 (some .boolean) :: xw
def wyR_isOver : List Cond := .code yR_isOver prog_8_method_4_code 1 (some .boolean) :: xw
def wyR_kind : List Cond := .code yR_kind prog_8_method_6_code 2 (some .int) :: xw
def wyR_length : List Cond := .code yR_length prog_8_method_9_code 2 (some .int) :: xw
def wyR_number : List Cond := .code yR_number prog_8_method_8_code 2 (some .long) :: xw
def wyR_open : List Cond := .code yR_open prog_8_method_25_code 1 (some .int) :: xw
def wyR_put : List Cond := .code yR_put prog_8_method_16_code 3 none :: xw
def wyR_putCells : List Cond := .code yR_putCells prog_8_method_24_code 4 none :: xw
def wyR_putCopy : List Cond := .code yR_putCopy prog_8_method_22_code 3 none :: xw
def wyR_putNull : List Cond := .code yR_putNull prog_8_method_19_code 1 none :: xw
def wyR_putNumber : List Cond := .code yR_putNumber prog_8_method_17_code 3 none :: xw
def wyR_putText : List Cond := .code yR_putText prog_8_method_20_code 4 none :: xw
def wyR_putTruth : List Cond := .code yR_putTruth prog_8_method_18_code 2 none :: xw
def wyG_apply : List Cond := .code yG_apply prog_9_method_2_code 5 (some .int) :: xw
def wyG_codes : List Cond := .code yG_codes prog_9_method_14_code 4 (some .int) :: xw
def wyG_fromJson : List Cond := .code yG_fromJson prog_9_method_9_code 3 (some .int) :: xw
def wyG_inCase : List Cond := .code yG_inCase prog_9_method_17_code 8 (some .int) :: xw
def wyG_isOfNumbers : List Cond := .code yG_isOfNumbers prog_9_method_16_code 3 (some .boolean) :: xw
def wyG_keys : List Cond := .code yG_keys prog_9_method_5_code 5 (some .int) :: xw
def wyG_length : List Cond := .code yG_length prog_9_method_4_code 2 (some .int) :: xw
def wyG_ofCodes : List Cond := .code yG_ofCodes prog_9_method_15_code 6 (some .int) :: xw
def wyG_printed : List Cond := .code yG_printed prog_9_method_7_code 3 (some .int) :: xw
def wyG_reversed : List Cond := .code yG_reversed prog_9_method_11_code 3 (some .int) :: xw
def wyG_toNumber : List Cond := .code yG_toNumber prog_9_method_8_code 3 (some .int) :: xw
def wyS_init : List Cond := .code yS_init prog_10_method_1_code 1 none :: xw
def wyT_init : List Cond := .code yT_init prog_11_method_1_code 1 none :: xw
def wyT_add : List Cond := .code yT_add prog_11_method_8_code 2 none :: xw
def wyT_addInt : List Cond := .code yT_addInt prog_11_method_9_code 3 none :: xw
def wyT_addNumber : List Cond := .code yT_addNumber prog_11_method_12_code 7 none :: xw
def wyT_addWord : List Cond := .code yT_addWord prog_11_method_10_code 3 none :: xw
def wyT_at : List Cond := .code yT_at prog_11_method_7_code 2 (some .int) :: xw
def wyT_clear : List Cond := .code yT_clear prog_11_method_2_code 1 none :: xw
def wyT_isOver : List Cond := .code yT_isOver prog_11_method_5_code 1 (some .boolean) :: xw
def wyT_keep : List Cond := .code yT_keep prog_11_method_3_code 2 none :: xw
def wyT_size : List Cond := .code yT_size prog_11_method_4_code 1 (some .int) :: xw
def wyL_binary : List Cond := .codeWith yL_binary method_7_code 6 (some .int) [(0, 9, 12, 19), (0, 9, 16, 33), (0, 9, 20, 13)] :: xw
def wyL_compare : List Cond := .codeWith yL_compare method_8_code 5 (some .int) [(0, 10, 13, 19)] :: xw
def wyL_count : List Cond := .codeWith yL_count method_14_code 4 (some .int) [(0, 9, 12, 19)] :: xw
def wyL_end : List Cond := .codeWith yL_end method_4_code 4 (some .int) [(0, 9, 12, 19)] :: xw
def wyL_feed : List Cond := .codeWith yL_feed method_3_code 8 (some .int) [(0, 16, 19, 13)] :: xw
def wyL_one : List Cond := .codeWith yL_one method_10_code 5 (some .int) [(0, 7, 10, 19), (0, 7, 14, 33), (0, 7, 18, 13)] :: xw
def wyL_print : List Cond := .codeWith yL_print method_6_code 4 (some .int) [(0, 9, 12, 19)] :: xw
def wyL_read : List Cond := .codeWith yL_read method_5_code 4 (some .int) [(0, 9, 12, 19), (0, 9, 15, 24), (0, 9, 18, 13)] :: xw
def wyL_same : List Cond := .codeWith yL_same method_9_code 5 (some .int) [(0, 17, 20, 19)] :: xw
def wyL_sort : List Cond := .codeWith yL_sort method_12_code 6 (some .int) [(0, 9, 12, 19), (0, 9, 16, 33), (0, 9, 20, 13)] :: xw
def wyL_two : List Cond := .codeWith yL_two method_11_code 6 (some .int) [(0, 9, 12, 19), (0, 9, 16, 33), (0, 9, 20, 13)] :: xw
def wyL_word : List Cond := .codeWith yL_word method_13_code 4 (some .int) [(0, 8, 11, 13)] :: xw
def wyM_init : List Cond := .code yM_init prog_13_method_1_code 3 none :: xw
def wyM_added : List Cond := .code yM_added prog_13_method_49_code 6 (some (.object "ValueBenchModel$V")) :: xw
def wyM_alike : List Cond := .code yM_alike prog_13_method_69_code 3 (some .boolean) :: xw
def wyM_array : List Cond := .code yM_array prog_13_method_55_code 2 (some (.object "ValueBenchModel$V")) :: xw
def wyM_at : List Cond := .code yM_at prog_13_method_75_code 5 (some (.object "ValueBenchModel$V")) :: xw
def wyM_bad : List Cond := .code yM_bad prog_13_method_28_code 2 none :: xw
def wyM_begin : List Cond := .code yM_begin prog_13_method_78_code 1 none :: xw
def wyM_binary0 : List Cond := .code yM_binary0 prog_13_method_89_code 5 none :: xw
def wyM_binary1 : List Cond := .code yM_binary1 prog_13_method_48_code 4 (some (.object "ValueBenchModel$V")) :: xw
def wyM_blanks : List Cond := .code yM_blanks prog_13_method_31_code 1 none :: xw
def wyM_cased : List Cond := .code yM_cased prog_13_method_64_code 6 (some (.object "ValueBenchModel$V")) :: xw
def wyM_clear : List Cond := .code yM_clear prog_13_method_18_code 1 none :: xw
def wyM_compare : List Cond := .code yM_compare prog_13_method_91_code 4 (some .int) :: xw
def wyM_contains : List Cond := .code yM_contains prog_13_method_70_code 6 (some .boolean) :: xw
def wyM_count : List Cond := .code yM_count prog_13_method_88_code 2 (some .int) :: xw
def wyM_digit : List Cond := .code yM_digit prog_13_method_30_code 1 (some .boolean) :: xw
def wyM_end : List Cond := .code yM_end prog_13_method_83_code 2 (some .int) :: xw
def wyM_explode : List Cond := .code yM_explode prog_13_method_62_code 4 (some (.object "ValueBenchModel$V")) :: xw
def wyM_fail : List Cond := .code yM_fail prog_13_method_3_code 2 (some .int) :: xw
def wyM_feed : List Cond := .code yM_feed prog_13_method_82_code 8 (some .int) :: xw
def wyM_finish : List Cond := .codeWith yM_finish prog_13_method_90_code 10 none [(0, 128, 131, 83), (0, 128, 149, 86)] :: xw
def wyM_flatten : List Cond := .code yM_flatten prog_13_method_74_code 4 (some (.object "ValueBenchModel$V")) :: xw
def wyM_fresh : List Cond := .code yM_fresh prog_13_method_6_code 4 (some (.object "ValueBenchModel$V")) :: xw
def wyM_fromJson : List Cond := .codeWith yM_fromJson prog_13_method_60_code 10 (some (.object "ValueBenchModel$V")) [(49, 72, 75, 205)] :: xw
def wyM_has : List Cond := .code yM_has prog_13_method_67_code 3 (some (.object "ValueBenchModel$V")) :: xw
def wyM_implode : List Cond := .code yM_implode prog_13_method_63_code 4 (some (.object "ValueBenchModel$V")) :: xw
def wyM_indices : List Cond := .code yM_indices prog_13_method_72_code 9 (some (.object "ValueBenchModel$V")) :: xw
def wyM_isTrue : List Cond := .code yM_isTrue prog_13_method_65_code 2 (some .boolean) :: xw
def wyM_joined : List Cond := .code yM_joined prog_13_method_71_code 8 (some (.object "ValueBenchModel$V")) :: xw
def wyM_json : List Cond := .code yM_json prog_13_method_32_code 5 (some (.object "ValueBenchModel$V")) :: xw
def wyM_keysOf : List Cond := .code yM_keysOf prog_13_method_58_code 5 (some (.object "ValueBenchModel$V")) :: xw
def wyM_length : List Cond := .code yM_length prog_13_method_57_code 2 (some (.object "ValueBenchModel$V")) :: xw
def wyM_letter : List Cond := .code yM_letter prog_13_method_9_code 4 none :: xw
def wyM_number : List Cond := .code yM_number prog_13_method_7_code 4 (some (.object "ValueBenchModel$V")) :: xw
def wyM_one0 : List Cond := .code yM_one0 prog_13_method_92_code 4 none :: xw
def wyM_one1 : List Cond := .code yM_one1 prog_13_method_66_code 3 (some (.object "ValueBenchModel$V")) :: xw
def wyM_order : List Cond := .code yM_order prog_13_method_22_code 5 (some .int) :: xw
def wyM_out : List Cond := .code yM_out prog_13_method_77_code 2 (some .boolean) :: xw
def wyM_peek : List Cond := .code yM_peek prog_13_method_29_code 1 (some .int) :: xw
def wyM_print0 : List Cond := .code yM_print0 prog_13_method_85_code 3 (some .int) :: xw
def wyM_print1 : List Cond := .code yM_print1 prog_13_method_46_code 3 none :: xw
def wyM_put0 : List Cond := .code yM_put0 prog_13_method_41_code 4 none :: xw
def wyM_put1 : List Cond := .code yM_put1 prog_13_method_42_code 3 none :: xw
def wyM_putNumber : List Cond := .code yM_putNumber prog_13_method_43_code 7 none :: xw
def wyM_putString : List Cond := .code yM_putString prog_13_method_45_code 4 none :: xw
def wyM_read : List Cond := .codeWith yM_read prog_13_method_84_code 4 (some .int) [(39, 54, 55, 205), (39, 54, 70, 86)] :: xw
def wyM_refuse : List Cond := .code yM_refuse prog_13_method_4_code 2 (some (.object "ValueBenchModel$V")) :: xw
def wyM_register : List Cond := .code yM_register prog_13_method_79_code 2 (some (.object "ValueBenchModel$V")) :: xw
def wyM_reversed : List Cond := .code yM_reversed prog_13_method_61_code 4 (some (.object "ValueBenchModel$V")) :: xw
def wyM_same0 : List Cond := .code yM_same0 prog_13_method_86_code 3 (some .boolean) :: xw
def wyM_same1 : List Cond := .code yM_same1 prog_13_method_21_code 5 (some .boolean) :: xw
def wyM_says : List Cond := .code yM_says prog_13_method_33_code 4 (some (.object "ValueBenchModel$V")) :: xw
def wyM_sort0 : List Cond := .code yM_sort0 prog_13_method_94_code 5 none :: xw
def wyM_store : List Cond := .code yM_store prog_13_method_80_code 4 (some .int) :: xw
def wyM_string : List Cond := .code yM_string prog_13_method_10_code 3 (some (.object "ValueBenchModel$V")) :: xw
def wyM_text : List Cond := .code yM_text prog_13_method_56_code 2 (some (.object "ValueBenchModel$V")) :: xw
def wyM_thrown : List Cond := .code yM_thrown prog_13_method_2_code 1 (some .int) :: xw
def wyM_times : List Cond := .code yM_times prog_13_method_51_code 7 (some (.object "ValueBenchModel$V")) :: xw
def wyM_toNumber : List Cond := .code yM_toNumber prog_13_method_59_code 7 (some (.object "ValueBenchModel$V")) :: xw
def wyM_told : List Cond := .code yM_told prog_13_method_47_code 6 (some (.object "ValueBenchModel$V")) :: xw
def wyM_truth : List Cond := .code yM_truth prog_13_method_8_code 2 (some (.object "ValueBenchModel$V")) :: xw
def wyM_two0 : List Cond := .code yM_two0 prog_13_method_93_code 5 none :: xw
def wyM_two1 : List Cond := .code yM_two1 prog_13_method_76_code 4 (some (.object "ValueBenchModel$V")) :: xw
def wyM_value : List Cond := .code yM_value prog_13_method_34_code 3 (some (.object "ValueBenchModel$V")) :: xw
def wyM_whole : List Cond := .code yM_whole prog_13_method_15_code 8 (some (.object "ValueBenchModel$V")) :: xw
def wyM_word : List Cond := .code yM_word prog_13_method_87_code 5 (some .long) :: xw
def wyV_init : List Cond := .code yV_init prog_14_method_1_code 1 none :: xw
def wyJS_charAt : List Cond := .code yJS_charAt prog_23_method_56_code 2 (some .char) :: xw
def wyJS_checkIndex : List Cond := .code yJS_checkIndex prog_23_method_155_code 2 none :: xw
def wyJS_coder : List Cond := .code yJS_coder prog_23_method_152_code 1 (some .byte) :: xw
def wyJS_isLatin1 : List Cond := .code yJS_isLatin1 prog_23_method_154_code 1 (some .boolean) :: xw
def wyJS_length : List Cond := .code yJS_length prog_23_method_54_code 1 (some .int) :: xw
def wyJT_charAt : List Cond := .code yJT_charAt prog_24_method_2_code 2 (some .char) :: xw
def wyJP_checkIndex : List Cond := .code yJP_checkIndex prog_29_method_11_code 3 (some .int) :: xw
theorem kw_1_0 : (.initialized "ValueBenchLaw" : Cond) ∈ xw := xw_t (x_t1 (List.mem_of_getElem? (i := 0) rfl)) rfl
theorem kw_1_1 : (.initialized "ValueBench" : Cond) ∈ xw := xw_t (x_t1 (List.mem_of_getElem? (i := 1) rfl)) rfl
theorem kw_1_100 : (.fieldLink "ValueBench" 36 "ValueBench" "spare" "LValueBench$Row;" : Cond) ∈ xw := xw_t (x_t1 (List.mem_of_getElem? (i := 100) rfl)) rfl
theorem kw_1_101 : (.fieldLink "ValueBench" 40 "ValueBench" "place" "I" : Cond) ∈ xw := xw_t (x_t1 (List.mem_of_getElem? (i := 101) rfl)) rfl
theorem kw_1_102 : (.fieldLink "ValueBench" 44 "ValueBench" "reason" "I" : Cond) ∈ xw := xw_t (x_t1 (List.mem_of_getElem? (i := 102) rfl)) rfl
theorem kw_1_120 : (.methodLink "ValueBenchLaw" 64 yL_feed : Cond) ∈ xw := xw_t (x_t1 (List.mem_of_getElem? (i := 120) rfl)) rfl
theorem kw_1_121 : (.static yL_feed : Cond) ∈ xw := xw_t (x_t1 (List.mem_of_getElem? (i := 121) rfl)) rfl
theorem kw_1_122 : (.codeWith yL_feed method_3_code 8 (some .int) [(0, 16, 19, 13)] : Cond) ∈ xw := xw_t (x_t1 (List.mem_of_getElem? (i := 122) rfl)) rfl
theorem kw_1_123 : (.classLink "ValueBenchLaw" 13 "java/lang/IndexOutOfBoundsException" : Cond) ∈ xw := xw_t (x_t1 (List.mem_of_getElem? (i := 123) rfl)) rfl
theorem kw_1_124 : (.methodLink "ValueBenchLaw" 7 yB_feed : Cond) ∈ xw := xw_t (x_t1 (List.mem_of_getElem? (i := 124) rfl)) rfl
theorem kw_1_125 : (.instanceMethod yB_feed : Cond) ∈ xw := xw_t (x_t1 (List.mem_of_getElem? (i := 125) rfl)) rfl
theorem kw_1_126 : (.selects "ValueBench" yB_feed yB_feed : Cond) ∈ xw := xw_t (x_t1 (List.mem_of_getElem? (i := 126) rfl)) rfl
theorem kw_1_127 : (.code yB_feed prog_1_method_2_code 6 (some .int) : Cond) ∈ xw := xw_t (x_t1 (List.mem_of_getElem? (i := 127) rfl)) rfl
theorem kw_1_128 : (.methodLink "ValueBench" 47 yT_size : Cond) ∈ xw := xw_t (x_t1 (List.mem_of_getElem? (i := 128) rfl)) rfl
theorem kw_1_129 : (.instanceMethod yT_size : Cond) ∈ xw := xw_t (x_t1 (List.mem_of_getElem? (i := 129) rfl)) rfl
theorem kw_1_13 : (.initialized "java/lang/IndexOutOfBoundsException" : Cond) ∈ xw := xw_t (x_t1 (List.mem_of_getElem? (i := 13) rfl)) rfl
theorem kw_1_130 : (.selects "ValueBench$Text" yT_size yT_size : Cond) ∈ xw := xw_t (x_t1 (List.mem_of_getElem? (i := 130) rfl)) rfl
theorem kw_1_131 : (.code yT_size prog_11_method_4_code 1 (some .int) : Cond) ∈ xw := xw_t (x_t1 (List.mem_of_getElem? (i := 131) rfl)) rfl
theorem kw_1_132 : (.classLink "ValueBench" 51 "java/lang/IndexOutOfBoundsException" : Cond) ∈ xw := xw_t (x_t1 (List.mem_of_getElem? (i := 132) rfl)) rfl
theorem kw_1_14 : (.initialized "java/lang/IllegalArgumentException" : Cond) ∈ xw := xw_t (x_t1 (List.mem_of_getElem? (i := 14) rfl)) rfl
theorem kw_1_15 : (.initialized "java/lang/Math" : Cond) ∈ xw := xw_t (x_t1 (List.mem_of_getElem? (i := 15) rfl)) rfl
theorem kw_1_16 : (.initialized "ValueBench$Reader" : Cond) ∈ xw := xw_t (x_t1 (List.mem_of_getElem? (i := 16) rfl)) rfl
theorem kw_1_17 : (.initialized "java/lang/UnsupportedOperationException" : Cond) ∈ xw := xw_t (x_t1 (List.mem_of_getElem? (i := 17) rfl)) rfl
theorem kw_1_18 : (.initialized "ValueBench$Printer" : Cond) ∈ xw := xw_t (x_t1 (List.mem_of_getElem? (i := 18) rfl)) rfl
theorem kw_1_19 : (.initialized "ValueBenchModel$V" : Cond) ∈ xw := xw_t (x_t1 (List.mem_of_getElem? (i := 19) rfl)) rfl
theorem kw_1_2 : (.initialized "ValueBench$Text" : Cond) ∈ xw := xw_t (x_t1 (List.mem_of_getElem? (i := 2) rfl)) rfl
theorem kw_1_20 : (.initialized "java/lang/ArithmeticException" : Cond) ∈ xw := xw_t (x_t1 (List.mem_of_getElem? (i := 20) rfl)) rfl
theorem kw_1_200 : (.methodLink "ValueBench" 58 yT_addInt : Cond) ∈ xw := xw_t (x_t1 (List.mem_of_getElem? (i := 200) rfl)) rfl
theorem kw_1_201 : (.instanceMethod yT_addInt : Cond) ∈ xw := xw_t (x_t1 (List.mem_of_getElem? (i := 201) rfl)) rfl
theorem kw_1_202 : (.selects "ValueBench$Text" yT_addInt yT_addInt : Cond) ∈ xw := xw_t (x_t1 (List.mem_of_getElem? (i := 202) rfl)) rfl
theorem kw_1_203 : (.code yT_addInt prog_11_method_9_code 3 none : Cond) ∈ xw := xw_t (x_t1 (List.mem_of_getElem? (i := 203) rfl)) rfl
theorem kw_1_204 : (.methodLink "ValueBench$Text" 32 yT_add : Cond) ∈ xw := xw_t (x_t1 (List.mem_of_getElem? (i := 204) rfl)) rfl
theorem kw_1_205 : (.instanceMethod yT_add : Cond) ∈ xw := xw_t (x_t1 (List.mem_of_getElem? (i := 205) rfl)) rfl
theorem kw_1_206 : (.selects "ValueBench$Text" yT_add yT_add : Cond) ∈ xw := xw_t (x_t1 (List.mem_of_getElem? (i := 206) rfl)) rfl
theorem kw_1_207 : (.code yT_add prog_11_method_8_code 2 none : Cond) ∈ xw := xw_t (x_t1 (List.mem_of_getElem? (i := 207) rfl)) rfl
theorem kw_1_208 : (.methodLink "ValueBenchLaw" 74 yL_end : Cond) ∈ xw := xw_t (x_t1 (List.mem_of_getElem? (i := 208) rfl)) rfl
theorem kw_1_209 : (.static yL_end : Cond) ∈ xw := xw_t (x_t1 (List.mem_of_getElem? (i := 209) rfl)) rfl
theorem kw_1_21 : (.initialized "ValueBench$Operators" : Cond) ∈ xw := xw_t (x_t1 (List.mem_of_getElem? (i := 21) rfl)) rfl
theorem kw_1_210 : (.codeWith yL_end method_4_code 4 (some .int) [(0, 9, 12, 19)] : Cond) ∈ xw := xw_t (x_t1 (List.mem_of_getElem? (i := 210) rfl)) rfl
theorem kw_1_211 : (.classLink "ValueBenchLaw" 19 "java/lang/IllegalArgumentException" : Cond) ∈ xw := xw_t (x_t1 (List.mem_of_getElem? (i := 211) rfl)) rfl
theorem kw_1_212 : (.methodLink "ValueBenchLaw" 15 yB_end : Cond) ∈ xw := xw_t (x_t1 (List.mem_of_getElem? (i := 212) rfl)) rfl
theorem kw_1_213 : (.instanceMethod yB_end : Cond) ∈ xw := xw_t (x_t1 (List.mem_of_getElem? (i := 213) rfl)) rfl
theorem kw_1_214 : (.selects "ValueBench" yB_end yB_end : Cond) ∈ xw := xw_t (x_t1 (List.mem_of_getElem? (i := 214) rfl)) rfl
theorem kw_1_215 : (.code yB_end prog_1_method_3_code 2 (some .int) : Cond) ∈ xw := xw_t (x_t1 (List.mem_of_getElem? (i := 215) rfl)) rfl
theorem kw_1_216 : (.methodLink "ValueBench" 62 yB_isWithin : Cond) ∈ xw := xw_t (x_t1 (List.mem_of_getElem? (i := 216) rfl)) rfl
theorem kw_1_217 : (.static yB_isWithin : Cond) ∈ xw := xw_t (x_t1 (List.mem_of_getElem? (i := 217) rfl)) rfl
theorem kw_1_218 : (.code yB_isWithin prog_1_method_15_code 2 (some .boolean) : Cond) ∈ xw := xw_t (x_t1 (List.mem_of_getElem? (i := 218) rfl)) rfl
theorem kw_1_219 : (.methodLink "ValueBench" 66 yB_demand : Cond) ∈ xw := xw_t (x_t1 (List.mem_of_getElem? (i := 219) rfl)) rfl
theorem kw_1_22 : (.initialized "java/lang/System" : Cond) ∈ xw := xw_t (x_t1 (List.mem_of_getElem? (i := 22) rfl)) rfl
theorem kw_1_220 : (.static yB_demand : Cond) ∈ xw := xw_t (x_t1 (List.mem_of_getElem? (i := 220) rfl)) rfl
theorem kw_1_221 : (.code yB_demand prog_1_method_16_code 1 none : Cond) ∈ xw := xw_t (x_t1 (List.mem_of_getElem? (i := 221) rfl)) rfl
theorem kw_1_222 : (.classLink "ValueBench" 149 "java/lang/IllegalArgumentException" : Cond) ∈ xw := xw_t (x_t1 (List.mem_of_getElem? (i := 222) rfl)) rfl
theorem kw_1_23 : (.initialized "ValueBench$Order" : Cond) ∈ xw := xw_t (x_t1 (List.mem_of_getElem? (i := 23) rfl)) rfl
theorem kw_1_238 : (.methodLink "ValueBench" 70 yT_keep : Cond) ∈ xw := xw_t (x_t1 (List.mem_of_getElem? (i := 238) rfl)) rfl
theorem kw_1_239 : (.instanceMethod yT_keep : Cond) ∈ xw := xw_t (x_t1 (List.mem_of_getElem? (i := 239) rfl)) rfl
theorem kw_1_26 : (.initialized "ValueBench$Singles" : Cond) ∈ xw := xw_t (x_t1 (List.mem_of_getElem? (i := 26) rfl)) rfl
theorem kw_1_27 : (.initialized "ValueBench$Pairs" : Cond) ∈ xw := xw_t (x_t1 (List.mem_of_getElem? (i := 27) rfl)) rfl
theorem kw_1_28 : (.initialized "ValueBench$Keyed" : Cond) ∈ xw := xw_t (x_t1 (List.mem_of_getElem? (i := 28) rfl)) rfl
theorem kw_1_29 : (.classLink "ValueBenchLaw" 8 "ValueBench" : Cond) ∈ xw := xw_t (x_t1 (List.mem_of_getElem? (i := 29) rfl)) rfl
theorem kw_1_3 : (.initialized "ValueBench$Sorter" : Cond) ∈ xw := xw_t (x_t1 (List.mem_of_getElem? (i := 3) rfl)) rfl
theorem kw_1_30 : (.instantiable "ValueBench" 8 : Cond) ∈ xw := xw_t (x_t1 (List.mem_of_getElem? (i := 30) rfl)) rfl
theorem kw_1_31 : (.methodLink "ValueBenchLaw" 60 yB_init : Cond) ∈ xw := xw_t (x_t1 (List.mem_of_getElem? (i := 31) rfl)) rfl
theorem kw_1_32 : (.instanceMethod yB_init : Cond) ∈ xw := xw_t (x_t1 (List.mem_of_getElem? (i := 32) rfl)) rfl
theorem kw_1_33 : (.code yB_init prog_1_method_1_code 2 none : Cond) ∈ xw := xw_t (x_t1 (List.mem_of_getElem? (i := 33) rfl)) rfl
theorem kw_1_34 : (.methodLink "ValueBench" 1 objectInit : Cond) ∈ xw := xw_t (x_t1 (List.mem_of_getElem? (i := 34) rfl)) rfl
theorem kw_1_35 : (.instanceMethod objectInit : Cond) ∈ xw := xw_t (x_t1 (List.mem_of_getElem? (i := 35) rfl)) rfl
theorem kw_1_36 : (.code objectInit ⟨#[0xb1]⟩ 1 none : Cond) ∈ xw := xw_t (x_t1 (List.mem_of_getElem? (i := 36) rfl)) rfl
theorem kw_1_37 : (.classLink "ValueBench" 7 "ValueBench$Text" : Cond) ∈ xw := xw_t (x_t1 (List.mem_of_getElem? (i := 37) rfl)) rfl
theorem kw_1_38 : (.instantiable "ValueBench$Text" 3 : Cond) ∈ xw := xw_t (x_t1 (List.mem_of_getElem? (i := 38) rfl)) rfl
theorem kw_1_4 : (.initialized "ValueBench$Row" : Cond) ∈ xw := xw_t (x_t1 (List.mem_of_getElem? (i := 4) rfl)) rfl
theorem kw_1_40 : (.instanceMethod yT_init : Cond) ∈ xw := xw_t (x_t1 (List.mem_of_getElem? (i := 40) rfl)) rfl
theorem kw_1_41 : (.code yT_init prog_11_method_1_code 1 none : Cond) ∈ xw := xw_t (x_t1 (List.mem_of_getElem? (i := 41) rfl)) rfl
theorem kw_1_42 : (.methodLink "ValueBench$Text" 3 objectInit : Cond) ∈ xw := xw_t (x_t1 (List.mem_of_getElem? (i := 42) rfl)) rfl
theorem kw_1_43 : (.fieldLink "ValueBench$Text" 9 "ValueBench$Text" "bytes" "[B" : Cond) ∈ xw := xw_t (x_t1 (List.mem_of_getElem? (i := 43) rfl)) rfl
theorem kw_1_44 : (.fieldLink "ValueBench$Text" 15 "ValueBench$Text" "length" "I" : Cond) ∈ xw := xw_t (x_t1 (List.mem_of_getElem? (i := 44) rfl)) rfl
theorem kw_1_45 : (.fieldLink "ValueBench$Text" 19 "ValueBench$Text" "over" "Z" : Cond) ∈ xw := xw_t (x_t1 (List.mem_of_getElem? (i := 45) rfl)) rfl
theorem kw_1_5 : (.initialized "ValueBenchModel" : Cond) ∈ xw := xw_t (x_t1 (List.mem_of_getElem? (i := 5) rfl)) rfl
theorem kw_1_53 : (.arrayClass .byte : Cond) ∈ xw := xw_t (x_t1 (List.mem_of_getElem? (i := 53) rfl)) rfl
theorem kw_1_54 : (.classLink "ValueBench" 22 "ValueBench$Row" : Cond) ∈ xw := xw_t (x_t1 (List.mem_of_getElem? (i := 54) rfl)) rfl
theorem kw_1_56 : (.classLink "ValueBench" 28 "ValueBench$Sorter" : Cond) ∈ xw := xw_t (x_t1 (List.mem_of_getElem? (i := 56) rfl)) rfl
theorem kw_1_57 : (.instantiable "ValueBench$Sorter" 5 : Cond) ∈ xw := xw_t (x_t1 (List.mem_of_getElem? (i := 57) rfl)) rfl
theorem kw_1_59 : (.instanceMethod yS_init : Cond) ∈ xw := xw_t (x_t1 (List.mem_of_getElem? (i := 59) rfl)) rfl
theorem kw_1_6 : (.initialized "java/lang/String" : Cond) ∈ xw := xw_t (x_t1 (List.mem_of_getElem? (i := 6) rfl)) rfl
theorem kw_1_60 : (.code yS_init prog_10_method_1_code 1 none : Cond) ∈ xw := xw_t (x_t1 (List.mem_of_getElem? (i := 60) rfl)) rfl
theorem kw_1_61 : (.methodLink "ValueBench$Sorter" 3 objectInit : Cond) ∈ xw := xw_t (x_t1 (List.mem_of_getElem? (i := 61) rfl)) rfl
theorem kw_1_62 : (.fieldLink "ValueBench$Sorter" 11 "ValueBench$Sorter" "keyAt" "[I" : Cond) ∈ xw := xw_t (x_t1 (List.mem_of_getElem? (i := 62) rfl)) rfl
theorem kw_1_63 : (.fieldLink "ValueBench$Sorter" 15 "ValueBench$Sorter" "elementAt" "[I" : Cond) ∈ xw := xw_t (x_t1 (List.mem_of_getElem? (i := 63) rfl)) rfl
theorem kw_1_64 : (.fieldLink "ValueBench$Sorter" 18 "ValueBench$Sorter" "turns" "[I" : Cond) ∈ xw := xw_t (x_t1 (List.mem_of_getElem? (i := 64) rfl)) rfl
theorem kw_1_65 : (.fieldLink "ValueBench$Sorter" 21 "ValueBench$Sorter" "merged" "[I" : Cond) ∈ xw := xw_t (x_t1 (List.mem_of_getElem? (i := 65) rfl)) rfl
theorem kw_1_66 : (.fieldLink "ValueBench$Sorter" 24 "ValueBench$Sorter" "total" "I" : Cond) ∈ xw := xw_t (x_t1 (List.mem_of_getElem? (i := 66) rfl)) rfl
theorem kw_1_7 : (.initialized "java/lang/StringLatin1" : Cond) ∈ xw := xw_t (x_t1 (List.mem_of_getElem? (i := 7) rfl)) rfl
theorem kw_1_78 : (.arrayClass .int : Cond) ∈ xw := xw_t (x_t1 (List.mem_of_getElem? (i := 78) rfl)) rfl
theorem kw_1_79 : (.instantiable "ValueBench$Row" 3 : Cond) ∈ xw := xw_t (x_t1 (List.mem_of_getElem? (i := 79) rfl)) rfl
theorem kw_1_8 : (.initialized "jdk/internal/util/Preconditions" : Cond) ∈ xw := xw_t (x_t1 (List.mem_of_getElem? (i := 8) rfl)) rfl
theorem kw_1_81 : (.instanceMethod yR_init : Cond) ∈ xw := xw_t (x_t1 (List.mem_of_getElem? (i := 81) rfl)) rfl
theorem kw_1_82 : (.code yR_init prog_8_method_1_code 1 none : Cond) ∈ xw := xw_t (x_t1 (List.mem_of_getElem? (i := 82) rfl)) rfl
theorem kw_1_83 : (.methodLink "ValueBench$Row" 3 objectInit : Cond) ∈ xw := xw_t (x_t1 (List.mem_of_getElem? (i := 83) rfl)) rfl
theorem kw_1_84 : (.fieldLink "ValueBench$Row" 9 "ValueBench$Row" "cells" "[J" : Cond) ∈ xw := xw_t (x_t1 (List.mem_of_getElem? (i := 84) rfl)) rfl
theorem kw_1_85 : (.fieldLink "ValueBench$Row" 15 "ValueBench$Row" "size" "I" : Cond) ∈ xw := xw_t (x_t1 (List.mem_of_getElem? (i := 85) rfl)) rfl
theorem kw_1_86 : (.fieldLink "ValueBench$Row" 19 "ValueBench$Row" "over" "Z" : Cond) ∈ xw := xw_t (x_t1 (List.mem_of_getElem? (i := 86) rfl)) rfl
theorem kw_1_94 : (.arrayClass .long : Cond) ∈ xw := xw_t (x_t1 (List.mem_of_getElem? (i := 94) rfl)) rfl
theorem kw_1_95 : (.fieldLink "ValueBench" 10 "ValueBench" "tape" "LValueBench$Text;" : Cond) ∈ xw := xw_t (x_t1 (List.mem_of_getElem? (i := 95) rfl)) rfl
theorem kw_1_96 : (.fieldLink "ValueBench" 16 "ValueBench" "result" "LValueBench$Text;" : Cond) ∈ xw := xw_t (x_t1 (List.mem_of_getElem? (i := 96) rfl)) rfl
theorem kw_1_97 : (.fieldLink "ValueBench" 19 "ValueBench" "scratch" "LValueBench$Text;" : Cond) ∈ xw := xw_t (x_t1 (List.mem_of_getElem? (i := 97) rfl)) rfl
theorem kw_1_98 : (.fieldLink "ValueBench" 24 "ValueBench" "registers" "[LValueBench$Row;" : Cond) ∈ xw := xw_t (x_t1 (List.mem_of_getElem? (i := 98) rfl)) rfl
theorem kw_1_99 : (.fieldLink "ValueBench" 31 "ValueBench" "sorter" "LValueBench$Sorter;" : Cond) ∈ xw := xw_t (x_t1 (List.mem_of_getElem? (i := 99) rfl)) rfl
theorem kw_2_0 : (.selects "ValueBench$Text" yT_keep yT_keep : Cond) ∈ xw := xw_t (x_t2 (List.mem_of_getElem? (i := 0) rfl)) rfl
theorem kw_2_1 : (.code yT_keep prog_11_method_3_code 2 none : Cond) ∈ xw := xw_t (x_t2 (List.mem_of_getElem? (i := 1) rfl)) rfl
theorem kw_2_10 : (.codeWith yL_read method_5_code 4 (some .int) [(0, 9, 12, 19), (0, 9, 15, 24), (0, 9, 18, 13)] : Cond) ∈ xw := xw_t (x_t2 (List.mem_of_getElem? (i := 10) rfl)) rfl
theorem kw_2_11 : (.classLink "ValueBenchLaw" 24 "java/lang/UnsupportedOperationException" : Cond) ∈ xw := xw_t (x_t2 (List.mem_of_getElem? (i := 11) rfl)) rfl
theorem kw_2_119 : (.methodLink "ValueBench$Reader" 46 yD_broken : Cond) ∈ xw := xw_t (x_t2 (List.mem_of_getElem? (i := 119) rfl)) rfl
theorem kw_2_12 : (.methodLink "ValueBenchLaw" 21 yB_read : Cond) ∈ xw := xw_t (x_t2 (List.mem_of_getElem? (i := 12) rfl)) rfl
theorem kw_2_121 : (.instanceMethod yD_broken : Cond) ∈ xw := xw_t (x_t2 (List.mem_of_getElem? (i := 121) rfl)) rfl
theorem kw_2_122 : (.code yD_broken prog_7_method_5_code 2 (some .boolean) : Cond) ∈ xw := xw_t (x_t2 (List.mem_of_getElem? (i := 122) rfl)) rfl
theorem kw_2_124 : (.instanceMethod yR_put : Cond) ∈ xw := xw_t (x_t2 (List.mem_of_getElem? (i := 124) rfl)) rfl
theorem kw_2_125 : (.selects "ValueBench$Row" yR_put yR_put : Cond) ∈ xw := xw_t (x_t2 (List.mem_of_getElem? (i := 125) rfl)) rfl
theorem kw_2_126 : (.code yR_put prog_8_method_16_code 3 none : Cond) ∈ xw := xw_t (x_t2 (List.mem_of_getElem? (i := 126) rfl)) rfl
theorem kw_2_13 : (.instanceMethod yB_read : Cond) ∈ xw := xw_t (x_t2 (List.mem_of_getElem? (i := 13) rfl)) rfl
theorem kw_2_134 : (.instanceMethod yR_open : Cond) ∈ xw := xw_t (x_t2 (List.mem_of_getElem? (i := 134) rfl)) rfl
theorem kw_2_135 : (.selects "ValueBench$Row" yR_open yR_open : Cond) ∈ xw := xw_t (x_t2 (List.mem_of_getElem? (i := 135) rfl)) rfl
theorem kw_2_136 : (.code yR_open prog_8_method_25_code 1 (some .int) : Cond) ∈ xw := xw_t (x_t2 (List.mem_of_getElem? (i := 136) rfl)) rfl
theorem kw_2_137 : (.methodLink "ValueBench$Row" 52 yR_put : Cond) ∈ xw := xw_t (x_t2 (List.mem_of_getElem? (i := 137) rfl)) rfl
theorem kw_2_14 : (.selects "ValueBench" yB_read yB_read : Cond) ∈ xw := xw_t (x_t2 (List.mem_of_getElem? (i := 14) rfl)) rfl
theorem kw_2_15 : (.code yB_read prog_1_method_4_code 2 (some .int) : Cond) ∈ xw := xw_t (x_t2 (List.mem_of_getElem? (i := 15) rfl)) rfl
theorem kw_2_16 : (.methodLink "ValueBench" 73 yB_isRegister : Cond) ∈ xw := xw_t (x_t2 (List.mem_of_getElem? (i := 16) rfl)) rfl
theorem kw_2_165 : (.instanceMethod yR_close : Cond) ∈ xw := xw_t (x_t2 (List.mem_of_getElem? (i := 165) rfl)) rfl
theorem kw_2_166 : (.selects "ValueBench$Row" yR_close yR_close : Cond) ∈ xw := xw_t (x_t2 (List.mem_of_getElem? (i := 166) rfl)) rfl
theorem kw_2_167 : (.code yR_close prog_8_method_26_code 4 none : Cond) ∈ xw := xw_t (x_t2 (List.mem_of_getElem? (i := 167) rfl)) rfl
theorem kw_2_17 : (.static yB_isRegister : Cond) ∈ xw := xw_t (x_t2 (List.mem_of_getElem? (i := 17) rfl)) rfl
theorem kw_2_18 : (.code yB_isRegister prog_1_method_14_code 1 (some .boolean) : Cond) ∈ xw := xw_t (x_t2 (List.mem_of_getElem? (i := 18) rfl)) rfl
theorem kw_2_189 : (.instanceMethod yR_length : Cond) ∈ xw := xw_t (x_t2 (List.mem_of_getElem? (i := 189) rfl)) rfl
theorem kw_2_19 : (.methodLink "ValueBench" 77 yR_clear : Cond) ∈ xw := xw_t (x_t2 (List.mem_of_getElem? (i := 19) rfl)) rfl
theorem kw_2_190 : (.selects "ValueBench$Row" yR_length yR_length : Cond) ∈ xw := xw_t (x_t2 (List.mem_of_getElem? (i := 190) rfl)) rfl
theorem kw_2_191 : (.code yR_length prog_8_method_9_code 2 (some .int) : Cond) ∈ xw := xw_t (x_t2 (List.mem_of_getElem? (i := 191) rfl)) rfl
theorem kw_2_192 : (.constant "ValueBench$Row" 27 65535 : Cond) ∈ xw := xw_t (x_t2 (List.mem_of_getElem? (i := 192) rfl)) rfl
theorem kw_2_193 : (.methodLink "ValueBench$Row" 35 yR_after : Cond) ∈ xw := xw_t (x_t2 (List.mem_of_getElem? (i := 193) rfl)) rfl
theorem kw_2_194 : (.instanceMethod yR_after : Cond) ∈ xw := xw_t (x_t2 (List.mem_of_getElem? (i := 194) rfl)) rfl
theorem kw_2_195 : (.selects "ValueBench$Row" yR_after yR_after : Cond) ∈ xw := xw_t (x_t2 (List.mem_of_getElem? (i := 195) rfl)) rfl
theorem kw_2_196 : (.code yR_after prog_8_method_11_code 2 (some .int) : Cond) ∈ xw := xw_t (x_t2 (List.mem_of_getElem? (i := 196) rfl)) rfl
theorem kw_2_197 : (.constantLong "ValueBench$Row" 28 7 : Cond) ∈ xw := xw_t (x_t2 (List.mem_of_getElem? (i := 197) rfl)) rfl
theorem kw_2_198 : (.constantLong "ValueBench$Row" 30 4 : Cond) ∈ xw := xw_t (x_t2 (List.mem_of_getElem? (i := 198) rfl)) rfl
theorem kw_2_2 : (.methodLink "ValueBench$Text" 23 Lib.Math.min.name : Cond) ∈ xw := xw_t (x_t2 (List.mem_of_getElem? (i := 2) rfl)) rfl
theorem kw_2_20 : (.instanceMethod yR_clear : Cond) ∈ xw := xw_t (x_t2 (List.mem_of_getElem? (i := 20) rfl)) rfl
theorem kw_2_200 : (.instanceMethod yR_cell : Cond) ∈ xw := xw_t (x_t2 (List.mem_of_getElem? (i := 200) rfl)) rfl
theorem kw_2_201 : (.selects "ValueBench$Row" yR_cell yR_cell : Cond) ∈ xw := xw_t (x_t2 (List.mem_of_getElem? (i := 201) rfl)) rfl
theorem kw_2_202 : (.code yR_cell prog_8_method_5_code 2 (some .long) : Cond) ∈ xw := xw_t (x_t2 (List.mem_of_getElem? (i := 202) rfl)) rfl
theorem kw_2_21 : (.selects "ValueBench$Row" yR_clear yR_clear : Cond) ∈ xw := xw_t (x_t2 (List.mem_of_getElem? (i := 21) rfl)) rfl
theorem kw_2_211 : (.methodLink "ValueBench$Reader" 36 yD_number : Cond) ∈ xw := xw_t (x_t2 (List.mem_of_getElem? (i := 211) rfl)) rfl
theorem kw_2_213 : (.instanceMethod yD_number : Cond) ∈ xw := xw_t (x_t2 (List.mem_of_getElem? (i := 213) rfl)) rfl
theorem kw_2_214 : (.code yD_number prog_7_method_12_code 5 (some .boolean) : Cond) ∈ xw := xw_t (x_t2 (List.mem_of_getElem? (i := 214) rfl)) rfl
theorem kw_2_215 : (.methodLink "ValueBench$Reader" 92 yD_isDigit : Cond) ∈ xw := xw_t (x_t2 (List.mem_of_getElem? (i := 215) rfl)) rfl
theorem kw_2_216 : (.static yD_isDigit : Cond) ∈ xw := xw_t (x_t2 (List.mem_of_getElem? (i := 216) rfl)) rfl
theorem kw_2_217 : (.code yD_isDigit prog_7_method_13_code 1 (some .boolean) : Cond) ∈ xw := xw_t (x_t2 (List.mem_of_getElem? (i := 217) rfl)) rfl
theorem kw_2_22 : (.code yR_clear prog_8_method_2_code 1 none : Cond) ∈ xw := xw_t (x_t2 (List.mem_of_getElem? (i := 22) rfl)) rfl
theorem kw_2_226 : (.instanceMethod yR_putNumber : Cond) ∈ xw := xw_t (x_t2 (List.mem_of_getElem? (i := 226) rfl)) rfl
theorem kw_2_227 : (.selects "ValueBench$Row" yR_putNumber yR_putNumber : Cond) ∈ xw := xw_t (x_t2 (List.mem_of_getElem? (i := 227) rfl)) rfl
theorem kw_2_228 : (.code yR_putNumber prog_8_method_17_code 3 none : Cond) ∈ xw := xw_t (x_t2 (List.mem_of_getElem? (i := 228) rfl)) rfl
theorem kw_2_229 : (.constantLong "ValueBench$Row" 50 3 : Cond) ∈ xw := xw_t (x_t2 (List.mem_of_getElem? (i := 229) rfl)) rfl
theorem kw_2_23 : (.classLink "ValueBench" 80 "ValueBench$Reader" : Cond) ∈ xw := xw_t (x_t2 (List.mem_of_getElem? (i := 23) rfl)) rfl
theorem kw_2_234 : (.methodLink "ValueBench" 88 yT_clear : Cond) ∈ xw := xw_t (x_t2 (List.mem_of_getElem? (i := 234) rfl)) rfl
theorem kw_2_235 : (.instanceMethod yT_clear : Cond) ∈ xw := xw_t (x_t2 (List.mem_of_getElem? (i := 235) rfl)) rfl
theorem kw_2_236 : (.selects "ValueBench$Text" yT_clear yT_clear : Cond) ∈ xw := xw_t (x_t2 (List.mem_of_getElem? (i := 236) rfl)) rfl
theorem kw_2_237 : (.code yT_clear prog_11_method_2_code 1 none : Cond) ∈ xw := xw_t (x_t2 (List.mem_of_getElem? (i := 237) rfl)) rfl
theorem kw_2_238 : (.classLink "ValueBench" 89 "java/lang/UnsupportedOperationException" : Cond) ∈ xw := xw_t (x_t2 (List.mem_of_getElem? (i := 238) rfl)) rfl
theorem kw_2_24 : (.instantiable "ValueBench$Reader" 4 : Cond) ∈ xw := xw_t (x_t2 (List.mem_of_getElem? (i := 24) rfl)) rfl
theorem kw_2_25 : (.methodLink "ValueBench" 82 yD_init : Cond) ∈ xw := xw_t (x_t2 (List.mem_of_getElem? (i := 25) rfl)) rfl
theorem kw_2_26 : (.instanceMethod yD_init : Cond) ∈ xw := xw_t (x_t2 (List.mem_of_getElem? (i := 26) rfl)) rfl
theorem kw_2_27 : (.code yD_init prog_7_method_1_code 3 none : Cond) ∈ xw := xw_t (x_t2 (List.mem_of_getElem? (i := 27) rfl)) rfl
theorem kw_2_28 : (.methodLink "ValueBench$Reader" 3 objectInit : Cond) ∈ xw := xw_t (x_t2 (List.mem_of_getElem? (i := 28) rfl)) rfl
theorem kw_2_29 : (.fieldLink "ValueBench$Reader" 18 "ValueBench$Reader" "source" "LValueBench$Text;" : Cond) ∈ xw := xw_t (x_t2 (List.mem_of_getElem? (i := 29) rfl)) rfl
theorem kw_2_3 : (.static Lib.Math.min.name : Cond) ∈ xw := xw_t (x_t2 (List.mem_of_getElem? (i := 3) rfl)) rfl
theorem kw_2_30 : (.fieldLink "ValueBench$Reader" 22 "ValueBench$Reader" "out" "LValueBench$Row;" : Cond) ∈ xw := xw_t (x_t2 (List.mem_of_getElem? (i := 30) rfl)) rfl
theorem kw_2_31 : (.fieldLink "ValueBench$Reader" 9 "ValueBench$Reader" "at" "I" : Cond) ∈ xw := xw_t (x_t2 (List.mem_of_getElem? (i := 31) rfl)) rfl
theorem kw_2_32 : (.fieldLink "ValueBench$Reader" 15 "ValueBench$Reader" "place" "I" : Cond) ∈ xw := xw_t (x_t2 (List.mem_of_getElem? (i := 32) rfl)) rfl
theorem kw_2_4 : (.code Lib.Math.min.name Lib.Math.min.code 2 (some .int) : Cond) ∈ xw := xw_t (x_t2 (List.mem_of_getElem? (i := 4) rfl)) rfl
theorem kw_2_42 : (.methodLink "ValueBench" 85 yD_readValue : Cond) ∈ xw := xw_t (x_t2 (List.mem_of_getElem? (i := 42) rfl)) rfl
theorem kw_2_43 : (.instanceMethod yD_readValue : Cond) ∈ xw := xw_t (x_t2 (List.mem_of_getElem? (i := 43) rfl)) rfl
theorem kw_2_44 : (.selects "ValueBench$Reader" yD_readValue yD_readValue : Cond) ∈ xw := xw_t (x_t2 (List.mem_of_getElem? (i := 44) rfl)) rfl
theorem kw_2_45 : (.code yD_readValue prog_7_method_2_code 1 (some .int) : Cond) ∈ xw := xw_t (x_t2 (List.mem_of_getElem? (i := 45) rfl)) rfl
theorem kw_2_46 : (.methodLink "ValueBench$Reader" 26 yD_value : Cond) ∈ xw := xw_t (x_t2 (List.mem_of_getElem? (i := 46) rfl)) rfl
theorem kw_2_48 : (.instanceMethod yD_value : Cond) ∈ xw := xw_t (x_t2 (List.mem_of_getElem? (i := 48) rfl)) rfl
theorem kw_2_49 : (.code yD_value prog_7_method_10_code 2 (some .boolean) : Cond) ∈ xw := xw_t (x_t2 (List.mem_of_getElem? (i := 49) rfl)) rfl
theorem kw_2_5 : (.methodLink "ValueBench$Text" 29 Lib.Math.max.name : Cond) ∈ xw := xw_t (x_t2 (List.mem_of_getElem? (i := 5) rfl)) rfl
theorem kw_2_50 : (.methodLink "ValueBench$Reader" 30 yD_skipBlanks : Cond) ∈ xw := xw_t (x_t2 (List.mem_of_getElem? (i := 50) rfl)) rfl
theorem kw_2_52 : (.instanceMethod yD_skipBlanks : Cond) ∈ xw := xw_t (x_t2 (List.mem_of_getElem? (i := 52) rfl)) rfl
theorem kw_2_53 : (.code yD_skipBlanks prog_7_method_8_code 1 none : Cond) ∈ xw := xw_t (x_t2 (List.mem_of_getElem? (i := 53) rfl)) rfl
theorem kw_2_54 : (.methodLink "ValueBench$Reader" 40 yT_size : Cond) ∈ xw := xw_t (x_t2 (List.mem_of_getElem? (i := 54) rfl)) rfl
theorem kw_2_55 : (.methodLink "ValueBench$Reader" 49 yT_at : Cond) ∈ xw := xw_t (x_t2 (List.mem_of_getElem? (i := 55) rfl)) rfl
theorem kw_2_56 : (.instanceMethod yT_at : Cond) ∈ xw := xw_t (x_t2 (List.mem_of_getElem? (i := 56) rfl)) rfl
theorem kw_2_57 : (.selects "ValueBench$Text" yT_at yT_at : Cond) ∈ xw := xw_t (x_t2 (List.mem_of_getElem? (i := 57) rfl)) rfl
theorem kw_2_58 : (.code yT_at prog_11_method_7_code 2 (some .int) : Cond) ∈ xw := xw_t (x_t2 (List.mem_of_getElem? (i := 58) rfl)) rfl
theorem kw_2_6 : (.static Lib.Math.max.name : Cond) ∈ xw := xw_t (x_t2 (List.mem_of_getElem? (i := 6) rfl)) rfl
theorem kw_2_68 : (.instanceMethod yJS_length : Cond) ∈ xw := xw_t (x_t2 (List.mem_of_getElem? (i := 68) rfl)) rfl
theorem kw_2_69 : (.selects "java/lang/String" yJS_length yJS_length : Cond) ∈ xw := xw_t (x_t2 (List.mem_of_getElem? (i := 69) rfl)) rfl
theorem kw_2_7 : (.code Lib.Math.max.name Lib.Math.max.code 2 (some .int) : Cond) ∈ xw := xw_t (x_t2 (List.mem_of_getElem? (i := 7) rfl)) rfl
theorem kw_2_70 : (.code yJS_length prog_23_method_54_code 1 (some .int) : Cond) ∈ xw := xw_t (x_t2 (List.mem_of_getElem? (i := 70) rfl)) rfl
theorem kw_2_71 : (.methodLink "java/lang/String" 335 yJS_coder : Cond) ∈ xw := xw_t (x_t2 (List.mem_of_getElem? (i := 71) rfl)) rfl
theorem kw_2_72 : (.instanceMethod yJS_coder : Cond) ∈ xw := xw_t (x_t2 (List.mem_of_getElem? (i := 72) rfl)) rfl
theorem kw_2_73 : (.selects "java/lang/String" yJS_coder yJS_coder : Cond) ∈ xw := xw_t (x_t2 (List.mem_of_getElem? (i := 73) rfl)) rfl
theorem kw_2_74 : (.code yJS_coder prog_23_method_152_code 1 (some .byte) : Cond) ∈ xw := xw_t (x_t2 (List.mem_of_getElem? (i := 74) rfl)) rfl
theorem kw_2_75 : (.fieldLink "java/lang/String" 38 "java/lang/String" "COMPACT_STRINGS" "Z" : Cond) ∈ xw := xw_t (x_t2 (List.mem_of_getElem? (i := 75) rfl)) rfl
theorem kw_2_78 : (.instanceMethod yJS_charAt : Cond) ∈ xw := xw_t (x_t2 (List.mem_of_getElem? (i := 78) rfl)) rfl
theorem kw_2_79 : (.selects "java/lang/String" yJS_charAt yJS_charAt : Cond) ∈ xw := xw_t (x_t2 (List.mem_of_getElem? (i := 79) rfl)) rfl
theorem kw_2_8 : (.methodLink "ValueBenchLaw" 78 yL_read : Cond) ∈ xw := xw_t (x_t2 (List.mem_of_getElem? (i := 8) rfl)) rfl
theorem kw_2_80 : (.code yJS_charAt prog_23_method_56_code 2 (some .char) : Cond) ∈ xw := xw_t (x_t2 (List.mem_of_getElem? (i := 80) rfl)) rfl
theorem kw_2_81 : (.methodLink "java/lang/String" 492 yJS_isLatin1 : Cond) ∈ xw := xw_t (x_t2 (List.mem_of_getElem? (i := 81) rfl)) rfl
theorem kw_2_82 : (.instanceMethod yJS_isLatin1 : Cond) ∈ xw := xw_t (x_t2 (List.mem_of_getElem? (i := 82) rfl)) rfl
theorem kw_2_83 : (.selects "java/lang/String" yJS_isLatin1 yJS_isLatin1 : Cond) ∈ xw := xw_t (x_t2 (List.mem_of_getElem? (i := 83) rfl)) rfl
theorem kw_2_84 : (.code yJS_isLatin1 prog_23_method_154_code 1 (some .boolean) : Cond) ∈ xw := xw_t (x_t2 (List.mem_of_getElem? (i := 84) rfl)) rfl
theorem kw_2_85 : (.methodLink "java/lang/String" 495 yJT_charAt : Cond) ∈ xw := xw_t (x_t2 (List.mem_of_getElem? (i := 85) rfl)) rfl
theorem kw_2_86 : (.static yJT_charAt : Cond) ∈ xw := xw_t (x_t2 (List.mem_of_getElem? (i := 86) rfl)) rfl
theorem kw_2_87 : (.code yJT_charAt prog_24_method_2_code 2 (some .char) : Cond) ∈ xw := xw_t (x_t2 (List.mem_of_getElem? (i := 87) rfl)) rfl
theorem kw_2_88 : (.methodLink "java/lang/StringLatin1" 9 yJS_checkIndex : Cond) ∈ xw := xw_t (x_t2 (List.mem_of_getElem? (i := 88) rfl)) rfl
theorem kw_2_89 : (.static yJS_checkIndex : Cond) ∈ xw := xw_t (x_t2 (List.mem_of_getElem? (i := 89) rfl)) rfl
theorem kw_2_9 : (.static yL_read : Cond) ∈ xw := xw_t (x_t2 (List.mem_of_getElem? (i := 9) rfl)) rfl
theorem kw_2_90 : (.code yJS_checkIndex prog_23_method_155_code 2 none : Cond) ∈ xw := xw_t (x_t2 (List.mem_of_getElem? (i := 90) rfl)) rfl
theorem kw_2_91 : (.fieldLink "java/lang/String" 1053 "jdk/internal/util/Preconditions" "SIOOBE_FORMATTER" "Ljava/util/function/BiFunction;" : Cond) ∈ xw := xw_t (x_t2 (List.mem_of_getElem? (i := 91) rfl)) rfl
theorem kw_2_93 : (.methodLink "java/lang/String" 1059 yJP_checkIndex : Cond) ∈ xw := xw_t (x_t2 (List.mem_of_getElem? (i := 93) rfl)) rfl
theorem kw_2_94 : (.static yJP_checkIndex : Cond) ∈ xw := xw_t (x_t2 (List.mem_of_getElem? (i := 94) rfl)) rfl
theorem kw_2_95 : (.code yJP_checkIndex prog_29_method_11_code 3 (some .int) : Cond) ∈ xw := xw_t (x_t2 (List.mem_of_getElem? (i := 95) rfl)) rfl
theorem kw_3_100 : (.instanceMethod yB_binary : Cond) ∈ xw := xw_t (x_t3 (List.mem_of_getElem? (i := 100) rfl)) rfl
theorem kw_3_101 : (.selects "ValueBench" yB_binary yB_binary : Cond) ∈ xw := xw_t (x_t3 (List.mem_of_getElem? (i := 101) rfl)) rfl
theorem kw_3_102 : (.code yB_binary prog_1_method_6_code 5 none : Cond) ∈ xw := xw_t (x_t3 (List.mem_of_getElem? (i := 102) rfl)) rfl
theorem kw_3_103 : (.methodLink "ValueBench" 104 yA_apply : Cond) ∈ xw := xw_t (x_t3 (List.mem_of_getElem? (i := 103) rfl)) rfl
theorem kw_3_104 : (.static yA_apply : Cond) ∈ xw := xw_t (x_t3 (List.mem_of_getElem? (i := 104) rfl)) rfl
theorem kw_3_105 : (.code yA_apply prog_3_method_2_code 4 (some .int) : Cond) ∈ xw := xw_t (x_t3 (List.mem_of_getElem? (i := 105) rfl)) rfl
theorem kw_3_106 : (.methodLink "ValueBench$Operators" 9 yR_is : Cond) ∈ xw := xw_t (x_t3 (List.mem_of_getElem? (i := 106) rfl)) rfl
theorem kw_3_120 : (.methodLink "ValueBench$Operators" 25 yA_plus : Cond) ∈ xw := xw_t (x_t3 (List.mem_of_getElem? (i := 120) rfl)) rfl
theorem kw_3_121 : (.static yA_plus : Cond) ∈ xw := xw_t (x_t3 (List.mem_of_getElem? (i := 121) rfl)) rfl
theorem kw_3_122 : (.code yA_plus prog_3_method_6_code 3 (some .int) : Cond) ∈ xw := xw_t (x_t3 (List.mem_of_getElem? (i := 122) rfl)) rfl
theorem kw_3_123 : (.methodLink "ValueBench$Operators" 57 yR_putCopy : Cond) ∈ xw := xw_t (x_t3 (List.mem_of_getElem? (i := 123) rfl)) rfl
theorem kw_3_124 : (.instanceMethod yR_putCopy : Cond) ∈ xw := xw_t (x_t3 (List.mem_of_getElem? (i := 124) rfl)) rfl
theorem kw_3_125 : (.selects "ValueBench$Row" yR_putCopy yR_putCopy : Cond) ∈ xw := xw_t (x_t3 (List.mem_of_getElem? (i := 125) rfl)) rfl
theorem kw_3_126 : (.code yR_putCopy prog_8_method_22_code 3 none : Cond) ∈ xw := xw_t (x_t3 (List.mem_of_getElem? (i := 126) rfl)) rfl
theorem kw_3_127 : (.methodLink "ValueBench$Row" 77 yR_putCells : Cond) ∈ xw := xw_t (x_t3 (List.mem_of_getElem? (i := 127) rfl)) rfl
theorem kw_3_129 : (.instanceMethod yR_putCells : Cond) ∈ xw := xw_t (x_t3 (List.mem_of_getElem? (i := 129) rfl)) rfl
theorem kw_3_130 : (.code yR_putCells prog_8_method_24_code 4 none : Cond) ∈ xw := xw_t (x_t3 (List.mem_of_getElem? (i := 130) rfl)) rfl
theorem kw_3_131 : (.methodLink "ValueBench$Row" 81 arraycopyName : Cond) ∈ xw := xw_t (x_t3 (List.mem_of_getElem? (i := 131) rfl)) rfl
theorem kw_3_132 : (.static arraycopyName : Cond) ∈ xw := xw_t (x_t3 (List.mem_of_getElem? (i := 132) rfl)) rfl
theorem kw_3_133 : (.native arraycopyName : Cond) ∈ xw := xw_t (x_t3 (List.mem_of_getElem? (i := 133) rfl)) rfl
theorem kw_3_14 : (.methodLink "ValueBench" 94 yB_keepSpare : Cond) ∈ xw := xw_t (x_t3 (List.mem_of_getElem? (i := 14) rfl)) rfl
theorem kw_3_153 : (.methodLink "ValueBench$Operators" 29 yA_minus : Cond) ∈ xw := xw_t (x_t3 (List.mem_of_getElem? (i := 153) rfl)) rfl
theorem kw_3_154 : (.static yA_minus : Cond) ∈ xw := xw_t (x_t3 (List.mem_of_getElem? (i := 154) rfl)) rfl
theorem kw_3_155 : (.code yA_minus prog_3_method_10_code 7 (some .int) : Cond) ∈ xw := xw_t (x_t3 (List.mem_of_getElem? (i := 155) rfl)) rfl
theorem kw_3_16 : (.instanceMethod yB_keepSpare : Cond) ∈ xw := xw_t (x_t3 (List.mem_of_getElem? (i := 16) rfl)) rfl
theorem kw_3_160 : (.static yO_isSame : Cond) ∈ xw := xw_t (x_t3 (List.mem_of_getElem? (i := 160) rfl)) rfl
theorem kw_3_161 : (.code yO_isSame prog_4_method_3_code 4 (some .boolean) : Cond) ∈ xw := xw_t (x_t3 (List.mem_of_getElem? (i := 161) rfl)) rfl
theorem kw_3_162 : (.methodLink "ValueBench$Order" 43 yR_cell : Cond) ∈ xw := xw_t (x_t3 (List.mem_of_getElem? (i := 162) rfl)) rfl
theorem kw_3_163 : (.methodLink "ValueBench$Order" 46 yO_of : Cond) ∈ xw := xw_t (x_t3 (List.mem_of_getElem? (i := 163) rfl)) rfl
theorem kw_3_164 : (.static yO_of : Cond) ∈ xw := xw_t (x_t3 (List.mem_of_getElem? (i := 164) rfl)) rfl
theorem kw_3_165 : (.code yO_of prog_4_method_2_code 5 (some .int) : Cond) ∈ xw := xw_t (x_t3 (List.mem_of_getElem? (i := 165) rfl)) rfl
theorem kw_3_166 : (.methodLink "ValueBench$Order" 9 yR_kind : Cond) ∈ xw := xw_t (x_t3 (List.mem_of_getElem? (i := 166) rfl)) rfl
theorem kw_3_17 : (.code yB_keepSpare prog_1_method_18_code 3 (some .int) : Cond) ∈ xw := xw_t (x_t3 (List.mem_of_getElem? (i := 17) rfl)) rfl
theorem kw_3_18 : (.methodLink "ValueBench" 98 yP_write : Cond) ∈ xw := xw_t (x_t3 (List.mem_of_getElem? (i := 18) rfl)) rfl
theorem kw_3_187 : (.methodLink "ValueBench$Operators" 32 yA_times : Cond) ∈ xw := xw_t (x_t3 (List.mem_of_getElem? (i := 187) rfl)) rfl
theorem kw_3_188 : (.static yA_times : Cond) ∈ xw := xw_t (x_t3 (List.mem_of_getElem? (i := 188) rfl)) rfl
theorem kw_3_189 : (.code yA_times prog_3_method_12_code 3 (some .int) : Cond) ∈ xw := xw_t (x_t3 (List.mem_of_getElem? (i := 189) rfl)) rfl
theorem kw_3_19 : (.static yP_write : Cond) ∈ xw := xw_t (x_t3 (List.mem_of_getElem? (i := 19) rfl)) rfl
theorem kw_3_194 : (.instanceMethod yR_putNull : Cond) ∈ xw := xw_t (x_t3 (List.mem_of_getElem? (i := 194) rfl)) rfl
theorem kw_3_195 : (.selects "ValueBench$Row" yR_putNull yR_putNull : Cond) ∈ xw := xw_t (x_t3 (List.mem_of_getElem? (i := 195) rfl)) rfl
theorem kw_3_196 : (.code yR_putNull prog_8_method_19_code 1 none : Cond) ∈ xw := xw_t (x_t3 (List.mem_of_getElem? (i := 196) rfl)) rfl
theorem kw_3_199 : (.methodLink "ValueBench$Operators" 35 yA_pieces : Cond) ∈ xw := xw_t (x_t3 (List.mem_of_getElem? (i := 199) rfl)) rfl
theorem kw_3_20 : (.code yP_write prog_6_method_2_code 4 none : Cond) ∈ xw := xw_t (x_t3 (List.mem_of_getElem? (i := 20) rfl)) rfl
theorem kw_3_200 : (.static yA_pieces : Cond) ∈ xw := xw_t (x_t3 (List.mem_of_getElem? (i := 200) rfl)) rfl
theorem kw_3_201 : (.code yA_pieces prog_3_method_14_code 5 (some .int) : Cond) ∈ xw := xw_t (x_t3 (List.mem_of_getElem? (i := 201) rfl)) rfl
theorem kw_3_209 : (.methodLink "ValueBench$Row" 58 yR_open : Cond) ∈ xw := xw_t (x_t3 (List.mem_of_getElem? (i := 209) rfl)) rfl
theorem kw_3_21 : (.methodLink "ValueBench$Printer" 9 yR_kind : Cond) ∈ xw := xw_t (x_t3 (List.mem_of_getElem? (i := 21) rfl)) rfl
theorem kw_3_210 : (.methodLink "ValueBench$Row" 69 yR_close : Cond) ∈ xw := xw_t (x_t3 (List.mem_of_getElem? (i := 210) rfl)) rfl
theorem kw_3_219 : (.methodLink "ValueBench" 110 yB_demandDone : Cond) ∈ xw := xw_t (x_t3 (List.mem_of_getElem? (i := 219) rfl)) rfl
theorem kw_3_22 : (.instanceMethod yR_kind : Cond) ∈ xw := xw_t (x_t3 (List.mem_of_getElem? (i := 22) rfl)) rfl
theorem kw_3_221 : (.instanceMethod yB_demandDone : Cond) ∈ xw := xw_t (x_t3 (List.mem_of_getElem? (i := 221) rfl)) rfl
theorem kw_3_222 : (.code yB_demandDone prog_1_method_17_code 2 none : Cond) ∈ xw := xw_t (x_t3 (List.mem_of_getElem? (i := 222) rfl)) rfl
theorem kw_3_223 : (.classLink "ValueBench" 154 "java/lang/ArithmeticException" : Cond) ∈ xw := xw_t (x_t3 (List.mem_of_getElem? (i := 223) rfl)) rfl
theorem kw_3_23 : (.selects "ValueBench$Row" yR_kind yR_kind : Cond) ∈ xw := xw_t (x_t3 (List.mem_of_getElem? (i := 23) rfl)) rfl
theorem kw_3_24 : (.code yR_kind prog_8_method_6_code 2 (some .int) : Cond) ∈ xw := xw_t (x_t3 (List.mem_of_getElem? (i := 24) rfl)) rfl
theorem kw_3_26 : (.methodLink "ValueBench$Printer" 17 yT_addWord : Cond) ∈ xw := xw_t (x_t3 (List.mem_of_getElem? (i := 26) rfl)) rfl
theorem kw_3_27 : (.instanceMethod yT_addWord : Cond) ∈ xw := xw_t (x_t3 (List.mem_of_getElem? (i := 27) rfl)) rfl
theorem kw_3_28 : (.selects "ValueBench$Text" yT_addWord yT_addWord : Cond) ∈ xw := xw_t (x_t3 (List.mem_of_getElem? (i := 28) rfl)) rfl
theorem kw_3_29 : (.code yT_addWord prog_11_method_10_code 3 none : Cond) ∈ xw := xw_t (x_t3 (List.mem_of_getElem? (i := 29) rfl)) rfl
theorem kw_3_30 : (.methodLink "ValueBench$Text" 36 yJS_length : Cond) ∈ xw := xw_t (x_t3 (List.mem_of_getElem? (i := 30) rfl)) rfl
theorem kw_3_31 : (.methodLink "ValueBench$Text" 41 yJS_charAt : Cond) ∈ xw := xw_t (x_t3 (List.mem_of_getElem? (i := 31) rfl)) rfl
theorem kw_3_34 : (.methodLink "ValueBench$Printer" 27 yR_number : Cond) ∈ xw := xw_t (x_t3 (List.mem_of_getElem? (i := 34) rfl)) rfl
theorem kw_3_35 : (.instanceMethod yR_number : Cond) ∈ xw := xw_t (x_t3 (List.mem_of_getElem? (i := 35) rfl)) rfl
theorem kw_3_36 : (.selects "ValueBench$Row" yR_number yR_number : Cond) ∈ xw := xw_t (x_t3 (List.mem_of_getElem? (i := 36) rfl)) rfl
theorem kw_3_37 : (.code yR_number prog_8_method_8_code 2 (some .long) : Cond) ∈ xw := xw_t (x_t3 (List.mem_of_getElem? (i := 37) rfl)) rfl
theorem kw_3_38 : (.methodLink "ValueBench$Printer" 31 yT_addNumber : Cond) ∈ xw := xw_t (x_t3 (List.mem_of_getElem? (i := 38) rfl)) rfl
theorem kw_3_39 : (.instanceMethod yT_addNumber : Cond) ∈ xw := xw_t (x_t3 (List.mem_of_getElem? (i := 39) rfl)) rfl
theorem kw_3_40 : (.selects "ValueBench$Text" yT_addNumber yT_addNumber : Cond) ∈ xw := xw_t (x_t3 (List.mem_of_getElem? (i := 40) rfl)) rfl
theorem kw_3_41 : (.code yT_addNumber prog_11_method_12_code 7 none : Cond) ∈ xw := xw_t (x_t3 (List.mem_of_getElem? (i := 41) rfl)) rfl
theorem kw_3_42 : (.methodLink "ValueBench$Text" 53 Lib.MathLoose.abs_long.x : Cond) ∈ xw := xw_t (x_t3 (List.mem_of_getElem? (i := 42) rfl)) rfl
theorem kw_3_43 : (.static Lib.MathLoose.abs_long.x : Cond) ∈ xw := xw_t (x_t3 (List.mem_of_getElem? (i := 43) rfl)) rfl
theorem kw_3_44 : (.code Lib.MathLoose.abs_long.x Lib.MathLoose.abs_long.code 2 (some .long) : Cond) ∈ xw := xw_t (x_t3 (List.mem_of_getElem? (i := 44) rfl)) rfl
theorem kw_3_45 : (.constantLong "ValueBench$Text" 57 900719925474099 : Cond) ∈ xw := xw_t (x_t3 (List.mem_of_getElem? (i := 45) rfl)) rfl
theorem kw_3_46 : (.constantLong "ValueBench$Text" 59 10 : Cond) ∈ xw := xw_t (x_t3 (List.mem_of_getElem? (i := 46) rfl)) rfl
theorem kw_3_47 : (.constantLong "ValueBench$Text" 61 48 : Cond) ∈ xw := xw_t (x_t3 (List.mem_of_getElem? (i := 47) rfl)) rfl
theorem kw_3_48 : (.methodLink "ValueBench$Printer" 35 yP_writeString : Cond) ∈ xw := xw_t (x_t3 (List.mem_of_getElem? (i := 48) rfl)) rfl
theorem kw_3_49 : (.static yP_writeString : Cond) ∈ xw := xw_t (x_t3 (List.mem_of_getElem? (i := 49) rfl)) rfl
theorem kw_3_50 : (.code yP_writeString prog_6_method_4_code 4 none : Cond) ∈ xw := xw_t (x_t3 (List.mem_of_getElem? (i := 50) rfl)) rfl
theorem kw_3_51 : (.methodLink "ValueBench$Printer" 52 yT_add : Cond) ∈ xw := xw_t (x_t3 (List.mem_of_getElem? (i := 51) rfl)) rfl
theorem kw_3_52 : (.methodLink "ValueBench$Printer" 56 yR_length : Cond) ∈ xw := xw_t (x_t3 (List.mem_of_getElem? (i := 52) rfl)) rfl
theorem kw_3_53 : (.methodLink "ValueBench$Printer" 65 yR_code : Cond) ∈ xw := xw_t (x_t3 (List.mem_of_getElem? (i := 53) rfl)) rfl
theorem kw_3_54 : (.instanceMethod yR_code : Cond) ∈ xw := xw_t (x_t3 (List.mem_of_getElem? (i := 54) rfl)) rfl
theorem kw_3_55 : (.selects "ValueBench$Row" yR_code yR_code : Cond) ∈ xw := xw_t (x_t3 (List.mem_of_getElem? (i := 55) rfl)) rfl
theorem kw_3_56 : (.code yR_code prog_8_method_10_code 4 (some .int) : Cond) ∈ xw := xw_t (x_t3 (List.mem_of_getElem? (i := 56) rfl)) rfl
theorem kw_3_57 : (.methodLink "ValueBench$Printer" 69 yP_writeCode : Cond) ∈ xw := xw_t (x_t3 (List.mem_of_getElem? (i := 57) rfl)) rfl
theorem kw_3_58 : (.static yP_writeCode : Cond) ∈ xw := xw_t (x_t3 (List.mem_of_getElem? (i := 58) rfl)) rfl
theorem kw_3_59 : (.code yP_writeCode prog_6_method_5_code 3 none : Cond) ∈ xw := xw_t (x_t3 (List.mem_of_getElem? (i := 59) rfl)) rfl
theorem kw_3_60 : (.methodLink "ValueBench$Printer" 73 yP_letterOf : Cond) ∈ xw := xw_t (x_t3 (List.mem_of_getElem? (i := 60) rfl)) rfl
theorem kw_3_61 : (.static yP_letterOf : Cond) ∈ xw := xw_t (x_t3 (List.mem_of_getElem? (i := 61) rfl)) rfl
theorem kw_3_62 : (.code yP_letterOf prog_6_method_6_code 1 (some .int) : Cond) ∈ xw := xw_t (x_t3 (List.mem_of_getElem? (i := 62) rfl)) rfl
theorem kw_3_65 : (.methodLink "ValueBench$Printer" 41 yP_writeList : Cond) ∈ xw := xw_t (x_t3 (List.mem_of_getElem? (i := 65) rfl)) rfl
theorem kw_3_66 : (.static yP_writeList : Cond) ∈ xw := xw_t (x_t3 (List.mem_of_getElem? (i := 66) rfl)) rfl
theorem kw_3_67 : (.code yP_writeList prog_6_method_3_code 7 none : Cond) ∈ xw := xw_t (x_t3 (List.mem_of_getElem? (i := 67) rfl)) rfl
theorem kw_3_72 : (.methodLink "ValueBench$Printer" 48 yR_is : Cond) ∈ xw := xw_t (x_t3 (List.mem_of_getElem? (i := 72) rfl)) rfl
theorem kw_3_73 : (.instanceMethod yR_is : Cond) ∈ xw := xw_t (x_t3 (List.mem_of_getElem? (i := 73) rfl)) rfl
theorem kw_3_74 : (.selects "ValueBench$Row" yR_is yR_is : Cond) ∈ xw := xw_t (x_t3 (List.mem_of_getElem? (i := 74) rfl)) rfl
theorem kw_3_75 : (.code yR_is prog_8_method_7_code 3 (some .boolean) : Cond) ∈ xw := xw_t (x_t3 (List.mem_of_getElem? (i := 75) rfl)) rfl
theorem kw_3_76 : (.methodLink "ValueBench$Row" 23 yR_kind : Cond) ∈ xw := xw_t (x_t3 (List.mem_of_getElem? (i := 76) rfl)) rfl
theorem kw_3_79 : (.methodLink "ValueBench" 167 yR_isOver : Cond) ∈ xw := xw_t (x_t3 (List.mem_of_getElem? (i := 79) rfl)) rfl
theorem kw_3_80 : (.instanceMethod yR_isOver : Cond) ∈ xw := xw_t (x_t3 (List.mem_of_getElem? (i := 80) rfl)) rfl
theorem kw_3_81 : (.selects "ValueBench$Row" yR_isOver yR_isOver : Cond) ∈ xw := xw_t (x_t3 (List.mem_of_getElem? (i := 81) rfl)) rfl
theorem kw_3_82 : (.code yR_isOver prog_8_method_4_code 1 (some .boolean) : Cond) ∈ xw := xw_t (x_t3 (List.mem_of_getElem? (i := 82) rfl)) rfl
theorem kw_3_83 : (.methodLink "ValueBench" 171 yT_isOver : Cond) ∈ xw := xw_t (x_t3 (List.mem_of_getElem? (i := 83) rfl)) rfl
theorem kw_3_84 : (.instanceMethod yT_isOver : Cond) ∈ xw := xw_t (x_t3 (List.mem_of_getElem? (i := 84) rfl)) rfl
theorem kw_3_85 : (.selects "ValueBench$Text" yT_isOver yT_isOver : Cond) ∈ xw := xw_t (x_t3 (List.mem_of_getElem? (i := 85) rfl)) rfl
theorem kw_3_86 : (.code yT_isOver prog_11_method_5_code 1 (some .boolean) : Cond) ∈ xw := xw_t (x_t3 (List.mem_of_getElem? (i := 86) rfl)) rfl
theorem kw_3_88 : (.methodLink "ValueBenchLaw" 81 yL_print : Cond) ∈ xw := xw_t (x_t3 (List.mem_of_getElem? (i := 88) rfl)) rfl
theorem kw_3_89 : (.static yL_print : Cond) ∈ xw := xw_t (x_t3 (List.mem_of_getElem? (i := 89) rfl)) rfl
theorem kw_3_90 : (.codeWith yL_print method_6_code 4 (some .int) [(0, 9, 12, 19)] : Cond) ∈ xw := xw_t (x_t3 (List.mem_of_getElem? (i := 90) rfl)) rfl
theorem kw_3_91 : (.methodLink "ValueBenchLaw" 26 yB_print : Cond) ∈ xw := xw_t (x_t3 (List.mem_of_getElem? (i := 91) rfl)) rfl
theorem kw_3_92 : (.instanceMethod yB_print : Cond) ∈ xw := xw_t (x_t3 (List.mem_of_getElem? (i := 92) rfl)) rfl
theorem kw_3_93 : (.selects "ValueBench" yB_print yB_print : Cond) ∈ xw := xw_t (x_t3 (List.mem_of_getElem? (i := 93) rfl)) rfl
theorem kw_3_94 : (.code yB_print prog_1_method_5_code 2 (some .int) : Cond) ∈ xw := xw_t (x_t3 (List.mem_of_getElem? (i := 94) rfl)) rfl
theorem kw_3_95 : (.methodLink "ValueBenchLaw" 84 yL_binary : Cond) ∈ xw := xw_t (x_t3 (List.mem_of_getElem? (i := 95) rfl)) rfl
theorem kw_3_96 : (.static yL_binary : Cond) ∈ xw := xw_t (x_t3 (List.mem_of_getElem? (i := 96) rfl)) rfl
theorem kw_3_97 : (.codeWith yL_binary method_7_code 6 (some .int) [(0, 9, 12, 19), (0, 9, 16, 33), (0, 9, 20, 13)] : Cond) ∈ xw := xw_t (x_t3 (List.mem_of_getElem? (i := 97) rfl)) rfl
theorem kw_3_98 : (.classLink "ValueBenchLaw" 33 "java/lang/ArithmeticException" : Cond) ∈ xw := xw_t (x_t3 (List.mem_of_getElem? (i := 98) rfl)) rfl
theorem kw_3_99 : (.methodLink "ValueBenchLaw" 29 yB_binary : Cond) ∈ xw := xw_t (x_t3 (List.mem_of_getElem? (i := 99) rfl)) rfl
theorem kw_4_10 : (.methodLink "ValueBench" 113 yO_of : Cond) ∈ xw := xw_t (x_t4 (List.mem_of_getElem? (i := 10) rfl)) rfl
theorem kw_4_108 : (.methodLink "ValueBench$Singles" 42 yG_fromJson : Cond) ∈ xw := xw_t (x_t4 (List.mem_of_getElem? (i := 108) rfl)) rfl
theorem kw_4_109 : (.static yG_fromJson : Cond) ∈ xw := xw_t (x_t4 (List.mem_of_getElem? (i := 109) rfl)) rfl
theorem kw_4_11 : (.methodLink "ValueBenchLaw" 92 yL_same : Cond) ∈ xw := xw_t (x_t4 (List.mem_of_getElem? (i := 11) rfl)) rfl
theorem kw_4_110 : (.code yG_fromJson prog_9_method_9_code 3 (some .int) : Cond) ∈ xw := xw_t (x_t4 (List.mem_of_getElem? (i := 110) rfl)) rfl
theorem kw_4_112 : (.methodLink "ValueBench$Singles" 45 yG_reversed : Cond) ∈ xw := xw_t (x_t4 (List.mem_of_getElem? (i := 112) rfl)) rfl
theorem kw_4_113 : (.static yG_reversed : Cond) ∈ xw := xw_t (x_t4 (List.mem_of_getElem? (i := 113) rfl)) rfl
theorem kw_4_114 : (.code yG_reversed prog_9_method_11_code 3 (some .int) : Cond) ∈ xw := xw_t (x_t4 (List.mem_of_getElem? (i := 114) rfl)) rfl
theorem kw_4_12 : (.static yL_same : Cond) ∈ xw := xw_t (x_t4 (List.mem_of_getElem? (i := 12) rfl)) rfl
theorem kw_4_124 : (.methodLink "ValueBench$Singles" 48 yG_codes : Cond) ∈ xw := xw_t (x_t4 (List.mem_of_getElem? (i := 124) rfl)) rfl
theorem kw_4_125 : (.static yG_codes : Cond) ∈ xw := xw_t (x_t4 (List.mem_of_getElem? (i := 125) rfl)) rfl
theorem kw_4_126 : (.code yG_codes prog_9_method_14_code 4 (some .int) : Cond) ∈ xw := xw_t (x_t4 (List.mem_of_getElem? (i := 126) rfl)) rfl
theorem kw_4_127 : (.methodLink "ValueBench$Singles" 51 yG_ofCodes : Cond) ∈ xw := xw_t (x_t4 (List.mem_of_getElem? (i := 127) rfl)) rfl
theorem kw_4_128 : (.static yG_ofCodes : Cond) ∈ xw := xw_t (x_t4 (List.mem_of_getElem? (i := 128) rfl)) rfl
theorem kw_4_129 : (.code yG_ofCodes prog_9_method_15_code 6 (some .int) : Cond) ∈ xw := xw_t (x_t4 (List.mem_of_getElem? (i := 129) rfl)) rfl
theorem kw_4_13 : (.codeWith yL_same method_9_code 5 (some .int) [(0, 17, 20, 19)] : Cond) ∈ xw := xw_t (x_t4 (List.mem_of_getElem? (i := 13) rfl)) rfl
theorem kw_4_130 : (.methodLink "ValueBench$Singles" 152 yG_isOfNumbers : Cond) ∈ xw := xw_t (x_t4 (List.mem_of_getElem? (i := 130) rfl)) rfl
theorem kw_4_131 : (.static yG_isOfNumbers : Cond) ∈ xw := xw_t (x_t4 (List.mem_of_getElem? (i := 131) rfl)) rfl
theorem kw_4_132 : (.code yG_isOfNumbers prog_9_method_16_code 3 (some .boolean) : Cond) ∈ xw := xw_t (x_t4 (List.mem_of_getElem? (i := 132) rfl)) rfl
theorem kw_4_134 : (.methodLink "ValueBench$Singles" 54 yG_inCase : Cond) ∈ xw := xw_t (x_t4 (List.mem_of_getElem? (i := 134) rfl)) rfl
theorem kw_4_135 : (.static yG_inCase : Cond) ∈ xw := xw_t (x_t4 (List.mem_of_getElem? (i := 135) rfl)) rfl
theorem kw_4_136 : (.code yG_inCase prog_9_method_17_code 8 (some .int) : Cond) ∈ xw := xw_t (x_t4 (List.mem_of_getElem? (i := 136) rfl)) rfl
theorem kw_4_137 : (.methodLink "ValueBenchLaw" 99 yL_two : Cond) ∈ xw := xw_t (x_t4 (List.mem_of_getElem? (i := 137) rfl)) rfl
theorem kw_4_138 : (.static yL_two : Cond) ∈ xw := xw_t (x_t4 (List.mem_of_getElem? (i := 138) rfl)) rfl
theorem kw_4_139 : (.codeWith yL_two method_11_code 6 (some .int) [(0, 9, 12, 19), (0, 9, 16, 33), (0, 9, 20, 13)] : Cond) ∈ xw := xw_t (x_t4 (List.mem_of_getElem? (i := 139) rfl)) rfl
theorem kw_4_14 : (.methodLink "ValueBenchLaw" 39 yB_same : Cond) ∈ xw := xw_t (x_t4 (List.mem_of_getElem? (i := 14) rfl)) rfl
theorem kw_4_140 : (.methodLink "ValueBenchLaw" 47 yB_two : Cond) ∈ xw := xw_t (x_t4 (List.mem_of_getElem? (i := 140) rfl)) rfl
theorem kw_4_141 : (.instanceMethod yB_two : Cond) ∈ xw := xw_t (x_t4 (List.mem_of_getElem? (i := 141) rfl)) rfl
theorem kw_4_142 : (.selects "ValueBench" yB_two yB_two : Cond) ∈ xw := xw_t (x_t4 (List.mem_of_getElem? (i := 142) rfl)) rfl
theorem kw_4_143 : (.code yB_two prog_1_method_10_code 5 none : Cond) ∈ xw := xw_t (x_t4 (List.mem_of_getElem? (i := 143) rfl)) rfl
theorem kw_4_144 : (.methodLink "ValueBench" 128 yH_apply : Cond) ∈ xw := xw_t (x_t4 (List.mem_of_getElem? (i := 144) rfl)) rfl
theorem kw_4_145 : (.static yH_apply : Cond) ∈ xw := xw_t (x_t4 (List.mem_of_getElem? (i := 145) rfl)) rfl
theorem kw_4_146 : (.code yH_apply prog_5_method_2_code 5 (some .int) : Cond) ∈ xw := xw_t (x_t4 (List.mem_of_getElem? (i := 146) rfl)) rfl
theorem kw_4_147 : (.methodLink "ValueBench$Pairs" 9 yH_has : Cond) ∈ xw := xw_t (x_t4 (List.mem_of_getElem? (i := 147) rfl)) rfl
theorem kw_4_148 : (.static yH_has : Cond) ∈ xw := xw_t (x_t4 (List.mem_of_getElem? (i := 148) rfl)) rfl
theorem kw_4_149 : (.code yH_has prog_5_method_7_code 3 (some .int) : Cond) ∈ xw := xw_t (x_t4 (List.mem_of_getElem? (i := 149) rfl)) rfl
theorem kw_4_15 : (.instanceMethod yB_same : Cond) ∈ xw := xw_t (x_t4 (List.mem_of_getElem? (i := 15) rfl)) rfl
theorem kw_4_150 : (.methodLink "ValueBench$Pairs" 48 yR_is : Cond) ∈ xw := xw_t (x_t4 (List.mem_of_getElem? (i := 150) rfl)) rfl
theorem kw_4_152 : (.methodLink "ValueBench$Pairs" 35 yH_truth : Cond) ∈ xw := xw_t (x_t4 (List.mem_of_getElem? (i := 152) rfl)) rfl
theorem kw_4_153 : (.static yH_truth : Cond) ∈ xw := xw_t (x_t4 (List.mem_of_getElem? (i := 153) rfl)) rfl
theorem kw_4_154 : (.code yH_truth prog_5_method_3_code 2 (some .int) : Cond) ∈ xw := xw_t (x_t4 (List.mem_of_getElem? (i := 154) rfl)) rfl
theorem kw_4_155 : (.methodLink "ValueBench$Pairs" 57 yR_putTruth : Cond) ∈ xw := xw_t (x_t4 (List.mem_of_getElem? (i := 155) rfl)) rfl
theorem kw_4_158 : (.methodLink "ValueBench$Pairs" 15 yH_contains : Cond) ∈ xw := xw_t (x_t4 (List.mem_of_getElem? (i := 158) rfl)) rfl
theorem kw_4_159 : (.static yH_contains : Cond) ∈ xw := xw_t (x_t4 (List.mem_of_getElem? (i := 159) rfl)) rfl
theorem kw_4_16 : (.selects "ValueBench" yB_same yB_same : Cond) ∈ xw := xw_t (x_t4 (List.mem_of_getElem? (i := 16) rfl)) rfl
theorem kw_4_160 : (.code yH_contains prog_5_method_8_code 3 (some .int) : Cond) ∈ xw := xw_t (x_t4 (List.mem_of_getElem? (i := 160) rfl)) rfl
theorem kw_4_161 : (.methodLink "ValueBench$Pairs" 80 yH_areOfOneKind : Cond) ∈ xw := xw_t (x_t4 (List.mem_of_getElem? (i := 161) rfl)) rfl
theorem kw_4_162 : (.static yH_areOfOneKind : Cond) ∈ xw := xw_t (x_t4 (List.mem_of_getElem? (i := 162) rfl)) rfl
theorem kw_4_163 : (.code yH_areOfOneKind prog_5_method_9_code 4 (some .boolean) : Cond) ∈ xw := xw_t (x_t4 (List.mem_of_getElem? (i := 163) rfl)) rfl
theorem kw_4_164 : (.methodLink "ValueBench$Pairs" 88 yR_kind : Cond) ∈ xw := xw_t (x_t4 (List.mem_of_getElem? (i := 164) rfl)) rfl
theorem kw_4_168 : (.methodLink "ValueBench$Pairs" 84 yH_isIn : Cond) ∈ xw := xw_t (x_t4 (List.mem_of_getElem? (i := 168) rfl)) rfl
theorem kw_4_169 : (.static yH_isIn : Cond) ∈ xw := xw_t (x_t4 (List.mem_of_getElem? (i := 169) rfl)) rfl
theorem kw_4_17 : (.code yB_same prog_1_method_8_code 3 (some .boolean) : Cond) ∈ xw := xw_t (x_t4 (List.mem_of_getElem? (i := 17) rfl)) rfl
theorem kw_4_170 : (.code yH_isIn prog_5_method_11_code 5 (some .boolean) : Cond) ∈ xw := xw_t (x_t4 (List.mem_of_getElem? (i := 170) rfl)) rfl
theorem kw_4_18 : (.methodLink "ValueBench" 119 yO_isSame : Cond) ∈ xw := xw_t (x_t4 (List.mem_of_getElem? (i := 18) rfl)) rfl
theorem kw_4_185 : (.methodLink "ValueBench$Pairs" 104 yR_cell : Cond) ∈ xw := xw_t (x_t4 (List.mem_of_getElem? (i := 185) rfl)) rfl
theorem kw_4_186 : (.methodLink "ValueBench$Pairs" 18 yH_joined : Cond) ∈ xw := xw_t (x_t4 (List.mem_of_getElem? (i := 186) rfl)) rfl
theorem kw_4_187 : (.static yH_joined : Cond) ∈ xw := xw_t (x_t4 (List.mem_of_getElem? (i := 187) rfl)) rfl
theorem kw_4_188 : (.code yH_joined prog_5_method_16_code 6 (some .int) : Cond) ∈ xw := xw_t (x_t4 (List.mem_of_getElem? (i := 188) rfl)) rfl
theorem kw_4_19 : (.methodLink "ValueBenchLaw" 95 yL_one : Cond) ∈ xw := xw_t (x_t4 (List.mem_of_getElem? (i := 19) rfl)) rfl
theorem kw_4_196 : (.methodLink "ValueBench$Pairs" 22 yH_withoutBeginning : Cond) ∈ xw := xw_t (x_t4 (List.mem_of_getElem? (i := 196) rfl)) rfl
theorem kw_4_197 : (.static yH_withoutBeginning : Cond) ∈ xw := xw_t (x_t4 (List.mem_of_getElem? (i := 197) rfl)) rfl
theorem kw_4_198 : (.code yH_withoutBeginning prog_5_method_20_code 3 (some .int) : Cond) ∈ xw := xw_t (x_t4 (List.mem_of_getElem? (i := 198) rfl)) rfl
theorem kw_4_199 : (.methodLink "ValueBench$Pairs" 28 yH_areStrings : Cond) ∈ xw := xw_t (x_t4 (List.mem_of_getElem? (i := 199) rfl)) rfl
theorem kw_4_20 : (.static yL_one : Cond) ∈ xw := xw_t (x_t4 (List.mem_of_getElem? (i := 20) rfl)) rfl
theorem kw_4_200 : (.static yH_areStrings : Cond) ∈ xw := xw_t (x_t4 (List.mem_of_getElem? (i := 200) rfl)) rfl
theorem kw_4_201 : (.code yH_areStrings prog_5_method_6_code 2 (some .boolean) : Cond) ∈ xw := xw_t (x_t4 (List.mem_of_getElem? (i := 201) rfl)) rfl
theorem kw_4_205 : (.methodLink "ValueBench$Pairs" 139 yH_copy : Cond) ∈ xw := xw_t (x_t4 (List.mem_of_getElem? (i := 205) rfl)) rfl
theorem kw_4_206 : (.static yH_copy : Cond) ∈ xw := xw_t (x_t4 (List.mem_of_getElem? (i := 206) rfl)) rfl
theorem kw_4_207 : (.code yH_copy prog_5_method_5_code 3 (some .int) : Cond) ∈ xw := xw_t (x_t4 (List.mem_of_getElem? (i := 207) rfl)) rfl
theorem kw_4_208 : (.methodLink "ValueBench$Pairs" 64 yR_putCopy : Cond) ∈ xw := xw_t (x_t4 (List.mem_of_getElem? (i := 208) rfl)) rfl
theorem kw_4_21 : (.codeWith yL_one method_10_code 5 (some .int) [(0, 7, 10, 19), (0, 7, 14, 33), (0, 7, 18, 13)] : Cond) ∈ xw := xw_t (x_t4 (List.mem_of_getElem? (i := 21) rfl)) rfl
theorem kw_4_210 : (.methodLink "ValueBench$Pairs" 25 yH_withoutEnd : Cond) ∈ xw := xw_t (x_t4 (List.mem_of_getElem? (i := 210) rfl)) rfl
theorem kw_4_211 : (.static yH_withoutEnd : Cond) ∈ xw := xw_t (x_t4 (List.mem_of_getElem? (i := 211) rfl)) rfl
theorem kw_4_212 : (.code yH_withoutEnd prog_5_method_21_code 3 (some .int) : Cond) ∈ xw := xw_t (x_t4 (List.mem_of_getElem? (i := 212) rfl)) rfl
theorem kw_4_216 : (.methodLink "ValueBench$Pairs" 42 yH_indices : Cond) ∈ xw := xw_t (x_t4 (List.mem_of_getElem? (i := 216) rfl)) rfl
theorem kw_4_217 : (.static yH_indices : Cond) ∈ xw := xw_t (x_t4 (List.mem_of_getElem? (i := 217) rfl)) rfl
theorem kw_4_218 : (.code yH_indices prog_5_method_22_code 6 (some .int) : Cond) ∈ xw := xw_t (x_t4 (List.mem_of_getElem? (i := 218) rfl)) rfl
theorem kw_4_219 : (.methodLink "ValueBench$Pairs" 147 yH_nothing : Cond) ∈ xw := xw_t (x_t4 (List.mem_of_getElem? (i := 219) rfl)) rfl
theorem kw_4_22 : (.methodLink "ValueBenchLaw" 43 yB_one : Cond) ∈ xw := xw_t (x_t4 (List.mem_of_getElem? (i := 22) rfl)) rfl
theorem kw_4_220 : (.static yH_nothing : Cond) ∈ xw := xw_t (x_t4 (List.mem_of_getElem? (i := 220) rfl)) rfl
theorem kw_4_221 : (.code yH_nothing prog_5_method_4_code 1 (some .int) : Cond) ∈ xw := xw_t (x_t4 (List.mem_of_getElem? (i := 221) rfl)) rfl
theorem kw_4_222 : (.methodLink "ValueBench$Pairs" 61 yR_putNull : Cond) ∈ xw := xw_t (x_t4 (List.mem_of_getElem? (i := 222) rfl)) rfl
theorem kw_4_23 : (.instanceMethod yB_one : Cond) ∈ xw := xw_t (x_t4 (List.mem_of_getElem? (i := 23) rfl)) rfl
theorem kw_4_236 : (.methodLink "ValueBench$Pairs" 45 yH_flat : Cond) ∈ xw := xw_t (x_t4 (List.mem_of_getElem? (i := 236) rfl)) rfl
theorem kw_4_237 : (.static yH_flat : Cond) ∈ xw := xw_t (x_t4 (List.mem_of_getElem? (i := 237) rfl)) rfl
theorem kw_4_238 : (.code yH_flat prog_5_method_26_code 5 (some .int) : Cond) ∈ xw := xw_t (x_t4 (List.mem_of_getElem? (i := 238) rfl)) rfl
theorem kw_4_24 : (.selects "ValueBench" yB_one yB_one : Cond) ∈ xw := xw_t (x_t4 (List.mem_of_getElem? (i := 24) rfl)) rfl
theorem kw_4_25 : (.code yB_one prog_1_method_9_code 4 none : Cond) ∈ xw := xw_t (x_t4 (List.mem_of_getElem? (i := 25) rfl)) rfl
theorem kw_4_26 : (.methodLink "ValueBench" 123 yG_apply : Cond) ∈ xw := xw_t (x_t4 (List.mem_of_getElem? (i := 26) rfl)) rfl
theorem kw_4_27 : (.static yG_apply : Cond) ∈ xw := xw_t (x_t4 (List.mem_of_getElem? (i := 27) rfl)) rfl
theorem kw_4_28 : (.code yG_apply prog_9_method_2_code 5 (some .int) : Cond) ∈ xw := xw_t (x_t4 (List.mem_of_getElem? (i := 28) rfl)) rfl
theorem kw_4_29 : (.methodLink "ValueBench$Singles" 9 yR_is : Cond) ∈ xw := xw_t (x_t4 (List.mem_of_getElem? (i := 29) rfl)) rfl
theorem kw_4_3 : (.methodLink "ValueBenchLaw" 88 yL_compare : Cond) ∈ xw := xw_t (x_t4 (List.mem_of_getElem? (i := 3) rfl)) rfl
theorem kw_4_30 : (.methodLink "ValueBench$Singles" 15 yR_putTruth : Cond) ∈ xw := xw_t (x_t4 (List.mem_of_getElem? (i := 30) rfl)) rfl
theorem kw_4_31 : (.instanceMethod yR_putTruth : Cond) ∈ xw := xw_t (x_t4 (List.mem_of_getElem? (i := 31) rfl)) rfl
theorem kw_4_32 : (.selects "ValueBench$Row" yR_putTruth yR_putTruth : Cond) ∈ xw := xw_t (x_t4 (List.mem_of_getElem? (i := 32) rfl)) rfl
theorem kw_4_33 : (.code yR_putTruth prog_8_method_18_code 2 none : Cond) ∈ xw := xw_t (x_t4 (List.mem_of_getElem? (i := 33) rfl)) rfl
theorem kw_4_34 : (.constantLong "ValueBench$Row" 56 2 : Cond) ∈ xw := xw_t (x_t4 (List.mem_of_getElem? (i := 34) rfl)) rfl
theorem kw_4_35 : (.methodLink "ValueBench$Singles" 19 yG_length : Cond) ∈ xw := xw_t (x_t4 (List.mem_of_getElem? (i := 35) rfl)) rfl
theorem kw_4_36 : (.static yG_length : Cond) ∈ xw := xw_t (x_t4 (List.mem_of_getElem? (i := 36) rfl)) rfl
theorem kw_4_37 : (.code yG_length prog_9_method_4_code 2 (some .int) : Cond) ∈ xw := xw_t (x_t4 (List.mem_of_getElem? (i := 37) rfl)) rfl
theorem kw_4_38 : (.methodLink "ValueBench$Singles" 62 yR_kind : Cond) ∈ xw := xw_t (x_t4 (List.mem_of_getElem? (i := 38) rfl)) rfl
theorem kw_4_39 : (.methodLink "ValueBench$Singles" 66 yR_putNumber : Cond) ∈ xw := xw_t (x_t4 (List.mem_of_getElem? (i := 39) rfl)) rfl
theorem kw_4_4 : (.static yL_compare : Cond) ∈ xw := xw_t (x_t4 (List.mem_of_getElem? (i := 4) rfl)) rfl
theorem kw_4_46 : (.methodLink "ValueBench$Singles" 82 yR_open : Cond) ∈ xw := xw_t (x_t4 (List.mem_of_getElem? (i := 46) rfl)) rfl
theorem kw_4_5 : (.codeWith yL_compare method_8_code 5 (some .int) [(0, 10, 13, 19)] : Cond) ∈ xw := xw_t (x_t4 (List.mem_of_getElem? (i := 5) rfl)) rfl
theorem kw_4_6 : (.methodLink "ValueBenchLaw" 35 yB_compare : Cond) ∈ xw := xw_t (x_t4 (List.mem_of_getElem? (i := 6) rfl)) rfl
theorem kw_4_7 : (.instanceMethod yB_compare : Cond) ∈ xw := xw_t (x_t4 (List.mem_of_getElem? (i := 7) rfl)) rfl
theorem kw_4_70 : (.methodLink "ValueBench$Singles" 89 yR_close : Cond) ∈ xw := xw_t (x_t4 (List.mem_of_getElem? (i := 70) rfl)) rfl
theorem kw_4_71 : (.methodLink "ValueBench$Singles" 29 yG_keys : Cond) ∈ xw := xw_t (x_t4 (List.mem_of_getElem? (i := 71) rfl)) rfl
theorem kw_4_72 : (.static yG_keys : Cond) ∈ xw := xw_t (x_t4 (List.mem_of_getElem? (i := 72) rfl)) rfl
theorem kw_4_73 : (.code yG_keys prog_9_method_5_code 5 (some .int) : Cond) ∈ xw := xw_t (x_t4 (List.mem_of_getElem? (i := 73) rfl)) rfl
theorem kw_4_78 : (.methodLink "ValueBench$Singles" 35 yG_printed : Cond) ∈ xw := xw_t (x_t4 (List.mem_of_getElem? (i := 78) rfl)) rfl
theorem kw_4_79 : (.static yG_printed : Cond) ∈ xw := xw_t (x_t4 (List.mem_of_getElem? (i := 79) rfl)) rfl
theorem kw_4_8 : (.selects "ValueBench" yB_compare yB_compare : Cond) ∈ xw := xw_t (x_t4 (List.mem_of_getElem? (i := 8) rfl)) rfl
theorem kw_4_80 : (.code yG_printed prog_9_method_7_code 3 (some .int) : Cond) ∈ xw := xw_t (x_t4 (List.mem_of_getElem? (i := 80) rfl)) rfl
theorem kw_4_81 : (.methodLink "ValueBench$Singles" 101 yT_clear : Cond) ∈ xw := xw_t (x_t4 (List.mem_of_getElem? (i := 81) rfl)) rfl
theorem kw_4_82 : (.methodLink "ValueBench$Singles" 106 yP_write : Cond) ∈ xw := xw_t (x_t4 (List.mem_of_getElem? (i := 82) rfl)) rfl
theorem kw_4_83 : (.methodLink "ValueBench$Singles" 112 yR_putText : Cond) ∈ xw := xw_t (x_t4 (List.mem_of_getElem? (i := 83) rfl)) rfl
theorem kw_4_84 : (.instanceMethod yR_putText : Cond) ∈ xw := xw_t (x_t4 (List.mem_of_getElem? (i := 84) rfl)) rfl
theorem kw_4_85 : (.selects "ValueBench$Row" yR_putText yR_putText : Cond) ∈ xw := xw_t (x_t4 (List.mem_of_getElem? (i := 85) rfl)) rfl
theorem kw_4_86 : (.code yR_putText prog_8_method_20_code 4 none : Cond) ∈ xw := xw_t (x_t4 (List.mem_of_getElem? (i := 86) rfl)) rfl
theorem kw_4_87 : (.methodLink "ValueBench$Row" 62 yT_size : Cond) ∈ xw := xw_t (x_t4 (List.mem_of_getElem? (i := 87) rfl)) rfl
theorem kw_4_88 : (.methodLink "ValueBench$Row" 66 yT_at : Cond) ∈ xw := xw_t (x_t4 (List.mem_of_getElem? (i := 88) rfl)) rfl
theorem kw_4_89 : (.methodLink "ValueBench$Row" 73 yT_isOver : Cond) ∈ xw := xw_t (x_t4 (List.mem_of_getElem? (i := 89) rfl)) rfl
theorem kw_4_9 : (.code yB_compare prog_1_method_7_code 3 (some .int) : Cond) ∈ xw := xw_t (x_t4 (List.mem_of_getElem? (i := 9) rfl)) rfl
theorem kw_4_90 : (.methodLink "ValueBench$Singles" 39 yG_toNumber : Cond) ∈ xw := xw_t (x_t4 (List.mem_of_getElem? (i := 90) rfl)) rfl
theorem kw_4_91 : (.static yG_toNumber : Cond) ∈ xw := xw_t (x_t4 (List.mem_of_getElem? (i := 91) rfl)) rfl
theorem kw_4_92 : (.code yG_toNumber prog_9_method_8_code 3 (some .int) : Cond) ∈ xw := xw_t (x_t4 (List.mem_of_getElem? (i := 92) rfl)) rfl
theorem kw_5_100 : (.fieldLink "ValueBenchModel" 31 "ValueBenchModel" "index" "[I" : Cond) ∈ xw := xw_t (x_t5 (List.mem_of_getElem? (i := 100) rfl)) rfl
theorem kw_5_101 : (.fieldLink "ValueBenchModel" 35 "ValueBenchModel" "other" "[I" : Cond) ∈ xw := xw_t (x_t5 (List.mem_of_getElem? (i := 101) rfl)) rfl
theorem kw_5_102 : (.fieldLink "ValueBenchModel" 214 "ValueBenchModel" "source" "[B" : Cond) ∈ xw := xw_t (x_t5 (List.mem_of_getElem? (i := 102) rfl)) rfl
theorem kw_5_103 : (.fieldLink "ValueBenchModel" 208 "ValueBenchModel" "at" "I" : Cond) ∈ xw := xw_t (x_t5 (List.mem_of_getElem? (i := 103) rfl)) rfl
theorem kw_5_104 : (.fieldLink "ValueBenchModel" 211 "ValueBenchModel" "stop" "I" : Cond) ∈ xw := xw_t (x_t5 (List.mem_of_getElem? (i := 104) rfl)) rfl
theorem kw_5_105 : (.fieldLink "ValueBenchModel" 220 "ValueBenchModel" "opened" "I" : Cond) ∈ xw := xw_t (x_t5 (List.mem_of_getElem? (i := 105) rfl)) rfl
theorem kw_5_106 : (.fieldLink "ValueBenchModel" 38 "ValueBenchModel" "mostOpen" "I" : Cond) ∈ xw := xw_t (x_t5 (List.mem_of_getElem? (i := 106) rfl)) rfl
theorem kw_5_107 : (.fieldLink "ValueBenchModel" 42 "ValueBenchModel" "place" "I" : Cond) ∈ xw := xw_t (x_t5 (List.mem_of_getElem? (i := 107) rfl)) rfl
theorem kw_5_108 : (.fieldLink "ValueBenchModel" 45 "ValueBenchModel" "printed" "[B" : Cond) ∈ xw := xw_t (x_t5 (List.mem_of_getElem? (i := 108) rfl)) rfl
theorem kw_5_109 : (.fieldLink "ValueBenchModel" 276 "ValueBenchModel" "printedSize" "I" : Cond) ∈ xw := xw_t (x_t5 (List.mem_of_getElem? (i := 109) rfl)) rfl
theorem kw_5_110 : (.fieldLink "ValueBenchModel" 49 "ValueBenchModel" "mostPrinted" "I" : Cond) ∈ xw := xw_t (x_t5 (List.mem_of_getElem? (i := 110) rfl)) rfl
theorem kw_5_111 : (.fieldLink "ValueBenchModel" 54 "ValueBenchModel" "registers" "[[B" : Cond) ∈ xw := xw_t (x_t5 (List.mem_of_getElem? (i := 111) rfl)) rfl
theorem kw_5_112 : (.fieldLink "ValueBenchModel" 57 "ValueBenchModel" "registerSizes" "[I" : Cond) ∈ xw := xw_t (x_t5 (List.mem_of_getElem? (i := 112) rfl)) rfl
theorem kw_5_113 : (.fieldLink "ValueBenchModel" 60 "ValueBenchModel" "tape" "[B" : Cond) ∈ xw := xw_t (x_t5 (List.mem_of_getElem? (i := 113) rfl)) rfl
theorem kw_5_114 : (.fieldLink "ValueBenchModel" 421 "ValueBenchModel" "taped" "I" : Cond) ∈ xw := xw_t (x_t5 (List.mem_of_getElem? (i := 114) rfl)) rfl
theorem kw_5_115 : (.fieldLink "ValueBenchModel" 63 "ValueBenchModel" "result" "[B" : Cond) ∈ xw := xw_t (x_t5 (List.mem_of_getElem? (i := 115) rfl)) rfl
theorem kw_5_116 : (.fieldLink "ValueBenchModel" 434 "ValueBenchModel" "size" "I" : Cond) ∈ xw := xw_t (x_t5 (List.mem_of_getElem? (i := 116) rfl)) rfl
theorem kw_5_117 : (.fieldLink "ValueBenchModel" 415 "ValueBenchModel" "refused" "I" : Cond) ∈ xw := xw_t (x_t5 (List.mem_of_getElem? (i := 117) rfl)) rfl
theorem kw_5_118 : (.fieldLink "ValueBenchModel" 66 "ValueBenchModel" "readPlace" "I" : Cond) ∈ xw := xw_t (x_t5 (List.mem_of_getElem? (i := 118) rfl)) rfl
theorem kw_5_12 : (.methodLink "ValueBenchLaw" 102 yL_sort : Cond) ∈ xw := xw_t (x_t5 (List.mem_of_getElem? (i := 12) rfl)) rfl
theorem kw_5_13 : (.static yL_sort : Cond) ∈ xw := xw_t (x_t5 (List.mem_of_getElem? (i := 13) rfl)) rfl
theorem kw_5_14 : (.codeWith yL_sort method_12_code 6 (some .int) [(0, 9, 12, 19), (0, 9, 16, 33), (0, 9, 20, 13)] : Cond) ∈ xw := xw_t (x_t5 (List.mem_of_getElem? (i := 14) rfl)) rfl
theorem kw_5_15 : (.methodLink "ValueBenchLaw" 50 yB_sort : Cond) ∈ xw := xw_t (x_t5 (List.mem_of_getElem? (i := 15) rfl)) rfl
theorem kw_5_16 : (.instanceMethod yB_sort : Cond) ∈ xw := xw_t (x_t5 (List.mem_of_getElem? (i := 16) rfl)) rfl
theorem kw_5_17 : (.selects "ValueBench" yB_sort yB_sort : Cond) ∈ xw := xw_t (x_t5 (List.mem_of_getElem? (i := 17) rfl)) rfl
theorem kw_5_18 : (.code yB_sort prog_1_method_11_code 5 none : Cond) ∈ xw := xw_t (x_t5 (List.mem_of_getElem? (i := 18) rfl)) rfl
theorem kw_5_184 : (.methodLink "ValueBenchLaw" 70 yM_thrown : Cond) ∈ xw := xw_t (x_t5 (List.mem_of_getElem? (i := 184) rfl)) rfl
theorem kw_5_185 : (.instanceMethod yM_thrown : Cond) ∈ xw := xw_t (x_t5 (List.mem_of_getElem? (i := 185) rfl)) rfl
theorem kw_5_186 : (.selects "ValueBenchModel" yM_thrown yM_thrown : Cond) ∈ xw := xw_t (x_t5 (List.mem_of_getElem? (i := 186) rfl)) rfl
theorem kw_5_187 : (.code yM_thrown prog_13_method_2_code 1 (some .int) : Cond) ∈ xw := xw_t (x_t5 (List.mem_of_getElem? (i := 187) rfl)) rfl
theorem kw_5_188 : (.methodLink "ValueBenchLaw" 69 yM_feed : Cond) ∈ xw := xw_t (x_t5 (List.mem_of_getElem? (i := 188) rfl)) rfl
theorem kw_5_189 : (.instanceMethod yM_feed : Cond) ∈ xw := xw_t (x_t5 (List.mem_of_getElem? (i := 189) rfl)) rfl
theorem kw_5_19 : (.methodLink "ValueBench" 133 yK_apply : Cond) ∈ xw := xw_t (x_t5 (List.mem_of_getElem? (i := 19) rfl)) rfl
theorem kw_5_190 : (.selects "ValueBenchModel" yM_feed yM_feed : Cond) ∈ xw := xw_t (x_t5 (List.mem_of_getElem? (i := 190) rfl)) rfl
theorem kw_5_191 : (.code yM_feed prog_13_method_82_code 8 (some .int) : Cond) ∈ xw := xw_t (x_t5 (List.mem_of_getElem? (i := 191) rfl)) rfl
theorem kw_5_192 : (.methodLink "ValueBenchModel" 418 yM_fail : Cond) ∈ xw := xw_t (x_t5 (List.mem_of_getElem? (i := 192) rfl)) rfl
theorem kw_5_194 : (.instanceMethod yM_fail : Cond) ∈ xw := xw_t (x_t5 (List.mem_of_getElem? (i := 194) rfl)) rfl
theorem kw_5_195 : (.code yM_fail prog_13_method_3_code 2 (some .int) : Cond) ∈ xw := xw_t (x_t5 (List.mem_of_getElem? (i := 195) rfl)) rfl
theorem kw_5_196 : (.methodLink "ValueBenchLaw" 77 yM_end : Cond) ∈ xw := xw_t (x_t5 (List.mem_of_getElem? (i := 196) rfl)) rfl
theorem kw_5_197 : (.instanceMethod yM_end : Cond) ∈ xw := xw_t (x_t5 (List.mem_of_getElem? (i := 197) rfl)) rfl
theorem kw_5_198 : (.selects "ValueBenchModel" yM_end yM_end : Cond) ∈ xw := xw_t (x_t5 (List.mem_of_getElem? (i := 198) rfl)) rfl
theorem kw_5_199 : (.code yM_end prog_13_method_83_code 2 (some .int) : Cond) ∈ xw := xw_t (x_t5 (List.mem_of_getElem? (i := 199) rfl)) rfl
theorem kw_5_2 : (.methodLink "ValueBench$Pairs" 54 yH_at : Cond) ∈ xw := xw_t (x_t5 (List.mem_of_getElem? (i := 2) rfl)) rfl
theorem kw_5_20 : (.static yK_apply : Cond) ∈ xw := xw_t (x_t5 (List.mem_of_getElem? (i := 20) rfl)) rfl
theorem kw_5_200 : (.methodLink "ValueBenchLaw" 80 yM_read : Cond) ∈ xw := xw_t (x_t5 (List.mem_of_getElem? (i := 200) rfl)) rfl
theorem kw_5_201 : (.instanceMethod yM_read : Cond) ∈ xw := xw_t (x_t5 (List.mem_of_getElem? (i := 201) rfl)) rfl
theorem kw_5_202 : (.selects "ValueBenchModel" yM_read yM_read : Cond) ∈ xw := xw_t (x_t5 (List.mem_of_getElem? (i := 202) rfl)) rfl
theorem kw_5_203 : (.codeWith yM_read prog_13_method_84_code 4 (some .int) [(39, 54, 55, 205), (39, 54, 70, 86)] : Cond) ∈ xw := xw_t (x_t5 (List.mem_of_getElem? (i := 203) rfl)) rfl
theorem kw_5_204 : (.classLink "ValueBenchModel" 205 "java/lang/UnsupportedOperationException" : Cond) ∈ xw := xw_t (x_t5 (List.mem_of_getElem? (i := 204) rfl)) rfl
theorem kw_5_206 : (.methodLink "ValueBenchModel" 424 yM_begin : Cond) ∈ xw := xw_t (x_t5 (List.mem_of_getElem? (i := 206) rfl)) rfl
theorem kw_5_208 : (.instanceMethod yM_begin : Cond) ∈ xw := xw_t (x_t5 (List.mem_of_getElem? (i := 208) rfl)) rfl
theorem kw_5_209 : (.code yM_begin prog_13_method_78_code 1 none : Cond) ∈ xw := xw_t (x_t5 (List.mem_of_getElem? (i := 209) rfl)) rfl
theorem kw_5_21 : (.code yK_apply prog_2_method_2_code 5 (some .int) : Cond) ∈ xw := xw_t (x_t5 (List.mem_of_getElem? (i := 21) rfl)) rfl
theorem kw_5_210 : (.methodLink "ValueBenchModel" 412 yM_clear : Cond) ∈ xw := xw_t (x_t5 (List.mem_of_getElem? (i := 210) rfl)) rfl
theorem kw_5_212 : (.instanceMethod yM_clear : Cond) ∈ xw := xw_t (x_t5 (List.mem_of_getElem? (i := 212) rfl)) rfl
theorem kw_5_213 : (.code yM_clear prog_13_method_18_code 1 none : Cond) ∈ xw := xw_t (x_t5 (List.mem_of_getElem? (i := 213) rfl)) rfl
theorem kw_5_214 : (.methodLink "ValueBenchModel" 427 yM_out : Cond) ∈ xw := xw_t (x_t5 (List.mem_of_getElem? (i := 214) rfl)) rfl
theorem kw_5_216 : (.instanceMethod yM_out : Cond) ∈ xw := xw_t (x_t5 (List.mem_of_getElem? (i := 216) rfl)) rfl
theorem kw_5_217 : (.code yM_out prog_13_method_77_code 2 (some .boolean) : Cond) ∈ xw := xw_t (x_t5 (List.mem_of_getElem? (i := 217) rfl)) rfl
theorem kw_5_218 : (.methodLink "ValueBenchModel" 344 yM_json : Cond) ∈ xw := xw_t (x_t5 (List.mem_of_getElem? (i := 218) rfl)) rfl
theorem kw_5_22 : (.methodLink "ValueBench$Keyed" 9 yR_is : Cond) ∈ xw := xw_t (x_t5 (List.mem_of_getElem? (i := 22) rfl)) rfl
theorem kw_5_220 : (.instanceMethod yM_json : Cond) ∈ xw := xw_t (x_t5 (List.mem_of_getElem? (i := 220) rfl)) rfl
theorem kw_5_221 : (.code yM_json prog_13_method_32_code 5 (some (.object "ValueBenchModel$V")) : Cond) ∈ xw := xw_t (x_t5 (List.mem_of_getElem? (i := 221) rfl)) rfl
theorem kw_5_222 : (.methodLink "ValueBenchModel" 223 yM_value : Cond) ∈ xw := xw_t (x_t5 (List.mem_of_getElem? (i := 222) rfl)) rfl
theorem kw_5_224 : (.instanceMethod yM_value : Cond) ∈ xw := xw_t (x_t5 (List.mem_of_getElem? (i := 224) rfl)) rfl
theorem kw_5_225 : (.code yM_value prog_13_method_34_code 3 (some (.object "ValueBenchModel$V")) : Cond) ∈ xw := xw_t (x_t5 (List.mem_of_getElem? (i := 225) rfl)) rfl
theorem kw_5_226 : (.methodLink "ValueBenchModel" 226 yM_blanks : Cond) ∈ xw := xw_t (x_t5 (List.mem_of_getElem? (i := 226) rfl)) rfl
theorem kw_5_228 : (.instanceMethod yM_blanks : Cond) ∈ xw := xw_t (x_t5 (List.mem_of_getElem? (i := 228) rfl)) rfl
theorem kw_5_229 : (.code yM_blanks prog_13_method_31_code 1 none : Cond) ∈ xw := xw_t (x_t5 (List.mem_of_getElem? (i := 229) rfl)) rfl
theorem kw_5_230 : (.methodLink "ValueBenchModel" 217 yM_peek : Cond) ∈ xw := xw_t (x_t5 (List.mem_of_getElem? (i := 230) rfl)) rfl
theorem kw_5_232 : (.instanceMethod yM_peek : Cond) ∈ xw := xw_t (x_t5 (List.mem_of_getElem? (i := 232) rfl)) rfl
theorem kw_5_233 : (.code yM_peek prog_13_method_29_code 1 (some .int) : Cond) ∈ xw := xw_t (x_t5 (List.mem_of_getElem? (i := 233) rfl)) rfl
theorem kw_5_234 : (.methodLink "ValueBenchModel" 232 yM_says : Cond) ∈ xw := xw_t (x_t5 (List.mem_of_getElem? (i := 234) rfl)) rfl
theorem kw_5_236 : (.instanceMethod yM_says : Cond) ∈ xw := xw_t (x_t5 (List.mem_of_getElem? (i := 236) rfl)) rfl
theorem kw_5_237 : (.code yM_says prog_13_method_33_code 4 (some (.object "ValueBenchModel$V")) : Cond) ∈ xw := xw_t (x_t5 (List.mem_of_getElem? (i := 237) rfl)) rfl
theorem kw_5_238 : (.methodLink "ValueBenchModel" 131 yJS_length : Cond) ∈ xw := xw_t (x_t5 (List.mem_of_getElem? (i := 238) rfl)) rfl
theorem kw_5_239 : (.methodLink "ValueBenchModel" 229 yM_bad : Cond) ∈ xw := xw_t (x_t5 (List.mem_of_getElem? (i := 239) rfl)) rfl
theorem kw_5_3 : (.static yH_at : Cond) ∈ xw := xw_t (x_t5 (List.mem_of_getElem? (i := 3) rfl)) rfl
theorem kw_5_4 : (.code yH_at prog_5_method_28_code 4 (some .int) : Cond) ∈ xw := xw_t (x_t5 (List.mem_of_getElem? (i := 4) rfl)) rfl
theorem kw_5_57 : (.methodLink "ValueBenchLaw" 105 yL_word : Cond) ∈ xw := xw_t (x_t5 (List.mem_of_getElem? (i := 57) rfl)) rfl
theorem kw_5_58 : (.static yL_word : Cond) ∈ xw := xw_t (x_t5 (List.mem_of_getElem? (i := 58) rfl)) rfl
theorem kw_5_59 : (.codeWith yL_word method_13_code 4 (some .int) [(0, 8, 11, 13)] : Cond) ∈ xw := xw_t (x_t5 (List.mem_of_getElem? (i := 59) rfl)) rfl
theorem kw_5_60 : (.methodLink "ValueBenchLaw" 53 yB_word : Cond) ∈ xw := xw_t (x_t5 (List.mem_of_getElem? (i := 60) rfl)) rfl
theorem kw_5_61 : (.instanceMethod yB_word : Cond) ∈ xw := xw_t (x_t5 (List.mem_of_getElem? (i := 61) rfl)) rfl
theorem kw_5_62 : (.selects "ValueBench" yB_word yB_word : Cond) ∈ xw := xw_t (x_t5 (List.mem_of_getElem? (i := 62) rfl)) rfl
theorem kw_5_63 : (.code yB_word prog_1_method_12_code 5 (some .long) : Cond) ∈ xw := xw_t (x_t5 (List.mem_of_getElem? (i := 63) rfl)) rfl
theorem kw_5_67 : (.methodLink "ValueBenchLaw" 108 yL_count : Cond) ∈ xw := xw_t (x_t5 (List.mem_of_getElem? (i := 67) rfl)) rfl
theorem kw_5_68 : (.static yL_count : Cond) ∈ xw := xw_t (x_t5 (List.mem_of_getElem? (i := 68) rfl)) rfl
theorem kw_5_69 : (.codeWith yL_count method_14_code 4 (some .int) [(0, 9, 12, 19)] : Cond) ∈ xw := xw_t (x_t5 (List.mem_of_getElem? (i := 69) rfl)) rfl
theorem kw_5_70 : (.methodLink "ValueBenchLaw" 57 yB_count : Cond) ∈ xw := xw_t (x_t5 (List.mem_of_getElem? (i := 70) rfl)) rfl
theorem kw_5_71 : (.instanceMethod yB_count : Cond) ∈ xw := xw_t (x_t5 (List.mem_of_getElem? (i := 71) rfl)) rfl
theorem kw_5_72 : (.selects "ValueBench" yB_count yB_count : Cond) ∈ xw := xw_t (x_t5 (List.mem_of_getElem? (i := 72) rfl)) rfl
theorem kw_5_73 : (.code yB_count prog_1_method_13_code 2 (some .int) : Cond) ∈ xw := xw_t (x_t5 (List.mem_of_getElem? (i := 73) rfl)) rfl
theorem kw_5_74 : (.classLink "ValueBenchLaw" 61 "ValueBenchModel" : Cond) ∈ xw := xw_t (x_t5 (List.mem_of_getElem? (i := 74) rfl)) rfl
theorem kw_5_75 : (.instantiable "ValueBenchModel" 32 : Cond) ∈ xw := xw_t (x_t5 (List.mem_of_getElem? (i := 75) rfl)) rfl
theorem kw_5_76 : (.methodLink "ValueBenchLaw" 63 yM_init : Cond) ∈ xw := xw_t (x_t5 (List.mem_of_getElem? (i := 76) rfl)) rfl
theorem kw_5_77 : (.instanceMethod yM_init : Cond) ∈ xw := xw_t (x_t5 (List.mem_of_getElem? (i := 77) rfl)) rfl
theorem kw_5_78 : (.code yM_init prog_13_method_1_code 3 none : Cond) ∈ xw := xw_t (x_t5 (List.mem_of_getElem? (i := 78) rfl)) rfl
theorem kw_5_79 : (.methodLink "ValueBenchModel" 1 objectInit : Cond) ∈ xw := xw_t (x_t5 (List.mem_of_getElem? (i := 79) rfl)) rfl
theorem kw_5_80 : (.classLink "ValueBenchModel" 7 "ValueBenchModel$V" : Cond) ∈ xw := xw_t (x_t5 (List.mem_of_getElem? (i := 80) rfl)) rfl
theorem kw_5_82 : (.constant "ValueBenchModel" 48 1000000000 : Cond) ∈ xw := xw_t (x_t5 (List.mem_of_getElem? (i := 82) rfl)) rfl
theorem kw_5_83 : (.classLink "ValueBenchModel" 52 "[[B" : Cond) ∈ xw := xw_t (x_t5 (List.mem_of_getElem? (i := 83) rfl)) rfl
theorem kw_5_86 : (.methodLink "ValueBenchModel" 71 yJS_charAt : Cond) ∈ xw := xw_t (x_t5 (List.mem_of_getElem? (i := 86) rfl)) rfl
theorem kw_5_87 : (.fieldLink "ValueBenchModel" 77 "ValueBenchModel" "failed" "I" : Cond) ∈ xw := xw_t (x_t5 (List.mem_of_getElem? (i := 87) rfl)) rfl
theorem kw_5_88 : (.fieldLink "ValueBenchModel" 9 "ValueBenchModel" "made" "[LValueBenchModel$V;" : Cond) ∈ xw := xw_t (x_t5 (List.mem_of_getElem? (i := 88) rfl)) rfl
theorem kw_5_89 : (.fieldLink "ValueBenchModel" 89 "ValueBenchModel" "madeTop" "I" : Cond) ∈ xw := xw_t (x_t5 (List.mem_of_getElem? (i := 89) rfl)) rfl
theorem kw_5_90 : (.fieldLink "ValueBenchModel" 15 "ValueBenchModel" "chars" "[B" : Cond) ∈ xw := xw_t (x_t5 (List.mem_of_getElem? (i := 90) rfl)) rfl
theorem kw_5_91 : (.fieldLink "ValueBenchModel" 123 "ValueBenchModel" "charTop" "I" : Cond) ∈ xw := xw_t (x_t5 (List.mem_of_getElem? (i := 91) rfl)) rfl
theorem kw_5_92 : (.fieldLink "ValueBenchModel" 19 "ValueBenchModel" "kids" "[LValueBenchModel$V;" : Cond) ∈ xw := xw_t (x_t5 (List.mem_of_getElem? (i := 92) rfl)) rfl
theorem kw_5_93 : (.fieldLink "ValueBenchModel" 22 "ValueBenchModel" "names" "[LValueBenchModel$V;" : Cond) ∈ xw := xw_t (x_t5 (List.mem_of_getElem? (i := 93) rfl)) rfl
theorem kw_5_94 : (.fieldLink "ValueBenchModel" 145 "ValueBenchModel" "kidTop" "I" : Cond) ∈ xw := xw_t (x_t5 (List.mem_of_getElem? (i := 94) rfl)) rfl
theorem kw_5_95 : (.fieldLink "ValueBenchModel" 80 "ValueBenchModel" "reason" "I" : Cond) ∈ xw := xw_t (x_t5 (List.mem_of_getElem? (i := 95) rfl)) rfl
theorem kw_5_96 : (.fieldLink "ValueBenchModel" 156 "ValueBenchModel" "parts" "I" : Cond) ∈ xw := xw_t (x_t5 (List.mem_of_getElem? (i := 96) rfl)) rfl
theorem kw_5_97 : (.fieldLink "ValueBenchModel" 25 "ValueBenchModel" "waitKids" "[LValueBenchModel$V;" : Cond) ∈ xw := xw_t (x_t5 (List.mem_of_getElem? (i := 97) rfl)) rfl
theorem kw_5_98 : (.fieldLink "ValueBenchModel" 28 "ValueBenchModel" "waitNames" "[LValueBenchModel$V;" : Cond) ∈ xw := xw_t (x_t5 (List.mem_of_getElem? (i := 98) rfl)) rfl
theorem kw_5_99 : (.fieldLink "ValueBenchModel" 142 "ValueBenchModel" "waiting" "I" : Cond) ∈ xw := xw_t (x_t5 (List.mem_of_getElem? (i := 99) rfl)) rfl
theorem kw_6_1 : (.instanceMethod yM_bad : Cond) ∈ xw := xw_t (x_t6 (List.mem_of_getElem? (i := 1) rfl)) rfl
theorem kw_6_103 : (.methodLink "ValueBenchModel" 190 yM_whole : Cond) ∈ xw := xw_t (x_t6 (List.mem_of_getElem? (i := 103) rfl)) rfl
theorem kw_6_105 : (.instanceMethod yM_whole : Cond) ∈ xw := xw_t (x_t6 (List.mem_of_getElem? (i := 105) rfl)) rfl
theorem kw_6_106 : (.code yM_whole prog_13_method_15_code 8 (some (.object "ValueBenchModel$V")) : Cond) ∈ xw := xw_t (x_t6 (List.mem_of_getElem? (i := 106) rfl)) rfl
theorem kw_6_108 : (.constantLong "ValueBenchModel" 154 60000 : Cond) ∈ xw := xw_t (x_t6 (List.mem_of_getElem? (i := 108) rfl)) rfl
theorem kw_6_121 : (.methodLink "ValueBenchModel" 430 yM_store : Cond) ∈ xw := xw_t (x_t6 (List.mem_of_getElem? (i := 121) rfl)) rfl
theorem kw_6_123 : (.instanceMethod yM_store : Cond) ∈ xw := xw_t (x_t6 (List.mem_of_getElem? (i := 123) rfl)) rfl
theorem kw_6_124 : (.code yM_store prog_13_method_80_code 4 (some .int) : Cond) ∈ xw := xw_t (x_t6 (List.mem_of_getElem? (i := 124) rfl)) rfl
theorem kw_6_125 : (.methodLink "ValueBenchModel" 299 yM_print1 : Cond) ∈ xw := xw_t (x_t6 (List.mem_of_getElem? (i := 125) rfl)) rfl
theorem kw_6_127 : (.instanceMethod yM_print1 : Cond) ∈ xw := xw_t (x_t6 (List.mem_of_getElem? (i := 127) rfl)) rfl
theorem kw_6_128 : (.code yM_print1 prog_13_method_46_code 3 none : Cond) ∈ xw := xw_t (x_t6 (List.mem_of_getElem? (i := 128) rfl)) rfl
theorem kw_6_129 : (.methodLink "ValueBenchModel" 286 yM_put1 : Cond) ∈ xw := xw_t (x_t6 (List.mem_of_getElem? (i := 129) rfl)) rfl
theorem kw_6_13 : (.methodLink "ValueBenchModel" 120 yM_fresh : Cond) ∈ xw := xw_t (x_t6 (List.mem_of_getElem? (i := 13) rfl)) rfl
theorem kw_6_131 : (.instanceMethod yM_put1 : Cond) ∈ xw := xw_t (x_t6 (List.mem_of_getElem? (i := 131) rfl)) rfl
theorem kw_6_132 : (.code yM_put1 prog_13_method_42_code 3 none : Cond) ∈ xw := xw_t (x_t6 (List.mem_of_getElem? (i := 132) rfl)) rfl
theorem kw_6_133 : (.methodLink "ValueBenchModel" 279 yM_put0 : Cond) ∈ xw := xw_t (x_t6 (List.mem_of_getElem? (i := 133) rfl)) rfl
theorem kw_6_135 : (.instanceMethod yM_put0 : Cond) ∈ xw := xw_t (x_t6 (List.mem_of_getElem? (i := 135) rfl)) rfl
theorem kw_6_136 : (.code yM_put0 prog_13_method_41_code 4 none : Cond) ∈ xw := xw_t (x_t6 (List.mem_of_getElem? (i := 136) rfl)) rfl
theorem kw_6_137 : (.methodLink "ValueBenchModel" 292 yM_putNumber : Cond) ∈ xw := xw_t (x_t6 (List.mem_of_getElem? (i := 137) rfl)) rfl
theorem kw_6_139 : (.instanceMethod yM_putNumber : Cond) ∈ xw := xw_t (x_t6 (List.mem_of_getElem? (i := 139) rfl)) rfl
theorem kw_6_140 : (.code yM_putNumber prog_13_method_43_code 7 none : Cond) ∈ xw := xw_t (x_t6 (List.mem_of_getElem? (i := 140) rfl)) rfl
theorem kw_6_141 : (.constantLong "ValueBenchModel" 282 9 : Cond) ∈ xw := xw_t (x_t6 (List.mem_of_getElem? (i := 141) rfl)) rfl
theorem kw_6_142 : (.methodLink "ValueBenchModel" 296 yM_putString : Cond) ∈ xw := xw_t (x_t6 (List.mem_of_getElem? (i := 142) rfl)) rfl
theorem kw_6_144 : (.instanceMethod yM_putString : Cond) ∈ xw := xw_t (x_t6 (List.mem_of_getElem? (i := 144) rfl)) rfl
theorem kw_6_145 : (.code yM_putString prog_13_method_45_code 4 none : Cond) ∈ xw := xw_t (x_t6 (List.mem_of_getElem? (i := 145) rfl)) rfl
theorem kw_6_15 : (.instanceMethod yM_fresh : Cond) ∈ xw := xw_t (x_t6 (List.mem_of_getElem? (i := 15) rfl)) rfl
theorem kw_6_159 : (.methodLink "ValueBenchLaw" 83 yM_print0 : Cond) ∈ xw := xw_t (x_t6 (List.mem_of_getElem? (i := 159) rfl)) rfl
theorem kw_6_16 : (.code yM_fresh prog_13_method_6_code 4 (some (.object "ValueBenchModel$V")) : Cond) ∈ xw := xw_t (x_t6 (List.mem_of_getElem? (i := 16) rfl)) rfl
theorem kw_6_160 : (.instanceMethod yM_print0 : Cond) ∈ xw := xw_t (x_t6 (List.mem_of_getElem? (i := 160) rfl)) rfl
theorem kw_6_161 : (.selects "ValueBenchModel" yM_print0 yM_print0 : Cond) ∈ xw := xw_t (x_t6 (List.mem_of_getElem? (i := 161) rfl)) rfl
theorem kw_6_162 : (.code yM_print0 prog_13_method_85_code 3 (some .int) : Cond) ∈ xw := xw_t (x_t6 (List.mem_of_getElem? (i := 162) rfl)) rfl
theorem kw_6_163 : (.methodLink "ValueBenchLaw" 94 yM_same0 : Cond) ∈ xw := xw_t (x_t6 (List.mem_of_getElem? (i := 163) rfl)) rfl
theorem kw_6_164 : (.instanceMethod yM_same0 : Cond) ∈ xw := xw_t (x_t6 (List.mem_of_getElem? (i := 164) rfl)) rfl
theorem kw_6_165 : (.selects "ValueBenchModel" yM_same0 yM_same0 : Cond) ∈ xw := xw_t (x_t6 (List.mem_of_getElem? (i := 165) rfl)) rfl
theorem kw_6_166 : (.code yM_same0 prog_13_method_86_code 3 (some .boolean) : Cond) ∈ xw := xw_t (x_t6 (List.mem_of_getElem? (i := 166) rfl)) rfl
theorem kw_6_167 : (.methodLink "ValueBenchModel" 437 yM_register : Cond) ∈ xw := xw_t (x_t6 (List.mem_of_getElem? (i := 167) rfl)) rfl
theorem kw_6_169 : (.instanceMethod yM_register : Cond) ∈ xw := xw_t (x_t6 (List.mem_of_getElem? (i := 169) rfl)) rfl
theorem kw_6_17 : (.instantiable "ValueBenchModel$V" 6 : Cond) ∈ xw := xw_t (x_t6 (List.mem_of_getElem? (i := 17) rfl)) rfl
theorem kw_6_170 : (.code yM_register prog_13_method_79_code 2 (some (.object "ValueBenchModel$V")) : Cond) ∈ xw := xw_t (x_t6 (List.mem_of_getElem? (i := 170) rfl)) rfl
theorem kw_6_171 : (.methodLink "ValueBenchModel" 173 yM_same1 : Cond) ∈ xw := xw_t (x_t6 (List.mem_of_getElem? (i := 171) rfl)) rfl
theorem kw_6_173 : (.instanceMethod yM_same1 : Cond) ∈ xw := xw_t (x_t6 (List.mem_of_getElem? (i := 173) rfl)) rfl
theorem kw_6_174 : (.code yM_same1 prog_13_method_21_code 5 (some .boolean) : Cond) ∈ xw := xw_t (x_t6 (List.mem_of_getElem? (i := 174) rfl)) rfl
theorem kw_6_179 : (.methodLink "ValueBenchLaw" 107 yM_word : Cond) ∈ xw := xw_t (x_t6 (List.mem_of_getElem? (i := 179) rfl)) rfl
theorem kw_6_180 : (.instanceMethod yM_word : Cond) ∈ xw := xw_t (x_t6 (List.mem_of_getElem? (i := 180) rfl)) rfl
theorem kw_6_181 : (.selects "ValueBenchModel" yM_word yM_word : Cond) ∈ xw := xw_t (x_t6 (List.mem_of_getElem? (i := 181) rfl)) rfl
theorem kw_6_182 : (.code yM_word prog_13_method_87_code 5 (some .long) : Cond) ∈ xw := xw_t (x_t6 (List.mem_of_getElem? (i := 182) rfl)) rfl
theorem kw_6_184 : (.methodLink "ValueBenchLaw" 110 yM_count : Cond) ∈ xw := xw_t (x_t6 (List.mem_of_getElem? (i := 184) rfl)) rfl
theorem kw_6_185 : (.instanceMethod yM_count : Cond) ∈ xw := xw_t (x_t6 (List.mem_of_getElem? (i := 185) rfl)) rfl
theorem kw_6_186 : (.selects "ValueBenchModel" yM_count yM_count : Cond) ∈ xw := xw_t (x_t6 (List.mem_of_getElem? (i := 186) rfl)) rfl
theorem kw_6_187 : (.code yM_count prog_13_method_88_code 2 (some .int) : Cond) ∈ xw := xw_t (x_t6 (List.mem_of_getElem? (i := 187) rfl)) rfl
theorem kw_6_188 : (.methodLink "ValueBenchLaw" 87 yM_binary0 : Cond) ∈ xw := xw_t (x_t6 (List.mem_of_getElem? (i := 188) rfl)) rfl
theorem kw_6_189 : (.instanceMethod yM_binary0 : Cond) ∈ xw := xw_t (x_t6 (List.mem_of_getElem? (i := 189) rfl)) rfl
theorem kw_6_19 : (.instanceMethod yV_init : Cond) ∈ xw := xw_t (x_t6 (List.mem_of_getElem? (i := 19) rfl)) rfl
theorem kw_6_190 : (.selects "ValueBenchModel" yM_binary0 yM_binary0 : Cond) ∈ xw := xw_t (x_t6 (List.mem_of_getElem? (i := 190) rfl)) rfl
theorem kw_6_191 : (.code yM_binary0 prog_13_method_89_code 5 none : Cond) ∈ xw := xw_t (x_t6 (List.mem_of_getElem? (i := 191) rfl)) rfl
theorem kw_6_192 : (.methodLink "ValueBenchModel" 442 yM_finish : Cond) ∈ xw := xw_t (x_t6 (List.mem_of_getElem? (i := 192) rfl)) rfl
theorem kw_6_194 : (.instanceMethod yM_finish : Cond) ∈ xw := xw_t (x_t6 (List.mem_of_getElem? (i := 194) rfl)) rfl
theorem kw_6_195 : (.codeWith yM_finish prog_13_method_90_code 10 none [(0, 128, 131, 83), (0, 128, 149, 86)] : Cond) ∈ xw := xw_t (x_t6 (List.mem_of_getElem? (i := 195) rfl)) rfl
theorem kw_6_196 : (.methodLink "ValueBenchModel" 446 yM_binary1 : Cond) ∈ xw := xw_t (x_t6 (List.mem_of_getElem? (i := 196) rfl)) rfl
theorem kw_6_198 : (.instanceMethod yM_binary1 : Cond) ∈ xw := xw_t (x_t6 (List.mem_of_getElem? (i := 198) rfl)) rfl
theorem kw_6_199 : (.code yM_binary1 prog_13_method_48_code 4 (some (.object "ValueBenchModel$V")) : Cond) ∈ xw := xw_t (x_t6 (List.mem_of_getElem? (i := 199) rfl)) rfl
theorem kw_6_2 : (.code yM_bad prog_13_method_28_code 2 none : Cond) ∈ xw := xw_t (x_t6 (List.mem_of_getElem? (i := 2) rfl)) rfl
theorem kw_6_20 : (.code yV_init prog_14_method_1_code 1 none : Cond) ∈ xw := xw_t (x_t6 (List.mem_of_getElem? (i := 20) rfl)) rfl
theorem kw_6_200 : (.methodLink "ValueBenchModel" 302 yM_added : Cond) ∈ xw := xw_t (x_t6 (List.mem_of_getElem? (i := 200) rfl)) rfl
theorem kw_6_202 : (.instanceMethod yM_added : Cond) ∈ xw := xw_t (x_t6 (List.mem_of_getElem? (i := 202) rfl)) rfl
theorem kw_6_203 : (.code yM_added prog_13_method_49_code 6 (some (.object "ValueBenchModel$V")) : Cond) ∈ xw := xw_t (x_t6 (List.mem_of_getElem? (i := 203) rfl)) rfl
theorem kw_6_21 : (.methodLink "ValueBenchModel$V" 1 objectInit : Cond) ∈ xw := xw_t (x_t6 (List.mem_of_getElem? (i := 21) rfl)) rfl
theorem kw_6_212 : (.methodLink "ValueBenchModel" 308 yM_times : Cond) ∈ xw := xw_t (x_t6 (List.mem_of_getElem? (i := 212) rfl)) rfl
theorem kw_6_214 : (.instanceMethod yM_times : Cond) ∈ xw := xw_t (x_t6 (List.mem_of_getElem? (i := 214) rfl)) rfl
theorem kw_6_215 : (.code yM_times prog_13_method_51_code 7 (some (.object "ValueBenchModel$V")) : Cond) ∈ xw := xw_t (x_t6 (List.mem_of_getElem? (i := 215) rfl)) rfl
theorem kw_6_234 : (.methodLink "ValueBenchModel" 450 yM_one1 : Cond) ∈ xw := xw_t (x_t6 (List.mem_of_getElem? (i := 234) rfl)) rfl
theorem kw_6_236 : (.instanceMethod yM_one1 : Cond) ∈ xw := xw_t (x_t6 (List.mem_of_getElem? (i := 236) rfl)) rfl
theorem kw_6_237 : (.code yM_one1 prog_13_method_66_code 3 (some (.object "ValueBenchModel$V")) : Cond) ∈ xw := xw_t (x_t6 (List.mem_of_getElem? (i := 237) rfl)) rfl
theorem kw_6_238 : (.methodLink "ValueBenchModel" 350 yM_isTrue : Cond) ∈ xw := xw_t (x_t6 (List.mem_of_getElem? (i := 238) rfl)) rfl
theorem kw_6_51 : (.methodLink "ValueBenchModel" 135 yM_letter : Cond) ∈ xw := xw_t (x_t6 (List.mem_of_getElem? (i := 51) rfl)) rfl
theorem kw_6_53 : (.instanceMethod yM_letter : Cond) ∈ xw := xw_t (x_t6 (List.mem_of_getElem? (i := 53) rfl)) rfl
theorem kw_6_54 : (.code yM_letter prog_13_method_9_code 4 none : Cond) ∈ xw := xw_t (x_t6 (List.mem_of_getElem? (i := 54) rfl)) rfl
theorem kw_6_58 : (.methodLink "ValueBenchModel" 139 yM_string : Cond) ∈ xw := xw_t (x_t6 (List.mem_of_getElem? (i := 58) rfl)) rfl
theorem kw_6_60 : (.instanceMethod yM_string : Cond) ∈ xw := xw_t (x_t6 (List.mem_of_getElem? (i := 60) rfl)) rfl
theorem kw_6_61 : (.code yM_string prog_13_method_10_code 3 (some (.object "ValueBenchModel$V")) : Cond) ∈ xw := xw_t (x_t6 (List.mem_of_getElem? (i := 61) rfl)) rfl
theorem kw_6_62 : (.constant "ValueBenchModel" 126 60000 : Cond) ∈ xw := xw_t (x_t6 (List.mem_of_getElem? (i := 62) rfl)) rfl
theorem kw_6_71 : (.methodLink "ValueBenchModel" 243 yM_digit : Cond) ∈ xw := xw_t (x_t6 (List.mem_of_getElem? (i := 71) rfl)) rfl
theorem kw_6_72 : (.static yM_digit : Cond) ∈ xw := xw_t (x_t6 (List.mem_of_getElem? (i := 72) rfl)) rfl
theorem kw_6_73 : (.code yM_digit prog_13_method_30_code 1 (some .boolean) : Cond) ∈ xw := xw_t (x_t6 (List.mem_of_getElem? (i := 73) rfl)) rfl
theorem kw_6_78 : (.constantLong "ValueBenchModel" 256 10 : Cond) ∈ xw := xw_t (x_t6 (List.mem_of_getElem? (i := 78) rfl)) rfl
theorem kw_6_79 : (.constantLong "ValueBenchModel" 258 48 : Cond) ∈ xw := xw_t (x_t6 (List.mem_of_getElem? (i := 79) rfl)) rfl
theorem kw_6_84 : (.constantLong "ValueBenchModel" 112 9007199254740991 : Cond) ∈ xw := xw_t (x_t6 (List.mem_of_getElem? (i := 84) rfl)) rfl
theorem kw_6_85 : (.methodLink "ValueBenchModel" 265 yM_number : Cond) ∈ xw := xw_t (x_t6 (List.mem_of_getElem? (i := 85) rfl)) rfl
theorem kw_6_87 : (.instanceMethod yM_number : Cond) ∈ xw := xw_t (x_t6 (List.mem_of_getElem? (i := 87) rfl)) rfl
theorem kw_6_88 : (.code yM_number prog_13_method_7_code 4 (some (.object "ValueBenchModel$V")) : Cond) ∈ xw := xw_t (x_t6 (List.mem_of_getElem? (i := 88) rfl)) rfl
theorem kw_6_89 : (.constantLong "ValueBenchModel" 114 (-9007199254740991) : Cond) ∈ xw := xw_t (x_t6 (List.mem_of_getElem? (i := 89) rfl)) rfl
theorem kw_6_90 : (.methodLink "ValueBenchModel" 116 yM_refuse : Cond) ∈ xw := xw_t (x_t6 (List.mem_of_getElem? (i := 90) rfl)) rfl
theorem kw_6_92 : (.instanceMethod yM_refuse : Cond) ∈ xw := xw_t (x_t6 (List.mem_of_getElem? (i := 92) rfl)) rfl
theorem kw_6_93 : (.code yM_refuse prog_13_method_4_code 2 (some (.object "ValueBenchModel$V")) : Cond) ∈ xw := xw_t (x_t6 (List.mem_of_getElem? (i := 93) rfl)) rfl
theorem kw_6_94 : (.classLink "ValueBenchModel" 83 "java/lang/ArithmeticException" : Cond) ∈ xw := xw_t (x_t6 (List.mem_of_getElem? (i := 94) rfl)) rfl
theorem kw_7_0 : (.instanceMethod yM_isTrue : Cond) ∈ xw := xw_t (x_t7 (List.mem_of_getElem? (i := 0) rfl)) rfl
theorem kw_7_1 : (.code yM_isTrue prog_13_method_65_code 2 (some .boolean) : Cond) ∈ xw := xw_t (x_t7 (List.mem_of_getElem? (i := 1) rfl)) rfl
theorem kw_7_10 : (.methodLink "ValueBenchModel" 360 yM_keysOf : Cond) ∈ xw := xw_t (x_t7 (List.mem_of_getElem? (i := 10) rfl)) rfl
theorem kw_7_100 : (.methodLink "ValueBenchModel" 398 yM_indices : Cond) ∈ xw := xw_t (x_t7 (List.mem_of_getElem? (i := 100) rfl)) rfl
theorem kw_7_102 : (.instanceMethod yM_indices : Cond) ∈ xw := xw_t (x_t7 (List.mem_of_getElem? (i := 102) rfl)) rfl
theorem kw_7_103 : (.code yM_indices prog_13_method_72_code 9 (some (.object "ValueBenchModel$V")) : Cond) ∈ xw := xw_t (x_t7 (List.mem_of_getElem? (i := 103) rfl)) rfl
theorem kw_7_104 : (.methodLink "ValueBenchModel" 407 yM_flatten : Cond) ∈ xw := xw_t (x_t7 (List.mem_of_getElem? (i := 104) rfl)) rfl
theorem kw_7_106 : (.instanceMethod yM_flatten : Cond) ∈ xw := xw_t (x_t7 (List.mem_of_getElem? (i := 106) rfl)) rfl
theorem kw_7_107 : (.code yM_flatten prog_13_method_74_code 4 (some (.object "ValueBenchModel$V")) : Cond) ∈ xw := xw_t (x_t7 (List.mem_of_getElem? (i := 107) rfl)) rfl
theorem kw_7_112 : (.methodLink "ValueBenchModel" 410 yM_at : Cond) ∈ xw := xw_t (x_t7 (List.mem_of_getElem? (i := 112) rfl)) rfl
theorem kw_7_114 : (.instanceMethod yM_at : Cond) ∈ xw := xw_t (x_t7 (List.mem_of_getElem? (i := 114) rfl)) rfl
theorem kw_7_115 : (.code yM_at prog_13_method_75_code 5 (some (.object "ValueBenchModel$V")) : Cond) ∈ xw := xw_t (x_t7 (List.mem_of_getElem? (i := 115) rfl)) rfl
theorem kw_7_116 : (.methodLink "ValueBenchLaw" 91 yM_compare : Cond) ∈ xw := xw_t (x_t7 (List.mem_of_getElem? (i := 116) rfl)) rfl
theorem kw_7_117 : (.instanceMethod yM_compare : Cond) ∈ xw := xw_t (x_t7 (List.mem_of_getElem? (i := 117) rfl)) rfl
theorem kw_7_118 : (.selects "ValueBenchModel" yM_compare yM_compare : Cond) ∈ xw := xw_t (x_t7 (List.mem_of_getElem? (i := 118) rfl)) rfl
theorem kw_7_119 : (.code yM_compare prog_13_method_91_code 4 (some .int) : Cond) ∈ xw := xw_t (x_t7 (List.mem_of_getElem? (i := 119) rfl)) rfl
theorem kw_7_12 : (.instanceMethod yM_keysOf : Cond) ∈ xw := xw_t (x_t7 (List.mem_of_getElem? (i := 12) rfl)) rfl
theorem kw_7_120 : (.methodLink "ValueBenchLaw" 98 yM_one0 : Cond) ∈ xw := xw_t (x_t7 (List.mem_of_getElem? (i := 120) rfl)) rfl
theorem kw_7_121 : (.instanceMethod yM_one0 : Cond) ∈ xw := xw_t (x_t7 (List.mem_of_getElem? (i := 121) rfl)) rfl
theorem kw_7_122 : (.selects "ValueBenchModel" yM_one0 yM_one0 : Cond) ∈ xw := xw_t (x_t7 (List.mem_of_getElem? (i := 122) rfl)) rfl
theorem kw_7_123 : (.code yM_one0 prog_13_method_92_code 4 none : Cond) ∈ xw := xw_t (x_t7 (List.mem_of_getElem? (i := 123) rfl)) rfl
theorem kw_7_124 : (.methodLink "ValueBenchLaw" 101 yM_two0 : Cond) ∈ xw := xw_t (x_t7 (List.mem_of_getElem? (i := 124) rfl)) rfl
theorem kw_7_125 : (.instanceMethod yM_two0 : Cond) ∈ xw := xw_t (x_t7 (List.mem_of_getElem? (i := 125) rfl)) rfl
theorem kw_7_126 : (.selects "ValueBenchModel" yM_two0 yM_two0 : Cond) ∈ xw := xw_t (x_t7 (List.mem_of_getElem? (i := 126) rfl)) rfl
theorem kw_7_127 : (.code yM_two0 prog_13_method_93_code 5 none : Cond) ∈ xw := xw_t (x_t7 (List.mem_of_getElem? (i := 127) rfl)) rfl
theorem kw_7_128 : (.methodLink "ValueBenchLaw" 104 yM_sort0 : Cond) ∈ xw := xw_t (x_t7 (List.mem_of_getElem? (i := 128) rfl)) rfl
theorem kw_7_129 : (.instanceMethod yM_sort0 : Cond) ∈ xw := xw_t (x_t7 (List.mem_of_getElem? (i := 129) rfl)) rfl
theorem kw_7_13 : (.code yM_keysOf prog_13_method_58_code 5 (some (.object "ValueBenchModel$V")) : Cond) ∈ xw := xw_t (x_t7 (List.mem_of_getElem? (i := 13) rfl)) rfl
theorem kw_7_130 : (.selects "ValueBenchModel" yM_sort0 yM_sort0 : Cond) ∈ xw := xw_t (x_t7 (List.mem_of_getElem? (i := 130) rfl)) rfl
theorem kw_7_131 : (.code yM_sort0 prog_13_method_94_code 5 none : Cond) ∈ xw := xw_t (x_t7 (List.mem_of_getElem? (i := 131) rfl)) rfl
theorem kw_7_133 : (.fieldLink "java/lang/String" 15 "java/lang/String" "coder" "B" : Cond) ∈ xw := xw_t (x_t7 (List.mem_of_getElem? (i := 133) rfl)) rfl
theorem kw_7_134 : (.fieldLink "java/lang/String" 9 "java/lang/String" "value" "[B" : Cond) ∈ xw := xw_t (x_t7 (List.mem_of_getElem? (i := 134) rfl)) rfl
theorem kw_7_2 : (.methodLink "ValueBenchModel" 354 yM_truth : Cond) ∈ xw := xw_t (x_t7 (List.mem_of_getElem? (i := 2) rfl)) rfl
theorem kw_7_22 : (.methodLink "ValueBenchModel" 176 yM_order : Cond) ∈ xw := xw_t (x_t7 (List.mem_of_getElem? (i := 22) rfl)) rfl
theorem kw_7_24 : (.instanceMethod yM_order : Cond) ∈ xw := xw_t (x_t7 (List.mem_of_getElem? (i := 24) rfl)) rfl
theorem kw_7_25 : (.code yM_order prog_13_method_22_code 5 (some .int) : Cond) ∈ xw := xw_t (x_t7 (List.mem_of_getElem? (i := 25) rfl)) rfl
theorem kw_7_39 : (.methodLink "ValueBenchModel" 337 yM_array : Cond) ∈ xw := xw_t (x_t7 (List.mem_of_getElem? (i := 39) rfl)) rfl
theorem kw_7_4 : (.instanceMethod yM_truth : Cond) ∈ xw := xw_t (x_t7 (List.mem_of_getElem? (i := 4) rfl)) rfl
theorem kw_7_41 : (.instanceMethod yM_array : Cond) ∈ xw := xw_t (x_t7 (List.mem_of_getElem? (i := 41) rfl)) rfl
theorem kw_7_42 : (.code yM_array prog_13_method_55_code 2 (some (.object "ValueBenchModel$V")) : Cond) ∈ xw := xw_t (x_t7 (List.mem_of_getElem? (i := 42) rfl)) rfl
theorem kw_7_43 : (.methodLink "ValueBenchModel" 363 yM_told : Cond) ∈ xw := xw_t (x_t7 (List.mem_of_getElem? (i := 43) rfl)) rfl
theorem kw_7_45 : (.instanceMethod yM_told : Cond) ∈ xw := xw_t (x_t7 (List.mem_of_getElem? (i := 45) rfl)) rfl
theorem kw_7_46 : (.code yM_told prog_13_method_47_code 6 (some (.object "ValueBenchModel$V")) : Cond) ∈ xw := xw_t (x_t7 (List.mem_of_getElem? (i := 46) rfl)) rfl
theorem kw_7_47 : (.methodLink "ValueBenchModel" 366 yM_toNumber : Cond) ∈ xw := xw_t (x_t7 (List.mem_of_getElem? (i := 47) rfl)) rfl
theorem kw_7_49 : (.instanceMethod yM_toNumber : Cond) ∈ xw := xw_t (x_t7 (List.mem_of_getElem? (i := 49) rfl)) rfl
theorem kw_7_5 : (.code yM_truth prog_13_method_8_code 2 (some (.object "ValueBenchModel$V")) : Cond) ∈ xw := xw_t (x_t7 (List.mem_of_getElem? (i := 5) rfl)) rfl
theorem kw_7_50 : (.code yM_toNumber prog_13_method_59_code 7 (some (.object "ValueBenchModel$V")) : Cond) ∈ xw := xw_t (x_t7 (List.mem_of_getElem? (i := 50) rfl)) rfl
theorem kw_7_51 : (.methodLink "ValueBenchModel" 341 yM_text : Cond) ∈ xw := xw_t (x_t7 (List.mem_of_getElem? (i := 51) rfl)) rfl
theorem kw_7_53 : (.instanceMethod yM_text : Cond) ∈ xw := xw_t (x_t7 (List.mem_of_getElem? (i := 53) rfl)) rfl
theorem kw_7_54 : (.code yM_text prog_13_method_56_code 2 (some (.object "ValueBenchModel$V")) : Cond) ∈ xw := xw_t (x_t7 (List.mem_of_getElem? (i := 54) rfl)) rfl
theorem kw_7_55 : (.methodLink "ValueBenchModel" 369 yM_fromJson : Cond) ∈ xw := xw_t (x_t7 (List.mem_of_getElem? (i := 55) rfl)) rfl
theorem kw_7_57 : (.instanceMethod yM_fromJson : Cond) ∈ xw := xw_t (x_t7 (List.mem_of_getElem? (i := 57) rfl)) rfl
theorem kw_7_58 : (.codeWith yM_fromJson prog_13_method_60_code 10 (some (.object "ValueBenchModel$V")) [(49, 72, 75, 205)] : Cond) ∈ xw := xw_t (x_t7 (List.mem_of_getElem? (i := 58) rfl)) rfl
theorem kw_7_59 : (.methodLink "ValueBenchModel" 372 yM_reversed : Cond) ∈ xw := xw_t (x_t7 (List.mem_of_getElem? (i := 59) rfl)) rfl
theorem kw_7_6 : (.methodLink "ValueBenchModel" 358 yM_length : Cond) ∈ xw := xw_t (x_t7 (List.mem_of_getElem? (i := 6) rfl)) rfl
theorem kw_7_61 : (.instanceMethod yM_reversed : Cond) ∈ xw := xw_t (x_t7 (List.mem_of_getElem? (i := 61) rfl)) rfl
theorem kw_7_62 : (.code yM_reversed prog_13_method_61_code 4 (some (.object "ValueBenchModel$V")) : Cond) ∈ xw := xw_t (x_t7 (List.mem_of_getElem? (i := 62) rfl)) rfl
theorem kw_7_63 : (.methodLink "ValueBenchModel" 375 yM_explode : Cond) ∈ xw := xw_t (x_t7 (List.mem_of_getElem? (i := 63) rfl)) rfl
theorem kw_7_65 : (.instanceMethod yM_explode : Cond) ∈ xw := xw_t (x_t7 (List.mem_of_getElem? (i := 65) rfl)) rfl
theorem kw_7_66 : (.code yM_explode prog_13_method_62_code 4 (some (.object "ValueBenchModel$V")) : Cond) ∈ xw := xw_t (x_t7 (List.mem_of_getElem? (i := 66) rfl)) rfl
theorem kw_7_67 : (.methodLink "ValueBenchModel" 378 yM_implode : Cond) ∈ xw := xw_t (x_t7 (List.mem_of_getElem? (i := 67) rfl)) rfl
theorem kw_7_69 : (.instanceMethod yM_implode : Cond) ∈ xw := xw_t (x_t7 (List.mem_of_getElem? (i := 69) rfl)) rfl
theorem kw_7_70 : (.code yM_implode prog_13_method_63_code 4 (some (.object "ValueBenchModel$V")) : Cond) ∈ xw := xw_t (x_t7 (List.mem_of_getElem? (i := 70) rfl)) rfl
theorem kw_7_72 : (.methodLink "ValueBenchModel" 381 yM_cased : Cond) ∈ xw := xw_t (x_t7 (List.mem_of_getElem? (i := 72) rfl)) rfl
theorem kw_7_74 : (.instanceMethod yM_cased : Cond) ∈ xw := xw_t (x_t7 (List.mem_of_getElem? (i := 74) rfl)) rfl
theorem kw_7_75 : (.code yM_cased prog_13_method_64_code 6 (some (.object "ValueBenchModel$V")) : Cond) ∈ xw := xw_t (x_t7 (List.mem_of_getElem? (i := 75) rfl)) rfl
theorem kw_7_76 : (.methodLink "ValueBenchModel" 454 yM_two1 : Cond) ∈ xw := xw_t (x_t7 (List.mem_of_getElem? (i := 76) rfl)) rfl
theorem kw_7_78 : (.instanceMethod yM_two1 : Cond) ∈ xw := xw_t (x_t7 (List.mem_of_getElem? (i := 78) rfl)) rfl
theorem kw_7_79 : (.code yM_two1 prog_13_method_76_code 4 (some (.object "ValueBenchModel$V")) : Cond) ∈ xw := xw_t (x_t7 (List.mem_of_getElem? (i := 79) rfl)) rfl
theorem kw_7_8 : (.instanceMethod yM_length : Cond) ∈ xw := xw_t (x_t7 (List.mem_of_getElem? (i := 8) rfl)) rfl
theorem kw_7_80 : (.methodLink "ValueBenchModel" 401 yM_has : Cond) ∈ xw := xw_t (x_t7 (List.mem_of_getElem? (i := 80) rfl)) rfl
theorem kw_7_82 : (.instanceMethod yM_has : Cond) ∈ xw := xw_t (x_t7 (List.mem_of_getElem? (i := 82) rfl)) rfl
theorem kw_7_83 : (.code yM_has prog_13_method_67_code 3 (some (.object "ValueBenchModel$V")) : Cond) ∈ xw := xw_t (x_t7 (List.mem_of_getElem? (i := 83) rfl)) rfl
theorem kw_7_84 : (.methodLink "ValueBenchModel" 384 yM_alike : Cond) ∈ xw := xw_t (x_t7 (List.mem_of_getElem? (i := 84) rfl)) rfl
theorem kw_7_86 : (.instanceMethod yM_alike : Cond) ∈ xw := xw_t (x_t7 (List.mem_of_getElem? (i := 86) rfl)) rfl
theorem kw_7_87 : (.code yM_alike prog_13_method_69_code 3 (some .boolean) : Cond) ∈ xw := xw_t (x_t7 (List.mem_of_getElem? (i := 87) rfl)) rfl
theorem kw_7_88 : (.methodLink "ValueBenchModel" 391 yM_contains : Cond) ∈ xw := xw_t (x_t7 (List.mem_of_getElem? (i := 88) rfl)) rfl
theorem kw_7_9 : (.code yM_length prog_13_method_57_code 2 (some (.object "ValueBenchModel$V")) : Cond) ∈ xw := xw_t (x_t7 (List.mem_of_getElem? (i := 9) rfl)) rfl
theorem kw_7_90 : (.instanceMethod yM_contains : Cond) ∈ xw := xw_t (x_t7 (List.mem_of_getElem? (i := 90) rfl)) rfl
theorem kw_7_91 : (.code yM_contains prog_13_method_70_code 6 (some .boolean) : Cond) ∈ xw := xw_t (x_t7 (List.mem_of_getElem? (i := 91) rfl)) rfl
theorem kw_7_96 : (.methodLink "ValueBenchModel" 404 yM_joined : Cond) ∈ xw := xw_t (x_t7 (List.mem_of_getElem? (i := 96) rfl)) rfl
theorem kw_7_98 : (.instanceMethod yM_joined : Cond) ∈ xw := xw_t (x_t7 (List.mem_of_getElem? (i := 98) rfl)) rfl
theorem kw_7_99 : (.code yM_joined prog_13_method_71_code 8 (some (.object "ValueBenchModel$V")) : Cond) ∈ xw := xw_t (x_t7 (List.mem_of_getElem? (i := 99) rfl)) rfl
theorem kp_B_demandDone : (.selects "ValueBench" yB_demandDone yB_demandDone : Cond) ∈ xw := xw_p (List.mem_map.mpr ⟨(yB_demandDone, 8), List.mem_append_right _ (List.mem_append_left _ (List.mem_of_getElem? (i := 5) rfl)), rfl⟩) rfl
theorem kp_B_keepSpare : (.selects "ValueBench" yB_keepSpare yB_keepSpare : Cond) ∈ xw := xw_p (List.mem_map.mpr ⟨(yB_keepSpare, 8), List.mem_append_right _ (List.mem_append_left _ (List.mem_of_getElem? (i := 3) rfl)), rfl⟩) rfl
theorem kp_D_broken : (.selects "ValueBench$Reader" yD_broken yD_broken : Cond) ∈ xw := xw_p (List.mem_map.mpr ⟨(yD_broken, 4), List.mem_append_left _ (List.mem_of_getElem? (i := 5) rfl), rfl⟩) rfl
theorem kp_D_number : (.selects "ValueBench$Reader" yD_number yD_number : Cond) ∈ xw := xw_p (List.mem_map.mpr ⟨(yD_number, 4), List.mem_append_right _ (List.mem_append_left _ (List.mem_of_getElem? (i := 0) rfl)), rfl⟩) rfl
theorem kp_D_skipBlanks : (.selects "ValueBench$Reader" yD_skipBlanks yD_skipBlanks : Cond) ∈ xw := xw_p (List.mem_map.mpr ⟨(yD_skipBlanks, 4), List.mem_append_left _ (List.mem_of_getElem? (i := 2) rfl), rfl⟩) rfl
theorem kp_D_value : (.selects "ValueBench$Reader" yD_value yD_value : Cond) ∈ xw := xw_p (List.mem_map.mpr ⟨(yD_value, 4), List.mem_append_left _ (List.mem_of_getElem? (i := 1) rfl), rfl⟩) rfl
theorem kp_M_added : (.selects "ValueBenchModel" yM_added yM_added : Cond) ∈ xw := xw_p (List.mem_map.mpr ⟨(yM_added, 32), List.mem_append_right _ (List.mem_append_right _ (List.mem_append_right _ (List.mem_append_left _ (List.mem_of_getElem? (i := 13) rfl)))), rfl⟩) rfl
theorem kp_M_alike : (.selects "ValueBenchModel" yM_alike yM_alike : Cond) ∈ xw := xw_p (List.mem_map.mpr ⟨(yM_alike, 32), List.mem_append_right _ (List.mem_append_right _ (List.mem_append_right _ (List.mem_append_right _ (List.mem_append_right _ (List.mem_append_left _ (List.mem_of_getElem? (i := 11) rfl)))))), rfl⟩) rfl
theorem kp_M_array : (.selects "ValueBenchModel" yM_array yM_array : Cond) ∈ xw := xw_p (List.mem_map.mpr ⟨(yM_array, 32), List.mem_append_right _ (List.mem_append_right _ (List.mem_append_right _ (List.mem_append_right _ (List.mem_append_right _ (List.mem_append_left _ (List.mem_of_getElem? (i := 0) rfl)))))), rfl⟩) rfl
theorem kp_M_at : (.selects "ValueBenchModel" yM_at yM_at : Cond) ∈ xw := xw_p (List.mem_map.mpr ⟨(yM_at, 32), List.mem_append_right _ (List.mem_append_right _ (List.mem_append_right _ (List.mem_append_right _ (List.mem_append_right _ (List.mem_append_right _ (List.mem_of_getElem? (i := 2) rfl)))))), rfl⟩) rfl
theorem kp_M_bad : (.selects "ValueBenchModel" yM_bad yM_bad : Cond) ∈ xw := xw_p (List.mem_map.mpr ⟨(yM_bad, 32), List.mem_append_right _ (List.mem_append_right _ (List.mem_append_left _ (List.mem_of_getElem? (i := 0) rfl))), rfl⟩) rfl
theorem kp_M_begin : (.selects "ValueBenchModel" yM_begin yM_begin : Cond) ∈ xw := xw_p (List.mem_map.mpr ⟨(yM_begin, 32), List.mem_append_right _ (List.mem_append_left _ (List.mem_of_getElem? (i := 8) rfl)), rfl⟩) rfl
theorem kp_M_binary1 : (.selects "ValueBenchModel" yM_binary1 yM_binary1 : Cond) ∈ xw := xw_p (List.mem_map.mpr ⟨(yM_binary1, 32), List.mem_append_right _ (List.mem_append_right _ (List.mem_append_right _ (List.mem_append_left _ (List.mem_of_getElem? (i := 12) rfl)))), rfl⟩) rfl
theorem kp_M_blanks : (.selects "ValueBenchModel" yM_blanks yM_blanks : Cond) ∈ xw := xw_p (List.mem_map.mpr ⟨(yM_blanks, 32), List.mem_append_right _ (List.mem_append_left _ (List.mem_of_getElem? (i := 13) rfl)), rfl⟩) rfl
theorem kp_M_cased : (.selects "ValueBenchModel" yM_cased yM_cased : Cond) ∈ xw := xw_p (List.mem_map.mpr ⟨(yM_cased, 32), List.mem_append_right _ (List.mem_append_right _ (List.mem_append_right _ (List.mem_append_right _ (List.mem_append_right _ (List.mem_append_left _ (List.mem_of_getElem? (i := 8) rfl)))))), rfl⟩) rfl
theorem kp_M_clear : (.selects "ValueBenchModel" yM_clear yM_clear : Cond) ∈ xw := xw_p (List.mem_map.mpr ⟨(yM_clear, 32), List.mem_append_right _ (List.mem_append_left _ (List.mem_of_getElem? (i := 9) rfl)), rfl⟩) rfl
theorem kp_M_contains : (.selects "ValueBenchModel" yM_contains yM_contains : Cond) ∈ xw := xw_p (List.mem_map.mpr ⟨(yM_contains, 32), List.mem_append_right _ (List.mem_append_right _ (List.mem_append_right _ (List.mem_append_right _ (List.mem_append_right _ (List.mem_append_left _ (List.mem_of_getElem? (i := 12) rfl)))))), rfl⟩) rfl
theorem kp_M_explode : (.selects "ValueBenchModel" yM_explode yM_explode : Cond) ∈ xw := xw_p (List.mem_map.mpr ⟨(yM_explode, 32), List.mem_append_right _ (List.mem_append_right _ (List.mem_append_right _ (List.mem_append_right _ (List.mem_append_right _ (List.mem_append_left _ (List.mem_of_getElem? (i := 6) rfl)))))), rfl⟩) rfl
theorem kp_M_fail : (.selects "ValueBenchModel" yM_fail yM_fail : Cond) ∈ xw := xw_p (List.mem_map.mpr ⟨(yM_fail, 32), List.mem_append_right _ (List.mem_append_left _ (List.mem_of_getElem? (i := 7) rfl)), rfl⟩) rfl
theorem kp_M_finish : (.selects "ValueBenchModel" yM_finish yM_finish : Cond) ∈ xw := xw_p (List.mem_map.mpr ⟨(yM_finish, 32), List.mem_append_right _ (List.mem_append_right _ (List.mem_append_right _ (List.mem_append_left _ (List.mem_of_getElem? (i := 11) rfl)))), rfl⟩) rfl
theorem kp_M_flatten : (.selects "ValueBenchModel" yM_flatten yM_flatten : Cond) ∈ xw := xw_p (List.mem_map.mpr ⟨(yM_flatten, 32), List.mem_append_right _ (List.mem_append_right _ (List.mem_append_right _ (List.mem_append_right _ (List.mem_append_right _ (List.mem_append_right _ (List.mem_of_getElem? (i := 0) rfl)))))), rfl⟩) rfl
theorem kp_M_fresh : (.selects "ValueBenchModel" yM_fresh yM_fresh : Cond) ∈ xw := xw_p (List.mem_map.mpr ⟨(yM_fresh, 32), List.mem_append_right _ (List.mem_append_right _ (List.mem_append_left _ (List.mem_of_getElem? (i := 1) rfl))), rfl⟩) rfl
theorem kp_M_fromJson : (.selects "ValueBenchModel" yM_fromJson yM_fromJson : Cond) ∈ xw := xw_p (List.mem_map.mpr ⟨(yM_fromJson, 32), List.mem_append_right _ (List.mem_append_right _ (List.mem_append_right _ (List.mem_append_right _ (List.mem_append_right _ (List.mem_append_left _ (List.mem_of_getElem? (i := 4) rfl)))))), rfl⟩) rfl
theorem kp_M_has : (.selects "ValueBenchModel" yM_has yM_has : Cond) ∈ xw := xw_p (List.mem_map.mpr ⟨(yM_has, 32), List.mem_append_right _ (List.mem_append_right _ (List.mem_append_right _ (List.mem_append_right _ (List.mem_append_right _ (List.mem_append_left _ (List.mem_of_getElem? (i := 10) rfl)))))), rfl⟩) rfl
theorem kp_M_implode : (.selects "ValueBenchModel" yM_implode yM_implode : Cond) ∈ xw := xw_p (List.mem_map.mpr ⟨(yM_implode, 32), List.mem_append_right _ (List.mem_append_right _ (List.mem_append_right _ (List.mem_append_right _ (List.mem_append_right _ (List.mem_append_left _ (List.mem_of_getElem? (i := 7) rfl)))))), rfl⟩) rfl
theorem kp_M_indices : (.selects "ValueBenchModel" yM_indices yM_indices : Cond) ∈ xw := xw_p (List.mem_map.mpr ⟨(yM_indices, 32), List.mem_append_right _ (List.mem_append_right _ (List.mem_append_right _ (List.mem_append_right _ (List.mem_append_right _ (List.mem_append_left _ (List.mem_of_getElem? (i := 15) rfl)))))), rfl⟩) rfl
theorem kp_M_isTrue : (.selects "ValueBenchModel" yM_isTrue yM_isTrue : Cond) ∈ xw := xw_p (List.mem_map.mpr ⟨(yM_isTrue, 32), List.mem_append_right _ (List.mem_append_right _ (List.mem_append_right _ (List.mem_append_right _ (List.mem_append_left _ (List.mem_of_getElem? (i := 6) rfl))))), rfl⟩) rfl
theorem kp_M_joined : (.selects "ValueBenchModel" yM_joined yM_joined : Cond) ∈ xw := xw_p (List.mem_map.mpr ⟨(yM_joined, 32), List.mem_append_right _ (List.mem_append_right _ (List.mem_append_right _ (List.mem_append_right _ (List.mem_append_right _ (List.mem_append_left _ (List.mem_of_getElem? (i := 14) rfl)))))), rfl⟩) rfl
theorem kp_M_json : (.selects "ValueBenchModel" yM_json yM_json : Cond) ∈ xw := xw_p (List.mem_map.mpr ⟨(yM_json, 32), List.mem_append_right _ (List.mem_append_left _ (List.mem_of_getElem? (i := 11) rfl)), rfl⟩) rfl
theorem kp_M_keysOf : (.selects "ValueBenchModel" yM_keysOf yM_keysOf : Cond) ∈ xw := xw_p (List.mem_map.mpr ⟨(yM_keysOf, 32), List.mem_append_right _ (List.mem_append_right _ (List.mem_append_right _ (List.mem_append_right _ (List.mem_append_left _ (List.mem_of_getElem? (i := 9) rfl))))), rfl⟩) rfl
theorem kp_M_length : (.selects "ValueBenchModel" yM_length yM_length : Cond) ∈ xw := xw_p (List.mem_map.mpr ⟨(yM_length, 32), List.mem_append_right _ (List.mem_append_right _ (List.mem_append_right _ (List.mem_append_right _ (List.mem_append_left _ (List.mem_of_getElem? (i := 8) rfl))))), rfl⟩) rfl
theorem kp_M_letter : (.selects "ValueBenchModel" yM_letter yM_letter : Cond) ∈ xw := xw_p (List.mem_map.mpr ⟨(yM_letter, 32), List.mem_append_right _ (List.mem_append_right _ (List.mem_append_left _ (List.mem_of_getElem? (i := 4) rfl))), rfl⟩) rfl
theorem kp_M_number : (.selects "ValueBenchModel" yM_number yM_number : Cond) ∈ xw := xw_p (List.mem_map.mpr ⟨(yM_number, 32), List.mem_append_right _ (List.mem_append_right _ (List.mem_append_left _ (List.mem_of_getElem? (i := 8) rfl))), rfl⟩) rfl
theorem kp_M_one1 : (.selects "ValueBenchModel" yM_one1 yM_one1 : Cond) ∈ xw := xw_p (List.mem_map.mpr ⟨(yM_one1, 32), List.mem_append_right _ (List.mem_append_right _ (List.mem_append_right _ (List.mem_append_right _ (List.mem_append_left _ (List.mem_of_getElem? (i := 5) rfl))))), rfl⟩) rfl
theorem kp_M_order : (.selects "ValueBenchModel" yM_order yM_order : Cond) ∈ xw := xw_p (List.mem_map.mpr ⟨(yM_order, 32), List.mem_append_right _ (List.mem_append_right _ (List.mem_append_right _ (List.mem_append_right _ (List.mem_append_left _ (List.mem_of_getElem? (i := 12) rfl))))), rfl⟩) rfl
theorem kp_M_out : (.selects "ValueBenchModel" yM_out yM_out : Cond) ∈ xw := xw_p (List.mem_map.mpr ⟨(yM_out, 32), List.mem_append_right _ (List.mem_append_left _ (List.mem_of_getElem? (i := 10) rfl)), rfl⟩) rfl
theorem kp_M_peek : (.selects "ValueBenchModel" yM_peek yM_peek : Cond) ∈ xw := xw_p (List.mem_map.mpr ⟨(yM_peek, 32), List.mem_append_right _ (List.mem_append_left _ (List.mem_of_getElem? (i := 14) rfl)), rfl⟩) rfl
theorem kp_M_print1 : (.selects "ValueBenchModel" yM_print1 yM_print1 : Cond) ∈ xw := xw_p (List.mem_map.mpr ⟨(yM_print1, 32), List.mem_append_right _ (List.mem_append_right _ (List.mem_append_right _ (List.mem_append_left _ (List.mem_of_getElem? (i := 0) rfl)))), rfl⟩) rfl
theorem kp_M_put0 : (.selects "ValueBenchModel" yM_put0 yM_put0 : Cond) ∈ xw := xw_p (List.mem_map.mpr ⟨(yM_put0, 32), List.mem_append_right _ (List.mem_append_right _ (List.mem_append_right _ (List.mem_append_left _ (List.mem_of_getElem? (i := 2) rfl)))), rfl⟩) rfl
theorem kp_M_put1 : (.selects "ValueBenchModel" yM_put1 yM_put1 : Cond) ∈ xw := xw_p (List.mem_map.mpr ⟨(yM_put1, 32), List.mem_append_right _ (List.mem_append_right _ (List.mem_append_right _ (List.mem_append_left _ (List.mem_of_getElem? (i := 1) rfl)))), rfl⟩) rfl
theorem kp_M_putNumber : (.selects "ValueBenchModel" yM_putNumber yM_putNumber : Cond) ∈ xw := xw_p (List.mem_map.mpr ⟨(yM_putNumber, 32), List.mem_append_right _ (List.mem_append_right _ (List.mem_append_right _ (List.mem_append_left _ (List.mem_of_getElem? (i := 3) rfl)))), rfl⟩) rfl
theorem kp_M_putString : (.selects "ValueBenchModel" yM_putString yM_putString : Cond) ∈ xw := xw_p (List.mem_map.mpr ⟨(yM_putString, 32), List.mem_append_right _ (List.mem_append_right _ (List.mem_append_right _ (List.mem_append_left _ (List.mem_of_getElem? (i := 4) rfl)))), rfl⟩) rfl
theorem kp_M_refuse : (.selects "ValueBenchModel" yM_refuse yM_refuse : Cond) ∈ xw := xw_p (List.mem_map.mpr ⟨(yM_refuse, 32), List.mem_append_right _ (List.mem_append_right _ (List.mem_append_left _ (List.mem_of_getElem? (i := 9) rfl))), rfl⟩) rfl
theorem kp_M_register : (.selects "ValueBenchModel" yM_register yM_register : Cond) ∈ xw := xw_p (List.mem_map.mpr ⟨(yM_register, 32), List.mem_append_right _ (List.mem_append_right _ (List.mem_append_right _ (List.mem_append_left _ (List.mem_of_getElem? (i := 8) rfl)))), rfl⟩) rfl
theorem kp_M_reversed : (.selects "ValueBenchModel" yM_reversed yM_reversed : Cond) ∈ xw := xw_p (List.mem_map.mpr ⟨(yM_reversed, 32), List.mem_append_right _ (List.mem_append_right _ (List.mem_append_right _ (List.mem_append_right _ (List.mem_append_right _ (List.mem_append_left _ (List.mem_of_getElem? (i := 5) rfl)))))), rfl⟩) rfl
theorem kp_M_same1 : (.selects "ValueBenchModel" yM_same1 yM_same1 : Cond) ∈ xw := xw_p (List.mem_map.mpr ⟨(yM_same1, 32), List.mem_append_right _ (List.mem_append_right _ (List.mem_append_right _ (List.mem_append_left _ (List.mem_of_getElem? (i := 9) rfl)))), rfl⟩) rfl
theorem kp_M_says : (.selects "ValueBenchModel" yM_says yM_says : Cond) ∈ xw := xw_p (List.mem_map.mpr ⟨(yM_says, 32), List.mem_append_right _ (List.mem_append_left _ (List.mem_of_getElem? (i := 15) rfl)), rfl⟩) rfl
theorem kp_M_store : (.selects "ValueBenchModel" yM_store yM_store : Cond) ∈ xw := xw_p (List.mem_map.mpr ⟨(yM_store, 32), List.mem_append_right _ (List.mem_append_right _ (List.mem_append_left _ (List.mem_of_getElem? (i := 15) rfl))), rfl⟩) rfl
theorem kp_M_string : (.selects "ValueBenchModel" yM_string yM_string : Cond) ∈ xw := xw_p (List.mem_map.mpr ⟨(yM_string, 32), List.mem_append_right _ (List.mem_append_right _ (List.mem_append_left _ (List.mem_of_getElem? (i := 5) rfl))), rfl⟩) rfl
theorem kp_M_text : (.selects "ValueBenchModel" yM_text yM_text : Cond) ∈ xw := xw_p (List.mem_map.mpr ⟨(yM_text, 32), List.mem_append_right _ (List.mem_append_right _ (List.mem_append_right _ (List.mem_append_right _ (List.mem_append_right _ (List.mem_append_left _ (List.mem_of_getElem? (i := 3) rfl)))))), rfl⟩) rfl
theorem kp_M_times : (.selects "ValueBenchModel" yM_times yM_times : Cond) ∈ xw := xw_p (List.mem_map.mpr ⟨(yM_times, 32), List.mem_append_right _ (List.mem_append_right _ (List.mem_append_right _ (List.mem_append_right _ (List.mem_append_left _ (List.mem_of_getElem? (i := 0) rfl))))), rfl⟩) rfl
theorem kp_M_toNumber : (.selects "ValueBenchModel" yM_toNumber yM_toNumber : Cond) ∈ xw := xw_p (List.mem_map.mpr ⟨(yM_toNumber, 32), List.mem_append_right _ (List.mem_append_right _ (List.mem_append_right _ (List.mem_append_right _ (List.mem_append_right _ (List.mem_append_left _ (List.mem_of_getElem? (i := 2) rfl)))))), rfl⟩) rfl
theorem kp_M_told : (.selects "ValueBenchModel" yM_told yM_told : Cond) ∈ xw := xw_p (List.mem_map.mpr ⟨(yM_told, 32), List.mem_append_right _ (List.mem_append_right _ (List.mem_append_right _ (List.mem_append_right _ (List.mem_append_right _ (List.mem_append_left _ (List.mem_of_getElem? (i := 1) rfl)))))), rfl⟩) rfl
theorem kp_M_truth : (.selects "ValueBenchModel" yM_truth yM_truth : Cond) ∈ xw := xw_p (List.mem_map.mpr ⟨(yM_truth, 32), List.mem_append_right _ (List.mem_append_right _ (List.mem_append_right _ (List.mem_append_right _ (List.mem_append_left _ (List.mem_of_getElem? (i := 7) rfl))))), rfl⟩) rfl
theorem kp_M_two1 : (.selects "ValueBenchModel" yM_two1 yM_two1 : Cond) ∈ xw := xw_p (List.mem_map.mpr ⟨(yM_two1, 32), List.mem_append_right _ (List.mem_append_right _ (List.mem_append_right _ (List.mem_append_right _ (List.mem_append_right _ (List.mem_append_left _ (List.mem_of_getElem? (i := 9) rfl)))))), rfl⟩) rfl
theorem kp_M_value : (.selects "ValueBenchModel" yM_value yM_value : Cond) ∈ xw := xw_p (List.mem_map.mpr ⟨(yM_value, 32), List.mem_append_right _ (List.mem_append_left _ (List.mem_of_getElem? (i := 12) rfl)), rfl⟩) rfl
theorem kp_M_whole : (.selects "ValueBenchModel" yM_whole yM_whole : Cond) ∈ xw := xw_p (List.mem_map.mpr ⟨(yM_whole, 32), List.mem_append_right _ (List.mem_append_right _ (List.mem_append_left _ (List.mem_of_getElem? (i := 11) rfl))), rfl⟩) rfl
theorem kp_R_putCells : (.selects "ValueBench$Row" yR_putCells yR_putCells : Cond) ∈ xw := xw_p (List.mem_map.mpr ⟨(yR_putCells, 3), List.mem_append_right _ (List.mem_append_left _ (List.mem_of_getElem? (i := 4) rfl)), rfl⟩) rfl
theorem xat_B_149_153 : ∀ w ∈ (vx_atS "ValueBench" 153 "java/lang/IllegalArgumentException" ["java/lang/RuntimeException", "java/lang/Exception"]).filter goodWord, w ∈ xw := fun w h => List.mem_filter.mpr ⟨(by decide +kernel : ∀ w ∈ (vx_atS "ValueBench" 153 "java/lang/IllegalArgumentException" ["java/lang/RuntimeException", "java/lang/Exception"]).filter goodWord, w ∈ lw_tbl) w h, (List.mem_filter.mp h).2⟩
theorem xat_B_149_153_b : ∀ w ∈ (vx_atS "ValueBench" 153 "java/lang/IllegalArgumentException" ["java/lang/RuntimeException", "java/lang/Exception"]).filter (fun w => !goodWord w), w ∈ ([.castable "java/lang/IllegalArgumentException" "java/lang/IllegalArgumentException", .declares ⟨"java/lang/RuntimeException", "<init>", "(Ljava/lang/String;)V"⟩, .declares ⟨"java/lang/Exception", "<init>", "(Ljava/lang/String;)V"⟩, .declares ⟨"java/lang/Throwable", "<init>", "(Ljava/lang/String;)V"⟩] : List Cond) := by decide +kernel
theorem xat_B_149_153_g : ∀ w ∈ Cond.classLink "ValueBench" 149 "java/lang/IllegalArgumentException" :: Cond.initialized "java/lang/IllegalArgumentException" :: vx_atS "ValueBench" 153 "java/lang/IllegalArgumentException" ["java/lang/RuntimeException", "java/lang/Exception"], vx_ot w = true := by decide +kernel
theorem xat_B_154_158 : ∀ w ∈ (vx_atS "ValueBench" 158 "java/lang/ArithmeticException" ["java/lang/RuntimeException", "java/lang/Exception"]).filter goodWord, w ∈ xw := fun w h => List.mem_filter.mpr ⟨(by decide +kernel : ∀ w ∈ (vx_atS "ValueBench" 158 "java/lang/ArithmeticException" ["java/lang/RuntimeException", "java/lang/Exception"]).filter goodWord, w ∈ lw_tbl) w h, (List.mem_filter.mp h).2⟩
theorem xat_B_154_158_b : ∀ w ∈ (vx_atS "ValueBench" 158 "java/lang/ArithmeticException" ["java/lang/RuntimeException", "java/lang/Exception"]).filter (fun w => !goodWord w), w ∈ ([.castable "java/lang/ArithmeticException" "java/lang/ArithmeticException", .declares ⟨"java/lang/RuntimeException", "<init>", "(Ljava/lang/String;)V"⟩, .declares ⟨"java/lang/Exception", "<init>", "(Ljava/lang/String;)V"⟩, .declares ⟨"java/lang/Throwable", "<init>", "(Ljava/lang/String;)V"⟩] : List Cond) := by decide +kernel
theorem xat_B_154_158_g : ∀ w ∈ Cond.classLink "ValueBench" 154 "java/lang/ArithmeticException" :: Cond.initialized "java/lang/ArithmeticException" :: vx_atS "ValueBench" 158 "java/lang/ArithmeticException" ["java/lang/RuntimeException", "java/lang/Exception"], vx_ot w = true := by decide +kernel
theorem xat_B_51_55 : ∀ w ∈ (vx_atS "ValueBench" 55 "java/lang/IndexOutOfBoundsException" ["java/lang/RuntimeException", "java/lang/Exception"]).filter goodWord, w ∈ xw := fun w h => List.mem_filter.mpr ⟨(by decide +kernel : ∀ w ∈ (vx_atS "ValueBench" 55 "java/lang/IndexOutOfBoundsException" ["java/lang/RuntimeException", "java/lang/Exception"]).filter goodWord, w ∈ lw_tbl) w h, (List.mem_filter.mp h).2⟩
theorem xat_B_51_55_b : ∀ w ∈ (vx_atS "ValueBench" 55 "java/lang/IndexOutOfBoundsException" ["java/lang/RuntimeException", "java/lang/Exception"]).filter (fun w => !goodWord w), w ∈ ([.castable "java/lang/IndexOutOfBoundsException" "java/lang/IndexOutOfBoundsException", .declares ⟨"java/lang/RuntimeException", "<init>", "(Ljava/lang/String;)V"⟩, .declares ⟨"java/lang/Exception", "<init>", "(Ljava/lang/String;)V"⟩, .declares ⟨"java/lang/Throwable", "<init>", "(Ljava/lang/String;)V"⟩] : List Cond) := by decide +kernel
theorem xat_B_51_55_g : ∀ w ∈ Cond.classLink "ValueBench" 51 "java/lang/IndexOutOfBoundsException" :: Cond.initialized "java/lang/IndexOutOfBoundsException" :: vx_atS "ValueBench" 55 "java/lang/IndexOutOfBoundsException" ["java/lang/RuntimeException", "java/lang/Exception"], vx_ot w = true := by decide +kernel
theorem xat_B_89_93 : ∀ w ∈ (vx_atS "ValueBench" 93 "java/lang/UnsupportedOperationException" ["java/lang/RuntimeException", "java/lang/Exception"]).filter goodWord, w ∈ xw := fun w h => List.mem_filter.mpr ⟨(by decide +kernel : ∀ w ∈ (vx_atS "ValueBench" 93 "java/lang/UnsupportedOperationException" ["java/lang/RuntimeException", "java/lang/Exception"]).filter goodWord, w ∈ lw_tbl) w h, (List.mem_filter.mp h).2⟩
theorem xat_B_89_93_b : ∀ w ∈ (vx_atS "ValueBench" 93 "java/lang/UnsupportedOperationException" ["java/lang/RuntimeException", "java/lang/Exception"]).filter (fun w => !goodWord w), w ∈ ([.castable "java/lang/UnsupportedOperationException" "java/lang/UnsupportedOperationException", .declares ⟨"java/lang/RuntimeException", "<init>", "(Ljava/lang/String;)V"⟩, .declares ⟨"java/lang/Exception", "<init>", "(Ljava/lang/String;)V"⟩, .declares ⟨"java/lang/Throwable", "<init>", "(Ljava/lang/String;)V"⟩] : List Cond) := by decide +kernel
theorem xat_B_89_93_g : ∀ w ∈ Cond.classLink "ValueBench" 89 "java/lang/UnsupportedOperationException" :: Cond.initialized "java/lang/UnsupportedOperationException" :: vx_atS "ValueBench" 93 "java/lang/UnsupportedOperationException" ["java/lang/RuntimeException", "java/lang/Exception"], vx_ot w = true := by decide +kernel
theorem xat_M_205_207 : ∀ w ∈ (vx_at0 "ValueBenchModel" 207 "java/lang/UnsupportedOperationException" ["java/lang/RuntimeException", "java/lang/Exception"]).filter goodWord, w ∈ xw := fun w h => List.mem_filter.mpr ⟨(by decide +kernel : ∀ w ∈ (vx_at0 "ValueBenchModel" 207 "java/lang/UnsupportedOperationException" ["java/lang/RuntimeException", "java/lang/Exception"]).filter goodWord, w ∈ lw_tbl) w h, (List.mem_filter.mp h).2⟩
theorem xat_M_205_207_b : ∀ w ∈ (vx_at0 "ValueBenchModel" 207 "java/lang/UnsupportedOperationException" ["java/lang/RuntimeException", "java/lang/Exception"]).filter (fun w => !goodWord w), w ∈ ([.castable "java/lang/UnsupportedOperationException" "java/lang/UnsupportedOperationException", .declares ⟨"java/lang/RuntimeException", "<init>", "()V"⟩, .declares ⟨"java/lang/Exception", "<init>", "()V"⟩, .declares ⟨"java/lang/Throwable", "<init>", "()V"⟩] : List Cond) := by decide +kernel
theorem xat_M_205_207_g : ∀ w ∈ Cond.classLink "ValueBenchModel" 205 "java/lang/UnsupportedOperationException" :: Cond.initialized "java/lang/UnsupportedOperationException" :: vx_at0 "ValueBenchModel" 207 "java/lang/UnsupportedOperationException" ["java/lang/RuntimeException", "java/lang/Exception"], vx_ot w = true := by decide +kernel
theorem xat_M_83_85 : ∀ w ∈ (vx_at0 "ValueBenchModel" 85 "java/lang/ArithmeticException" ["java/lang/RuntimeException", "java/lang/Exception"]).filter goodWord, w ∈ xw := fun w h => List.mem_filter.mpr ⟨(by decide +kernel : ∀ w ∈ (vx_at0 "ValueBenchModel" 85 "java/lang/ArithmeticException" ["java/lang/RuntimeException", "java/lang/Exception"]).filter goodWord, w ∈ lw_tbl) w h, (List.mem_filter.mp h).2⟩
theorem xat_M_83_85_b : ∀ w ∈ (vx_at0 "ValueBenchModel" 85 "java/lang/ArithmeticException" ["java/lang/RuntimeException", "java/lang/Exception"]).filter (fun w => !goodWord w), w ∈ ([.castable "java/lang/ArithmeticException" "java/lang/ArithmeticException", .declares ⟨"java/lang/RuntimeException", "<init>", "()V"⟩, .declares ⟨"java/lang/Exception", "<init>", "()V"⟩, .declares ⟨"java/lang/Throwable", "<init>", "()V"⟩] : List Cond) := by decide +kernel
theorem xat_M_83_85_g : ∀ w ∈ Cond.classLink "ValueBenchModel" 83 "java/lang/ArithmeticException" :: Cond.initialized "java/lang/ArithmeticException" :: vx_at0 "ValueBenchModel" 85 "java/lang/ArithmeticException" ["java/lang/RuntimeException", "java/lang/Exception"], vx_ot w = true := by decide +kernel
theorem dA_apply_0 : decode prog_3_method_2_code 0 = .ok (.aload_n 1, 1) := by decide +kernel
theorem dA_apply_1 : decode prog_3_method_2_code 1 = .ok (.iconst 0, 1) := by decide +kernel
theorem dA_apply_2 : decode prog_3_method_2_code 2 = .ok (.iconst 3, 1) := by decide +kernel
theorem dA_apply_3 : decode prog_3_method_2_code 3 = .ok (.invokevirtual 9, 3) := by decide +kernel
theorem dA_apply_6 : decode prog_3_method_2_code 6 = .ok (.ifCond .eq 28, 3) := by decide +kernel
theorem dA_apply_34 : decode prog_3_method_2_code 34 = .ok (.iload_n 0, 1) := by decide +kernel
theorem dA_apply_35 : decode prog_3_method_2_code 35 = .ok (.tableswitch 57 0 3 #[29, 36, 43, 50], 29) := by decide +kernel
theorem dA_apply_64 : decode prog_3_method_2_code 64 = .ok (.aload_n 1, 1) := by decide +kernel
theorem dA_apply_65 : decode prog_3_method_2_code 65 = .ok (.aload_n 2, 1) := by decide +kernel
theorem dA_apply_66 : decode prog_3_method_2_code 66 = .ok (.aload_n 3, 1) := by decide +kernel
theorem dA_apply_67 : decode prog_3_method_2_code 67 = .ok (.invokestatic 25, 3) := by decide +kernel
theorem dA_apply_70 : decode prog_3_method_2_code 70 = .ok (.ireturn, 1) := by decide +kernel
theorem dA_apply_71 : decode prog_3_method_2_code 71 = .ok (.aload_n 1, 1) := by decide +kernel
theorem dA_apply_72 : decode prog_3_method_2_code 72 = .ok (.aload_n 2, 1) := by decide +kernel
theorem dA_apply_73 : decode prog_3_method_2_code 73 = .ok (.aload_n 3, 1) := by decide +kernel
theorem dA_apply_74 : decode prog_3_method_2_code 74 = .ok (.invokestatic 29, 3) := by decide +kernel
theorem dA_apply_77 : decode prog_3_method_2_code 77 = .ok (.ireturn, 1) := by decide +kernel
theorem dA_apply_78 : decode prog_3_method_2_code 78 = .ok (.aload_n 1, 1) := by decide +kernel
theorem dA_apply_79 : decode prog_3_method_2_code 79 = .ok (.aload_n 2, 1) := by decide +kernel
theorem dA_apply_80 : decode prog_3_method_2_code 80 = .ok (.aload_n 3, 1) := by decide +kernel
theorem dA_apply_81 : decode prog_3_method_2_code 81 = .ok (.invokestatic 32, 3) := by decide +kernel
theorem dA_apply_84 : decode prog_3_method_2_code 84 = .ok (.ireturn, 1) := by decide +kernel
theorem dA_apply_85 : decode prog_3_method_2_code 85 = .ok (.aload_n 1, 1) := by decide +kernel
theorem dA_apply_86 : decode prog_3_method_2_code 86 = .ok (.aload_n 2, 1) := by decide +kernel
theorem dA_apply_87 : decode prog_3_method_2_code 87 = .ok (.aload_n 3, 1) := by decide +kernel
theorem dA_apply_88 : decode prog_3_method_2_code 88 = .ok (.invokestatic 35, 3) := by decide +kernel
theorem dA_apply_91 : decode prog_3_method_2_code 91 = .ok (.ireturn, 1) := by decide +kernel
theorem dA_apply_92 : decode prog_3_method_2_code 92 = .ok (.iconst 1, 1) := by decide +kernel
theorem dA_apply_93 : decode prog_3_method_2_code 93 = .ok (.ireturn, 1) := by decide +kernel
theorem dA_minus_0 : decode prog_3_method_10_code 0 = .ok (.aload_n 0, 1) := by decide +kernel
theorem dA_minus_1 : decode prog_3_method_10_code 1 = .ok (.iconst 0, 1) := by decide +kernel
theorem dA_minus_2 : decode prog_3_method_10_code 2 = .ok (.iconst 5, 1) := by decide +kernel
theorem dA_minus_3 : decode prog_3_method_10_code 3 = .ok (.invokevirtual 9, 3) := by decide +kernel
theorem dA_minus_6 : decode prog_3_method_10_code 6 = .ok (.ifCond .eq 12, 3) := by decide +kernel
theorem dA_minus_18 : decode prog_3_method_10_code 18 = .ok (.iconst 1, 1) := by decide +kernel
theorem dA_minus_19 : decode prog_3_method_10_code 19 = .ok (.ireturn, 1) := by decide +kernel
theorem dA_pieces_0 : decode prog_3_method_14_code 0 = .ok (.aload_n 0, 1) := by decide +kernel
theorem dA_pieces_1 : decode prog_3_method_14_code 1 = .ok (.iconst 0, 1) := by decide +kernel
theorem dA_pieces_2 : decode prog_3_method_14_code 2 = .ok (.iconst 4, 1) := by decide +kernel
theorem dA_pieces_3 : decode prog_3_method_14_code 3 = .ok (.invokevirtual 9, 3) := by decide +kernel
theorem dA_pieces_6 : decode prog_3_method_14_code 6 = .ok (.ifCond .eq 12, 3) := by decide +kernel
theorem dA_pieces_18 : decode prog_3_method_14_code 18 = .ok (.iconst 1, 1) := by decide +kernel
theorem dA_pieces_19 : decode prog_3_method_14_code 19 = .ok (.ireturn, 1) := by decide +kernel
theorem dA_plus_0 : decode prog_3_method_6_code 0 = .ok (.aload_n 0, 1) := by decide +kernel
theorem dA_plus_1 : decode prog_3_method_6_code 1 = .ok (.iconst 0, 1) := by decide +kernel
theorem dA_plus_2 : decode prog_3_method_6_code 2 = .ok (.iconst 0, 1) := by decide +kernel
theorem dA_plus_3 : decode prog_3_method_6_code 3 = .ok (.invokevirtual 9, 3) := by decide +kernel
theorem dA_plus_6 : decode prog_3_method_6_code 6 = .ok (.ifCond .ne 12, 3) := by decide +kernel
theorem dA_plus_18 : decode prog_3_method_6_code 18 = .ok (.aload_n 2, 1) := by decide +kernel
theorem dA_plus_19 : decode prog_3_method_6_code 19 = .ok (.aload_n 0, 1) := by decide +kernel
theorem dA_plus_20 : decode prog_3_method_6_code 20 = .ok (.iconst 0, 1) := by decide +kernel
theorem dA_plus_21 : decode prog_3_method_6_code 21 = .ok (.iconst 0, 1) := by decide +kernel
theorem dA_plus_22 : decode prog_3_method_6_code 22 = .ok (.invokevirtual 9, 3) := by decide +kernel
theorem dA_plus_25 : decode prog_3_method_6_code 25 = .ok (.ifCond .eq 7, 3) := by decide +kernel
theorem dA_plus_28 : decode prog_3_method_6_code 28 = .ok (.aload_n 1, 1) := by decide +kernel
theorem dA_plus_29 : decode prog_3_method_6_code 29 = .ok (.goto 4, 3) := by decide +kernel
theorem dA_plus_33 : decode prog_3_method_6_code 33 = .ok (.iconst 0, 1) := by decide +kernel
theorem dA_plus_34 : decode prog_3_method_6_code 34 = .ok (.invokevirtual 57, 3) := by decide +kernel
theorem dA_plus_37 : decode prog_3_method_6_code 37 = .ok (.iconst 0, 1) := by decide +kernel
theorem dA_plus_38 : decode prog_3_method_6_code 38 = .ok (.ireturn, 1) := by decide +kernel
theorem dA_times_0 : decode prog_3_method_12_code 0 = .ok (.aload_n 0, 1) := by decide +kernel
theorem dA_times_1 : decode prog_3_method_12_code 1 = .ok (.iconst 0, 1) := by decide +kernel
theorem dA_times_2 : decode prog_3_method_12_code 2 = .ok (.bipush 6, 2) := by decide +kernel
theorem dA_times_4 : decode prog_3_method_12_code 4 = .ok (.invokevirtual 9, 3) := by decide +kernel
theorem dA_times_7 : decode prog_3_method_12_code 7 = .ok (.ifCond .eq 25, 3) := by decide +kernel
theorem dA_times_32 : decode prog_3_method_12_code 32 = .ok (.aload_n 0, 1) := by decide +kernel
theorem dA_times_33 : decode prog_3_method_12_code 33 = .ok (.iconst 0, 1) := by decide +kernel
theorem dA_times_34 : decode prog_3_method_12_code 34 = .ok (.iconst 4, 1) := by decide +kernel
theorem dA_times_35 : decode prog_3_method_12_code 35 = .ok (.invokevirtual 9, 3) := by decide +kernel
theorem dA_times_38 : decode prog_3_method_12_code 38 = .ok (.ifCond .eq 24, 3) := by decide +kernel
theorem dA_times_62 : decode prog_3_method_12_code 62 = .ok (.aload_n 0, 1) := by decide +kernel
theorem dA_times_63 : decode prog_3_method_12_code 63 = .ok (.iconst 0, 1) := by decide +kernel
theorem dA_times_64 : decode prog_3_method_12_code 64 = .ok (.iconst 3, 1) := by decide +kernel
theorem dA_times_65 : decode prog_3_method_12_code 65 = .ok (.invokevirtual 9, 3) := by decide +kernel
theorem dA_times_68 : decode prog_3_method_12_code 68 = .ok (.ifCond .eq 24, 3) := by decide +kernel
theorem dA_times_92 : decode prog_3_method_12_code 92 = .ok (.iconst 1, 1) := by decide +kernel
theorem dA_times_93 : decode prog_3_method_12_code 93 = .ok (.ireturn, 1) := by decide +kernel
theorem dB_binary_0 : decode prog_1_method_6_code 0 = .ok (.iload_n 1, 1) := by decide +kernel
theorem dB_binary_1 : decode prog_1_method_6_code 1 = .ok (.invokestatic 73, 3) := by decide +kernel
theorem dB_binary_4 : decode prog_1_method_6_code 4 = .ok (.ifCond .eq 30, 3) := by decide +kernel
theorem dB_binary_7 : decode prog_1_method_6_code 7 = .ok (.iload_n 2, 1) := by decide +kernel
theorem dB_binary_8 : decode prog_1_method_6_code 8 = .ok (.iconst 4, 1) := by decide +kernel
theorem dB_binary_9 : decode prog_1_method_6_code 9 = .ok (.invokestatic 62, 3) := by decide +kernel
theorem dB_binary_12 : decode prog_1_method_6_code 12 = .ok (.ifCond .eq 22, 3) := by decide +kernel
theorem dB_binary_15 : decode prog_1_method_6_code 15 = .ok (.iload_n 3, 1) := by decide +kernel
theorem dB_binary_16 : decode prog_1_method_6_code 16 = .ok (.invokestatic 73, 3) := by decide +kernel
theorem dB_binary_19 : decode prog_1_method_6_code 19 = .ok (.ifCond .eq 15, 3) := by decide +kernel
theorem dB_binary_22 : decode prog_1_method_6_code 22 = .ok (.iload 4, 2) := by decide +kernel
theorem dB_binary_24 : decode prog_1_method_6_code 24 = .ok (.invokestatic 73, 3) := by decide +kernel
theorem dB_binary_27 : decode prog_1_method_6_code 27 = .ok (.ifCond .eq 7, 3) := by decide +kernel
theorem dB_binary_30 : decode prog_1_method_6_code 30 = .ok (.iconst 1, 1) := by decide +kernel
theorem dB_binary_31 : decode prog_1_method_6_code 31 = .ok (.goto 4, 3) := by decide +kernel
theorem dB_binary_34 : decode prog_1_method_6_code 34 = .ok (.iconst 0, 1) := by decide +kernel
theorem dB_binary_35 : decode prog_1_method_6_code 35 = .ok (.invokestatic 66, 3) := by decide +kernel
theorem dB_binary_38 : decode prog_1_method_6_code 38 = .ok (.aload_n 0, 1) := by decide +kernel
theorem dB_binary_39 : decode prog_1_method_6_code 39 = .ok (.getfield 36, 3) := by decide +kernel
theorem dB_binary_42 : decode prog_1_method_6_code 42 = .ok (.invokevirtual 77, 3) := by decide +kernel
theorem dB_binary_45 : decode prog_1_method_6_code 45 = .ok (.aload_n 0, 1) := by decide +kernel
theorem dB_binary_46 : decode prog_1_method_6_code 46 = .ok (.iload_n 2, 1) := by decide +kernel
theorem dB_binary_47 : decode prog_1_method_6_code 47 = .ok (.aload_n 0, 1) := by decide +kernel
theorem dB_binary_48 : decode prog_1_method_6_code 48 = .ok (.getfield 24, 3) := by decide +kernel
theorem dB_binary_51 : decode prog_1_method_6_code 51 = .ok (.iload_n 3, 1) := by decide +kernel
theorem dB_binary_52 : decode prog_1_method_6_code 52 = .ok (.aaload, 1) := by decide +kernel
theorem dB_binary_53 : decode prog_1_method_6_code 53 = .ok (.aload_n 0, 1) := by decide +kernel
theorem dB_binary_54 : decode prog_1_method_6_code 54 = .ok (.getfield 24, 3) := by decide +kernel
theorem dB_binary_57 : decode prog_1_method_6_code 57 = .ok (.iload 4, 2) := by decide +kernel
theorem dB_binary_59 : decode prog_1_method_6_code 59 = .ok (.aaload, 1) := by decide +kernel
theorem dB_binary_60 : decode prog_1_method_6_code 60 = .ok (.aload_n 0, 1) := by decide +kernel
theorem dB_binary_61 : decode prog_1_method_6_code 61 = .ok (.getfield 36, 3) := by decide +kernel
theorem dB_binary_64 : decode prog_1_method_6_code 64 = .ok (.invokestatic 104, 3) := by decide +kernel
theorem dB_binary_67 : decode prog_1_method_6_code 67 = .ok (.invokevirtual 110, 3) := by decide +kernel
theorem dB_binary_70 : decode prog_1_method_6_code 70 = .ok (.aload_n 0, 1) := by decide +kernel
theorem dB_binary_71 : decode prog_1_method_6_code 71 = .ok (.iload_n 1, 1) := by decide +kernel
theorem dB_binary_72 : decode prog_1_method_6_code 72 = .ok (.invokevirtual 94, 3) := by decide +kernel
theorem dB_binary_75 : decode prog_1_method_6_code 75 = .ok (.pop, 1) := by decide +kernel
theorem dB_binary_76 : decode prog_1_method_6_code 76 = .ok (.return_, 1) := by decide +kernel
theorem dB_compare_0 : decode prog_1_method_7_code 0 = .ok (.iload_n 1, 1) := by decide +kernel
theorem dB_compare_1 : decode prog_1_method_7_code 1 = .ok (.invokestatic 73, 3) := by decide +kernel
theorem dB_compare_4 : decode prog_1_method_7_code 4 = .ok (.ifCond .eq 14, 3) := by decide +kernel
theorem dB_compare_7 : decode prog_1_method_7_code 7 = .ok (.iload_n 2, 1) := by decide +kernel
theorem dB_compare_8 : decode prog_1_method_7_code 8 = .ok (.invokestatic 73, 3) := by decide +kernel
theorem dB_compare_11 : decode prog_1_method_7_code 11 = .ok (.ifCond .eq 7, 3) := by decide +kernel
theorem dB_compare_14 : decode prog_1_method_7_code 14 = .ok (.iconst 1, 1) := by decide +kernel
theorem dB_compare_15 : decode prog_1_method_7_code 15 = .ok (.goto 4, 3) := by decide +kernel
theorem dB_compare_18 : decode prog_1_method_7_code 18 = .ok (.iconst 0, 1) := by decide +kernel
theorem dB_compare_19 : decode prog_1_method_7_code 19 = .ok (.invokestatic 66, 3) := by decide +kernel
theorem dB_compare_22 : decode prog_1_method_7_code 22 = .ok (.aload_n 0, 1) := by decide +kernel
theorem dB_compare_23 : decode prog_1_method_7_code 23 = .ok (.getfield 24, 3) := by decide +kernel
theorem dB_compare_26 : decode prog_1_method_7_code 26 = .ok (.iload_n 1, 1) := by decide +kernel
theorem dB_compare_27 : decode prog_1_method_7_code 27 = .ok (.aaload, 1) := by decide +kernel
theorem dB_compare_28 : decode prog_1_method_7_code 28 = .ok (.iconst 0, 1) := by decide +kernel
theorem dB_compare_29 : decode prog_1_method_7_code 29 = .ok (.aload_n 0, 1) := by decide +kernel
theorem dB_compare_30 : decode prog_1_method_7_code 30 = .ok (.getfield 24, 3) := by decide +kernel
theorem dB_compare_33 : decode prog_1_method_7_code 33 = .ok (.iload_n 2, 1) := by decide +kernel
theorem dB_compare_34 : decode prog_1_method_7_code 34 = .ok (.aaload, 1) := by decide +kernel
theorem dB_compare_35 : decode prog_1_method_7_code 35 = .ok (.iconst 0, 1) := by decide +kernel
theorem dB_compare_36 : decode prog_1_method_7_code 36 = .ok (.iconst 0, 1) := by decide +kernel
theorem dB_compare_37 : decode prog_1_method_7_code 37 = .ok (.invokestatic 113, 3) := by decide +kernel
theorem dB_compare_40 : decode prog_1_method_7_code 40 = .ok (.ireturn, 1) := by decide +kernel
theorem dB_count_0 : decode prog_1_method_13_code 0 = .ok (.iload_n 1, 1) := by decide +kernel
theorem dB_count_1 : decode prog_1_method_13_code 1 = .ok (.iconst 3, 1) := by decide +kernel
theorem dB_count_2 : decode prog_1_method_13_code 2 = .ok (.invokestatic 62, 3) := by decide +kernel
theorem dB_count_5 : decode prog_1_method_13_code 5 = .ok (.invokestatic 66, 3) := by decide +kernel
theorem dB_count_8 : decode prog_1_method_13_code 8 = .ok (.iload_n 1, 1) := by decide +kernel
theorem dB_count_9 : decode prog_1_method_13_code 9 = .ok (.tableswitch 48 0 2 #[27, 35, 43], 27) := by decide +kernel
theorem dB_count_36 : decode prog_1_method_13_code 36 = .ok (.aload_n 0, 1) := by decide +kernel
theorem dB_count_37 : decode prog_1_method_13_code 37 = .ok (.getfield 10, 3) := by decide +kernel
theorem dB_count_40 : decode prog_1_method_13_code 40 = .ok (.invokevirtual 47, 3) := by decide +kernel
theorem dB_count_43 : decode prog_1_method_13_code 43 = .ok (.ireturn, 1) := by decide +kernel
theorem dB_count_44 : decode prog_1_method_13_code 44 = .ok (.aload_n 0, 1) := by decide +kernel
theorem dB_count_45 : decode prog_1_method_13_code 45 = .ok (.getfield 16, 3) := by decide +kernel
theorem dB_count_48 : decode prog_1_method_13_code 48 = .ok (.invokevirtual 47, 3) := by decide +kernel
theorem dB_count_51 : decode prog_1_method_13_code 51 = .ok (.ireturn, 1) := by decide +kernel
theorem dB_count_52 : decode prog_1_method_13_code 52 = .ok (.aload_n 0, 1) := by decide +kernel
theorem dB_count_53 : decode prog_1_method_13_code 53 = .ok (.getfield 40, 3) := by decide +kernel
theorem dB_count_56 : decode prog_1_method_13_code 56 = .ok (.ireturn, 1) := by decide +kernel
theorem dB_count_57 : decode prog_1_method_13_code 57 = .ok (.aload_n 0, 1) := by decide +kernel
theorem dB_count_58 : decode prog_1_method_13_code 58 = .ok (.getfield 44, 3) := by decide +kernel
theorem dB_count_61 : decode prog_1_method_13_code 61 = .ok (.ireturn, 1) := by decide +kernel
theorem dB_demand_0 : decode prog_1_method_16_code 0 = .ok (.iload_n 0, 1) := by decide +kernel
theorem dB_demand_1 : decode prog_1_method_16_code 1 = .ok (.ifCond .ne 13, 3) := by decide +kernel
theorem dB_demand_4 : decode prog_1_method_16_code 4 = .ok (.new 149, 3) := by decide +kernel
theorem dB_demand_7 : decode prog_1_method_16_code 7 = .ok (.dup, 1) := by decide +kernel
theorem dB_demand_8 : decode prog_1_method_16_code 8 = .ok (.ldc 151, 2) := by decide +kernel
theorem dB_demand_10 : decode prog_1_method_16_code 10 = .ok (.invokespecial 153, 3) := by decide +kernel
theorem dB_demand_13 : decode prog_1_method_16_code 13 = .ok (.athrow, 1) := by decide +kernel
theorem dB_demand_14 : decode prog_1_method_16_code 14 = .ok (.return_, 1) := by decide +kernel
theorem dB_demandDone_0 : decode prog_1_method_17_code 0 = .ok (.iload_n 1, 1) := by decide +kernel
theorem dB_demandDone_1 : decode prog_1_method_17_code 1 = .ok (.ifCond .ne 4, 3) := by decide +kernel
theorem dB_demandDone_4 : decode prog_1_method_17_code 4 = .ok (.return_, 1) := by decide +kernel
theorem dB_demandDone_5 : decode prog_1_method_17_code 5 = .ok (.aload_n 0, 1) := by decide +kernel
theorem dB_demandDone_6 : decode prog_1_method_17_code 6 = .ok (.iload_n 1, 1) := by decide +kernel
theorem dB_demandDone_7 : decode prog_1_method_17_code 7 = .ok (.putfield 44, 3) := by decide +kernel
theorem dB_demandDone_10 : decode prog_1_method_17_code 10 = .ok (.iload_n 1, 1) := by decide +kernel
theorem dB_demandDone_11 : decode prog_1_method_17_code 11 = .ok (.tableswitch 69 1 4 #[29, 39, 49, 59], 29) := by decide +kernel
theorem dB_demandDone_40 : decode prog_1_method_17_code 40 = .ok (.new 154, 3) := by decide +kernel
theorem dB_demandDone_43 : decode prog_1_method_17_code 43 = .ok (.dup, 1) := by decide +kernel
theorem dB_demandDone_44 : decode prog_1_method_17_code 44 = .ok (.ldc 156, 2) := by decide +kernel
theorem dB_demandDone_46 : decode prog_1_method_17_code 46 = .ok (.invokespecial 158, 3) := by decide +kernel
theorem dB_demandDone_49 : decode prog_1_method_17_code 49 = .ok (.athrow, 1) := by decide +kernel
theorem dB_end_0 : decode prog_1_method_3_code 0 = .ok (.iload_n 1, 1) := by decide +kernel
theorem dB_end_1 : decode prog_1_method_3_code 1 = .ok (.aload_n 0, 1) := by decide +kernel
theorem dB_end_2 : decode prog_1_method_3_code 2 = .ok (.getfield 10, 3) := by decide +kernel
theorem dB_end_5 : decode prog_1_method_3_code 5 = .ok (.invokevirtual 47, 3) := by decide +kernel
theorem dB_end_8 : decode prog_1_method_3_code 8 = .ok (.invokestatic 62, 3) := by decide +kernel
theorem dB_end_11 : decode prog_1_method_3_code 11 = .ok (.invokestatic 66, 3) := by decide +kernel
theorem dB_end_14 : decode prog_1_method_3_code 14 = .ok (.aload_n 0, 1) := by decide +kernel
theorem dB_end_15 : decode prog_1_method_3_code 15 = .ok (.getfield 10, 3) := by decide +kernel
theorem dB_end_18 : decode prog_1_method_3_code 18 = .ok (.iload_n 1, 1) := by decide +kernel
theorem dB_end_19 : decode prog_1_method_3_code 19 = .ok (.invokevirtual 70, 3) := by decide +kernel
theorem dB_end_22 : decode prog_1_method_3_code 22 = .ok (.iload_n 1, 1) := by decide +kernel
theorem dB_end_23 : decode prog_1_method_3_code 23 = .ok (.ireturn, 1) := by decide +kernel
theorem dB_feed_0 : decode prog_1_method_2_code 0 = .ok (.aload_n 0, 1) := by decide +kernel
theorem dB_feed_1 : decode prog_1_method_2_code 1 = .ok (.getfield 10, 3) := by decide +kernel
theorem dB_feed_4 : decode prog_1_method_2_code 4 = .ok (.invokevirtual 47, 3) := by decide +kernel
theorem dB_feed_7 : decode prog_1_method_2_code 7 = .ok (.bipush 20, 2) := by decide +kernel
theorem dB_feed_9 : decode prog_1_method_2_code 9 = .ok (.iadd, 1) := by decide +kernel
theorem dB_feed_10 : decode prog_1_method_2_code 10 = .ok (.sipush 4096, 3) := by decide +kernel
theorem dB_feed_13 : decode prog_1_method_2_code 13 = .ok (.if_icmp .le 13, 3) := by decide +kernel
theorem dB_feed_26 : decode prog_1_method_2_code 26 = .ok (.aload_n 0, 1) := by decide +kernel
theorem dB_feed_27 : decode prog_1_method_2_code 27 = .ok (.getfield 10, 3) := by decide +kernel
theorem dB_feed_30 : decode prog_1_method_2_code 30 = .ok (.iload_n 1, 1) := by decide +kernel
theorem dB_feed_31 : decode prog_1_method_2_code 31 = .ok (.invokevirtual 58, 3) := by decide +kernel
theorem dB_feed_34 : decode prog_1_method_2_code 34 = .ok (.aload_n 0, 1) := by decide +kernel
theorem dB_feed_35 : decode prog_1_method_2_code 35 = .ok (.getfield 10, 3) := by decide +kernel
theorem dB_feed_38 : decode prog_1_method_2_code 38 = .ok (.iload_n 2, 1) := by decide +kernel
theorem dB_feed_39 : decode prog_1_method_2_code 39 = .ok (.invokevirtual 58, 3) := by decide +kernel
theorem dB_feed_42 : decode prog_1_method_2_code 42 = .ok (.aload_n 0, 1) := by decide +kernel
theorem dB_feed_43 : decode prog_1_method_2_code 43 = .ok (.getfield 10, 3) := by decide +kernel
theorem dB_feed_46 : decode prog_1_method_2_code 46 = .ok (.iload_n 3, 1) := by decide +kernel
theorem dB_feed_47 : decode prog_1_method_2_code 47 = .ok (.invokevirtual 58, 3) := by decide +kernel
theorem dB_feed_50 : decode prog_1_method_2_code 50 = .ok (.aload_n 0, 1) := by decide +kernel
theorem dB_feed_51 : decode prog_1_method_2_code 51 = .ok (.getfield 10, 3) := by decide +kernel
theorem dB_feed_54 : decode prog_1_method_2_code 54 = .ok (.iload 4, 2) := by decide +kernel
theorem dB_feed_56 : decode prog_1_method_2_code 56 = .ok (.invokevirtual 58, 3) := by decide +kernel
theorem dB_feed_59 : decode prog_1_method_2_code 59 = .ok (.aload_n 0, 1) := by decide +kernel
theorem dB_feed_60 : decode prog_1_method_2_code 60 = .ok (.getfield 10, 3) := by decide +kernel
theorem dB_feed_63 : decode prog_1_method_2_code 63 = .ok (.iload 5, 2) := by decide +kernel
theorem dB_feed_65 : decode prog_1_method_2_code 65 = .ok (.invokevirtual 58, 3) := by decide +kernel
theorem dB_feed_68 : decode prog_1_method_2_code 68 = .ok (.aload_n 0, 1) := by decide +kernel
theorem dB_feed_69 : decode prog_1_method_2_code 69 = .ok (.getfield 10, 3) := by decide +kernel
theorem dB_feed_72 : decode prog_1_method_2_code 72 = .ok (.invokevirtual 47, 3) := by decide +kernel
theorem dB_feed_75 : decode prog_1_method_2_code 75 = .ok (.ireturn, 1) := by decide +kernel
theorem dB_init_0 : decode prog_1_method_1_code 0 = .ok (.aload_n 0, 1) := by decide +kernel
theorem dB_init_1 : decode prog_1_method_1_code 1 = .ok (.invokespecial 1, 3) := by decide +kernel
theorem dB_init_4 : decode prog_1_method_1_code 4 = .ok (.aload_n 0, 1) := by decide +kernel
theorem dB_init_5 : decode prog_1_method_1_code 5 = .ok (.new 7, 3) := by decide +kernel
theorem dB_init_8 : decode prog_1_method_1_code 8 = .ok (.dup, 1) := by decide +kernel
theorem dB_init_9 : decode prog_1_method_1_code 9 = .ok (.invokespecial 9, 3) := by decide +kernel
theorem dB_init_12 : decode prog_1_method_1_code 12 = .ok (.putfield 10, 3) := by decide +kernel
theorem dB_init_15 : decode prog_1_method_1_code 15 = .ok (.aload_n 0, 1) := by decide +kernel
theorem dB_init_16 : decode prog_1_method_1_code 16 = .ok (.new 7, 3) := by decide +kernel
theorem dB_init_19 : decode prog_1_method_1_code 19 = .ok (.dup, 1) := by decide +kernel
theorem dB_init_20 : decode prog_1_method_1_code 20 = .ok (.invokespecial 9, 3) := by decide +kernel
theorem dB_init_23 : decode prog_1_method_1_code 23 = .ok (.putfield 16, 3) := by decide +kernel
theorem dB_init_26 : decode prog_1_method_1_code 26 = .ok (.aload_n 0, 1) := by decide +kernel
theorem dB_init_27 : decode prog_1_method_1_code 27 = .ok (.new 7, 3) := by decide +kernel
theorem dB_init_30 : decode prog_1_method_1_code 30 = .ok (.dup, 1) := by decide +kernel
theorem dB_init_31 : decode prog_1_method_1_code 31 = .ok (.invokespecial 9, 3) := by decide +kernel
theorem dB_init_34 : decode prog_1_method_1_code 34 = .ok (.putfield 19, 3) := by decide +kernel
theorem dB_init_37 : decode prog_1_method_1_code 37 = .ok (.aload_n 0, 1) := by decide +kernel
theorem dB_init_38 : decode prog_1_method_1_code 38 = .ok (.bipush 8, 2) := by decide +kernel
theorem dB_init_40 : decode prog_1_method_1_code 40 = .ok (.anewarray 22, 3) := by decide +kernel
theorem dB_init_43 : decode prog_1_method_1_code 43 = .ok (.putfield 24, 3) := by decide +kernel
theorem dB_init_46 : decode prog_1_method_1_code 46 = .ok (.aload_n 0, 1) := by decide +kernel
theorem dB_init_47 : decode prog_1_method_1_code 47 = .ok (.new 28, 3) := by decide +kernel
theorem dB_init_50 : decode prog_1_method_1_code 50 = .ok (.dup, 1) := by decide +kernel
theorem dB_init_51 : decode prog_1_method_1_code 51 = .ok (.invokespecial 30, 3) := by decide +kernel
theorem dB_init_54 : decode prog_1_method_1_code 54 = .ok (.putfield 31, 3) := by decide +kernel
theorem dB_init_57 : decode prog_1_method_1_code 57 = .ok (.aload_n 0, 1) := by decide +kernel
theorem dB_init_58 : decode prog_1_method_1_code 58 = .ok (.new 22, 3) := by decide +kernel
theorem dB_init_61 : decode prog_1_method_1_code 61 = .ok (.dup, 1) := by decide +kernel
theorem dB_init_62 : decode prog_1_method_1_code 62 = .ok (.invokespecial 35, 3) := by decide +kernel
theorem dB_init_65 : decode prog_1_method_1_code 65 = .ok (.putfield 36, 3) := by decide +kernel
theorem dB_init_68 : decode prog_1_method_1_code 68 = .ok (.aload_n 0, 1) := by decide +kernel
theorem dB_init_69 : decode prog_1_method_1_code 69 = .ok (.iconst (-1), 1) := by decide +kernel
theorem dB_init_70 : decode prog_1_method_1_code 70 = .ok (.putfield 40, 3) := by decide +kernel
theorem dB_init_73 : decode prog_1_method_1_code 73 = .ok (.aload_n 0, 1) := by decide +kernel
theorem dB_init_74 : decode prog_1_method_1_code 74 = .ok (.iconst 0, 1) := by decide +kernel
theorem dB_init_75 : decode prog_1_method_1_code 75 = .ok (.putfield 44, 3) := by decide +kernel
theorem dB_init_78 : decode prog_1_method_1_code 78 = .ok (.iconst 0, 1) := by decide +kernel
theorem dB_init_79 : decode prog_1_method_1_code 79 = .ok (.istore_n 1, 1) := by decide +kernel
theorem dB_init_80 : decode prog_1_method_1_code 80 = .ok (.iload_n 1, 1) := by decide +kernel
theorem dB_init_81 : decode prog_1_method_1_code 81 = .ok (.bipush 8, 2) := by decide +kernel
theorem dB_init_83 : decode prog_1_method_1_code 83 = .ok (.if_icmp .ge 22, 3) := by decide +kernel
theorem dB_init_86 : decode prog_1_method_1_code 86 = .ok (.aload_n 0, 1) := by decide +kernel
theorem dB_init_87 : decode prog_1_method_1_code 87 = .ok (.getfield 24, 3) := by decide +kernel
theorem dB_init_90 : decode prog_1_method_1_code 90 = .ok (.iload_n 1, 1) := by decide +kernel
theorem dB_init_91 : decode prog_1_method_1_code 91 = .ok (.new 22, 3) := by decide +kernel
theorem dB_init_94 : decode prog_1_method_1_code 94 = .ok (.dup, 1) := by decide +kernel
theorem dB_init_95 : decode prog_1_method_1_code 95 = .ok (.invokespecial 35, 3) := by decide +kernel
theorem dB_init_98 : decode prog_1_method_1_code 98 = .ok (.aastore, 1) := by decide +kernel
theorem dB_init_99 : decode prog_1_method_1_code 99 = .ok (.iinc 1 1, 3) := by decide +kernel
theorem dB_init_102 : decode prog_1_method_1_code 102 = .ok (.goto (-22), 3) := by decide +kernel
theorem dB_init_105 : decode prog_1_method_1_code 105 = .ok (.return_, 1) := by decide +kernel
theorem dB_isRegister_0 : decode prog_1_method_14_code 0 = .ok (.iload_n 0, 1) := by decide +kernel
theorem dB_isRegister_1 : decode prog_1_method_14_code 1 = .ok (.bipush 7, 2) := by decide +kernel
theorem dB_isRegister_3 : decode prog_1_method_14_code 3 = .ok (.invokestatic 62, 3) := by decide +kernel
theorem dB_isRegister_6 : decode prog_1_method_14_code 6 = .ok (.ireturn, 1) := by decide +kernel
theorem dB_isWithin_0 : decode prog_1_method_15_code 0 = .ok (.iload_n 0, 1) := by decide +kernel
theorem dB_isWithin_1 : decode prog_1_method_15_code 1 = .ok (.ifCond .lt 12, 3) := by decide +kernel
theorem dB_isWithin_4 : decode prog_1_method_15_code 4 = .ok (.iload_n 0, 1) := by decide +kernel
theorem dB_isWithin_5 : decode prog_1_method_15_code 5 = .ok (.iload_n 1, 1) := by decide +kernel
theorem dB_isWithin_6 : decode prog_1_method_15_code 6 = .ok (.if_icmp .gt 7, 3) := by decide +kernel
theorem dB_isWithin_9 : decode prog_1_method_15_code 9 = .ok (.iconst 1, 1) := by decide +kernel
theorem dB_isWithin_10 : decode prog_1_method_15_code 10 = .ok (.goto 4, 3) := by decide +kernel
theorem dB_isWithin_13 : decode prog_1_method_15_code 13 = .ok (.iconst 0, 1) := by decide +kernel
theorem dB_isWithin_14 : decode prog_1_method_15_code 14 = .ok (.ireturn, 1) := by decide +kernel
theorem dB_keepSpare_0 : decode prog_1_method_18_code 0 = .ok (.aload_n 0, 1) := by decide +kernel
theorem dB_keepSpare_1 : decode prog_1_method_18_code 1 = .ok (.getfield 19, 3) := by decide +kernel
theorem dB_keepSpare_4 : decode prog_1_method_18_code 4 = .ok (.invokevirtual 88, 3) := by decide +kernel
theorem dB_keepSpare_7 : decode prog_1_method_18_code 7 = .ok (.aload_n 0, 1) := by decide +kernel
theorem dB_keepSpare_8 : decode prog_1_method_18_code 8 = .ok (.getfield 36, 3) := by decide +kernel
theorem dB_keepSpare_11 : decode prog_1_method_18_code 11 = .ok (.iconst 0, 1) := by decide +kernel
theorem dB_keepSpare_12 : decode prog_1_method_18_code 12 = .ok (.aload_n 0, 1) := by decide +kernel
theorem dB_keepSpare_13 : decode prog_1_method_18_code 13 = .ok (.getfield 19, 3) := by decide +kernel
theorem dB_keepSpare_16 : decode prog_1_method_18_code 16 = .ok (.iconst 0, 1) := by decide +kernel
theorem dB_keepSpare_17 : decode prog_1_method_18_code 17 = .ok (.invokestatic 98, 3) := by decide +kernel
theorem dB_keepSpare_20 : decode prog_1_method_18_code 20 = .ok (.aload_n 0, 1) := by decide +kernel
theorem dB_keepSpare_21 : decode prog_1_method_18_code 21 = .ok (.getfield 36, 3) := by decide +kernel
theorem dB_keepSpare_24 : decode prog_1_method_18_code 24 = .ok (.invokevirtual 167, 3) := by decide +kernel
theorem dB_keepSpare_27 : decode prog_1_method_18_code 27 = .ok (.ifCond .ne 13, 3) := by decide +kernel
theorem dB_keepSpare_30 : decode prog_1_method_18_code 30 = .ok (.aload_n 0, 1) := by decide +kernel
theorem dB_keepSpare_31 : decode prog_1_method_18_code 31 = .ok (.getfield 19, 3) := by decide +kernel
theorem dB_keepSpare_34 : decode prog_1_method_18_code 34 = .ok (.invokevirtual 171, 3) := by decide +kernel
theorem dB_keepSpare_37 : decode prog_1_method_18_code 37 = .ok (.ifCond .eq 13, 3) := by decide +kernel
theorem dB_keepSpare_50 : decode prog_1_method_18_code 50 = .ok (.aload_n 0, 1) := by decide +kernel
theorem dB_keepSpare_51 : decode prog_1_method_18_code 51 = .ok (.getfield 24, 3) := by decide +kernel
theorem dB_keepSpare_54 : decode prog_1_method_18_code 54 = .ok (.iload_n 1, 1) := by decide +kernel
theorem dB_keepSpare_55 : decode prog_1_method_18_code 55 = .ok (.aaload, 1) := by decide +kernel
theorem dB_keepSpare_56 : decode prog_1_method_18_code 56 = .ok (.astore_n 2, 1) := by decide +kernel
theorem dB_keepSpare_57 : decode prog_1_method_18_code 57 = .ok (.aload_n 0, 1) := by decide +kernel
theorem dB_keepSpare_58 : decode prog_1_method_18_code 58 = .ok (.getfield 24, 3) := by decide +kernel
theorem dB_keepSpare_61 : decode prog_1_method_18_code 61 = .ok (.iload_n 1, 1) := by decide +kernel
theorem dB_keepSpare_62 : decode prog_1_method_18_code 62 = .ok (.aload_n 0, 1) := by decide +kernel
theorem dB_keepSpare_63 : decode prog_1_method_18_code 63 = .ok (.getfield 36, 3) := by decide +kernel
theorem dB_keepSpare_66 : decode prog_1_method_18_code 66 = .ok (.aastore, 1) := by decide +kernel
theorem dB_keepSpare_67 : decode prog_1_method_18_code 67 = .ok (.aload_n 0, 1) := by decide +kernel
theorem dB_keepSpare_68 : decode prog_1_method_18_code 68 = .ok (.aload_n 2, 1) := by decide +kernel
theorem dB_keepSpare_69 : decode prog_1_method_18_code 69 = .ok (.putfield 36, 3) := by decide +kernel
theorem dB_keepSpare_72 : decode prog_1_method_18_code 72 = .ok (.aload_n 0, 1) := by decide +kernel
theorem dB_keepSpare_73 : decode prog_1_method_18_code 73 = .ok (.getfield 19, 3) := by decide +kernel
theorem dB_keepSpare_76 : decode prog_1_method_18_code 76 = .ok (.invokevirtual 47, 3) := by decide +kernel
theorem dB_keepSpare_79 : decode prog_1_method_18_code 79 = .ok (.ireturn, 1) := by decide +kernel
theorem dB_one_0 : decode prog_1_method_9_code 0 = .ok (.iload_n 1, 1) := by decide +kernel
theorem dB_one_1 : decode prog_1_method_9_code 1 = .ok (.invokestatic 73, 3) := by decide +kernel
theorem dB_one_4 : decode prog_1_method_9_code 4 = .ok (.ifCond .eq 23, 3) := by decide +kernel
theorem dB_one_7 : decode prog_1_method_9_code 7 = .ok (.iload_n 2, 1) := by decide +kernel
theorem dB_one_8 : decode prog_1_method_9_code 8 = .ok (.bipush 13, 2) := by decide +kernel
theorem dB_one_10 : decode prog_1_method_9_code 10 = .ok (.invokestatic 62, 3) := by decide +kernel
theorem dB_one_13 : decode prog_1_method_9_code 13 = .ok (.ifCond .eq 14, 3) := by decide +kernel
theorem dB_one_16 : decode prog_1_method_9_code 16 = .ok (.iload_n 3, 1) := by decide +kernel
theorem dB_one_17 : decode prog_1_method_9_code 17 = .ok (.invokestatic 73, 3) := by decide +kernel
theorem dB_one_20 : decode prog_1_method_9_code 20 = .ok (.ifCond .eq 7, 3) := by decide +kernel
theorem dB_one_23 : decode prog_1_method_9_code 23 = .ok (.iconst 1, 1) := by decide +kernel
theorem dB_one_24 : decode prog_1_method_9_code 24 = .ok (.goto 4, 3) := by decide +kernel
theorem dB_one_27 : decode prog_1_method_9_code 27 = .ok (.iconst 0, 1) := by decide +kernel
theorem dB_one_28 : decode prog_1_method_9_code 28 = .ok (.invokestatic 66, 3) := by decide +kernel
theorem dB_one_31 : decode prog_1_method_9_code 31 = .ok (.aload_n 0, 1) := by decide +kernel
theorem dB_one_32 : decode prog_1_method_9_code 32 = .ok (.getfield 36, 3) := by decide +kernel
theorem dB_one_35 : decode prog_1_method_9_code 35 = .ok (.invokevirtual 77, 3) := by decide +kernel
theorem dB_one_38 : decode prog_1_method_9_code 38 = .ok (.aload_n 0, 1) := by decide +kernel
theorem dB_one_39 : decode prog_1_method_9_code 39 = .ok (.iload_n 2, 1) := by decide +kernel
theorem dB_one_40 : decode prog_1_method_9_code 40 = .ok (.aload_n 0, 1) := by decide +kernel
theorem dB_one_41 : decode prog_1_method_9_code 41 = .ok (.getfield 24, 3) := by decide +kernel
theorem dB_one_44 : decode prog_1_method_9_code 44 = .ok (.iload_n 3, 1) := by decide +kernel
theorem dB_one_45 : decode prog_1_method_9_code 45 = .ok (.aaload, 1) := by decide +kernel
theorem dB_one_46 : decode prog_1_method_9_code 46 = .ok (.aload_n 0, 1) := by decide +kernel
theorem dB_one_47 : decode prog_1_method_9_code 47 = .ok (.getfield 19, 3) := by decide +kernel
theorem dB_one_50 : decode prog_1_method_9_code 50 = .ok (.aload_n 0, 1) := by decide +kernel
theorem dB_one_51 : decode prog_1_method_9_code 51 = .ok (.getfield 31, 3) := by decide +kernel
theorem dB_one_54 : decode prog_1_method_9_code 54 = .ok (.aload_n 0, 1) := by decide +kernel
theorem dB_one_55 : decode prog_1_method_9_code 55 = .ok (.getfield 36, 3) := by decide +kernel
theorem dB_one_58 : decode prog_1_method_9_code 58 = .ok (.invokestatic 123, 3) := by decide +kernel
theorem dB_one_61 : decode prog_1_method_9_code 61 = .ok (.invokevirtual 110, 3) := by decide +kernel
theorem dB_one_64 : decode prog_1_method_9_code 64 = .ok (.aload_n 0, 1) := by decide +kernel
theorem dB_one_65 : decode prog_1_method_9_code 65 = .ok (.iload_n 1, 1) := by decide +kernel
theorem dB_one_66 : decode prog_1_method_9_code 66 = .ok (.invokevirtual 94, 3) := by decide +kernel
theorem dB_one_69 : decode prog_1_method_9_code 69 = .ok (.pop, 1) := by decide +kernel
theorem dB_one_70 : decode prog_1_method_9_code 70 = .ok (.return_, 1) := by decide +kernel
theorem dB_print_0 : decode prog_1_method_5_code 0 = .ok (.iload_n 1, 1) := by decide +kernel
theorem dB_print_1 : decode prog_1_method_5_code 1 = .ok (.invokestatic 73, 3) := by decide +kernel
theorem dB_print_4 : decode prog_1_method_5_code 4 = .ok (.invokestatic 66, 3) := by decide +kernel
theorem dB_print_7 : decode prog_1_method_5_code 7 = .ok (.aload_n 0, 1) := by decide +kernel
theorem dB_print_8 : decode prog_1_method_5_code 8 = .ok (.getfield 16, 3) := by decide +kernel
theorem dB_print_11 : decode prog_1_method_5_code 11 = .ok (.invokevirtual 88, 3) := by decide +kernel
theorem dB_print_14 : decode prog_1_method_5_code 14 = .ok (.aload_n 0, 1) := by decide +kernel
theorem dB_print_15 : decode prog_1_method_5_code 15 = .ok (.getfield 24, 3) := by decide +kernel
theorem dB_print_18 : decode prog_1_method_5_code 18 = .ok (.iload_n 1, 1) := by decide +kernel
theorem dB_print_19 : decode prog_1_method_5_code 19 = .ok (.aaload, 1) := by decide +kernel
theorem dB_print_20 : decode prog_1_method_5_code 20 = .ok (.iconst 0, 1) := by decide +kernel
theorem dB_print_21 : decode prog_1_method_5_code 21 = .ok (.aload_n 0, 1) := by decide +kernel
theorem dB_print_22 : decode prog_1_method_5_code 22 = .ok (.getfield 16, 3) := by decide +kernel
theorem dB_print_25 : decode prog_1_method_5_code 25 = .ok (.iconst 0, 1) := by decide +kernel
theorem dB_print_26 : decode prog_1_method_5_code 26 = .ok (.invokestatic 98, 3) := by decide +kernel
theorem dB_print_29 : decode prog_1_method_5_code 29 = .ok (.aload_n 0, 1) := by decide +kernel
theorem dB_print_30 : decode prog_1_method_5_code 30 = .ok (.getfield 16, 3) := by decide +kernel
theorem dB_print_33 : decode prog_1_method_5_code 33 = .ok (.invokevirtual 47, 3) := by decide +kernel
theorem dB_print_36 : decode prog_1_method_5_code 36 = .ok (.ireturn, 1) := by decide +kernel
theorem dB_read_0 : decode prog_1_method_4_code 0 = .ok (.iload_n 1, 1) := by decide +kernel
theorem dB_read_1 : decode prog_1_method_4_code 1 = .ok (.invokestatic 73, 3) := by decide +kernel
theorem dB_read_4 : decode prog_1_method_4_code 4 = .ok (.invokestatic 66, 3) := by decide +kernel
theorem dB_read_7 : decode prog_1_method_4_code 7 = .ok (.aload_n 0, 1) := by decide +kernel
theorem dB_read_8 : decode prog_1_method_4_code 8 = .ok (.getfield 36, 3) := by decide +kernel
theorem dB_read_11 : decode prog_1_method_4_code 11 = .ok (.invokevirtual 77, 3) := by decide +kernel
theorem dB_read_14 : decode prog_1_method_4_code 14 = .ok (.aload_n 0, 1) := by decide +kernel
theorem dB_read_15 : decode prog_1_method_4_code 15 = .ok (.new 80, 3) := by decide +kernel
theorem dB_read_18 : decode prog_1_method_4_code 18 = .ok (.dup, 1) := by decide +kernel
theorem dB_read_19 : decode prog_1_method_4_code 19 = .ok (.aload_n 0, 1) := by decide +kernel
theorem dB_read_20 : decode prog_1_method_4_code 20 = .ok (.getfield 10, 3) := by decide +kernel
theorem dB_read_23 : decode prog_1_method_4_code 23 = .ok (.aload_n 0, 1) := by decide +kernel
theorem dB_read_24 : decode prog_1_method_4_code 24 = .ok (.getfield 36, 3) := by decide +kernel
theorem dB_read_27 : decode prog_1_method_4_code 27 = .ok (.invokespecial 82, 3) := by decide +kernel
theorem dB_read_30 : decode prog_1_method_4_code 30 = .ok (.invokevirtual 85, 3) := by decide +kernel
theorem dB_read_33 : decode prog_1_method_4_code 33 = .ok (.putfield 40, 3) := by decide +kernel
theorem dB_read_36 : decode prog_1_method_4_code 36 = .ok (.aload_n 0, 1) := by decide +kernel
theorem dB_read_37 : decode prog_1_method_4_code 37 = .ok (.getfield 10, 3) := by decide +kernel
theorem dB_read_40 : decode prog_1_method_4_code 40 = .ok (.invokevirtual 88, 3) := by decide +kernel
theorem dB_read_43 : decode prog_1_method_4_code 43 = .ok (.aload_n 0, 1) := by decide +kernel
theorem dB_read_44 : decode prog_1_method_4_code 44 = .ok (.getfield 40, 3) := by decide +kernel
theorem dB_read_47 : decode prog_1_method_4_code 47 = .ok (.iconst (-1), 1) := by decide +kernel
theorem dB_read_48 : decode prog_1_method_4_code 48 = .ok (.if_icmp .eq 13, 3) := by decide +kernel
theorem dB_read_51 : decode prog_1_method_4_code 51 = .ok (.new 89, 3) := by decide +kernel
theorem dB_read_54 : decode prog_1_method_4_code 54 = .ok (.dup, 1) := by decide +kernel
theorem dB_read_55 : decode prog_1_method_4_code 55 = .ok (.ldc 91, 2) := by decide +kernel
theorem dB_read_57 : decode prog_1_method_4_code 57 = .ok (.invokespecial 93, 3) := by decide +kernel
theorem dB_read_60 : decode prog_1_method_4_code 60 = .ok (.athrow, 1) := by decide +kernel
theorem dB_same_0 : decode prog_1_method_8_code 0 = .ok (.iload_n 1, 1) := by decide +kernel
theorem dB_same_1 : decode prog_1_method_8_code 1 = .ok (.invokestatic 73, 3) := by decide +kernel
theorem dB_same_4 : decode prog_1_method_8_code 4 = .ok (.ifCond .eq 14, 3) := by decide +kernel
theorem dB_same_7 : decode prog_1_method_8_code 7 = .ok (.iload_n 2, 1) := by decide +kernel
theorem dB_same_8 : decode prog_1_method_8_code 8 = .ok (.invokestatic 73, 3) := by decide +kernel
theorem dB_same_11 : decode prog_1_method_8_code 11 = .ok (.ifCond .eq 7, 3) := by decide +kernel
theorem dB_same_14 : decode prog_1_method_8_code 14 = .ok (.iconst 1, 1) := by decide +kernel
theorem dB_same_15 : decode prog_1_method_8_code 15 = .ok (.goto 4, 3) := by decide +kernel
theorem dB_same_18 : decode prog_1_method_8_code 18 = .ok (.iconst 0, 1) := by decide +kernel
theorem dB_same_19 : decode prog_1_method_8_code 19 = .ok (.invokestatic 66, 3) := by decide +kernel
theorem dB_same_22 : decode prog_1_method_8_code 22 = .ok (.aload_n 0, 1) := by decide +kernel
theorem dB_same_23 : decode prog_1_method_8_code 23 = .ok (.getfield 24, 3) := by decide +kernel
theorem dB_same_26 : decode prog_1_method_8_code 26 = .ok (.iload_n 1, 1) := by decide +kernel
theorem dB_same_27 : decode prog_1_method_8_code 27 = .ok (.aaload, 1) := by decide +kernel
theorem dB_same_28 : decode prog_1_method_8_code 28 = .ok (.iconst 0, 1) := by decide +kernel
theorem dB_same_29 : decode prog_1_method_8_code 29 = .ok (.aload_n 0, 1) := by decide +kernel
theorem dB_same_30 : decode prog_1_method_8_code 30 = .ok (.getfield 24, 3) := by decide +kernel
theorem dB_same_33 : decode prog_1_method_8_code 33 = .ok (.iload_n 2, 1) := by decide +kernel
theorem dB_same_34 : decode prog_1_method_8_code 34 = .ok (.aaload, 1) := by decide +kernel
theorem dB_same_35 : decode prog_1_method_8_code 35 = .ok (.iconst 0, 1) := by decide +kernel
theorem dB_same_36 : decode prog_1_method_8_code 36 = .ok (.invokestatic 119, 3) := by decide +kernel
theorem dB_same_39 : decode prog_1_method_8_code 39 = .ok (.ireturn, 1) := by decide +kernel
theorem dB_sort_0 : decode prog_1_method_11_code 0 = .ok (.iload_n 1, 1) := by decide +kernel
theorem dB_sort_1 : decode prog_1_method_11_code 1 = .ok (.invokestatic 73, 3) := by decide +kernel
theorem dB_sort_4 : decode prog_1_method_11_code 4 = .ok (.ifCond .eq 30, 3) := by decide +kernel
theorem dB_sort_7 : decode prog_1_method_11_code 7 = .ok (.iload_n 2, 1) := by decide +kernel
theorem dB_sort_8 : decode prog_1_method_11_code 8 = .ok (.iconst 4, 1) := by decide +kernel
theorem dB_sort_9 : decode prog_1_method_11_code 9 = .ok (.invokestatic 62, 3) := by decide +kernel
theorem dB_sort_12 : decode prog_1_method_11_code 12 = .ok (.ifCond .eq 22, 3) := by decide +kernel
theorem dB_sort_15 : decode prog_1_method_11_code 15 = .ok (.iload_n 3, 1) := by decide +kernel
theorem dB_sort_16 : decode prog_1_method_11_code 16 = .ok (.invokestatic 73, 3) := by decide +kernel
theorem dB_sort_19 : decode prog_1_method_11_code 19 = .ok (.ifCond .eq 15, 3) := by decide +kernel
theorem dB_sort_22 : decode prog_1_method_11_code 22 = .ok (.iload 4, 2) := by decide +kernel
theorem dB_sort_24 : decode prog_1_method_11_code 24 = .ok (.invokestatic 73, 3) := by decide +kernel
theorem dB_sort_27 : decode prog_1_method_11_code 27 = .ok (.ifCond .eq 7, 3) := by decide +kernel
theorem dB_sort_30 : decode prog_1_method_11_code 30 = .ok (.iconst 1, 1) := by decide +kernel
theorem dB_sort_31 : decode prog_1_method_11_code 31 = .ok (.goto 4, 3) := by decide +kernel
theorem dB_sort_34 : decode prog_1_method_11_code 34 = .ok (.iconst 0, 1) := by decide +kernel
theorem dB_sort_35 : decode prog_1_method_11_code 35 = .ok (.invokestatic 66, 3) := by decide +kernel
theorem dB_sort_38 : decode prog_1_method_11_code 38 = .ok (.aload_n 0, 1) := by decide +kernel
theorem dB_sort_39 : decode prog_1_method_11_code 39 = .ok (.getfield 36, 3) := by decide +kernel
theorem dB_sort_42 : decode prog_1_method_11_code 42 = .ok (.invokevirtual 77, 3) := by decide +kernel
theorem dB_sort_45 : decode prog_1_method_11_code 45 = .ok (.aload_n 0, 1) := by decide +kernel
theorem dB_sort_46 : decode prog_1_method_11_code 46 = .ok (.iload_n 2, 1) := by decide +kernel
theorem dB_sort_47 : decode prog_1_method_11_code 47 = .ok (.aload_n 0, 1) := by decide +kernel
theorem dB_sort_48 : decode prog_1_method_11_code 48 = .ok (.getfield 24, 3) := by decide +kernel
theorem dB_sort_51 : decode prog_1_method_11_code 51 = .ok (.iload_n 3, 1) := by decide +kernel
theorem dB_sort_52 : decode prog_1_method_11_code 52 = .ok (.aaload, 1) := by decide +kernel
theorem dB_sort_53 : decode prog_1_method_11_code 53 = .ok (.aload_n 0, 1) := by decide +kernel
theorem dB_sort_54 : decode prog_1_method_11_code 54 = .ok (.getfield 24, 3) := by decide +kernel
theorem dB_sort_57 : decode prog_1_method_11_code 57 = .ok (.iload 4, 2) := by decide +kernel
theorem dB_sort_59 : decode prog_1_method_11_code 59 = .ok (.aaload, 1) := by decide +kernel
theorem dB_sort_60 : decode prog_1_method_11_code 60 = .ok (.aload_n 0, 1) := by decide +kernel
theorem dB_sort_61 : decode prog_1_method_11_code 61 = .ok (.getfield 31, 3) := by decide +kernel
theorem dB_sort_64 : decode prog_1_method_11_code 64 = .ok (.aload_n 0, 1) := by decide +kernel
theorem dB_sort_65 : decode prog_1_method_11_code 65 = .ok (.getfield 36, 3) := by decide +kernel
theorem dB_sort_68 : decode prog_1_method_11_code 68 = .ok (.invokestatic 133, 3) := by decide +kernel
theorem dB_sort_71 : decode prog_1_method_11_code 71 = .ok (.invokevirtual 110, 3) := by decide +kernel
theorem dB_two_0 : decode prog_1_method_10_code 0 = .ok (.iload_n 1, 1) := by decide +kernel
theorem dB_two_1 : decode prog_1_method_10_code 1 = .ok (.invokestatic 73, 3) := by decide +kernel
theorem dB_two_4 : decode prog_1_method_10_code 4 = .ok (.ifCond .eq 31, 3) := by decide +kernel
theorem dB_two_7 : decode prog_1_method_10_code 7 = .ok (.iload_n 2, 1) := by decide +kernel
theorem dB_two_8 : decode prog_1_method_10_code 8 = .ok (.bipush 9, 2) := by decide +kernel
theorem dB_two_10 : decode prog_1_method_10_code 10 = .ok (.invokestatic 62, 3) := by decide +kernel
theorem dB_two_13 : decode prog_1_method_10_code 13 = .ok (.ifCond .eq 22, 3) := by decide +kernel
theorem dB_two_16 : decode prog_1_method_10_code 16 = .ok (.iload_n 3, 1) := by decide +kernel
theorem dB_two_17 : decode prog_1_method_10_code 17 = .ok (.invokestatic 73, 3) := by decide +kernel
theorem dB_two_20 : decode prog_1_method_10_code 20 = .ok (.ifCond .eq 15, 3) := by decide +kernel
theorem dB_two_23 : decode prog_1_method_10_code 23 = .ok (.iload 4, 2) := by decide +kernel
theorem dB_two_25 : decode prog_1_method_10_code 25 = .ok (.invokestatic 73, 3) := by decide +kernel
theorem dB_two_28 : decode prog_1_method_10_code 28 = .ok (.ifCond .eq 7, 3) := by decide +kernel
theorem dB_two_31 : decode prog_1_method_10_code 31 = .ok (.iconst 1, 1) := by decide +kernel
theorem dB_two_32 : decode prog_1_method_10_code 32 = .ok (.goto 4, 3) := by decide +kernel
theorem dB_two_35 : decode prog_1_method_10_code 35 = .ok (.iconst 0, 1) := by decide +kernel
theorem dB_two_36 : decode prog_1_method_10_code 36 = .ok (.invokestatic 66, 3) := by decide +kernel
theorem dB_two_39 : decode prog_1_method_10_code 39 = .ok (.aload_n 0, 1) := by decide +kernel
theorem dB_two_40 : decode prog_1_method_10_code 40 = .ok (.getfield 36, 3) := by decide +kernel
theorem dB_two_43 : decode prog_1_method_10_code 43 = .ok (.invokevirtual 77, 3) := by decide +kernel
theorem dB_two_46 : decode prog_1_method_10_code 46 = .ok (.aload_n 0, 1) := by decide +kernel
theorem dB_two_47 : decode prog_1_method_10_code 47 = .ok (.iload_n 2, 1) := by decide +kernel
theorem dB_two_48 : decode prog_1_method_10_code 48 = .ok (.aload_n 0, 1) := by decide +kernel
theorem dB_two_49 : decode prog_1_method_10_code 49 = .ok (.getfield 24, 3) := by decide +kernel
theorem dB_two_52 : decode prog_1_method_10_code 52 = .ok (.iload_n 3, 1) := by decide +kernel
theorem dB_two_53 : decode prog_1_method_10_code 53 = .ok (.aaload, 1) := by decide +kernel
theorem dB_two_54 : decode prog_1_method_10_code 54 = .ok (.aload_n 0, 1) := by decide +kernel
theorem dB_two_55 : decode prog_1_method_10_code 55 = .ok (.getfield 24, 3) := by decide +kernel
theorem dB_two_58 : decode prog_1_method_10_code 58 = .ok (.iload 4, 2) := by decide +kernel
theorem dB_two_60 : decode prog_1_method_10_code 60 = .ok (.aaload, 1) := by decide +kernel
theorem dB_two_61 : decode prog_1_method_10_code 61 = .ok (.aload_n 0, 1) := by decide +kernel
theorem dB_two_62 : decode prog_1_method_10_code 62 = .ok (.getfield 19, 3) := by decide +kernel
theorem dB_two_65 : decode prog_1_method_10_code 65 = .ok (.aload_n 0, 1) := by decide +kernel
theorem dB_two_66 : decode prog_1_method_10_code 66 = .ok (.getfield 36, 3) := by decide +kernel
theorem dB_two_69 : decode prog_1_method_10_code 69 = .ok (.invokestatic 128, 3) := by decide +kernel
theorem dB_two_72 : decode prog_1_method_10_code 72 = .ok (.invokevirtual 110, 3) := by decide +kernel
theorem dB_two_75 : decode prog_1_method_10_code 75 = .ok (.aload_n 0, 1) := by decide +kernel
theorem dB_two_76 : decode prog_1_method_10_code 76 = .ok (.iload_n 1, 1) := by decide +kernel
theorem dB_two_77 : decode prog_1_method_10_code 77 = .ok (.invokevirtual 94, 3) := by decide +kernel
theorem dB_two_80 : decode prog_1_method_10_code 80 = .ok (.pop, 1) := by decide +kernel
theorem dB_two_81 : decode prog_1_method_10_code 81 = .ok (.return_, 1) := by decide +kernel
theorem dB_word_0 : decode prog_1_method_12_code 0 = .ok (.iload_n 1, 1) := by decide +kernel
theorem dB_word_1 : decode prog_1_method_12_code 1 = .ok (.ifCond .lt 14, 3) := by decide +kernel
theorem dB_word_4 : decode prog_1_method_12_code 4 = .ok (.iload_n 1, 1) := by decide +kernel
theorem dB_word_5 : decode prog_1_method_12_code 5 = .ok (.aload_n 0, 1) := by decide +kernel
theorem dB_word_6 : decode prog_1_method_12_code 6 = .ok (.getfield 16, 3) := by decide +kernel
theorem dB_word_9 : decode prog_1_method_12_code 9 = .ok (.invokevirtual 47, 3) := by decide +kernel
theorem dB_word_12 : decode prog_1_method_12_code 12 = .ok (.if_icmp .lt 13, 3) := by decide +kernel
theorem dB_word_15 : decode prog_1_method_12_code 15 = .ok (.new 51, 3) := by decide +kernel
theorem dB_word_18 : decode prog_1_method_12_code 18 = .ok (.dup, 1) := by decide +kernel
theorem dB_word_19 : decode prog_1_method_12_code 19 = .ok (.ldc 138, 2) := by decide +kernel
theorem dB_word_21 : decode prog_1_method_12_code 21 = .ok (.invokespecial 55, 3) := by decide +kernel
theorem dB_word_24 : decode prog_1_method_12_code 24 = .ok (.athrow, 1) := by decide +kernel
theorem dD_broken_0 : decode prog_7_method_5_code 0 = .ok (.aload_n 0, 1) := by decide +kernel
theorem dD_broken_1 : decode prog_7_method_5_code 1 = .ok (.iload_n 1, 1) := by decide +kernel
theorem dD_broken_2 : decode prog_7_method_5_code 2 = .ok (.putfield 15, 3) := by decide +kernel
theorem dD_broken_5 : decode prog_7_method_5_code 5 = .ok (.iconst 0, 1) := by decide +kernel
theorem dD_broken_6 : decode prog_7_method_5_code 6 = .ok (.ireturn, 1) := by decide +kernel
theorem dD_init_0 : decode prog_7_method_1_code 0 = .ok (.aload_n 0, 1) := by decide +kernel
theorem dD_init_1 : decode prog_7_method_1_code 1 = .ok (.invokespecial 3, 3) := by decide +kernel
theorem dD_init_4 : decode prog_7_method_1_code 4 = .ok (.aload_n 0, 1) := by decide +kernel
theorem dD_init_5 : decode prog_7_method_1_code 5 = .ok (.iconst 0, 1) := by decide +kernel
theorem dD_init_6 : decode prog_7_method_1_code 6 = .ok (.putfield 9, 3) := by decide +kernel
theorem dD_init_9 : decode prog_7_method_1_code 9 = .ok (.aload_n 0, 1) := by decide +kernel
theorem dD_init_10 : decode prog_7_method_1_code 10 = .ok (.iconst (-1), 1) := by decide +kernel
theorem dD_init_11 : decode prog_7_method_1_code 11 = .ok (.putfield 15, 3) := by decide +kernel
theorem dD_init_14 : decode prog_7_method_1_code 14 = .ok (.aload_n 0, 1) := by decide +kernel
theorem dD_init_15 : decode prog_7_method_1_code 15 = .ok (.aload_n 1, 1) := by decide +kernel
theorem dD_init_16 : decode prog_7_method_1_code 16 = .ok (.putfield 18, 3) := by decide +kernel
theorem dD_init_19 : decode prog_7_method_1_code 19 = .ok (.aload_n 0, 1) := by decide +kernel
theorem dD_init_20 : decode prog_7_method_1_code 20 = .ok (.aload_n 2, 1) := by decide +kernel
theorem dD_init_21 : decode prog_7_method_1_code 21 = .ok (.putfield 22, 3) := by decide +kernel
theorem dD_init_24 : decode prog_7_method_1_code 24 = .ok (.return_, 1) := by decide +kernel
theorem dD_isDigit_0 : decode prog_7_method_13_code 0 = .ok (.iload_n 0, 1) := by decide +kernel
theorem dD_isDigit_1 : decode prog_7_method_13_code 1 = .ok (.bipush 48, 2) := by decide +kernel
theorem dD_isDigit_3 : decode prog_7_method_13_code 3 = .ok (.if_icmp .lt 13, 3) := by decide +kernel
theorem dD_isDigit_16 : decode prog_7_method_13_code 16 = .ok (.iconst 0, 1) := by decide +kernel
theorem dD_isDigit_17 : decode prog_7_method_13_code 17 = .ok (.ireturn, 1) := by decide +kernel
theorem dD_number_0 : decode prog_7_method_12_code 0 = .ok (.aload_n 0, 1) := by decide +kernel
theorem dD_number_1 : decode prog_7_method_12_code 1 = .ok (.getfield 9, 3) := by decide +kernel
theorem dD_number_4 : decode prog_7_method_12_code 4 = .ok (.istore_n 1, 1) := by decide +kernel
theorem dD_number_5 : decode prog_7_method_12_code 5 = .ok (.aload_n 0, 1) := by decide +kernel
theorem dD_number_6 : decode prog_7_method_12_code 6 = .ok (.getfield 18, 3) := by decide +kernel
theorem dD_number_9 : decode prog_7_method_12_code 9 = .ok (.aload_n 0, 1) := by decide +kernel
theorem dD_number_10 : decode prog_7_method_12_code 10 = .ok (.getfield 9, 3) := by decide +kernel
theorem dD_number_13 : decode prog_7_method_12_code 13 = .ok (.invokevirtual 49, 3) := by decide +kernel
theorem dD_number_16 : decode prog_7_method_12_code 16 = .ok (.bipush 45, 2) := by decide +kernel
theorem dD_number_18 : decode prog_7_method_12_code 18 = .ok (.if_icmp .ne 7, 3) := by decide +kernel
theorem dD_number_25 : decode prog_7_method_12_code 25 = .ok (.iconst 0, 1) := by decide +kernel
theorem dD_number_26 : decode prog_7_method_12_code 26 = .ok (.istore_n 2, 1) := by decide +kernel
theorem dD_number_27 : decode prog_7_method_12_code 27 = .ok (.iload_n 2, 1) := by decide +kernel
theorem dD_number_28 : decode prog_7_method_12_code 28 = .ok (.ifCond .eq 13, 3) := by decide +kernel
theorem dD_number_41 : decode prog_7_method_12_code 41 = .ok (.aload_n 0, 1) := by decide +kernel
theorem dD_number_42 : decode prog_7_method_12_code 42 = .ok (.getfield 18, 3) := by decide +kernel
theorem dD_number_45 : decode prog_7_method_12_code 45 = .ok (.aload_n 0, 1) := by decide +kernel
theorem dD_number_46 : decode prog_7_method_12_code 46 = .ok (.getfield 9, 3) := by decide +kernel
theorem dD_number_49 : decode prog_7_method_12_code 49 = .ok (.invokevirtual 49, 3) := by decide +kernel
theorem dD_number_52 : decode prog_7_method_12_code 52 = .ok (.invokestatic 92, 3) := by decide +kernel
theorem dD_number_55 : decode prog_7_method_12_code 55 = .ok (.ifCond .ne 12, 3) := by decide +kernel
theorem dD_number_58 : decode prog_7_method_12_code 58 = .ok (.aload_n 0, 1) := by decide +kernel
theorem dD_number_59 : decode prog_7_method_12_code 59 = .ok (.aload_n 0, 1) := by decide +kernel
theorem dD_number_60 : decode prog_7_method_12_code 60 = .ok (.getfield 9, 3) := by decide +kernel
theorem dD_number_63 : decode prog_7_method_12_code 63 = .ok (.invokevirtual 46, 3) := by decide +kernel
theorem dD_number_66 : decode prog_7_method_12_code 66 = .ok (.ireturn, 1) := by decide +kernel
theorem dD_readValue_0 : decode prog_7_method_2_code 0 = .ok (.aload_n 0, 1) := by decide +kernel
theorem dD_readValue_1 : decode prog_7_method_2_code 1 = .ok (.iconst 0, 1) := by decide +kernel
theorem dD_readValue_2 : decode prog_7_method_2_code 2 = .ok (.invokevirtual 26, 3) := by decide +kernel
theorem dD_readValue_5 : decode prog_7_method_2_code 5 = .ok (.ifCond .eq 11, 3) := by decide +kernel
theorem dD_readValue_16 : decode prog_7_method_2_code 16 = .ok (.aload_n 0, 1) := by decide +kernel
theorem dD_readValue_17 : decode prog_7_method_2_code 17 = .ok (.getfield 15, 3) := by decide +kernel
theorem dD_readValue_20 : decode prog_7_method_2_code 20 = .ok (.ireturn, 1) := by decide +kernel
theorem dD_skipBlanks_0 : decode prog_7_method_8_code 0 = .ok (.aload_n 0, 1) := by decide +kernel
theorem dD_skipBlanks_1 : decode prog_7_method_8_code 1 = .ok (.getfield 9, 3) := by decide +kernel
theorem dD_skipBlanks_4 : decode prog_7_method_8_code 4 = .ok (.aload_n 0, 1) := by decide +kernel
theorem dD_skipBlanks_5 : decode prog_7_method_8_code 5 = .ok (.getfield 18, 3) := by decide +kernel
theorem dD_skipBlanks_8 : decode prog_7_method_8_code 8 = .ok (.invokevirtual 40, 3) := by decide +kernel
theorem dD_skipBlanks_11 : decode prog_7_method_8_code 11 = .ok (.if_icmp .ge 33, 3) := by decide +kernel
theorem dD_skipBlanks_44 : decode prog_7_method_8_code 44 = .ok (.return_, 1) := by decide +kernel
theorem dD_value_0 : decode prog_7_method_10_code 0 = .ok (.aload_n 0, 1) := by decide +kernel
theorem dD_value_1 : decode prog_7_method_10_code 1 = .ok (.invokevirtual 30, 3) := by decide +kernel
theorem dD_value_4 : decode prog_7_method_10_code 4 = .ok (.aload_n 0, 1) := by decide +kernel
theorem dD_value_5 : decode prog_7_method_10_code 5 = .ok (.getfield 18, 3) := by decide +kernel
theorem dD_value_8 : decode prog_7_method_10_code 8 = .ok (.aload_n 0, 1) := by decide +kernel
theorem dD_value_9 : decode prog_7_method_10_code 9 = .ok (.getfield 9, 3) := by decide +kernel
theorem dD_value_12 : decode prog_7_method_10_code 12 = .ok (.invokevirtual 49, 3) := by decide +kernel
theorem dD_value_15 : decode prog_7_method_10_code 15 = .ok (.lookupswitch 132 #[(34, 81), (91, 86), (102, 65), (110, 57), (116, 73), (123, 109)], 57) := by decide +kernel
theorem dD_value_147 : decode prog_7_method_10_code 147 = .ok (.aload_n 0, 1) := by decide +kernel
theorem dD_value_148 : decode prog_7_method_10_code 148 = .ok (.invokevirtual 36, 3) := by decide +kernel
theorem dD_value_151 : decode prog_7_method_10_code 151 = .ok (.ireturn, 1) := by decide +kernel
theorem dG_apply_0 : decode prog_9_method_2_code 0 = .ok (.iload_n 0, 1) := by decide +kernel
theorem dG_apply_1 : decode prog_9_method_2_code 1 = .ok (.tableswitch 242 0 12 #[67, 97, 104, 131, 138, 164, 172, 180, 188, 209, 217, 224, 231], 67) := by decide +kernel
theorem dG_apply_68 : decode prog_9_method_2_code 68 = .ok (.aload 4, 2) := by decide +kernel
theorem dG_apply_70 : decode prog_9_method_2_code 70 = .ok (.aload_n 1, 1) := by decide +kernel
theorem dG_apply_71 : decode prog_9_method_2_code 71 = .ok (.iconst 0, 1) := by decide +kernel
theorem dG_apply_72 : decode prog_9_method_2_code 72 = .ok (.iconst 0, 1) := by decide +kernel
theorem dG_apply_73 : decode prog_9_method_2_code 73 = .ok (.invokevirtual 9, 3) := by decide +kernel
theorem dG_apply_76 : decode prog_9_method_2_code 76 = .ok (.ifCond .ne 12, 3) := by decide +kernel
theorem dG_apply_88 : decode prog_9_method_2_code 88 = .ok (.iconst 1, 1) := by decide +kernel
theorem dG_apply_89 : decode prog_9_method_2_code 89 = .ok (.goto 4, 3) := by decide +kernel
theorem dG_apply_93 : decode prog_9_method_2_code 93 = .ok (.invokevirtual 15, 3) := by decide +kernel
theorem dG_apply_96 : decode prog_9_method_2_code 96 = .ok (.iconst 0, 1) := by decide +kernel
theorem dG_apply_97 : decode prog_9_method_2_code 97 = .ok (.ireturn, 1) := by decide +kernel
theorem dG_apply_98 : decode prog_9_method_2_code 98 = .ok (.aload_n 1, 1) := by decide +kernel
theorem dG_apply_99 : decode prog_9_method_2_code 99 = .ok (.aload 4, 2) := by decide +kernel
theorem dG_apply_101 : decode prog_9_method_2_code 101 = .ok (.invokestatic 19, 3) := by decide +kernel
theorem dG_apply_104 : decode prog_9_method_2_code 104 = .ok (.ireturn, 1) := by decide +kernel
theorem dG_apply_105 : decode prog_9_method_2_code 105 = .ok (.aload_n 1, 1) := by decide +kernel
theorem dG_apply_106 : decode prog_9_method_2_code 106 = .ok (.iconst 0, 1) := by decide +kernel
theorem dG_apply_107 : decode prog_9_method_2_code 107 = .ok (.bipush 6, 2) := by decide +kernel
theorem dG_apply_109 : decode prog_9_method_2_code 109 = .ok (.invokevirtual 9, 3) := by decide +kernel
theorem dG_apply_112 : decode prog_9_method_2_code 112 = .ok (.ifCond .eq 13, 3) := by decide +kernel
theorem dG_apply_125 : decode prog_9_method_2_code 125 = .ok (.aload_n 1, 1) := by decide +kernel
theorem dG_apply_126 : decode prog_9_method_2_code 126 = .ok (.aload 4, 2) := by decide +kernel
theorem dG_apply_128 : decode prog_9_method_2_code 128 = .ok (.invokestatic 29, 3) := by decide +kernel
theorem dG_apply_131 : decode prog_9_method_2_code 131 = .ok (.ireturn, 1) := by decide +kernel
theorem dG_apply_132 : decode prog_9_method_2_code 132 = .ok (.aload_n 1, 1) := by decide +kernel
theorem dG_apply_133 : decode prog_9_method_2_code 133 = .ok (.aload 4, 2) := by decide +kernel
theorem dG_apply_135 : decode prog_9_method_2_code 135 = .ok (.invokestatic 29, 3) := by decide +kernel
theorem dG_apply_138 : decode prog_9_method_2_code 138 = .ok (.ireturn, 1) := by decide +kernel
theorem dG_apply_139 : decode prog_9_method_2_code 139 = .ok (.aload_n 1, 1) := by decide +kernel
theorem dG_apply_140 : decode prog_9_method_2_code 140 = .ok (.iconst 0, 1) := by decide +kernel
theorem dG_apply_141 : decode prog_9_method_2_code 141 = .ok (.iconst 4, 1) := by decide +kernel
theorem dG_apply_142 : decode prog_9_method_2_code 142 = .ok (.invokevirtual 9, 3) := by decide +kernel
theorem dG_apply_145 : decode prog_9_method_2_code 145 = .ok (.ifCond .eq 12, 3) := by decide +kernel
theorem dG_apply_157 : decode prog_9_method_2_code 157 = .ok (.aload_n 1, 1) := by decide +kernel
theorem dG_apply_158 : decode prog_9_method_2_code 158 = .ok (.aload_n 2, 1) := by decide +kernel
theorem dG_apply_159 : decode prog_9_method_2_code 159 = .ok (.aload 4, 2) := by decide +kernel
theorem dG_apply_161 : decode prog_9_method_2_code 161 = .ok (.invokestatic 35, 3) := by decide +kernel
theorem dG_apply_164 : decode prog_9_method_2_code 164 = .ok (.ireturn, 1) := by decide +kernel
theorem dG_apply_165 : decode prog_9_method_2_code 165 = .ok (.aload_n 1, 1) := by decide +kernel
theorem dG_apply_166 : decode prog_9_method_2_code 166 = .ok (.aload_n 2, 1) := by decide +kernel
theorem dG_apply_167 : decode prog_9_method_2_code 167 = .ok (.aload 4, 2) := by decide +kernel
theorem dG_apply_169 : decode prog_9_method_2_code 169 = .ok (.invokestatic 39, 3) := by decide +kernel
theorem dG_apply_172 : decode prog_9_method_2_code 172 = .ok (.ireturn, 1) := by decide +kernel
theorem dG_apply_173 : decode prog_9_method_2_code 173 = .ok (.aload_n 1, 1) := by decide +kernel
theorem dG_apply_174 : decode prog_9_method_2_code 174 = .ok (.aload_n 2, 1) := by decide +kernel
theorem dG_apply_175 : decode prog_9_method_2_code 175 = .ok (.aload 4, 2) := by decide +kernel
theorem dG_apply_177 : decode prog_9_method_2_code 177 = .ok (.invokestatic 35, 3) := by decide +kernel
theorem dG_apply_180 : decode prog_9_method_2_code 180 = .ok (.ireturn, 1) := by decide +kernel
theorem dG_apply_181 : decode prog_9_method_2_code 181 = .ok (.aload_n 1, 1) := by decide +kernel
theorem dG_apply_182 : decode prog_9_method_2_code 182 = .ok (.aload_n 2, 1) := by decide +kernel
theorem dG_apply_183 : decode prog_9_method_2_code 183 = .ok (.aload 4, 2) := by decide +kernel
theorem dG_apply_185 : decode prog_9_method_2_code 185 = .ok (.invokestatic 42, 3) := by decide +kernel
theorem dG_apply_188 : decode prog_9_method_2_code 188 = .ok (.ireturn, 1) := by decide +kernel
theorem dG_apply_189 : decode prog_9_method_2_code 189 = .ok (.aload_n 1, 1) := by decide +kernel
theorem dG_apply_190 : decode prog_9_method_2_code 190 = .ok (.iconst 0, 1) := by decide +kernel
theorem dG_apply_191 : decode prog_9_method_2_code 191 = .ok (.iconst 5, 1) := by decide +kernel
theorem dG_apply_192 : decode prog_9_method_2_code 192 = .ok (.invokevirtual 9, 3) := by decide +kernel
theorem dG_apply_195 : decode prog_9_method_2_code 195 = .ok (.ifCond .eq 13, 3) := by decide +kernel
theorem dG_apply_208 : decode prog_9_method_2_code 208 = .ok (.iconst 1, 1) := by decide +kernel
theorem dG_apply_209 : decode prog_9_method_2_code 209 = .ok (.ireturn, 1) := by decide +kernel
theorem dG_apply_210 : decode prog_9_method_2_code 210 = .ok (.aload_n 1, 1) := by decide +kernel
theorem dG_apply_211 : decode prog_9_method_2_code 211 = .ok (.aload_n 3, 1) := by decide +kernel
theorem dG_apply_212 : decode prog_9_method_2_code 212 = .ok (.aload 4, 2) := by decide +kernel
theorem dG_apply_214 : decode prog_9_method_2_code 214 = .ok (.invokestatic 45, 3) := by decide +kernel
theorem dG_apply_217 : decode prog_9_method_2_code 217 = .ok (.ireturn, 1) := by decide +kernel
theorem dG_apply_218 : decode prog_9_method_2_code 218 = .ok (.aload_n 1, 1) := by decide +kernel
theorem dG_apply_219 : decode prog_9_method_2_code 219 = .ok (.aload 4, 2) := by decide +kernel
theorem dG_apply_221 : decode prog_9_method_2_code 221 = .ok (.invokestatic 48, 3) := by decide +kernel
theorem dG_apply_224 : decode prog_9_method_2_code 224 = .ok (.ireturn, 1) := by decide +kernel
theorem dG_apply_225 : decode prog_9_method_2_code 225 = .ok (.aload_n 1, 1) := by decide +kernel
theorem dG_apply_226 : decode prog_9_method_2_code 226 = .ok (.aload 4, 2) := by decide +kernel
theorem dG_apply_228 : decode prog_9_method_2_code 228 = .ok (.invokestatic 51, 3) := by decide +kernel
theorem dG_apply_231 : decode prog_9_method_2_code 231 = .ok (.ireturn, 1) := by decide +kernel
theorem dG_apply_232 : decode prog_9_method_2_code 232 = .ok (.aload_n 1, 1) := by decide +kernel
theorem dG_apply_233 : decode prog_9_method_2_code 233 = .ok (.bipush 65, 2) := by decide +kernel
theorem dG_apply_235 : decode prog_9_method_2_code 235 = .ok (.bipush 32, 2) := by decide +kernel
theorem dG_apply_237 : decode prog_9_method_2_code 237 = .ok (.aload 4, 2) := by decide +kernel
theorem dG_apply_239 : decode prog_9_method_2_code 239 = .ok (.invokestatic 54, 3) := by decide +kernel
theorem dG_apply_242 : decode prog_9_method_2_code 242 = .ok (.ireturn, 1) := by decide +kernel
theorem dG_apply_243 : decode prog_9_method_2_code 243 = .ok (.aload_n 1, 1) := by decide +kernel
theorem dG_apply_244 : decode prog_9_method_2_code 244 = .ok (.bipush 97, 2) := by decide +kernel
theorem dG_apply_246 : decode prog_9_method_2_code 246 = .ok (.bipush (-32), 2) := by decide +kernel
theorem dG_apply_248 : decode prog_9_method_2_code 248 = .ok (.aload 4, 2) := by decide +kernel
theorem dG_apply_250 : decode prog_9_method_2_code 250 = .ok (.invokestatic 54, 3) := by decide +kernel
theorem dG_apply_253 : decode prog_9_method_2_code 253 = .ok (.ireturn, 1) := by decide +kernel
theorem dG_codes_0 : decode prog_9_method_14_code 0 = .ok (.aload_n 0, 1) := by decide +kernel
theorem dG_codes_1 : decode prog_9_method_14_code 1 = .ok (.iconst 0, 1) := by decide +kernel
theorem dG_codes_2 : decode prog_9_method_14_code 2 = .ok (.iconst 4, 1) := by decide +kernel
theorem dG_codes_3 : decode prog_9_method_14_code 3 = .ok (.invokevirtual 9, 3) := by decide +kernel
theorem dG_codes_6 : decode prog_9_method_14_code 6 = .ok (.ifCond .ne 5, 3) := by decide +kernel
theorem dG_codes_9 : decode prog_9_method_14_code 9 = .ok (.iconst 1, 1) := by decide +kernel
theorem dG_codes_10 : decode prog_9_method_14_code 10 = .ok (.ireturn, 1) := by decide +kernel
theorem dG_fromJson_0 : decode prog_9_method_9_code 0 = .ok (.aload_n 0, 1) := by decide +kernel
theorem dG_fromJson_1 : decode prog_9_method_9_code 1 = .ok (.iconst 0, 1) := by decide +kernel
theorem dG_fromJson_2 : decode prog_9_method_9_code 2 = .ok (.iconst 4, 1) := by decide +kernel
theorem dG_fromJson_3 : decode prog_9_method_9_code 3 = .ok (.invokevirtual 9, 3) := by decide +kernel
theorem dG_fromJson_6 : decode prog_9_method_9_code 6 = .ok (.ifCond .ne 5, 3) := by decide +kernel
theorem dG_fromJson_9 : decode prog_9_method_9_code 9 = .ok (.iconst 1, 1) := by decide +kernel
theorem dG_fromJson_10 : decode prog_9_method_9_code 10 = .ok (.ireturn, 1) := by decide +kernel
theorem dG_inCase_0 : decode prog_9_method_17_code 0 = .ok (.aload_n 0, 1) := by decide +kernel
theorem dG_inCase_1 : decode prog_9_method_17_code 1 = .ok (.iconst 0, 1) := by decide +kernel
theorem dG_inCase_2 : decode prog_9_method_17_code 2 = .ok (.iconst 4, 1) := by decide +kernel
theorem dG_inCase_3 : decode prog_9_method_17_code 3 = .ok (.invokevirtual 9, 3) := by decide +kernel
theorem dG_inCase_6 : decode prog_9_method_17_code 6 = .ok (.ifCond .ne 5, 3) := by decide +kernel
theorem dG_inCase_9 : decode prog_9_method_17_code 9 = .ok (.iconst 1, 1) := by decide +kernel
theorem dG_inCase_10 : decode prog_9_method_17_code 10 = .ok (.ireturn, 1) := by decide +kernel
theorem dG_isOfNumbers_0 : decode prog_9_method_16_code 0 = .ok (.aload_n 0, 1) := by decide +kernel
theorem dG_isOfNumbers_1 : decode prog_9_method_16_code 1 = .ok (.iconst 0, 1) := by decide +kernel
theorem dG_isOfNumbers_2 : decode prog_9_method_16_code 2 = .ok (.iconst 5, 1) := by decide +kernel
theorem dG_isOfNumbers_3 : decode prog_9_method_16_code 3 = .ok (.invokevirtual 9, 3) := by decide +kernel
theorem dG_isOfNumbers_6 : decode prog_9_method_16_code 6 = .ok (.ifCond .ne 5, 3) := by decide +kernel
theorem dG_isOfNumbers_9 : decode prog_9_method_16_code 9 = .ok (.iconst 0, 1) := by decide +kernel
theorem dG_isOfNumbers_10 : decode prog_9_method_16_code 10 = .ok (.ireturn, 1) := by decide +kernel
theorem dG_keys_0 : decode prog_9_method_5_code 0 = .ok (.aload_n 0, 1) := by decide +kernel
theorem dG_keys_1 : decode prog_9_method_5_code 1 = .ok (.iconst 0, 1) := by decide +kernel
theorem dG_keys_2 : decode prog_9_method_5_code 2 = .ok (.iconst 5, 1) := by decide +kernel
theorem dG_keys_3 : decode prog_9_method_5_code 3 = .ok (.invokevirtual 9, 3) := by decide +kernel
theorem dG_keys_6 : decode prog_9_method_5_code 6 = .ok (.ifCond .ne 15, 3) := by decide +kernel
theorem dG_keys_9 : decode prog_9_method_5_code 9 = .ok (.aload_n 0, 1) := by decide +kernel
theorem dG_keys_10 : decode prog_9_method_5_code 10 = .ok (.iconst 0, 1) := by decide +kernel
theorem dG_keys_11 : decode prog_9_method_5_code 11 = .ok (.bipush 6, 2) := by decide +kernel
theorem dG_keys_13 : decode prog_9_method_5_code 13 = .ok (.invokevirtual 9, 3) := by decide +kernel
theorem dG_keys_16 : decode prog_9_method_5_code 16 = .ok (.ifCond .ne 5, 3) := by decide +kernel
theorem dG_keys_19 : decode prog_9_method_5_code 19 = .ok (.iconst 1, 1) := by decide +kernel
theorem dG_keys_20 : decode prog_9_method_5_code 20 = .ok (.ireturn, 1) := by decide +kernel
theorem dG_length_0 : decode prog_9_method_4_code 0 = .ok (.aload_n 0, 1) := by decide +kernel
theorem dG_length_1 : decode prog_9_method_4_code 1 = .ok (.iconst 0, 1) := by decide +kernel
theorem dG_length_2 : decode prog_9_method_4_code 2 = .ok (.invokevirtual 62, 3) := by decide +kernel
theorem dG_length_5 : decode prog_9_method_4_code 5 = .ok (.tableswitch 54 0 3 #[33, 31, 31, 40], 31) := by decide +kernel
theorem dG_length_38 : decode prog_9_method_4_code 38 = .ok (.aload_n 1, 1) := by decide +kernel
theorem dG_length_39 : decode prog_9_method_4_code 39 = .ok (.lconst 0, 1) := by decide +kernel
theorem dG_length_40 : decode prog_9_method_4_code 40 = .ok (.invokevirtual 66, 3) := by decide +kernel
theorem dG_length_43 : decode prog_9_method_4_code 43 = .ok (.iconst 0, 1) := by decide +kernel
theorem dG_length_44 : decode prog_9_method_4_code 44 = .ok (.ireturn, 1) := by decide +kernel
theorem dG_ofCodes_0 : decode prog_9_method_15_code 0 = .ok (.aload_n 0, 1) := by decide +kernel
theorem dG_ofCodes_1 : decode prog_9_method_15_code 1 = .ok (.invokestatic 152, 3) := by decide +kernel
theorem dG_ofCodes_4 : decode prog_9_method_15_code 4 = .ok (.ifCond .ne 5, 3) := by decide +kernel
theorem dG_ofCodes_7 : decode prog_9_method_15_code 7 = .ok (.iconst 1, 1) := by decide +kernel
theorem dG_ofCodes_8 : decode prog_9_method_15_code 8 = .ok (.ireturn, 1) := by decide +kernel
theorem dG_printed_0 : decode prog_9_method_7_code 0 = .ok (.aload_n 1, 1) := by decide +kernel
theorem dG_printed_1 : decode prog_9_method_7_code 1 = .ok (.invokevirtual 101, 3) := by decide +kernel
theorem dG_printed_4 : decode prog_9_method_7_code 4 = .ok (.aload_n 0, 1) := by decide +kernel
theorem dG_printed_5 : decode prog_9_method_7_code 5 = .ok (.iconst 0, 1) := by decide +kernel
theorem dG_printed_6 : decode prog_9_method_7_code 6 = .ok (.aload_n 1, 1) := by decide +kernel
theorem dG_printed_7 : decode prog_9_method_7_code 7 = .ok (.iconst 0, 1) := by decide +kernel
theorem dG_printed_8 : decode prog_9_method_7_code 8 = .ok (.invokestatic 106, 3) := by decide +kernel
theorem dG_printed_11 : decode prog_9_method_7_code 11 = .ok (.aload_n 2, 1) := by decide +kernel
theorem dG_printed_12 : decode prog_9_method_7_code 12 = .ok (.aload_n 1, 1) := by decide +kernel
theorem dG_printed_13 : decode prog_9_method_7_code 13 = .ok (.invokevirtual 112, 3) := by decide +kernel
theorem dG_printed_16 : decode prog_9_method_7_code 16 = .ok (.iconst 0, 1) := by decide +kernel
theorem dG_printed_17 : decode prog_9_method_7_code 17 = .ok (.ireturn, 1) := by decide +kernel
theorem dG_reversed_0 : decode prog_9_method_11_code 0 = .ok (.aload_n 0, 1) := by decide +kernel
theorem dG_reversed_1 : decode prog_9_method_11_code 1 = .ok (.iconst 0, 1) := by decide +kernel
theorem dG_reversed_2 : decode prog_9_method_11_code 2 = .ok (.invokevirtual 62, 3) := by decide +kernel
theorem dG_reversed_5 : decode prog_9_method_11_code 5 = .ok (.lookupswitch 62 #[(0, 35), (4, 47), (5, 54)], 35) := by decide +kernel
theorem dG_reversed_40 : decode prog_9_method_11_code 40 = .ok (.aload_n 2, 1) := by decide +kernel
theorem dG_reversed_41 : decode prog_9_method_11_code 41 = .ok (.aload_n 2, 1) := by decide +kernel
theorem dG_reversed_42 : decode prog_9_method_11_code 42 = .ok (.invokevirtual 82, 3) := by decide +kernel
theorem dG_reversed_45 : decode prog_9_method_11_code 45 = .ok (.iconst 5, 1) := by decide +kernel
theorem dG_reversed_46 : decode prog_9_method_11_code 46 = .ok (.iconst 0, 1) := by decide +kernel
theorem dG_reversed_47 : decode prog_9_method_11_code 47 = .ok (.invokevirtual 89, 3) := by decide +kernel
theorem dG_reversed_50 : decode prog_9_method_11_code 50 = .ok (.iconst 0, 1) := by decide +kernel
theorem dG_reversed_51 : decode prog_9_method_11_code 51 = .ok (.ireturn, 1) := by decide +kernel
theorem dG_toNumber_0 : decode prog_9_method_8_code 0 = .ok (.aload_n 0, 1) := by decide +kernel
theorem dG_toNumber_1 : decode prog_9_method_8_code 1 = .ok (.iconst 0, 1) := by decide +kernel
theorem dG_toNumber_2 : decode prog_9_method_8_code 2 = .ok (.iconst 3, 1) := by decide +kernel
theorem dG_toNumber_3 : decode prog_9_method_8_code 3 = .ok (.invokevirtual 9, 3) := by decide +kernel
theorem dG_toNumber_6 : decode prog_9_method_8_code 6 = .ok (.ifCond .eq 9, 3) := by decide +kernel
theorem dG_toNumber_15 : decode prog_9_method_8_code 15 = .ok (.aload_n 0, 1) := by decide +kernel
theorem dG_toNumber_16 : decode prog_9_method_8_code 16 = .ok (.iconst 0, 1) := by decide +kernel
theorem dG_toNumber_17 : decode prog_9_method_8_code 17 = .ok (.iconst 4, 1) := by decide +kernel
theorem dG_toNumber_18 : decode prog_9_method_8_code 18 = .ok (.invokevirtual 9, 3) := by decide +kernel
theorem dG_toNumber_21 : decode prog_9_method_8_code 21 = .ok (.ifCond .ne 5, 3) := by decide +kernel
theorem dG_toNumber_24 : decode prog_9_method_8_code 24 = .ok (.iconst 1, 1) := by decide +kernel
theorem dG_toNumber_25 : decode prog_9_method_8_code 25 = .ok (.ireturn, 1) := by decide +kernel
theorem dH_apply_0 : decode prog_5_method_2_code 0 = .ok (.iload_n 0, 1) := by decide +kernel
theorem dH_apply_1 : decode prog_5_method_2_code 1 = .ok (.tableswitch 154 0 8 #[51, 59, 67, 76, 84, 92, 115, 138, 146], 51) := by decide +kernel
theorem dH_apply_52 : decode prog_5_method_2_code 52 = .ok (.aload_n 1, 1) := by decide +kernel
theorem dH_apply_53 : decode prog_5_method_2_code 53 = .ok (.aload_n 2, 1) := by decide +kernel
theorem dH_apply_54 : decode prog_5_method_2_code 54 = .ok (.aload 4, 2) := by decide +kernel
theorem dH_apply_56 : decode prog_5_method_2_code 56 = .ok (.invokestatic 9, 3) := by decide +kernel
theorem dH_apply_59 : decode prog_5_method_2_code 59 = .ok (.ireturn, 1) := by decide +kernel
theorem dH_apply_60 : decode prog_5_method_2_code 60 = .ok (.aload_n 1, 1) := by decide +kernel
theorem dH_apply_61 : decode prog_5_method_2_code 61 = .ok (.aload_n 2, 1) := by decide +kernel
theorem dH_apply_62 : decode prog_5_method_2_code 62 = .ok (.aload 4, 2) := by decide +kernel
theorem dH_apply_64 : decode prog_5_method_2_code 64 = .ok (.invokestatic 15, 3) := by decide +kernel
theorem dH_apply_67 : decode prog_5_method_2_code 67 = .ok (.ireturn, 1) := by decide +kernel
theorem dH_apply_68 : decode prog_5_method_2_code 68 = .ok (.aload_n 1, 1) := by decide +kernel
theorem dH_apply_69 : decode prog_5_method_2_code 69 = .ok (.aload_n 2, 1) := by decide +kernel
theorem dH_apply_70 : decode prog_5_method_2_code 70 = .ok (.aload_n 3, 1) := by decide +kernel
theorem dH_apply_71 : decode prog_5_method_2_code 71 = .ok (.aload 4, 2) := by decide +kernel
theorem dH_apply_73 : decode prog_5_method_2_code 73 = .ok (.invokestatic 18, 3) := by decide +kernel
theorem dH_apply_76 : decode prog_5_method_2_code 76 = .ok (.ireturn, 1) := by decide +kernel
theorem dH_apply_77 : decode prog_5_method_2_code 77 = .ok (.aload_n 1, 1) := by decide +kernel
theorem dH_apply_78 : decode prog_5_method_2_code 78 = .ok (.aload_n 2, 1) := by decide +kernel
theorem dH_apply_79 : decode prog_5_method_2_code 79 = .ok (.aload 4, 2) := by decide +kernel
theorem dH_apply_81 : decode prog_5_method_2_code 81 = .ok (.invokestatic 22, 3) := by decide +kernel
theorem dH_apply_84 : decode prog_5_method_2_code 84 = .ok (.ireturn, 1) := by decide +kernel
theorem dH_apply_85 : decode prog_5_method_2_code 85 = .ok (.aload_n 1, 1) := by decide +kernel
theorem dH_apply_86 : decode prog_5_method_2_code 86 = .ok (.aload_n 2, 1) := by decide +kernel
theorem dH_apply_87 : decode prog_5_method_2_code 87 = .ok (.aload 4, 2) := by decide +kernel
theorem dH_apply_89 : decode prog_5_method_2_code 89 = .ok (.invokestatic 25, 3) := by decide +kernel
theorem dH_apply_92 : decode prog_5_method_2_code 92 = .ok (.ireturn, 1) := by decide +kernel
theorem dH_apply_93 : decode prog_5_method_2_code 93 = .ok (.aload_n 1, 1) := by decide +kernel
theorem dH_apply_94 : decode prog_5_method_2_code 94 = .ok (.aload_n 2, 1) := by decide +kernel
theorem dH_apply_95 : decode prog_5_method_2_code 95 = .ok (.invokestatic 28, 3) := by decide +kernel
theorem dH_apply_98 : decode prog_5_method_2_code 98 = .ok (.ifCond .eq 16, 3) := by decide +kernel
theorem dH_apply_114 : decode prog_5_method_2_code 114 = .ok (.iconst 1, 1) := by decide +kernel
theorem dH_apply_115 : decode prog_5_method_2_code 115 = .ok (.ireturn, 1) := by decide +kernel
theorem dH_apply_116 : decode prog_5_method_2_code 116 = .ok (.aload_n 1, 1) := by decide +kernel
theorem dH_apply_117 : decode prog_5_method_2_code 117 = .ok (.aload_n 2, 1) := by decide +kernel
theorem dH_apply_118 : decode prog_5_method_2_code 118 = .ok (.invokestatic 28, 3) := by decide +kernel
theorem dH_apply_121 : decode prog_5_method_2_code 121 = .ok (.ifCond .eq 16, 3) := by decide +kernel
theorem dH_apply_137 : decode prog_5_method_2_code 137 = .ok (.iconst 1, 1) := by decide +kernel
theorem dH_apply_138 : decode prog_5_method_2_code 138 = .ok (.ireturn, 1) := by decide +kernel
theorem dH_apply_139 : decode prog_5_method_2_code 139 = .ok (.aload_n 1, 1) := by decide +kernel
theorem dH_apply_140 : decode prog_5_method_2_code 140 = .ok (.aload_n 2, 1) := by decide +kernel
theorem dH_apply_141 : decode prog_5_method_2_code 141 = .ok (.aload 4, 2) := by decide +kernel
theorem dH_apply_143 : decode prog_5_method_2_code 143 = .ok (.invokestatic 42, 3) := by decide +kernel
theorem dH_apply_146 : decode prog_5_method_2_code 146 = .ok (.ireturn, 1) := by decide +kernel
theorem dH_apply_147 : decode prog_5_method_2_code 147 = .ok (.aload_n 1, 1) := by decide +kernel
theorem dH_apply_148 : decode prog_5_method_2_code 148 = .ok (.aload_n 2, 1) := by decide +kernel
theorem dH_apply_149 : decode prog_5_method_2_code 149 = .ok (.aload 4, 2) := by decide +kernel
theorem dH_apply_151 : decode prog_5_method_2_code 151 = .ok (.invokestatic 45, 3) := by decide +kernel
theorem dH_apply_154 : decode prog_5_method_2_code 154 = .ok (.ireturn, 1) := by decide +kernel
theorem dH_apply_155 : decode prog_5_method_2_code 155 = .ok (.aload_n 1, 1) := by decide +kernel
theorem dH_apply_156 : decode prog_5_method_2_code 156 = .ok (.iconst 0, 1) := by decide +kernel
theorem dH_apply_157 : decode prog_5_method_2_code 157 = .ok (.iconst 5, 1) := by decide +kernel
theorem dH_apply_158 : decode prog_5_method_2_code 158 = .ok (.invokevirtual 48, 3) := by decide +kernel
theorem dH_apply_161 : decode prog_5_method_2_code 161 = .ok (.ifCond .eq 22, 3) := by decide +kernel
theorem dH_apply_183 : decode prog_5_method_2_code 183 = .ok (.aload_n 1, 1) := by decide +kernel
theorem dH_apply_184 : decode prog_5_method_2_code 184 = .ok (.aload_n 2, 1) := by decide +kernel
theorem dH_apply_185 : decode prog_5_method_2_code 185 = .ok (.aload 4, 2) := by decide +kernel
theorem dH_apply_187 : decode prog_5_method_2_code 187 = .ok (.invokestatic 54, 3) := by decide +kernel
theorem dH_apply_190 : decode prog_5_method_2_code 190 = .ok (.ireturn, 1) := by decide +kernel
theorem dH_areOfOneKind_0 : decode prog_5_method_9_code 0 = .ok (.aload_n 0, 1) := by decide +kernel
theorem dH_areOfOneKind_1 : decode prog_5_method_9_code 1 = .ok (.iload_n 1, 1) := by decide +kernel
theorem dH_areOfOneKind_2 : decode prog_5_method_9_code 2 = .ok (.invokevirtual 88, 3) := by decide +kernel
theorem dH_areOfOneKind_5 : decode prog_5_method_9_code 5 = .ok (.aload_n 2, 1) := by decide +kernel
theorem dH_areOfOneKind_6 : decode prog_5_method_9_code 6 = .ok (.iload_n 3, 1) := by decide +kernel
theorem dH_areOfOneKind_7 : decode prog_5_method_9_code 7 = .ok (.invokevirtual 88, 3) := by decide +kernel
theorem dH_areOfOneKind_10 : decode prog_5_method_9_code 10 = .ok (.if_icmp .eq 25, 3) := by decide +kernel
theorem dH_areOfOneKind_35 : decode prog_5_method_9_code 35 = .ok (.iconst 1, 1) := by decide +kernel
theorem dH_areOfOneKind_36 : decode prog_5_method_9_code 36 = .ok (.goto 4, 3) := by decide +kernel
theorem dH_areOfOneKind_40 : decode prog_5_method_9_code 40 = .ok (.ireturn, 1) := by decide +kernel
theorem dH_areStrings_0 : decode prog_5_method_6_code 0 = .ok (.aload_n 0, 1) := by decide +kernel
theorem dH_areStrings_1 : decode prog_5_method_6_code 1 = .ok (.iconst 0, 1) := by decide +kernel
theorem dH_areStrings_2 : decode prog_5_method_6_code 2 = .ok (.iconst 4, 1) := by decide +kernel
theorem dH_areStrings_3 : decode prog_5_method_6_code 3 = .ok (.invokevirtual 48, 3) := by decide +kernel
theorem dH_areStrings_6 : decode prog_5_method_6_code 6 = .ok (.ifCond .eq 16, 3) := by decide +kernel
theorem dH_areStrings_22 : decode prog_5_method_6_code 22 = .ok (.iconst 0, 1) := by decide +kernel
theorem dH_areStrings_23 : decode prog_5_method_6_code 23 = .ok (.ireturn, 1) := by decide +kernel
theorem dH_at_0 : decode prog_5_method_28_code 0 = .ok (.aload_n 0, 1) := by decide +kernel
theorem dH_at_1 : decode prog_5_method_28_code 1 = .ok (.iconst 0, 1) := by decide +kernel
theorem dH_at_2 : decode prog_5_method_28_code 2 = .ok (.bipush 6, 2) := by decide +kernel
theorem dH_at_4 : decode prog_5_method_28_code 4 = .ok (.invokevirtual 48, 3) := by decide +kernel
theorem dH_at_7 : decode prog_5_method_28_code 7 = .ok (.ifCond .eq 39, 3) := by decide +kernel
theorem dH_at_46 : decode prog_5_method_28_code 46 = .ok (.aload_n 0, 1) := by decide +kernel
theorem dH_at_47 : decode prog_5_method_28_code 47 = .ok (.iconst 0, 1) := by decide +kernel
theorem dH_at_48 : decode prog_5_method_28_code 48 = .ok (.iconst 5, 1) := by decide +kernel
theorem dH_at_49 : decode prog_5_method_28_code 49 = .ok (.invokevirtual 48, 3) := by decide +kernel
theorem dH_at_52 : decode prog_5_method_28_code 52 = .ok (.ifCond .eq 23, 3) := by decide +kernel
theorem dH_at_75 : decode prog_5_method_28_code 75 = .ok (.aload_n 0, 1) := by decide +kernel
theorem dH_at_76 : decode prog_5_method_28_code 76 = .ok (.iconst 0, 1) := by decide +kernel
theorem dH_at_77 : decode prog_5_method_28_code 77 = .ok (.iconst 0, 1) := by decide +kernel
theorem dH_at_78 : decode prog_5_method_28_code 78 = .ok (.invokevirtual 48, 3) := by decide +kernel
theorem dH_at_81 : decode prog_5_method_28_code 81 = .ok (.ifCond .eq 34, 3) := by decide +kernel
theorem dH_at_84 : decode prog_5_method_28_code 84 = .ok (.aload_n 1, 1) := by decide +kernel
theorem dH_at_85 : decode prog_5_method_28_code 85 = .ok (.iconst 0, 1) := by decide +kernel
theorem dH_at_86 : decode prog_5_method_28_code 86 = .ok (.iconst 0, 1) := by decide +kernel
theorem dH_at_87 : decode prog_5_method_28_code 87 = .ok (.invokevirtual 48, 3) := by decide +kernel
theorem dH_at_90 : decode prog_5_method_28_code 90 = .ok (.ifCond .ne 21, 3) := by decide +kernel
theorem dH_at_111 : decode prog_5_method_28_code 111 = .ok (.iconst 1, 1) := by decide +kernel
theorem dH_at_112 : decode prog_5_method_28_code 112 = .ok (.goto 4, 3) := by decide +kernel
theorem dH_at_116 : decode prog_5_method_28_code 116 = .ok (.istore_n 3, 1) := by decide +kernel
theorem dH_at_117 : decode prog_5_method_28_code 117 = .ok (.iload_n 3, 1) := by decide +kernel
theorem dH_at_118 : decode prog_5_method_28_code 118 = .ok (.ifCond .eq 10, 3) := by decide +kernel
theorem dH_at_121 : decode prog_5_method_28_code 121 = .ok (.aload_n 2, 1) := by decide +kernel
theorem dH_at_122 : decode prog_5_method_28_code 122 = .ok (.invokestatic 147, 3) := by decide +kernel
theorem dH_at_125 : decode prog_5_method_28_code 125 = .ok (.goto 4, 3) := by decide +kernel
theorem dH_at_129 : decode prog_5_method_28_code 129 = .ok (.ireturn, 1) := by decide +kernel
theorem dH_contains_0 : decode prog_5_method_8_code 0 = .ok (.aload_n 0, 1) := by decide +kernel
theorem dH_contains_1 : decode prog_5_method_8_code 1 = .ok (.iconst 0, 1) := by decide +kernel
theorem dH_contains_2 : decode prog_5_method_8_code 2 = .ok (.aload_n 1, 1) := by decide +kernel
theorem dH_contains_3 : decode prog_5_method_8_code 3 = .ok (.iconst 0, 1) := by decide +kernel
theorem dH_contains_4 : decode prog_5_method_8_code 4 = .ok (.invokestatic 80, 3) := by decide +kernel
theorem dH_contains_7 : decode prog_5_method_8_code 7 = .ok (.ifCond .eq 18, 3) := by decide +kernel
theorem dH_contains_10 : decode prog_5_method_8_code 10 = .ok (.aload_n 0, 1) := by decide +kernel
theorem dH_contains_11 : decode prog_5_method_8_code 11 = .ok (.iconst 0, 1) := by decide +kernel
theorem dH_contains_12 : decode prog_5_method_8_code 12 = .ok (.aload_n 1, 1) := by decide +kernel
theorem dH_contains_13 : decode prog_5_method_8_code 13 = .ok (.iconst 0, 1) := by decide +kernel
theorem dH_contains_14 : decode prog_5_method_8_code 14 = .ok (.iconst 0, 1) := by decide +kernel
theorem dH_contains_15 : decode prog_5_method_8_code 15 = .ok (.invokestatic 84, 3) := by decide +kernel
theorem dH_contains_18 : decode prog_5_method_8_code 18 = .ok (.aload_n 2, 1) := by decide +kernel
theorem dH_contains_19 : decode prog_5_method_8_code 19 = .ok (.invokestatic 35, 3) := by decide +kernel
theorem dH_contains_22 : decode prog_5_method_8_code 22 = .ok (.goto 4, 3) := by decide +kernel
theorem dH_contains_26 : decode prog_5_method_8_code 26 = .ok (.ireturn, 1) := by decide +kernel
theorem dH_copy_0 : decode prog_5_method_5_code 0 = .ok (.aload_n 2, 1) := by decide +kernel
theorem dH_copy_1 : decode prog_5_method_5_code 1 = .ok (.aload_n 0, 1) := by decide +kernel
theorem dH_copy_2 : decode prog_5_method_5_code 2 = .ok (.iload_n 1, 1) := by decide +kernel
theorem dH_copy_3 : decode prog_5_method_5_code 3 = .ok (.invokevirtual 64, 3) := by decide +kernel
theorem dH_copy_6 : decode prog_5_method_5_code 6 = .ok (.iconst 0, 1) := by decide +kernel
theorem dH_copy_7 : decode prog_5_method_5_code 7 = .ok (.ireturn, 1) := by decide +kernel
theorem dH_flat_0 : decode prog_5_method_26_code 0 = .ok (.aload_n 0, 1) := by decide +kernel
theorem dH_flat_1 : decode prog_5_method_26_code 1 = .ok (.iconst 0, 1) := by decide +kernel
theorem dH_flat_2 : decode prog_5_method_26_code 2 = .ok (.iconst 5, 1) := by decide +kernel
theorem dH_flat_3 : decode prog_5_method_26_code 3 = .ok (.invokevirtual 48, 3) := by decide +kernel
theorem dH_flat_6 : decode prog_5_method_26_code 6 = .ok (.ifCond .eq 12, 3) := by decide +kernel
theorem dH_flat_18 : decode prog_5_method_26_code 18 = .ok (.iconst 1, 1) := by decide +kernel
theorem dH_flat_19 : decode prog_5_method_26_code 19 = .ok (.ireturn, 1) := by decide +kernel
theorem dH_has_0 : decode prog_5_method_7_code 0 = .ok (.aload_n 0, 1) := by decide +kernel
theorem dH_has_1 : decode prog_5_method_7_code 1 = .ok (.iconst 0, 1) := by decide +kernel
theorem dH_has_2 : decode prog_5_method_7_code 2 = .ok (.bipush 6, 2) := by decide +kernel
theorem dH_has_4 : decode prog_5_method_7_code 4 = .ok (.invokevirtual 48, 3) := by decide +kernel
theorem dH_has_7 : decode prog_5_method_7_code 7 = .ok (.ifCond .eq 33, 3) := by decide +kernel
theorem dH_has_40 : decode prog_5_method_7_code 40 = .ok (.aload_n 0, 1) := by decide +kernel
theorem dH_has_41 : decode prog_5_method_7_code 41 = .ok (.iconst 0, 1) := by decide +kernel
theorem dH_has_42 : decode prog_5_method_7_code 42 = .ok (.iconst 5, 1) := by decide +kernel
theorem dH_has_43 : decode prog_5_method_7_code 43 = .ok (.invokevirtual 48, 3) := by decide +kernel
theorem dH_has_46 : decode prog_5_method_7_code 46 = .ok (.ifCond .eq 47, 3) := by decide +kernel
theorem dH_has_93 : decode prog_5_method_7_code 93 = .ok (.iconst 1, 1) := by decide +kernel
theorem dH_has_94 : decode prog_5_method_7_code 94 = .ok (.ireturn, 1) := by decide +kernel
theorem dH_indices_0 : decode prog_5_method_22_code 0 = .ok (.aload_n 0, 1) := by decide +kernel
theorem dH_indices_1 : decode prog_5_method_22_code 1 = .ok (.iconst 0, 1) := by decide +kernel
theorem dH_indices_2 : decode prog_5_method_22_code 2 = .ok (.iconst 0, 1) := by decide +kernel
theorem dH_indices_3 : decode prog_5_method_22_code 3 = .ok (.invokevirtual 48, 3) := by decide +kernel
theorem dH_indices_6 : decode prog_5_method_22_code 6 = .ok (.ifCond .eq 8, 3) := by decide +kernel
theorem dH_indices_9 : decode prog_5_method_22_code 9 = .ok (.aload_n 2, 1) := by decide +kernel
theorem dH_indices_10 : decode prog_5_method_22_code 10 = .ok (.invokestatic 147, 3) := by decide +kernel
theorem dH_indices_13 : decode prog_5_method_22_code 13 = .ok (.ireturn, 1) := by decide +kernel
theorem dH_isIn_0 : decode prog_5_method_11_code 0 = .ok (.aload_n 0, 1) := by decide +kernel
theorem dH_isIn_1 : decode prog_5_method_11_code 1 = .ok (.iload_n 1, 1) := by decide +kernel
theorem dH_isIn_2 : decode prog_5_method_11_code 2 = .ok (.invokevirtual 88, 3) := by decide +kernel
theorem dH_isIn_5 : decode prog_5_method_11_code 5 = .ok (.aload_n 2, 1) := by decide +kernel
theorem dH_isIn_6 : decode prog_5_method_11_code 6 = .ok (.iload_n 3, 1) := by decide +kernel
theorem dH_isIn_7 : decode prog_5_method_11_code 7 = .ok (.invokevirtual 88, 3) := by decide +kernel
theorem dH_isIn_10 : decode prog_5_method_11_code 10 = .ok (.if_icmp .ne 10, 3) := by decide +kernel
theorem dH_isIn_13 : decode prog_5_method_11_code 13 = .ok (.iload 4, 2) := by decide +kernel
theorem dH_isIn_15 : decode prog_5_method_11_code 15 = .ok (.bipush 60, 2) := by decide +kernel
theorem dH_isIn_17 : decode prog_5_method_11_code 17 = .ok (.if_icmp .le 5, 3) := by decide +kernel
theorem dH_isIn_22 : decode prog_5_method_11_code 22 = .ok (.aload_n 0, 1) := by decide +kernel
theorem dH_isIn_23 : decode prog_5_method_11_code 23 = .ok (.iload_n 1, 1) := by decide +kernel
theorem dH_isIn_24 : decode prog_5_method_11_code 24 = .ok (.invokevirtual 88, 3) := by decide +kernel
theorem dH_isIn_27 : decode prog_5_method_11_code 27 = .ok (.tableswitch 53 4 6 #[25, 33, 43], 25) := by decide +kernel
theorem dH_isIn_80 : decode prog_5_method_11_code 80 = .ok (.aload_n 0, 1) := by decide +kernel
theorem dH_isIn_81 : decode prog_5_method_11_code 81 = .ok (.iload_n 1, 1) := by decide +kernel
theorem dH_isIn_82 : decode prog_5_method_11_code 82 = .ok (.invokevirtual 104, 3) := by decide +kernel
theorem dH_isIn_85 : decode prog_5_method_11_code 85 = .ok (.aload_n 2, 1) := by decide +kernel
theorem dH_isIn_86 : decode prog_5_method_11_code 86 = .ok (.iload_n 3, 1) := by decide +kernel
theorem dH_isIn_87 : decode prog_5_method_11_code 87 = .ok (.invokevirtual 104, 3) := by decide +kernel
theorem dH_isIn_90 : decode prog_5_method_11_code 90 = .ok (.lcmp, 1) := by decide +kernel
theorem dH_isIn_91 : decode prog_5_method_11_code 91 = .ok (.ifCond .ne 7, 3) := by decide +kernel
theorem dH_isIn_94 : decode prog_5_method_11_code 94 = .ok (.iconst 1, 1) := by decide +kernel
theorem dH_isIn_95 : decode prog_5_method_11_code 95 = .ok (.goto 4, 3) := by decide +kernel
theorem dH_isIn_99 : decode prog_5_method_11_code 99 = .ok (.ireturn, 1) := by decide +kernel
theorem dH_joined_0 : decode prog_5_method_16_code 0 = .ok (.aload_n 0, 1) := by decide +kernel
theorem dH_joined_1 : decode prog_5_method_16_code 1 = .ok (.iconst 0, 1) := by decide +kernel
theorem dH_joined_2 : decode prog_5_method_16_code 2 = .ok (.iconst 5, 1) := by decide +kernel
theorem dH_joined_3 : decode prog_5_method_16_code 3 = .ok (.invokevirtual 48, 3) := by decide +kernel
theorem dH_joined_6 : decode prog_5_method_16_code 6 = .ok (.ifCond .eq 12, 3) := by decide +kernel
theorem dH_joined_18 : decode prog_5_method_16_code 18 = .ok (.iconst 1, 1) := by decide +kernel
theorem dH_joined_19 : decode prog_5_method_16_code 19 = .ok (.ireturn, 1) := by decide +kernel
theorem dH_nothing_0 : decode prog_5_method_4_code 0 = .ok (.aload_n 0, 1) := by decide +kernel
theorem dH_nothing_1 : decode prog_5_method_4_code 1 = .ok (.invokevirtual 61, 3) := by decide +kernel
theorem dH_nothing_4 : decode prog_5_method_4_code 4 = .ok (.iconst 0, 1) := by decide +kernel
theorem dH_nothing_5 : decode prog_5_method_4_code 5 = .ok (.ireturn, 1) := by decide +kernel
theorem dH_truth_0 : decode prog_5_method_3_code 0 = .ok (.aload_n 1, 1) := by decide +kernel
theorem dH_truth_1 : decode prog_5_method_3_code 1 = .ok (.iload_n 0, 1) := by decide +kernel
theorem dH_truth_2 : decode prog_5_method_3_code 2 = .ok (.invokevirtual 57, 3) := by decide +kernel
theorem dH_truth_5 : decode prog_5_method_3_code 5 = .ok (.iconst 0, 1) := by decide +kernel
theorem dH_truth_6 : decode prog_5_method_3_code 6 = .ok (.ireturn, 1) := by decide +kernel
theorem dH_withoutBeginning_0 : decode prog_5_method_20_code 0 = .ok (.aload_n 0, 1) := by decide +kernel
theorem dH_withoutBeginning_1 : decode prog_5_method_20_code 1 = .ok (.aload_n 1, 1) := by decide +kernel
theorem dH_withoutBeginning_2 : decode prog_5_method_20_code 2 = .ok (.invokestatic 28, 3) := by decide +kernel
theorem dH_withoutBeginning_5 : decode prog_5_method_20_code 5 = .ok (.ifCond .eq 11, 3) := by decide +kernel
theorem dH_withoutBeginning_16 : decode prog_5_method_20_code 16 = .ok (.aload_n 0, 1) := by decide +kernel
theorem dH_withoutBeginning_17 : decode prog_5_method_20_code 17 = .ok (.iconst 0, 1) := by decide +kernel
theorem dH_withoutBeginning_18 : decode prog_5_method_20_code 18 = .ok (.aload_n 2, 1) := by decide +kernel
theorem dH_withoutBeginning_19 : decode prog_5_method_20_code 19 = .ok (.invokestatic 139, 3) := by decide +kernel
theorem dH_withoutBeginning_22 : decode prog_5_method_20_code 22 = .ok (.ireturn, 1) := by decide +kernel
theorem dH_withoutEnd_0 : decode prog_5_method_21_code 0 = .ok (.aload_n 0, 1) := by decide +kernel
theorem dH_withoutEnd_1 : decode prog_5_method_21_code 1 = .ok (.aload_n 1, 1) := by decide +kernel
theorem dH_withoutEnd_2 : decode prog_5_method_21_code 2 = .ok (.invokestatic 28, 3) := by decide +kernel
theorem dH_withoutEnd_5 : decode prog_5_method_21_code 5 = .ok (.ifCond .eq 11, 3) := by decide +kernel
theorem dH_withoutEnd_16 : decode prog_5_method_21_code 16 = .ok (.aload_n 0, 1) := by decide +kernel
theorem dH_withoutEnd_17 : decode prog_5_method_21_code 17 = .ok (.iconst 0, 1) := by decide +kernel
theorem dH_withoutEnd_18 : decode prog_5_method_21_code 18 = .ok (.aload_n 2, 1) := by decide +kernel
theorem dH_withoutEnd_19 : decode prog_5_method_21_code 19 = .ok (.invokestatic 139, 3) := by decide +kernel
theorem dH_withoutEnd_22 : decode prog_5_method_21_code 22 = .ok (.ireturn, 1) := by decide +kernel
theorem dJP_checkIndex_0 : decode prog_29_method_11_code 0 = .ok (.iload_n 0, 1) := by decide +kernel
theorem dJP_checkIndex_1 : decode prog_29_method_11_code 1 = .ok (.ifCond .lt 8, 3) := by decide +kernel
theorem dJP_checkIndex_4 : decode prog_29_method_11_code 4 = .ok (.iload_n 0, 1) := by decide +kernel
theorem dJP_checkIndex_5 : decode prog_29_method_11_code 5 = .ok (.iload_n 1, 1) := by decide +kernel
theorem dJP_checkIndex_6 : decode prog_29_method_11_code 6 = .ok (.if_icmp .lt 10, 3) := by decide +kernel
theorem dJP_checkIndex_16 : decode prog_29_method_11_code 16 = .ok (.iload_n 0, 1) := by decide +kernel
theorem dJP_checkIndex_17 : decode prog_29_method_11_code 17 = .ok (.ireturn, 1) := by decide +kernel
theorem dJS_charAt_0 : decode prog_23_method_56_code 0 = .ok (.aload_n 0, 1) := by decide +kernel
theorem dJS_charAt_1 : decode prog_23_method_56_code 1 = .ok (.invokevirtual 492, 3) := by decide +kernel
theorem dJS_charAt_4 : decode prog_23_method_56_code 4 = .ok (.ifCond .eq 12, 3) := by decide +kernel
theorem dJS_charAt_7 : decode prog_23_method_56_code 7 = .ok (.aload_n 0, 1) := by decide +kernel
theorem dJS_charAt_8 : decode prog_23_method_56_code 8 = .ok (.getfield 9, 3) := by decide +kernel
theorem dJS_charAt_11 : decode prog_23_method_56_code 11 = .ok (.iload_n 1, 1) := by decide +kernel
theorem dJS_charAt_12 : decode prog_23_method_56_code 12 = .ok (.invokestatic 495, 3) := by decide +kernel
theorem dJS_charAt_15 : decode prog_23_method_56_code 15 = .ok (.ireturn, 1) := by decide +kernel
theorem dJS_checkIndex_0 : decode prog_23_method_155_code 0 = .ok (.iload_n 0, 1) := by decide +kernel
theorem dJS_checkIndex_1 : decode prog_23_method_155_code 1 = .ok (.iload_n 1, 1) := by decide +kernel
theorem dJS_checkIndex_2 : decode prog_23_method_155_code 2 = .ok (.getstatic 1053, 3) := by decide +kernel
theorem dJS_checkIndex_5 : decode prog_23_method_155_code 5 = .ok (.invokestatic 1059, 3) := by decide +kernel
theorem dJS_checkIndex_8 : decode prog_23_method_155_code 8 = .ok (.pop, 1) := by decide +kernel
theorem dJS_checkIndex_9 : decode prog_23_method_155_code 9 = .ok (.return_, 1) := by decide +kernel
theorem dJS_coder_0 : decode prog_23_method_152_code 0 = .ok (.getstatic 38, 3) := by decide +kernel
theorem dJS_coder_3 : decode prog_23_method_152_code 3 = .ok (.ifCond .eq 10, 3) := by decide +kernel
theorem dJS_coder_6 : decode prog_23_method_152_code 6 = .ok (.aload_n 0, 1) := by decide +kernel
theorem dJS_coder_7 : decode prog_23_method_152_code 7 = .ok (.getfield 15, 3) := by decide +kernel
theorem dJS_coder_10 : decode prog_23_method_152_code 10 = .ok (.goto 4, 3) := by decide +kernel
theorem dJS_coder_14 : decode prog_23_method_152_code 14 = .ok (.ireturn, 1) := by decide +kernel
theorem dJS_isLatin1_0 : decode prog_23_method_154_code 0 = .ok (.getstatic 38, 3) := by decide +kernel
theorem dJS_isLatin1_3 : decode prog_23_method_154_code 3 = .ok (.ifCond .eq 14, 3) := by decide +kernel
theorem dJS_isLatin1_6 : decode prog_23_method_154_code 6 = .ok (.aload_n 0, 1) := by decide +kernel
theorem dJS_isLatin1_7 : decode prog_23_method_154_code 7 = .ok (.getfield 15, 3) := by decide +kernel
theorem dJS_isLatin1_10 : decode prog_23_method_154_code 10 = .ok (.ifCond .ne 7, 3) := by decide +kernel
theorem dJS_isLatin1_13 : decode prog_23_method_154_code 13 = .ok (.iconst 1, 1) := by decide +kernel
theorem dJS_isLatin1_14 : decode prog_23_method_154_code 14 = .ok (.goto 4, 3) := by decide +kernel
theorem dJS_isLatin1_18 : decode prog_23_method_154_code 18 = .ok (.ireturn, 1) := by decide +kernel
theorem dJS_length_0 : decode prog_23_method_54_code 0 = .ok (.aload_n 0, 1) := by decide +kernel
theorem dJS_length_1 : decode prog_23_method_54_code 1 = .ok (.getfield 9, 3) := by decide +kernel
theorem dJS_length_4 : decode prog_23_method_54_code 4 = .ok (.arraylength, 1) := by decide +kernel
theorem dJS_length_5 : decode prog_23_method_54_code 5 = .ok (.aload_n 0, 1) := by decide +kernel
theorem dJS_length_6 : decode prog_23_method_54_code 6 = .ok (.invokevirtual 335, 3) := by decide +kernel
theorem dJS_length_9 : decode prog_23_method_54_code 9 = .ok (.ishr, 1) := by decide +kernel
theorem dJS_length_10 : decode prog_23_method_54_code 10 = .ok (.ireturn, 1) := by decide +kernel
theorem dJT_charAt_0 : decode prog_24_method_2_code 0 = .ok (.iload_n 1, 1) := by decide +kernel
theorem dJT_charAt_1 : decode prog_24_method_2_code 1 = .ok (.aload_n 0, 1) := by decide +kernel
theorem dJT_charAt_2 : decode prog_24_method_2_code 2 = .ok (.arraylength, 1) := by decide +kernel
theorem dJT_charAt_3 : decode prog_24_method_2_code 3 = .ok (.invokestatic 9, 3) := by decide +kernel
theorem dJT_charAt_6 : decode prog_24_method_2_code 6 = .ok (.aload_n 0, 1) := by decide +kernel
theorem dJT_charAt_7 : decode prog_24_method_2_code 7 = .ok (.iload_n 1, 1) := by decide +kernel
theorem dJT_charAt_8 : decode prog_24_method_2_code 8 = .ok (.baload, 1) := by decide +kernel
theorem dJT_charAt_9 : decode prog_24_method_2_code 9 = .ok (.sipush 255, 3) := by decide +kernel
theorem dJT_charAt_12 : decode prog_24_method_2_code 12 = .ok (.iand, 1) := by decide +kernel
theorem dJT_charAt_13 : decode prog_24_method_2_code 13 = .ok (.i2c, 1) := by decide +kernel
theorem dJT_charAt_14 : decode prog_24_method_2_code 14 = .ok (.ireturn, 1) := by decide +kernel
theorem dK_apply_0 : decode prog_2_method_2_code 0 = .ok (.aload_n 1, 1) := by decide +kernel
theorem dK_apply_1 : decode prog_2_method_2_code 1 = .ok (.iconst 0, 1) := by decide +kernel
theorem dK_apply_2 : decode prog_2_method_2_code 2 = .ok (.iconst 5, 1) := by decide +kernel
theorem dK_apply_3 : decode prog_2_method_2_code 3 = .ok (.invokevirtual 9, 3) := by decide +kernel
theorem dK_apply_6 : decode prog_2_method_2_code 6 = .ok (.ifCond .eq 25, 3) := by decide +kernel
theorem dK_apply_31 : decode prog_2_method_2_code 31 = .ok (.iconst 1, 1) := by decide +kernel
theorem dK_apply_32 : decode prog_2_method_2_code 32 = .ok (.ireturn, 1) := by decide +kernel
theorem dL_binary_0 : decode method_7_code 0 = .ok (.aload_n 0, 1) := by decide +kernel
theorem dL_binary_1 : decode method_7_code 1 = .ok (.iload_n 1, 1) := by decide +kernel
theorem dL_binary_2 : decode method_7_code 2 = .ok (.iload_n 2, 1) := by decide +kernel
theorem dL_binary_3 : decode method_7_code 3 = .ok (.iload_n 3, 1) := by decide +kernel
theorem dL_binary_4 : decode method_7_code 4 = .ok (.iload 4, 2) := by decide +kernel
theorem dL_binary_6 : decode method_7_code 6 = .ok (.invokevirtual 29, 3) := by decide +kernel
theorem dL_binary_9 : decode method_7_code 9 = .ok (.goto 15, 3) := by decide +kernel
theorem dL_binary_12 : decode method_7_code 12 = .ok (.astore 5, 2) := by decide +kernel
theorem dL_binary_14 : decode method_7_code 14 = .ok (.iconst 1, 1) := by decide +kernel
theorem dL_binary_15 : decode method_7_code 15 = .ok (.ireturn, 1) := by decide +kernel
theorem dL_binary_16 : decode method_7_code 16 = .ok (.astore 5, 2) := by decide +kernel
theorem dL_binary_18 : decode method_7_code 18 = .ok (.iconst 2, 1) := by decide +kernel
theorem dL_binary_19 : decode method_7_code 19 = .ok (.ireturn, 1) := by decide +kernel
theorem dL_binary_24 : decode method_7_code 24 = .ok (.iconst 0, 1) := by decide +kernel
theorem dL_binary_25 : decode method_7_code 25 = .ok (.ireturn, 1) := by decide +kernel
theorem dL_compare_0 : decode method_8_code 0 = .ok (.aload_n 3, 1) := by decide +kernel
theorem dL_compare_1 : decode method_8_code 1 = .ok (.iconst 0, 1) := by decide +kernel
theorem dL_compare_2 : decode method_8_code 2 = .ok (.aload_n 0, 1) := by decide +kernel
theorem dL_compare_3 : decode method_8_code 3 = .ok (.iload_n 1, 1) := by decide +kernel
theorem dL_compare_4 : decode method_8_code 4 = .ok (.iload_n 2, 1) := by decide +kernel
theorem dL_compare_5 : decode method_8_code 5 = .ok (.invokevirtual 35, 3) := by decide +kernel
theorem dL_compare_8 : decode method_8_code 8 = .ok (.i2l, 1) := by decide +kernel
theorem dL_compare_9 : decode method_8_code 9 = .ok (.lastore, 1) := by decide +kernel
theorem dL_compare_10 : decode method_8_code 10 = .ok (.goto 7, 3) := by decide +kernel
theorem dL_compare_13 : decode method_8_code 13 = .ok (.astore 4, 2) := by decide +kernel
theorem dL_compare_15 : decode method_8_code 15 = .ok (.iconst 1, 1) := by decide +kernel
theorem dL_compare_16 : decode method_8_code 16 = .ok (.ireturn, 1) := by decide +kernel
theorem dL_compare_17 : decode method_8_code 17 = .ok (.iconst 0, 1) := by decide +kernel
theorem dL_compare_18 : decode method_8_code 18 = .ok (.ireturn, 1) := by decide +kernel
theorem dL_count_0 : decode method_14_code 0 = .ok (.aload_n 2, 1) := by decide +kernel
theorem dL_count_1 : decode method_14_code 1 = .ok (.iconst 0, 1) := by decide +kernel
theorem dL_count_2 : decode method_14_code 2 = .ok (.aload_n 0, 1) := by decide +kernel
theorem dL_count_3 : decode method_14_code 3 = .ok (.iload_n 1, 1) := by decide +kernel
theorem dL_count_4 : decode method_14_code 4 = .ok (.invokevirtual 57, 3) := by decide +kernel
theorem dL_count_7 : decode method_14_code 7 = .ok (.i2l, 1) := by decide +kernel
theorem dL_count_8 : decode method_14_code 8 = .ok (.lastore, 1) := by decide +kernel
theorem dL_count_9 : decode method_14_code 9 = .ok (.goto 6, 3) := by decide +kernel
theorem dL_count_12 : decode method_14_code 12 = .ok (.astore_n 3, 1) := by decide +kernel
theorem dL_count_13 : decode method_14_code 13 = .ok (.iconst 1, 1) := by decide +kernel
theorem dL_count_14 : decode method_14_code 14 = .ok (.ireturn, 1) := by decide +kernel
theorem dL_count_15 : decode method_14_code 15 = .ok (.iconst 0, 1) := by decide +kernel
theorem dL_count_16 : decode method_14_code 16 = .ok (.ireturn, 1) := by decide +kernel
theorem dL_end_0 : decode method_4_code 0 = .ok (.aload_n 2, 1) := by decide +kernel
theorem dL_end_1 : decode method_4_code 1 = .ok (.iconst 0, 1) := by decide +kernel
theorem dL_end_2 : decode method_4_code 2 = .ok (.aload_n 0, 1) := by decide +kernel
theorem dL_end_3 : decode method_4_code 3 = .ok (.iload_n 1, 1) := by decide +kernel
theorem dL_end_4 : decode method_4_code 4 = .ok (.invokevirtual 15, 3) := by decide +kernel
theorem dL_end_7 : decode method_4_code 7 = .ok (.i2l, 1) := by decide +kernel
theorem dL_end_8 : decode method_4_code 8 = .ok (.lastore, 1) := by decide +kernel
theorem dL_end_9 : decode method_4_code 9 = .ok (.goto 6, 3) := by decide +kernel
theorem dL_end_12 : decode method_4_code 12 = .ok (.astore_n 3, 1) := by decide +kernel
theorem dL_end_13 : decode method_4_code 13 = .ok (.iconst 1, 1) := by decide +kernel
theorem dL_end_14 : decode method_4_code 14 = .ok (.ireturn, 1) := by decide +kernel
theorem dL_end_15 : decode method_4_code 15 = .ok (.iconst 0, 1) := by decide +kernel
theorem dL_end_16 : decode method_4_code 16 = .ok (.ireturn, 1) := by decide +kernel
theorem dL_feed_0 : decode method_3_code 0 = .ok (.aload 6, 2) := by decide +kernel
theorem dL_feed_2 : decode method_3_code 2 = .ok (.iconst 0, 1) := by decide +kernel
theorem dL_feed_3 : decode method_3_code 3 = .ok (.aload_n 0, 1) := by decide +kernel
theorem dL_feed_4 : decode method_3_code 4 = .ok (.iload_n 1, 1) := by decide +kernel
theorem dL_feed_5 : decode method_3_code 5 = .ok (.iload_n 2, 1) := by decide +kernel
theorem dL_feed_6 : decode method_3_code 6 = .ok (.iload_n 3, 1) := by decide +kernel
theorem dL_feed_7 : decode method_3_code 7 = .ok (.iload 4, 2) := by decide +kernel
theorem dL_feed_9 : decode method_3_code 9 = .ok (.iload 5, 2) := by decide +kernel
theorem dL_feed_11 : decode method_3_code 11 = .ok (.invokevirtual 7, 3) := by decide +kernel
theorem dL_feed_14 : decode method_3_code 14 = .ok (.i2l, 1) := by decide +kernel
theorem dL_feed_15 : decode method_3_code 15 = .ok (.lastore, 1) := by decide +kernel
theorem dL_feed_16 : decode method_3_code 16 = .ok (.goto 7, 3) := by decide +kernel
theorem dL_feed_23 : decode method_3_code 23 = .ok (.iconst 0, 1) := by decide +kernel
theorem dL_feed_24 : decode method_3_code 24 = .ok (.ireturn, 1) := by decide +kernel
theorem dL_law_0 : decode code 0 = .ok (.new 8, 3) := by decide +kernel
theorem dL_law_3 : decode code 3 = .ok (.dup, 1) := by decide +kernel
theorem dL_law_4 : decode code 4 = .ok (.invokespecial 60, 3) := by decide +kernel
theorem dL_law_7 : decode code 7 = .ok (.astore_n 1, 1) := by decide +kernel
theorem dL_law_8 : decode code 8 = .ok (.new 61, 3) := by decide +kernel
theorem dL_law_11 : decode code 11 = .ok (.dup, 1) := by decide +kernel
theorem dL_law_12 : decode code 12 = .ok (.invokespecial 63, 3) := by decide +kernel
theorem dL_law_15 : decode code 15 = .ok (.astore_n 2, 1) := by decide +kernel
theorem dL_law_16 : decode code 16 = .ok (.iconst 1, 1) := by decide +kernel
theorem dL_law_17 : decode code 17 = .ok (.newarray .long, 2) := by decide +kernel
theorem dL_law_19 : decode code 19 = .ok (.astore_n 3, 1) := by decide +kernel
theorem dL_law_20 : decode code 20 = .ok (.iconst 0, 1) := by decide +kernel
theorem dL_law_21 : decode code 21 = .ok (.istore 4, 2) := by decide +kernel
theorem dL_law_23 : decode code 23 = .ok (.iload 4, 2) := by decide +kernel
theorem dL_law_25 : decode code 25 = .ok (.aload_n 0, 1) := by decide +kernel
theorem dL_law_26 : decode code 26 = .ok (.arraylength, 1) := by decide +kernel
theorem dL_law_27 : decode code 27 = .ok (.bipush 6, 2) := by decide +kernel
theorem dL_law_29 : decode code 29 = .ok (.isub, 1) := by decide +kernel
theorem dL_law_30 : decode code 30 = .ok (.if_icmp .gt 882, 3) := by decide +kernel
theorem dL_law_33 : decode code 33 = .ok (.aload_n 0, 1) := by decide +kernel
theorem dL_law_34 : decode code 34 = .ok (.iload 4, 2) := by decide +kernel
theorem dL_law_36 : decode code 36 = .ok (.iaload, 1) := by decide +kernel
theorem dL_law_37 : decode code 37 = .ok (.bipush 15, 2) := by decide +kernel
theorem dL_law_39 : decode code 39 = .ok (.iand, 1) := by decide +kernel
theorem dL_law_40 : decode code 40 = .ok (.tableswitch 866 0 11 #[64, 168, 224, 280, 336, 408, 476, 551, 611, 683, 755, 810], 64) := by decide +kernel
theorem dL_law_104 : decode code 104 = .ok (.aload_n 1, 1) := by decide +kernel
theorem dL_law_105 : decode code 105 = .ok (.aload_n 0, 1) := by decide +kernel
theorem dL_law_106 : decode code 106 = .ok (.iload 4, 2) := by decide +kernel
theorem dL_law_108 : decode code 108 = .ok (.iconst 1, 1) := by decide +kernel
theorem dL_law_109 : decode code 109 = .ok (.iadd, 1) := by decide +kernel
theorem dL_law_110 : decode code 110 = .ok (.iaload, 1) := by decide +kernel
theorem dL_law_111 : decode code 111 = .ok (.aload_n 0, 1) := by decide +kernel
theorem dL_law_112 : decode code 112 = .ok (.iload 4, 2) := by decide +kernel
theorem dL_law_114 : decode code 114 = .ok (.iconst 2, 1) := by decide +kernel
theorem dL_law_115 : decode code 115 = .ok (.iadd, 1) := by decide +kernel
theorem dL_law_116 : decode code 116 = .ok (.iaload, 1) := by decide +kernel
theorem dL_law_117 : decode code 117 = .ok (.aload_n 0, 1) := by decide +kernel
theorem dL_law_118 : decode code 118 = .ok (.iload 4, 2) := by decide +kernel
theorem dL_law_120 : decode code 120 = .ok (.iconst 3, 1) := by decide +kernel
theorem dL_law_121 : decode code 121 = .ok (.iadd, 1) := by decide +kernel
theorem dL_law_122 : decode code 122 = .ok (.iaload, 1) := by decide +kernel
theorem dL_law_123 : decode code 123 = .ok (.aload_n 0, 1) := by decide +kernel
theorem dL_law_124 : decode code 124 = .ok (.iload 4, 2) := by decide +kernel
theorem dL_law_126 : decode code 126 = .ok (.iconst 4, 1) := by decide +kernel
theorem dL_law_127 : decode code 127 = .ok (.iadd, 1) := by decide +kernel
theorem dL_law_128 : decode code 128 = .ok (.iaload, 1) := by decide +kernel
theorem dL_law_129 : decode code 129 = .ok (.aload_n 0, 1) := by decide +kernel
theorem dL_law_130 : decode code 130 = .ok (.iload 4, 2) := by decide +kernel
theorem dL_law_132 : decode code 132 = .ok (.iconst 5, 1) := by decide +kernel
theorem dL_law_133 : decode code 133 = .ok (.iadd, 1) := by decide +kernel
theorem dL_law_134 : decode code 134 = .ok (.iaload, 1) := by decide +kernel
theorem dL_law_135 : decode code 135 = .ok (.aload_n 3, 1) := by decide +kernel
theorem dL_law_136 : decode code 136 = .ok (.invokestatic 64, 3) := by decide +kernel
theorem dL_law_139 : decode code 139 = .ok (.istore 5, 2) := by decide +kernel
theorem dL_law_141 : decode code 141 = .ok (.aload_n 2, 1) := by decide +kernel
theorem dL_law_142 : decode code 142 = .ok (.aload_n 0, 1) := by decide +kernel
theorem dL_law_143 : decode code 143 = .ok (.iload 4, 2) := by decide +kernel
theorem dL_law_145 : decode code 145 = .ok (.iconst 1, 1) := by decide +kernel
theorem dL_law_146 : decode code 146 = .ok (.iadd, 1) := by decide +kernel
theorem dL_law_147 : decode code 147 = .ok (.iaload, 1) := by decide +kernel
theorem dL_law_148 : decode code 148 = .ok (.aload_n 0, 1) := by decide +kernel
theorem dL_law_149 : decode code 149 = .ok (.iload 4, 2) := by decide +kernel
theorem dL_law_151 : decode code 151 = .ok (.iconst 2, 1) := by decide +kernel
theorem dL_law_152 : decode code 152 = .ok (.iadd, 1) := by decide +kernel
theorem dL_law_153 : decode code 153 = .ok (.iaload, 1) := by decide +kernel
theorem dL_law_154 : decode code 154 = .ok (.aload_n 0, 1) := by decide +kernel
theorem dL_law_155 : decode code 155 = .ok (.iload 4, 2) := by decide +kernel
theorem dL_law_157 : decode code 157 = .ok (.iconst 3, 1) := by decide +kernel
theorem dL_law_158 : decode code 158 = .ok (.iadd, 1) := by decide +kernel
theorem dL_law_159 : decode code 159 = .ok (.iaload, 1) := by decide +kernel
theorem dL_law_160 : decode code 160 = .ok (.aload_n 0, 1) := by decide +kernel
theorem dL_law_161 : decode code 161 = .ok (.iload 4, 2) := by decide +kernel
theorem dL_law_163 : decode code 163 = .ok (.iconst 4, 1) := by decide +kernel
theorem dL_law_164 : decode code 164 = .ok (.iadd, 1) := by decide +kernel
theorem dL_law_165 : decode code 165 = .ok (.iaload, 1) := by decide +kernel
theorem dL_law_166 : decode code 166 = .ok (.aload_n 0, 1) := by decide +kernel
theorem dL_law_167 : decode code 167 = .ok (.iload 4, 2) := by decide +kernel
theorem dL_law_169 : decode code 169 = .ok (.iconst 5, 1) := by decide +kernel
theorem dL_law_170 : decode code 170 = .ok (.iadd, 1) := by decide +kernel
theorem dL_law_171 : decode code 171 = .ok (.iaload, 1) := by decide +kernel
theorem dL_law_172 : decode code 172 = .ok (.invokevirtual 69, 3) := by decide +kernel
theorem dL_law_175 : decode code 175 = .ok (.istore 6, 2) := by decide +kernel
theorem dL_law_177 : decode code 177 = .ok (.aload_n 2, 1) := by decide +kernel
theorem dL_law_178 : decode code 178 = .ok (.invokevirtual 70, 3) := by decide +kernel
theorem dL_law_181 : decode code 181 = .ok (.iload 5, 2) := by decide +kernel
theorem dL_law_183 : decode code 183 = .ok (.if_icmp .eq 5, 3) := by decide +kernel
theorem dL_law_188 : decode code 188 = .ok (.iload 5, 2) := by decide +kernel
theorem dL_law_190 : decode code 190 = .ok (.ifCond .ne 15, 3) := by decide +kernel
theorem dL_law_193 : decode code 193 = .ok (.aload_n 3, 1) := by decide +kernel
theorem dL_law_194 : decode code 194 = .ok (.iconst 0, 1) := by decide +kernel
theorem dL_law_195 : decode code 195 = .ok (.laload, 1) := by decide +kernel
theorem dL_law_196 : decode code 196 = .ok (.iload 6, 2) := by decide +kernel
theorem dL_law_198 : decode code 198 = .ok (.i2l, 1) := by decide +kernel
theorem dL_law_199 : decode code 199 = .ok (.lcmp, 1) := by decide +kernel
theorem dL_law_200 : decode code 200 = .ok (.ifCond .eq 5, 3) := by decide +kernel
theorem dL_law_205 : decode code 205 = .ok (.goto 701, 3) := by decide +kernel
theorem dL_law_208 : decode code 208 = .ok (.aload_n 1, 1) := by decide +kernel
theorem dL_law_209 : decode code 209 = .ok (.aload_n 0, 1) := by decide +kernel
theorem dL_law_210 : decode code 210 = .ok (.iload 4, 2) := by decide +kernel
theorem dL_law_212 : decode code 212 = .ok (.iconst 1, 1) := by decide +kernel
theorem dL_law_213 : decode code 213 = .ok (.iadd, 1) := by decide +kernel
theorem dL_law_214 : decode code 214 = .ok (.iaload, 1) := by decide +kernel
theorem dL_law_215 : decode code 215 = .ok (.aload_n 3, 1) := by decide +kernel
theorem dL_law_216 : decode code 216 = .ok (.invokestatic 74, 3) := by decide +kernel
theorem dL_law_219 : decode code 219 = .ok (.istore 5, 2) := by decide +kernel
theorem dL_law_221 : decode code 221 = .ok (.aload_n 2, 1) := by decide +kernel
theorem dL_law_222 : decode code 222 = .ok (.aload_n 0, 1) := by decide +kernel
theorem dL_law_223 : decode code 223 = .ok (.iload 4, 2) := by decide +kernel
theorem dL_law_225 : decode code 225 = .ok (.iconst 1, 1) := by decide +kernel
theorem dL_law_226 : decode code 226 = .ok (.iadd, 1) := by decide +kernel
theorem dL_law_227 : decode code 227 = .ok (.iaload, 1) := by decide +kernel
theorem dL_law_228 : decode code 228 = .ok (.invokevirtual 77, 3) := by decide +kernel
theorem dL_law_231 : decode code 231 = .ok (.istore 6, 2) := by decide +kernel
theorem dL_law_233 : decode code 233 = .ok (.aload_n 2, 1) := by decide +kernel
theorem dL_law_234 : decode code 234 = .ok (.invokevirtual 70, 3) := by decide +kernel
theorem dL_law_237 : decode code 237 = .ok (.iload 5, 2) := by decide +kernel
theorem dL_law_239 : decode code 239 = .ok (.if_icmp .eq 5, 3) := by decide +kernel
theorem dL_law_244 : decode code 244 = .ok (.iload 5, 2) := by decide +kernel
theorem dL_law_246 : decode code 246 = .ok (.ifCond .ne 15, 3) := by decide +kernel
theorem dL_law_249 : decode code 249 = .ok (.aload_n 3, 1) := by decide +kernel
theorem dL_law_250 : decode code 250 = .ok (.iconst 0, 1) := by decide +kernel
theorem dL_law_251 : decode code 251 = .ok (.laload, 1) := by decide +kernel
theorem dL_law_252 : decode code 252 = .ok (.iload 6, 2) := by decide +kernel
theorem dL_law_254 : decode code 254 = .ok (.i2l, 1) := by decide +kernel
theorem dL_law_255 : decode code 255 = .ok (.lcmp, 1) := by decide +kernel
theorem dL_law_256 : decode code 256 = .ok (.ifCond .eq 5, 3) := by decide +kernel
theorem dL_law_261 : decode code 261 = .ok (.goto 645, 3) := by decide +kernel
theorem dL_law_264 : decode code 264 = .ok (.aload_n 1, 1) := by decide +kernel
theorem dL_law_265 : decode code 265 = .ok (.aload_n 0, 1) := by decide +kernel
theorem dL_law_266 : decode code 266 = .ok (.iload 4, 2) := by decide +kernel
theorem dL_law_268 : decode code 268 = .ok (.iconst 1, 1) := by decide +kernel
theorem dL_law_269 : decode code 269 = .ok (.iadd, 1) := by decide +kernel
theorem dL_law_270 : decode code 270 = .ok (.iaload, 1) := by decide +kernel
theorem dL_law_271 : decode code 271 = .ok (.aload_n 3, 1) := by decide +kernel
theorem dL_law_272 : decode code 272 = .ok (.invokestatic 78, 3) := by decide +kernel
theorem dL_law_275 : decode code 275 = .ok (.istore 5, 2) := by decide +kernel
theorem dL_law_277 : decode code 277 = .ok (.aload_n 2, 1) := by decide +kernel
theorem dL_law_278 : decode code 278 = .ok (.aload_n 0, 1) := by decide +kernel
theorem dL_law_279 : decode code 279 = .ok (.iload 4, 2) := by decide +kernel
theorem dL_law_281 : decode code 281 = .ok (.iconst 1, 1) := by decide +kernel
theorem dL_law_282 : decode code 282 = .ok (.iadd, 1) := by decide +kernel
theorem dL_law_283 : decode code 283 = .ok (.iaload, 1) := by decide +kernel
theorem dL_law_284 : decode code 284 = .ok (.invokevirtual 80, 3) := by decide +kernel
theorem dL_law_287 : decode code 287 = .ok (.istore 6, 2) := by decide +kernel
theorem dL_law_289 : decode code 289 = .ok (.aload_n 2, 1) := by decide +kernel
theorem dL_law_290 : decode code 290 = .ok (.invokevirtual 70, 3) := by decide +kernel
theorem dL_law_293 : decode code 293 = .ok (.iload 5, 2) := by decide +kernel
theorem dL_law_295 : decode code 295 = .ok (.if_icmp .eq 5, 3) := by decide +kernel
theorem dL_law_300 : decode code 300 = .ok (.iload 5, 2) := by decide +kernel
theorem dL_law_302 : decode code 302 = .ok (.ifCond .ne 15, 3) := by decide +kernel
theorem dL_law_317 : decode code 317 = .ok (.goto 589, 3) := by decide +kernel
theorem dL_law_320 : decode code 320 = .ok (.aload_n 1, 1) := by decide +kernel
theorem dL_law_321 : decode code 321 = .ok (.aload_n 0, 1) := by decide +kernel
theorem dL_law_322 : decode code 322 = .ok (.iload 4, 2) := by decide +kernel
theorem dL_law_324 : decode code 324 = .ok (.iconst 1, 1) := by decide +kernel
theorem dL_law_325 : decode code 325 = .ok (.iadd, 1) := by decide +kernel
theorem dL_law_326 : decode code 326 = .ok (.iaload, 1) := by decide +kernel
theorem dL_law_327 : decode code 327 = .ok (.aload_n 3, 1) := by decide +kernel
theorem dL_law_328 : decode code 328 = .ok (.invokestatic 81, 3) := by decide +kernel
theorem dL_law_331 : decode code 331 = .ok (.istore 5, 2) := by decide +kernel
theorem dL_law_333 : decode code 333 = .ok (.aload_n 2, 1) := by decide +kernel
theorem dL_law_334 : decode code 334 = .ok (.aload_n 0, 1) := by decide +kernel
theorem dL_law_335 : decode code 335 = .ok (.iload 4, 2) := by decide +kernel
theorem dL_law_337 : decode code 337 = .ok (.iconst 1, 1) := by decide +kernel
theorem dL_law_338 : decode code 338 = .ok (.iadd, 1) := by decide +kernel
theorem dL_law_339 : decode code 339 = .ok (.iaload, 1) := by decide +kernel
theorem dL_law_340 : decode code 340 = .ok (.invokevirtual 83, 3) := by decide +kernel
theorem dL_law_343 : decode code 343 = .ok (.istore 6, 2) := by decide +kernel
theorem dL_law_345 : decode code 345 = .ok (.aload_n 2, 1) := by decide +kernel
theorem dL_law_346 : decode code 346 = .ok (.invokevirtual 70, 3) := by decide +kernel
theorem dL_law_349 : decode code 349 = .ok (.iload 5, 2) := by decide +kernel
theorem dL_law_351 : decode code 351 = .ok (.if_icmp .eq 5, 3) := by decide +kernel
theorem dL_law_356 : decode code 356 = .ok (.iload 5, 2) := by decide +kernel
theorem dL_law_358 : decode code 358 = .ok (.ifCond .ne 15, 3) := by decide +kernel
theorem dL_law_361 : decode code 361 = .ok (.aload_n 3, 1) := by decide +kernel
theorem dL_law_362 : decode code 362 = .ok (.iconst 0, 1) := by decide +kernel
theorem dL_law_363 : decode code 363 = .ok (.laload, 1) := by decide +kernel
theorem dL_law_364 : decode code 364 = .ok (.iload 6, 2) := by decide +kernel
theorem dL_law_366 : decode code 366 = .ok (.i2l, 1) := by decide +kernel
theorem dL_law_367 : decode code 367 = .ok (.lcmp, 1) := by decide +kernel
theorem dL_law_368 : decode code 368 = .ok (.ifCond .eq 5, 3) := by decide +kernel
theorem dL_law_373 : decode code 373 = .ok (.goto 533, 3) := by decide +kernel
theorem dL_law_376 : decode code 376 = .ok (.aload_n 1, 1) := by decide +kernel
theorem dL_law_377 : decode code 377 = .ok (.aload_n 0, 1) := by decide +kernel
theorem dL_law_378 : decode code 378 = .ok (.iload 4, 2) := by decide +kernel
theorem dL_law_380 : decode code 380 = .ok (.iconst 1, 1) := by decide +kernel
theorem dL_law_381 : decode code 381 = .ok (.iadd, 1) := by decide +kernel
theorem dL_law_382 : decode code 382 = .ok (.iaload, 1) := by decide +kernel
theorem dL_law_383 : decode code 383 = .ok (.aload_n 0, 1) := by decide +kernel
theorem dL_law_384 : decode code 384 = .ok (.iload 4, 2) := by decide +kernel
theorem dL_law_386 : decode code 386 = .ok (.iconst 2, 1) := by decide +kernel
theorem dL_law_387 : decode code 387 = .ok (.iadd, 1) := by decide +kernel
theorem dL_law_388 : decode code 388 = .ok (.iaload, 1) := by decide +kernel
theorem dL_law_389 : decode code 389 = .ok (.aload_n 0, 1) := by decide +kernel
theorem dL_law_390 : decode code 390 = .ok (.iload 4, 2) := by decide +kernel
theorem dL_law_392 : decode code 392 = .ok (.iconst 3, 1) := by decide +kernel
theorem dL_law_393 : decode code 393 = .ok (.iadd, 1) := by decide +kernel
theorem dL_law_394 : decode code 394 = .ok (.iaload, 1) := by decide +kernel
theorem dL_law_395 : decode code 395 = .ok (.aload_n 0, 1) := by decide +kernel
theorem dL_law_396 : decode code 396 = .ok (.iload 4, 2) := by decide +kernel
theorem dL_law_398 : decode code 398 = .ok (.iconst 4, 1) := by decide +kernel
theorem dL_law_399 : decode code 399 = .ok (.iadd, 1) := by decide +kernel
theorem dL_law_400 : decode code 400 = .ok (.iaload, 1) := by decide +kernel
theorem dL_law_401 : decode code 401 = .ok (.invokestatic 84, 3) := by decide +kernel
theorem dL_law_404 : decode code 404 = .ok (.istore 5, 2) := by decide +kernel
theorem dL_law_406 : decode code 406 = .ok (.aload_n 2, 1) := by decide +kernel
theorem dL_law_407 : decode code 407 = .ok (.aload_n 0, 1) := by decide +kernel
theorem dL_law_408 : decode code 408 = .ok (.iload 4, 2) := by decide +kernel
theorem dL_law_410 : decode code 410 = .ok (.iconst 1, 1) := by decide +kernel
theorem dL_law_411 : decode code 411 = .ok (.iadd, 1) := by decide +kernel
theorem dL_law_412 : decode code 412 = .ok (.iaload, 1) := by decide +kernel
theorem dL_law_413 : decode code 413 = .ok (.aload_n 0, 1) := by decide +kernel
theorem dL_law_414 : decode code 414 = .ok (.iload 4, 2) := by decide +kernel
theorem dL_law_416 : decode code 416 = .ok (.iconst 2, 1) := by decide +kernel
theorem dL_law_417 : decode code 417 = .ok (.iadd, 1) := by decide +kernel
theorem dL_law_418 : decode code 418 = .ok (.iaload, 1) := by decide +kernel
theorem dL_law_419 : decode code 419 = .ok (.aload_n 0, 1) := by decide +kernel
theorem dL_law_420 : decode code 420 = .ok (.iload 4, 2) := by decide +kernel
theorem dL_law_422 : decode code 422 = .ok (.iconst 3, 1) := by decide +kernel
theorem dL_law_423 : decode code 423 = .ok (.iadd, 1) := by decide +kernel
theorem dL_law_424 : decode code 424 = .ok (.iaload, 1) := by decide +kernel
theorem dL_law_425 : decode code 425 = .ok (.aload_n 0, 1) := by decide +kernel
theorem dL_law_426 : decode code 426 = .ok (.iload 4, 2) := by decide +kernel
theorem dL_law_428 : decode code 428 = .ok (.iconst 4, 1) := by decide +kernel
theorem dL_law_429 : decode code 429 = .ok (.iadd, 1) := by decide +kernel
theorem dL_law_430 : decode code 430 = .ok (.iaload, 1) := by decide +kernel
theorem dL_law_431 : decode code 431 = .ok (.invokevirtual 87, 3) := by decide +kernel
theorem dL_law_434 : decode code 434 = .ok (.aload_n 2, 1) := by decide +kernel
theorem dL_law_435 : decode code 435 = .ok (.invokevirtual 70, 3) := by decide +kernel
theorem dL_law_438 : decode code 438 = .ok (.iload 5, 2) := by decide +kernel
theorem dL_law_440 : decode code 440 = .ok (.if_icmp .eq 5, 3) := by decide +kernel
theorem dL_law_445 : decode code 445 = .ok (.goto 461, 3) := by decide +kernel
theorem dL_law_448 : decode code 448 = .ok (.aload_n 1, 1) := by decide +kernel
theorem dL_law_449 : decode code 449 = .ok (.aload_n 0, 1) := by decide +kernel
theorem dL_law_450 : decode code 450 = .ok (.iload 4, 2) := by decide +kernel
theorem dL_law_452 : decode code 452 = .ok (.iconst 1, 1) := by decide +kernel
theorem dL_law_453 : decode code 453 = .ok (.iadd, 1) := by decide +kernel
theorem dL_law_454 : decode code 454 = .ok (.iaload, 1) := by decide +kernel
theorem dL_law_455 : decode code 455 = .ok (.aload_n 0, 1) := by decide +kernel
theorem dL_law_456 : decode code 456 = .ok (.iload 4, 2) := by decide +kernel
theorem dL_law_458 : decode code 458 = .ok (.iconst 2, 1) := by decide +kernel
theorem dL_law_459 : decode code 459 = .ok (.iadd, 1) := by decide +kernel
theorem dL_law_460 : decode code 460 = .ok (.iaload, 1) := by decide +kernel
theorem dL_law_461 : decode code 461 = .ok (.aload_n 3, 1) := by decide +kernel
theorem dL_law_462 : decode code 462 = .ok (.invokestatic 88, 3) := by decide +kernel
theorem dL_law_465 : decode code 465 = .ok (.istore 5, 2) := by decide +kernel
theorem dL_law_467 : decode code 467 = .ok (.aload_n 2, 1) := by decide +kernel
theorem dL_law_468 : decode code 468 = .ok (.aload_n 0, 1) := by decide +kernel
theorem dL_law_469 : decode code 469 = .ok (.iload 4, 2) := by decide +kernel
theorem dL_law_471 : decode code 471 = .ok (.iconst 1, 1) := by decide +kernel
theorem dL_law_472 : decode code 472 = .ok (.iadd, 1) := by decide +kernel
theorem dL_law_473 : decode code 473 = .ok (.iaload, 1) := by decide +kernel
theorem dL_law_474 : decode code 474 = .ok (.aload_n 0, 1) := by decide +kernel
theorem dL_law_475 : decode code 475 = .ok (.iload 4, 2) := by decide +kernel
theorem dL_law_477 : decode code 477 = .ok (.iconst 2, 1) := by decide +kernel
theorem dL_law_478 : decode code 478 = .ok (.iadd, 1) := by decide +kernel
theorem dL_law_479 : decode code 479 = .ok (.iaload, 1) := by decide +kernel
theorem dL_law_480 : decode code 480 = .ok (.invokevirtual 91, 3) := by decide +kernel
theorem dL_law_483 : decode code 483 = .ok (.istore 6, 2) := by decide +kernel
theorem dL_law_485 : decode code 485 = .ok (.aload_n 2, 1) := by decide +kernel
theorem dL_law_486 : decode code 486 = .ok (.invokevirtual 70, 3) := by decide +kernel
theorem dL_law_489 : decode code 489 = .ok (.iload 5, 2) := by decide +kernel
theorem dL_law_491 : decode code 491 = .ok (.if_icmp .eq 5, 3) := by decide +kernel
theorem dL_law_496 : decode code 496 = .ok (.iload 5, 2) := by decide +kernel
theorem dL_law_498 : decode code 498 = .ok (.ifCond .ne 15, 3) := by decide +kernel
theorem dL_law_501 : decode code 501 = .ok (.aload_n 3, 1) := by decide +kernel
theorem dL_law_502 : decode code 502 = .ok (.iconst 0, 1) := by decide +kernel
theorem dL_law_503 : decode code 503 = .ok (.laload, 1) := by decide +kernel
theorem dL_law_504 : decode code 504 = .ok (.iload 6, 2) := by decide +kernel
theorem dL_law_506 : decode code 506 = .ok (.i2l, 1) := by decide +kernel
theorem dL_law_507 : decode code 507 = .ok (.lcmp, 1) := by decide +kernel
theorem dL_law_508 : decode code 508 = .ok (.ifCond .eq 5, 3) := by decide +kernel
theorem dL_law_513 : decode code 513 = .ok (.goto 393, 3) := by decide +kernel
theorem dL_law_516 : decode code 516 = .ok (.aload_n 1, 1) := by decide +kernel
theorem dL_law_517 : decode code 517 = .ok (.aload_n 0, 1) := by decide +kernel
theorem dL_law_518 : decode code 518 = .ok (.iload 4, 2) := by decide +kernel
theorem dL_law_520 : decode code 520 = .ok (.iconst 1, 1) := by decide +kernel
theorem dL_law_521 : decode code 521 = .ok (.iadd, 1) := by decide +kernel
theorem dL_law_522 : decode code 522 = .ok (.iaload, 1) := by decide +kernel
theorem dL_law_523 : decode code 523 = .ok (.aload_n 0, 1) := by decide +kernel
theorem dL_law_524 : decode code 524 = .ok (.iload 4, 2) := by decide +kernel
theorem dL_law_526 : decode code 526 = .ok (.iconst 2, 1) := by decide +kernel
theorem dL_law_527 : decode code 527 = .ok (.iadd, 1) := by decide +kernel
theorem dL_law_528 : decode code 528 = .ok (.iaload, 1) := by decide +kernel
theorem dL_law_529 : decode code 529 = .ok (.aload_n 3, 1) := by decide +kernel
theorem dL_law_530 : decode code 530 = .ok (.invokestatic 92, 3) := by decide +kernel
theorem dL_law_533 : decode code 533 = .ok (.istore 5, 2) := by decide +kernel
theorem dL_law_535 : decode code 535 = .ok (.aload_n 2, 1) := by decide +kernel
theorem dL_law_536 : decode code 536 = .ok (.aload_n 0, 1) := by decide +kernel
theorem dL_law_537 : decode code 537 = .ok (.iload 4, 2) := by decide +kernel
theorem dL_law_539 : decode code 539 = .ok (.iconst 1, 1) := by decide +kernel
theorem dL_law_540 : decode code 540 = .ok (.iadd, 1) := by decide +kernel
theorem dL_law_541 : decode code 541 = .ok (.iaload, 1) := by decide +kernel
theorem dL_law_542 : decode code 542 = .ok (.aload_n 0, 1) := by decide +kernel
theorem dL_law_543 : decode code 543 = .ok (.iload 4, 2) := by decide +kernel
theorem dL_law_545 : decode code 545 = .ok (.iconst 2, 1) := by decide +kernel
theorem dL_law_546 : decode code 546 = .ok (.iadd, 1) := by decide +kernel
theorem dL_law_547 : decode code 547 = .ok (.iaload, 1) := by decide +kernel
theorem dL_law_548 : decode code 548 = .ok (.invokevirtual 94, 3) := by decide +kernel
theorem dL_law_551 : decode code 551 = .ok (.istore 6, 2) := by decide +kernel
theorem dL_law_553 : decode code 553 = .ok (.aload_n 2, 1) := by decide +kernel
theorem dL_law_554 : decode code 554 = .ok (.invokevirtual 70, 3) := by decide +kernel
theorem dL_law_557 : decode code 557 = .ok (.iload 5, 2) := by decide +kernel
theorem dL_law_559 : decode code 559 = .ok (.if_icmp .eq 5, 3) := by decide +kernel
theorem dL_law_564 : decode code 564 = .ok (.iload 5, 2) := by decide +kernel
theorem dL_law_566 : decode code 566 = .ok (.ifCond .ne 22, 3) := by decide +kernel
theorem dL_law_569 : decode code 569 = .ok (.aload_n 3, 1) := by decide +kernel
theorem dL_law_570 : decode code 570 = .ok (.iconst 0, 1) := by decide +kernel
theorem dL_law_571 : decode code 571 = .ok (.laload, 1) := by decide +kernel
theorem dL_law_572 : decode code 572 = .ok (.iload 6, 2) := by decide +kernel
theorem dL_law_574 : decode code 574 = .ok (.ifCond .eq 7, 3) := by decide +kernel
theorem dL_law_577 : decode code 577 = .ok (.lconst 1, 1) := by decide +kernel
theorem dL_law_578 : decode code 578 = .ok (.goto 4, 3) := by decide +kernel
theorem dL_law_582 : decode code 582 = .ok (.lcmp, 1) := by decide +kernel
theorem dL_law_583 : decode code 583 = .ok (.ifCond .eq 5, 3) := by decide +kernel
theorem dL_law_588 : decode code 588 = .ok (.goto 318, 3) := by decide +kernel
theorem dL_law_591 : decode code 591 = .ok (.aload_n 1, 1) := by decide +kernel
theorem dL_law_592 : decode code 592 = .ok (.aload_n 0, 1) := by decide +kernel
theorem dL_law_593 : decode code 593 = .ok (.iload 4, 2) := by decide +kernel
theorem dL_law_595 : decode code 595 = .ok (.iconst 1, 1) := by decide +kernel
theorem dL_law_596 : decode code 596 = .ok (.iadd, 1) := by decide +kernel
theorem dL_law_597 : decode code 597 = .ok (.iaload, 1) := by decide +kernel
theorem dL_law_598 : decode code 598 = .ok (.aload_n 0, 1) := by decide +kernel
theorem dL_law_599 : decode code 599 = .ok (.iload 4, 2) := by decide +kernel
theorem dL_law_601 : decode code 601 = .ok (.iconst 2, 1) := by decide +kernel
theorem dL_law_602 : decode code 602 = .ok (.iadd, 1) := by decide +kernel
theorem dL_law_603 : decode code 603 = .ok (.iaload, 1) := by decide +kernel
theorem dL_law_604 : decode code 604 = .ok (.aload_n 0, 1) := by decide +kernel
theorem dL_law_605 : decode code 605 = .ok (.iload 4, 2) := by decide +kernel
theorem dL_law_607 : decode code 607 = .ok (.iconst 3, 1) := by decide +kernel
theorem dL_law_608 : decode code 608 = .ok (.iadd, 1) := by decide +kernel
theorem dL_law_609 : decode code 609 = .ok (.iaload, 1) := by decide +kernel
theorem dL_law_610 : decode code 610 = .ok (.invokestatic 95, 3) := by decide +kernel
theorem dL_law_613 : decode code 613 = .ok (.istore 5, 2) := by decide +kernel
theorem dL_law_615 : decode code 615 = .ok (.aload_n 2, 1) := by decide +kernel
theorem dL_law_616 : decode code 616 = .ok (.aload_n 0, 1) := by decide +kernel
theorem dL_law_617 : decode code 617 = .ok (.iload 4, 2) := by decide +kernel
theorem dL_law_619 : decode code 619 = .ok (.iconst 1, 1) := by decide +kernel
theorem dL_law_620 : decode code 620 = .ok (.iadd, 1) := by decide +kernel
theorem dL_law_621 : decode code 621 = .ok (.iaload, 1) := by decide +kernel
theorem dL_law_622 : decode code 622 = .ok (.aload_n 0, 1) := by decide +kernel
theorem dL_law_623 : decode code 623 = .ok (.iload 4, 2) := by decide +kernel
theorem dL_law_625 : decode code 625 = .ok (.iconst 2, 1) := by decide +kernel
theorem dL_law_626 : decode code 626 = .ok (.iadd, 1) := by decide +kernel
theorem dL_law_627 : decode code 627 = .ok (.iaload, 1) := by decide +kernel
theorem dL_law_628 : decode code 628 = .ok (.aload_n 0, 1) := by decide +kernel
theorem dL_law_629 : decode code 629 = .ok (.iload 4, 2) := by decide +kernel
theorem dL_law_631 : decode code 631 = .ok (.iconst 3, 1) := by decide +kernel
theorem dL_law_632 : decode code 632 = .ok (.iadd, 1) := by decide +kernel
theorem dL_law_633 : decode code 633 = .ok (.iaload, 1) := by decide +kernel
theorem dL_law_634 : decode code 634 = .ok (.invokevirtual 98, 3) := by decide +kernel
theorem dL_law_637 : decode code 637 = .ok (.aload_n 2, 1) := by decide +kernel
theorem dL_law_638 : decode code 638 = .ok (.invokevirtual 70, 3) := by decide +kernel
theorem dL_law_641 : decode code 641 = .ok (.iload 5, 2) := by decide +kernel
theorem dL_law_643 : decode code 643 = .ok (.if_icmp .eq 5, 3) := by decide +kernel
theorem dL_law_648 : decode code 648 = .ok (.goto 258, 3) := by decide +kernel
theorem dL_law_651 : decode code 651 = .ok (.aload_n 1, 1) := by decide +kernel
theorem dL_law_652 : decode code 652 = .ok (.aload_n 0, 1) := by decide +kernel
theorem dL_law_653 : decode code 653 = .ok (.iload 4, 2) := by decide +kernel
theorem dL_law_655 : decode code 655 = .ok (.iconst 1, 1) := by decide +kernel
theorem dL_law_656 : decode code 656 = .ok (.iadd, 1) := by decide +kernel
theorem dL_law_657 : decode code 657 = .ok (.iaload, 1) := by decide +kernel
theorem dL_law_658 : decode code 658 = .ok (.aload_n 0, 1) := by decide +kernel
theorem dL_law_659 : decode code 659 = .ok (.iload 4, 2) := by decide +kernel
theorem dL_law_661 : decode code 661 = .ok (.iconst 2, 1) := by decide +kernel
theorem dL_law_662 : decode code 662 = .ok (.iadd, 1) := by decide +kernel
theorem dL_law_663 : decode code 663 = .ok (.iaload, 1) := by decide +kernel
theorem dL_law_664 : decode code 664 = .ok (.aload_n 0, 1) := by decide +kernel
theorem dL_law_665 : decode code 665 = .ok (.iload 4, 2) := by decide +kernel
theorem dL_law_667 : decode code 667 = .ok (.iconst 3, 1) := by decide +kernel
theorem dL_law_668 : decode code 668 = .ok (.iadd, 1) := by decide +kernel
theorem dL_law_669 : decode code 669 = .ok (.iaload, 1) := by decide +kernel
theorem dL_law_670 : decode code 670 = .ok (.aload_n 0, 1) := by decide +kernel
theorem dL_law_671 : decode code 671 = .ok (.iload 4, 2) := by decide +kernel
theorem dL_law_673 : decode code 673 = .ok (.iconst 4, 1) := by decide +kernel
theorem dL_law_674 : decode code 674 = .ok (.iadd, 1) := by decide +kernel
theorem dL_law_675 : decode code 675 = .ok (.iaload, 1) := by decide +kernel
theorem dL_law_676 : decode code 676 = .ok (.invokestatic 99, 3) := by decide +kernel
theorem dL_law_679 : decode code 679 = .ok (.istore 5, 2) := by decide +kernel
theorem dL_law_681 : decode code 681 = .ok (.aload_n 2, 1) := by decide +kernel
theorem dL_law_682 : decode code 682 = .ok (.aload_n 0, 1) := by decide +kernel
theorem dL_law_683 : decode code 683 = .ok (.iload 4, 2) := by decide +kernel
theorem dL_law_685 : decode code 685 = .ok (.iconst 1, 1) := by decide +kernel
theorem dL_law_686 : decode code 686 = .ok (.iadd, 1) := by decide +kernel
theorem dL_law_687 : decode code 687 = .ok (.iaload, 1) := by decide +kernel
theorem dL_law_688 : decode code 688 = .ok (.aload_n 0, 1) := by decide +kernel
theorem dL_law_689 : decode code 689 = .ok (.iload 4, 2) := by decide +kernel
theorem dL_law_691 : decode code 691 = .ok (.iconst 2, 1) := by decide +kernel
theorem dL_law_692 : decode code 692 = .ok (.iadd, 1) := by decide +kernel
theorem dL_law_693 : decode code 693 = .ok (.iaload, 1) := by decide +kernel
theorem dL_law_694 : decode code 694 = .ok (.aload_n 0, 1) := by decide +kernel
theorem dL_law_695 : decode code 695 = .ok (.iload 4, 2) := by decide +kernel
theorem dL_law_697 : decode code 697 = .ok (.iconst 3, 1) := by decide +kernel
theorem dL_law_698 : decode code 698 = .ok (.iadd, 1) := by decide +kernel
theorem dL_law_699 : decode code 699 = .ok (.iaload, 1) := by decide +kernel
theorem dL_law_700 : decode code 700 = .ok (.aload_n 0, 1) := by decide +kernel
theorem dL_law_701 : decode code 701 = .ok (.iload 4, 2) := by decide +kernel
theorem dL_law_703 : decode code 703 = .ok (.iconst 4, 1) := by decide +kernel
theorem dL_law_704 : decode code 704 = .ok (.iadd, 1) := by decide +kernel
theorem dL_law_705 : decode code 705 = .ok (.iaload, 1) := by decide +kernel
theorem dL_law_706 : decode code 706 = .ok (.invokevirtual 101, 3) := by decide +kernel
theorem dL_law_709 : decode code 709 = .ok (.aload_n 2, 1) := by decide +kernel
theorem dL_law_710 : decode code 710 = .ok (.invokevirtual 70, 3) := by decide +kernel
theorem dL_law_713 : decode code 713 = .ok (.iload 5, 2) := by decide +kernel
theorem dL_law_715 : decode code 715 = .ok (.if_icmp .eq 5, 3) := by decide +kernel
theorem dL_law_720 : decode code 720 = .ok (.goto 186, 3) := by decide +kernel
theorem dL_law_723 : decode code 723 = .ok (.aload_n 1, 1) := by decide +kernel
theorem dL_law_724 : decode code 724 = .ok (.aload_n 0, 1) := by decide +kernel
theorem dL_law_725 : decode code 725 = .ok (.iload 4, 2) := by decide +kernel
theorem dL_law_727 : decode code 727 = .ok (.iconst 1, 1) := by decide +kernel
theorem dL_law_728 : decode code 728 = .ok (.iadd, 1) := by decide +kernel
theorem dL_law_729 : decode code 729 = .ok (.iaload, 1) := by decide +kernel
theorem dL_law_730 : decode code 730 = .ok (.aload_n 0, 1) := by decide +kernel
theorem dL_law_731 : decode code 731 = .ok (.iload 4, 2) := by decide +kernel
theorem dL_law_733 : decode code 733 = .ok (.iconst 2, 1) := by decide +kernel
theorem dL_law_734 : decode code 734 = .ok (.iadd, 1) := by decide +kernel
theorem dL_law_735 : decode code 735 = .ok (.iaload, 1) := by decide +kernel
theorem dL_law_736 : decode code 736 = .ok (.aload_n 0, 1) := by decide +kernel
theorem dL_law_737 : decode code 737 = .ok (.iload 4, 2) := by decide +kernel
theorem dL_law_739 : decode code 739 = .ok (.iconst 3, 1) := by decide +kernel
theorem dL_law_740 : decode code 740 = .ok (.iadd, 1) := by decide +kernel
theorem dL_law_741 : decode code 741 = .ok (.iaload, 1) := by decide +kernel
theorem dL_law_742 : decode code 742 = .ok (.aload_n 0, 1) := by decide +kernel
theorem dL_law_743 : decode code 743 = .ok (.iload 4, 2) := by decide +kernel
theorem dL_law_745 : decode code 745 = .ok (.iconst 4, 1) := by decide +kernel
theorem dL_law_746 : decode code 746 = .ok (.iadd, 1) := by decide +kernel
theorem dL_law_747 : decode code 747 = .ok (.iaload, 1) := by decide +kernel
theorem dL_law_748 : decode code 748 = .ok (.invokestatic 102, 3) := by decide +kernel
theorem dL_law_751 : decode code 751 = .ok (.istore 5, 2) := by decide +kernel
theorem dL_law_753 : decode code 753 = .ok (.aload_n 2, 1) := by decide +kernel
theorem dL_law_754 : decode code 754 = .ok (.aload_n 0, 1) := by decide +kernel
theorem dL_law_755 : decode code 755 = .ok (.iload 4, 2) := by decide +kernel
theorem dL_law_757 : decode code 757 = .ok (.iconst 1, 1) := by decide +kernel
theorem dL_law_758 : decode code 758 = .ok (.iadd, 1) := by decide +kernel
theorem dL_law_759 : decode code 759 = .ok (.iaload, 1) := by decide +kernel
theorem dL_law_760 : decode code 760 = .ok (.aload_n 0, 1) := by decide +kernel
theorem dL_law_761 : decode code 761 = .ok (.iload 4, 2) := by decide +kernel
theorem dL_law_763 : decode code 763 = .ok (.iconst 2, 1) := by decide +kernel
theorem dL_law_764 : decode code 764 = .ok (.iadd, 1) := by decide +kernel
theorem dL_law_765 : decode code 765 = .ok (.iaload, 1) := by decide +kernel
theorem dL_law_766 : decode code 766 = .ok (.aload_n 0, 1) := by decide +kernel
theorem dL_law_767 : decode code 767 = .ok (.iload 4, 2) := by decide +kernel
theorem dL_law_769 : decode code 769 = .ok (.iconst 3, 1) := by decide +kernel
theorem dL_law_770 : decode code 770 = .ok (.iadd, 1) := by decide +kernel
theorem dL_law_771 : decode code 771 = .ok (.iaload, 1) := by decide +kernel
theorem dL_law_772 : decode code 772 = .ok (.aload_n 0, 1) := by decide +kernel
theorem dL_law_773 : decode code 773 = .ok (.iload 4, 2) := by decide +kernel
theorem dL_law_775 : decode code 775 = .ok (.iconst 4, 1) := by decide +kernel
theorem dL_law_776 : decode code 776 = .ok (.iadd, 1) := by decide +kernel
theorem dL_law_777 : decode code 777 = .ok (.iaload, 1) := by decide +kernel
theorem dL_law_778 : decode code 778 = .ok (.invokevirtual 104, 3) := by decide +kernel
theorem dL_law_781 : decode code 781 = .ok (.aload_n 2, 1) := by decide +kernel
theorem dL_law_782 : decode code 782 = .ok (.invokevirtual 70, 3) := by decide +kernel
theorem dL_law_785 : decode code 785 = .ok (.iload 5, 2) := by decide +kernel
theorem dL_law_787 : decode code 787 = .ok (.if_icmp .eq 5, 3) := by decide +kernel
theorem dL_law_792 : decode code 792 = .ok (.goto 114, 3) := by decide +kernel
theorem dL_law_795 : decode code 795 = .ok (.aload_n 1, 1) := by decide +kernel
theorem dL_law_796 : decode code 796 = .ok (.aload_n 0, 1) := by decide +kernel
theorem dL_law_797 : decode code 797 = .ok (.iload 4, 2) := by decide +kernel
theorem dL_law_799 : decode code 799 = .ok (.iconst 1, 1) := by decide +kernel
theorem dL_law_800 : decode code 800 = .ok (.iadd, 1) := by decide +kernel
theorem dL_law_801 : decode code 801 = .ok (.iaload, 1) := by decide +kernel
theorem dL_law_802 : decode code 802 = .ok (.aload_n 3, 1) := by decide +kernel
theorem dL_law_803 : decode code 803 = .ok (.invokestatic 105, 3) := by decide +kernel
theorem dL_law_806 : decode code 806 = .ok (.istore 5, 2) := by decide +kernel
theorem dL_law_808 : decode code 808 = .ok (.aload_n 2, 1) := by decide +kernel
theorem dL_law_809 : decode code 809 = .ok (.aload_n 0, 1) := by decide +kernel
theorem dL_law_810 : decode code 810 = .ok (.iload 4, 2) := by decide +kernel
theorem dL_law_812 : decode code 812 = .ok (.iconst 1, 1) := by decide +kernel
theorem dL_law_813 : decode code 813 = .ok (.iadd, 1) := by decide +kernel
theorem dL_law_814 : decode code 814 = .ok (.iaload, 1) := by decide +kernel
theorem dL_law_815 : decode code 815 = .ok (.invokevirtual 107, 3) := by decide +kernel
theorem dL_law_818 : decode code 818 = .ok (.lstore 6, 2) := by decide +kernel
theorem dL_law_820 : decode code 820 = .ok (.aload_n 2, 1) := by decide +kernel
theorem dL_law_821 : decode code 821 = .ok (.invokevirtual 70, 3) := by decide +kernel
theorem dL_law_824 : decode code 824 = .ok (.iload 5, 2) := by decide +kernel
theorem dL_law_826 : decode code 826 = .ok (.if_icmp .eq 5, 3) := by decide +kernel
theorem dL_law_831 : decode code 831 = .ok (.iload 5, 2) := by decide +kernel
theorem dL_law_833 : decode code 833 = .ok (.ifCond .ne 14, 3) := by decide +kernel
theorem dL_law_847 : decode code 847 = .ok (.goto 59, 3) := by decide +kernel
theorem dL_law_850 : decode code 850 = .ok (.aload_n 1, 1) := by decide +kernel
theorem dL_law_851 : decode code 851 = .ok (.aload_n 0, 1) := by decide +kernel
theorem dL_law_852 : decode code 852 = .ok (.iload 4, 2) := by decide +kernel
theorem dL_law_854 : decode code 854 = .ok (.iconst 1, 1) := by decide +kernel
theorem dL_law_855 : decode code 855 = .ok (.iadd, 1) := by decide +kernel
theorem dL_law_856 : decode code 856 = .ok (.iaload, 1) := by decide +kernel
theorem dL_law_857 : decode code 857 = .ok (.aload_n 3, 1) := by decide +kernel
theorem dL_law_858 : decode code 858 = .ok (.invokestatic 108, 3) := by decide +kernel
theorem dL_law_861 : decode code 861 = .ok (.istore 5, 2) := by decide +kernel
theorem dL_law_863 : decode code 863 = .ok (.aload_n 2, 1) := by decide +kernel
theorem dL_law_864 : decode code 864 = .ok (.aload_n 0, 1) := by decide +kernel
theorem dL_law_865 : decode code 865 = .ok (.iload 4, 2) := by decide +kernel
theorem dL_law_867 : decode code 867 = .ok (.iconst 1, 1) := by decide +kernel
theorem dL_law_868 : decode code 868 = .ok (.iadd, 1) := by decide +kernel
theorem dL_law_869 : decode code 869 = .ok (.iaload, 1) := by decide +kernel
theorem dL_law_870 : decode code 870 = .ok (.invokevirtual 110, 3) := by decide +kernel
theorem dL_law_873 : decode code 873 = .ok (.istore 6, 2) := by decide +kernel
theorem dL_law_875 : decode code 875 = .ok (.aload_n 2, 1) := by decide +kernel
theorem dL_law_876 : decode code 876 = .ok (.invokevirtual 70, 3) := by decide +kernel
theorem dL_law_879 : decode code 879 = .ok (.iload 5, 2) := by decide +kernel
theorem dL_law_881 : decode code 881 = .ok (.if_icmp .eq 5, 3) := by decide +kernel
theorem dL_law_886 : decode code 886 = .ok (.iload 5, 2) := by decide +kernel
theorem dL_law_888 : decode code 888 = .ok (.ifCond .ne 15, 3) := by decide +kernel
theorem dL_law_891 : decode code 891 = .ok (.aload_n 3, 1) := by decide +kernel
theorem dL_law_892 : decode code 892 = .ok (.iconst 0, 1) := by decide +kernel
theorem dL_law_893 : decode code 893 = .ok (.laload, 1) := by decide +kernel
theorem dL_law_894 : decode code 894 = .ok (.iload 6, 2) := by decide +kernel
theorem dL_law_896 : decode code 896 = .ok (.i2l, 1) := by decide +kernel
theorem dL_law_897 : decode code 897 = .ok (.lcmp, 1) := by decide +kernel
theorem dL_law_898 : decode code 898 = .ok (.ifCond .eq 5, 3) := by decide +kernel
theorem dL_law_903 : decode code 903 = .ok (.goto 3, 3) := by decide +kernel
theorem dL_law_906 : decode code 906 = .ok (.iinc 4 6, 3) := by decide +kernel
theorem dL_law_909 : decode code 909 = .ok (.goto (-886), 3) := by decide +kernel
theorem dL_law_912 : decode code 912 = .ok (.iconst 1, 1) := by decide +kernel
theorem dL_law_913 : decode code 913 = .ok (.ireturn, 1) := by decide +kernel
theorem dL_one_0 : decode method_10_code 0 = .ok (.aload_n 0, 1) := by decide +kernel
theorem dL_one_1 : decode method_10_code 1 = .ok (.iload_n 1, 1) := by decide +kernel
theorem dL_one_2 : decode method_10_code 2 = .ok (.iload_n 2, 1) := by decide +kernel
theorem dL_one_3 : decode method_10_code 3 = .ok (.iload_n 3, 1) := by decide +kernel
theorem dL_one_4 : decode method_10_code 4 = .ok (.invokevirtual 43, 3) := by decide +kernel
theorem dL_one_7 : decode method_10_code 7 = .ok (.goto 15, 3) := by decide +kernel
theorem dL_one_10 : decode method_10_code 10 = .ok (.astore 4, 2) := by decide +kernel
theorem dL_one_12 : decode method_10_code 12 = .ok (.iconst 1, 1) := by decide +kernel
theorem dL_one_13 : decode method_10_code 13 = .ok (.ireturn, 1) := by decide +kernel
theorem dL_one_14 : decode method_10_code 14 = .ok (.astore 4, 2) := by decide +kernel
theorem dL_one_16 : decode method_10_code 16 = .ok (.iconst 2, 1) := by decide +kernel
theorem dL_one_17 : decode method_10_code 17 = .ok (.ireturn, 1) := by decide +kernel
theorem dL_one_22 : decode method_10_code 22 = .ok (.iconst 0, 1) := by decide +kernel
theorem dL_one_23 : decode method_10_code 23 = .ok (.ireturn, 1) := by decide +kernel
theorem dL_print_0 : decode method_6_code 0 = .ok (.aload_n 2, 1) := by decide +kernel
theorem dL_print_1 : decode method_6_code 1 = .ok (.iconst 0, 1) := by decide +kernel
theorem dL_print_2 : decode method_6_code 2 = .ok (.aload_n 0, 1) := by decide +kernel
theorem dL_print_3 : decode method_6_code 3 = .ok (.iload_n 1, 1) := by decide +kernel
theorem dL_print_4 : decode method_6_code 4 = .ok (.invokevirtual 26, 3) := by decide +kernel
theorem dL_print_7 : decode method_6_code 7 = .ok (.i2l, 1) := by decide +kernel
theorem dL_print_8 : decode method_6_code 8 = .ok (.lastore, 1) := by decide +kernel
theorem dL_print_9 : decode method_6_code 9 = .ok (.goto 6, 3) := by decide +kernel
theorem dL_print_12 : decode method_6_code 12 = .ok (.astore_n 3, 1) := by decide +kernel
theorem dL_print_13 : decode method_6_code 13 = .ok (.iconst 1, 1) := by decide +kernel
theorem dL_print_14 : decode method_6_code 14 = .ok (.ireturn, 1) := by decide +kernel
theorem dL_print_15 : decode method_6_code 15 = .ok (.iconst 0, 1) := by decide +kernel
theorem dL_print_16 : decode method_6_code 16 = .ok (.ireturn, 1) := by decide +kernel
theorem dL_read_0 : decode method_5_code 0 = .ok (.aload_n 2, 1) := by decide +kernel
theorem dL_read_1 : decode method_5_code 1 = .ok (.iconst 0, 1) := by decide +kernel
theorem dL_read_2 : decode method_5_code 2 = .ok (.aload_n 0, 1) := by decide +kernel
theorem dL_read_3 : decode method_5_code 3 = .ok (.iload_n 1, 1) := by decide +kernel
theorem dL_read_4 : decode method_5_code 4 = .ok (.invokevirtual 21, 3) := by decide +kernel
theorem dL_read_12 : decode method_5_code 12 = .ok (.astore_n 3, 1) := by decide +kernel
theorem dL_read_13 : decode method_5_code 13 = .ok (.iconst 1, 1) := by decide +kernel
theorem dL_read_14 : decode method_5_code 14 = .ok (.ireturn, 1) := by decide +kernel
theorem dL_read_15 : decode method_5_code 15 = .ok (.astore_n 3, 1) := by decide +kernel
theorem dL_read_16 : decode method_5_code 16 = .ok (.iconst 2, 1) := by decide +kernel
theorem dL_read_17 : decode method_5_code 17 = .ok (.ireturn, 1) := by decide +kernel
theorem dL_same_0 : decode method_9_code 0 = .ok (.aload_n 3, 1) := by decide +kernel
theorem dL_same_1 : decode method_9_code 1 = .ok (.iconst 0, 1) := by decide +kernel
theorem dL_same_2 : decode method_9_code 2 = .ok (.aload_n 0, 1) := by decide +kernel
theorem dL_same_3 : decode method_9_code 3 = .ok (.iload_n 1, 1) := by decide +kernel
theorem dL_same_4 : decode method_9_code 4 = .ok (.iload_n 2, 1) := by decide +kernel
theorem dL_same_5 : decode method_9_code 5 = .ok (.invokevirtual 39, 3) := by decide +kernel
theorem dL_same_8 : decode method_9_code 8 = .ok (.ifCond .eq 7, 3) := by decide +kernel
theorem dL_same_11 : decode method_9_code 11 = .ok (.lconst 1, 1) := by decide +kernel
theorem dL_same_12 : decode method_9_code 12 = .ok (.goto 4, 3) := by decide +kernel
theorem dL_same_16 : decode method_9_code 16 = .ok (.lastore, 1) := by decide +kernel
theorem dL_same_17 : decode method_9_code 17 = .ok (.goto 7, 3) := by decide +kernel
theorem dL_same_20 : decode method_9_code 20 = .ok (.astore 4, 2) := by decide +kernel
theorem dL_same_22 : decode method_9_code 22 = .ok (.iconst 1, 1) := by decide +kernel
theorem dL_same_23 : decode method_9_code 23 = .ok (.ireturn, 1) := by decide +kernel
theorem dL_same_24 : decode method_9_code 24 = .ok (.iconst 0, 1) := by decide +kernel
theorem dL_same_25 : decode method_9_code 25 = .ok (.ireturn, 1) := by decide +kernel
theorem dL_sort_0 : decode method_12_code 0 = .ok (.aload_n 0, 1) := by decide +kernel
theorem dL_sort_1 : decode method_12_code 1 = .ok (.iload_n 1, 1) := by decide +kernel
theorem dL_sort_2 : decode method_12_code 2 = .ok (.iload_n 2, 1) := by decide +kernel
theorem dL_sort_3 : decode method_12_code 3 = .ok (.iload_n 3, 1) := by decide +kernel
theorem dL_sort_4 : decode method_12_code 4 = .ok (.iload 4, 2) := by decide +kernel
theorem dL_sort_6 : decode method_12_code 6 = .ok (.invokevirtual 50, 3) := by decide +kernel
theorem dL_sort_12 : decode method_12_code 12 = .ok (.astore 5, 2) := by decide +kernel
theorem dL_sort_14 : decode method_12_code 14 = .ok (.iconst 1, 1) := by decide +kernel
theorem dL_sort_15 : decode method_12_code 15 = .ok (.ireturn, 1) := by decide +kernel
theorem dL_sort_16 : decode method_12_code 16 = .ok (.astore 5, 2) := by decide +kernel
theorem dL_sort_18 : decode method_12_code 18 = .ok (.iconst 2, 1) := by decide +kernel
theorem dL_sort_19 : decode method_12_code 19 = .ok (.ireturn, 1) := by decide +kernel
theorem dL_two_0 : decode method_11_code 0 = .ok (.aload_n 0, 1) := by decide +kernel
theorem dL_two_1 : decode method_11_code 1 = .ok (.iload_n 1, 1) := by decide +kernel
theorem dL_two_2 : decode method_11_code 2 = .ok (.iload_n 2, 1) := by decide +kernel
theorem dL_two_3 : decode method_11_code 3 = .ok (.iload_n 3, 1) := by decide +kernel
theorem dL_two_4 : decode method_11_code 4 = .ok (.iload 4, 2) := by decide +kernel
theorem dL_two_6 : decode method_11_code 6 = .ok (.invokevirtual 47, 3) := by decide +kernel
theorem dL_two_9 : decode method_11_code 9 = .ok (.goto 15, 3) := by decide +kernel
theorem dL_two_12 : decode method_11_code 12 = .ok (.astore 5, 2) := by decide +kernel
theorem dL_two_14 : decode method_11_code 14 = .ok (.iconst 1, 1) := by decide +kernel
theorem dL_two_15 : decode method_11_code 15 = .ok (.ireturn, 1) := by decide +kernel
theorem dL_two_16 : decode method_11_code 16 = .ok (.astore 5, 2) := by decide +kernel
theorem dL_two_18 : decode method_11_code 18 = .ok (.iconst 2, 1) := by decide +kernel
theorem dL_two_19 : decode method_11_code 19 = .ok (.ireturn, 1) := by decide +kernel
theorem dL_two_24 : decode method_11_code 24 = .ok (.iconst 0, 1) := by decide +kernel
theorem dL_two_25 : decode method_11_code 25 = .ok (.ireturn, 1) := by decide +kernel
theorem dL_word_0 : decode method_13_code 0 = .ok (.aload_n 2, 1) := by decide +kernel
theorem dL_word_1 : decode method_13_code 1 = .ok (.iconst 0, 1) := by decide +kernel
theorem dL_word_2 : decode method_13_code 2 = .ok (.aload_n 0, 1) := by decide +kernel
theorem dL_word_3 : decode method_13_code 3 = .ok (.iload_n 1, 1) := by decide +kernel
theorem dL_word_4 : decode method_13_code 4 = .ok (.invokevirtual 53, 3) := by decide +kernel
theorem dL_word_11 : decode method_13_code 11 = .ok (.astore_n 3, 1) := by decide +kernel
theorem dL_word_12 : decode method_13_code 12 = .ok (.iconst 1, 1) := by decide +kernel
theorem dL_word_13 : decode method_13_code 13 = .ok (.ireturn, 1) := by decide +kernel
theorem dM_added_0 : decode prog_13_method_49_code 0 = .ok (.aload_n 1, 1) := by decide +kernel
theorem dM_added_1 : decode prog_13_method_49_code 1 = .ok (.getfield 93, 3) := by decide +kernel
theorem dM_added_4 : decode prog_13_method_49_code 4 = .ok (.ifCond .ne 5, 3) := by decide +kernel
theorem dM_added_7 : decode prog_13_method_49_code 7 = .ok (.aload_n 2, 1) := by decide +kernel
theorem dM_added_8 : decode prog_13_method_49_code 8 = .ok (.areturn, 1) := by decide +kernel
theorem dM_alike_0 : decode prog_13_method_69_code 0 = .ok (.aload_n 1, 1) := by decide +kernel
theorem dM_alike_1 : decode prog_13_method_69_code 1 = .ok (.getfield 93, 3) := by decide +kernel
theorem dM_alike_4 : decode prog_13_method_69_code 4 = .ok (.aload_n 2, 1) := by decide +kernel
theorem dM_alike_5 : decode prog_13_method_69_code 5 = .ok (.getfield 93, 3) := by decide +kernel
theorem dM_alike_8 : decode prog_13_method_69_code 8 = .ok (.if_icmp .eq 30, 3) := by decide +kernel
theorem dM_alike_38 : decode prog_13_method_69_code 38 = .ok (.iconst 1, 1) := by decide +kernel
theorem dM_alike_39 : decode prog_13_method_69_code 39 = .ok (.goto 4, 3) := by decide +kernel
theorem dM_alike_43 : decode prog_13_method_69_code 43 = .ok (.ireturn, 1) := by decide +kernel
theorem dM_array_0 : decode prog_13_method_55_code 0 = .ok (.aload_n 1, 1) := by decide +kernel
theorem dM_array_1 : decode prog_13_method_55_code 1 = .ok (.getfield 93, 3) := by decide +kernel
theorem dM_array_4 : decode prog_13_method_55_code 4 = .ok (.iconst 5, 1) := by decide +kernel
theorem dM_array_5 : decode prog_13_method_55_code 5 = .ok (.if_icmp .ne 7, 3) := by decide +kernel
theorem dM_array_12 : decode prog_13_method_55_code 12 = .ok (.aload_n 0, 1) := by decide +kernel
theorem dM_array_13 : decode prog_13_method_55_code 13 = .ok (.iconst 1, 1) := by decide +kernel
theorem dM_array_14 : decode prog_13_method_55_code 14 = .ok (.invokevirtual 116, 3) := by decide +kernel
theorem dM_at_0 : decode prog_13_method_75_code 0 = .ok (.aload_n 1, 1) := by decide +kernel
theorem dM_at_1 : decode prog_13_method_75_code 1 = .ok (.getfield 93, 3) := by decide +kernel
theorem dM_at_4 : decode prog_13_method_75_code 4 = .ok (.ifCond .ne 28, 3) := by decide +kernel
theorem dM_at_7 : decode prog_13_method_75_code 7 = .ok (.aload_n 2, 1) := by decide +kernel
theorem dM_at_8 : decode prog_13_method_75_code 8 = .ok (.getfield 93, 3) := by decide +kernel
theorem dM_at_11 : decode prog_13_method_75_code 11 = .ok (.ifCond .eq 19, 3) := by decide +kernel
theorem dM_at_30 : decode prog_13_method_75_code 30 = .ok (.aload_n 1, 1) := by decide +kernel
theorem dM_at_31 : decode prog_13_method_75_code 31 = .ok (.areturn, 1) := by decide +kernel
theorem dM_bad_0 : decode prog_13_method_28_code 0 = .ok (.aload_n 0, 1) := by decide +kernel
theorem dM_bad_1 : decode prog_13_method_28_code 1 = .ok (.iload_n 1, 1) := by decide +kernel
theorem dM_bad_2 : decode prog_13_method_28_code 2 = .ok (.putfield 42, 3) := by decide +kernel
theorem dM_bad_5 : decode prog_13_method_28_code 5 = .ok (.new 205, 3) := by decide +kernel
theorem dM_bad_8 : decode prog_13_method_28_code 8 = .ok (.dup, 1) := by decide +kernel
theorem dM_bad_9 : decode prog_13_method_28_code 9 = .ok (.invokespecial 207, 3) := by decide +kernel
theorem dM_bad_12 : decode prog_13_method_28_code 12 = .ok (.athrow, 1) := by decide +kernel
theorem dM_begin_0 : decode prog_13_method_78_code 0 = .ok (.aload_n 0, 1) := by decide +kernel
theorem dM_begin_1 : decode prog_13_method_78_code 1 = .ok (.iconst 0, 1) := by decide +kernel
theorem dM_begin_2 : decode prog_13_method_78_code 2 = .ok (.putfield 77, 3) := by decide +kernel
theorem dM_begin_5 : decode prog_13_method_78_code 5 = .ok (.aload_n 0, 1) := by decide +kernel
theorem dM_begin_6 : decode prog_13_method_78_code 6 = .ok (.invokevirtual 412, 3) := by decide +kernel
theorem dM_begin_9 : decode prog_13_method_78_code 9 = .ok (.aload_n 0, 1) := by decide +kernel
theorem dM_begin_10 : decode prog_13_method_78_code 10 = .ok (.iconst 0, 1) := by decide +kernel
theorem dM_begin_11 : decode prog_13_method_78_code 11 = .ok (.putfield 276, 3) := by decide +kernel
theorem dM_begin_14 : decode prog_13_method_78_code 14 = .ok (.aload_n 0, 1) := by decide +kernel
theorem dM_begin_15 : decode prog_13_method_78_code 15 = .ok (.ldc 48, 2) := by decide +kernel
theorem dM_begin_17 : decode prog_13_method_78_code 17 = .ok (.putfield 49, 3) := by decide +kernel
theorem dM_begin_20 : decode prog_13_method_78_code 20 = .ok (.return_, 1) := by decide +kernel
theorem dM_binary0_0 : decode prog_13_method_89_code 0 = .ok (.aload_n 0, 1) := by decide +kernel
theorem dM_binary0_1 : decode prog_13_method_89_code 1 = .ok (.invokevirtual 424, 3) := by decide +kernel
theorem dM_binary0_4 : decode prog_13_method_89_code 4 = .ok (.aload_n 0, 1) := by decide +kernel
theorem dM_binary0_5 : decode prog_13_method_89_code 5 = .ok (.iload_n 1, 1) := by decide +kernel
theorem dM_binary0_6 : decode prog_13_method_89_code 6 = .ok (.invokevirtual 427, 3) := by decide +kernel
theorem dM_binary0_9 : decode prog_13_method_89_code 9 = .ok (.ifCond .ne 29, 3) := by decide +kernel
theorem dM_binary0_12 : decode prog_13_method_89_code 12 = .ok (.iload_n 2, 1) := by decide +kernel
theorem dM_binary0_13 : decode prog_13_method_89_code 13 = .ok (.ifCond .lt 25, 3) := by decide +kernel
theorem dM_binary0_16 : decode prog_13_method_89_code 16 = .ok (.iload_n 2, 1) := by decide +kernel
theorem dM_binary0_17 : decode prog_13_method_89_code 17 = .ok (.iconst 4, 1) := by decide +kernel
theorem dM_binary0_18 : decode prog_13_method_89_code 18 = .ok (.if_icmp .gt 20, 3) := by decide +kernel
theorem dM_binary0_21 : decode prog_13_method_89_code 21 = .ok (.aload_n 0, 1) := by decide +kernel
theorem dM_binary0_22 : decode prog_13_method_89_code 22 = .ok (.iload_n 3, 1) := by decide +kernel
theorem dM_binary0_23 : decode prog_13_method_89_code 23 = .ok (.invokevirtual 427, 3) := by decide +kernel
theorem dM_binary0_26 : decode prog_13_method_89_code 26 = .ok (.ifCond .ne 12, 3) := by decide +kernel
theorem dM_binary0_29 : decode prog_13_method_89_code 29 = .ok (.aload_n 0, 1) := by decide +kernel
theorem dM_binary0_30 : decode prog_13_method_89_code 30 = .ok (.iload 4, 2) := by decide +kernel
theorem dM_binary0_32 : decode prog_13_method_89_code 32 = .ok (.invokevirtual 427, 3) := by decide +kernel
theorem dM_binary0_35 : decode prog_13_method_89_code 35 = .ok (.ifCond .eq 11, 3) := by decide +kernel
theorem dM_binary0_38 : decode prog_13_method_89_code 38 = .ok (.aload_n 0, 1) := by decide +kernel
theorem dM_binary0_39 : decode prog_13_method_89_code 39 = .ok (.iconst 1, 1) := by decide +kernel
theorem dM_binary0_40 : decode prog_13_method_89_code 40 = .ok (.putfield 77, 3) := by decide +kernel
theorem dM_binary0_43 : decode prog_13_method_89_code 43 = .ok (.goto 13, 3) := by decide +kernel
theorem dM_binary0_46 : decode prog_13_method_89_code 46 = .ok (.aload_n 0, 1) := by decide +kernel
theorem dM_binary0_47 : decode prog_13_method_89_code 47 = .ok (.iload_n 1, 1) := by decide +kernel
theorem dM_binary0_48 : decode prog_13_method_89_code 48 = .ok (.iconst 0, 1) := by decide +kernel
theorem dM_binary0_49 : decode prog_13_method_89_code 49 = .ok (.iload_n 2, 1) := by decide +kernel
theorem dM_binary0_50 : decode prog_13_method_89_code 50 = .ok (.iload_n 3, 1) := by decide +kernel
theorem dM_binary0_51 : decode prog_13_method_89_code 51 = .ok (.iload 4, 2) := by decide +kernel
theorem dM_binary0_53 : decode prog_13_method_89_code 53 = .ok (.invokevirtual 442, 3) := by decide +kernel
theorem dM_binary0_56 : decode prog_13_method_89_code 56 = .ok (.return_, 1) := by decide +kernel
theorem dM_binary1_0 : decode prog_13_method_48_code 0 = .ok (.iload_n 1, 1) := by decide +kernel
theorem dM_binary1_1 : decode prog_13_method_48_code 1 = .ok (.tableswitch 182 0 3 #[31, 38, 99, 106], 31) := by decide +kernel
theorem dM_binary1_32 : decode prog_13_method_48_code 32 = .ok (.aload_n 0, 1) := by decide +kernel
theorem dM_binary1_33 : decode prog_13_method_48_code 33 = .ok (.aload_n 2, 1) := by decide +kernel
theorem dM_binary1_34 : decode prog_13_method_48_code 34 = .ok (.aload_n 3, 1) := by decide +kernel
theorem dM_binary1_35 : decode prog_13_method_48_code 35 = .ok (.invokevirtual 302, 3) := by decide +kernel
theorem dM_binary1_38 : decode prog_13_method_48_code 38 = .ok (.areturn, 1) := by decide +kernel
theorem dM_binary1_39 : decode prog_13_method_48_code 39 = .ok (.aload_n 2, 1) := by decide +kernel
theorem dM_binary1_40 : decode prog_13_method_48_code 40 = .ok (.getfield 93, 3) := by decide +kernel
theorem dM_binary1_43 : decode prog_13_method_48_code 43 = .ok (.iconst 3, 1) := by decide +kernel
theorem dM_binary1_44 : decode prog_13_method_48_code 44 = .ok (.if_icmp .ne 25, 3) := by decide +kernel
theorem dM_binary1_69 : decode prog_13_method_48_code 69 = .ok (.aload_n 2, 1) := by decide +kernel
theorem dM_binary1_70 : decode prog_13_method_48_code 70 = .ok (.getfield 93, 3) := by decide +kernel
theorem dM_binary1_73 : decode prog_13_method_48_code 73 = .ok (.iconst 5, 1) := by decide +kernel
theorem dM_binary1_74 : decode prog_13_method_48_code 74 = .ok (.if_icmp .ne 20, 3) := by decide +kernel
theorem dM_binary1_94 : decode prog_13_method_48_code 94 = .ok (.aload_n 0, 1) := by decide +kernel
theorem dM_binary1_95 : decode prog_13_method_48_code 95 = .ok (.iconst 1, 1) := by decide +kernel
theorem dM_binary1_96 : decode prog_13_method_48_code 96 = .ok (.invokevirtual 116, 3) := by decide +kernel
theorem dM_binary1_100 : decode prog_13_method_48_code 100 = .ok (.aload_n 0, 1) := by decide +kernel
theorem dM_binary1_101 : decode prog_13_method_48_code 101 = .ok (.aload_n 2, 1) := by decide +kernel
theorem dM_binary1_102 : decode prog_13_method_48_code 102 = .ok (.aload_n 3, 1) := by decide +kernel
theorem dM_binary1_103 : decode prog_13_method_48_code 103 = .ok (.invokevirtual 308, 3) := by decide +kernel
theorem dM_binary1_107 : decode prog_13_method_48_code 107 = .ok (.aload_n 2, 1) := by decide +kernel
theorem dM_binary1_108 : decode prog_13_method_48_code 108 = .ok (.getfield 93, 3) := by decide +kernel
theorem dM_binary1_111 : decode prog_13_method_48_code 111 = .ok (.iconst 4, 1) := by decide +kernel
theorem dM_binary1_112 : decode prog_13_method_48_code 112 = .ok (.if_icmp .ne 18, 3) := by decide +kernel
theorem dM_binary1_130 : decode prog_13_method_48_code 130 = .ok (.aload_n 2, 1) := by decide +kernel
theorem dM_binary1_131 : decode prog_13_method_48_code 131 = .ok (.getfield 93, 3) := by decide +kernel
theorem dM_binary1_134 : decode prog_13_method_48_code 134 = .ok (.iconst 3, 1) := by decide +kernel
theorem dM_binary1_135 : decode prog_13_method_48_code 135 = .ok (.if_icmp .ne 11, 3) := by decide +kernel
theorem dM_binary1_146 : decode prog_13_method_48_code 146 = .ok (.aload_n 0, 1) := by decide +kernel
theorem dM_binary1_147 : decode prog_13_method_48_code 147 = .ok (.iconst 1, 1) := by decide +kernel
theorem dM_binary1_148 : decode prog_13_method_48_code 148 = .ok (.invokevirtual 116, 3) := by decide +kernel
theorem dM_binary1_183 : decode prog_13_method_48_code 183 = .ok (.aload_n 2, 1) := by decide +kernel
theorem dM_binary1_184 : decode prog_13_method_48_code 184 = .ok (.getfield 93, 3) := by decide +kernel
theorem dM_binary1_187 : decode prog_13_method_48_code 187 = .ok (.iconst 3, 1) := by decide +kernel
theorem dM_binary1_188 : decode prog_13_method_48_code 188 = .ok (.if_icmp .ne 11, 3) := by decide +kernel
theorem dM_binary1_199 : decode prog_13_method_48_code 199 = .ok (.aload_n 0, 1) := by decide +kernel
theorem dM_binary1_200 : decode prog_13_method_48_code 200 = .ok (.iconst 1, 1) := by decide +kernel
theorem dM_binary1_201 : decode prog_13_method_48_code 201 = .ok (.invokevirtual 116, 3) := by decide +kernel
theorem dM_blanks_0 : decode prog_13_method_31_code 0 = .ok (.aload_n 0, 1) := by decide +kernel
theorem dM_blanks_1 : decode prog_13_method_31_code 1 = .ok (.invokevirtual 217, 3) := by decide +kernel
theorem dM_blanks_4 : decode prog_13_method_31_code 4 = .ok (.bipush 32, 2) := by decide +kernel
theorem dM_blanks_6 : decode prog_13_method_31_code 6 = .ok (.if_icmp .eq 39, 3) := by decide +kernel
theorem dM_blanks_9 : decode prog_13_method_31_code 9 = .ok (.aload_n 0, 1) := by decide +kernel
theorem dM_blanks_10 : decode prog_13_method_31_code 10 = .ok (.invokevirtual 217, 3) := by decide +kernel
theorem dM_blanks_13 : decode prog_13_method_31_code 13 = .ok (.bipush 9, 2) := by decide +kernel
theorem dM_blanks_15 : decode prog_13_method_31_code 15 = .ok (.if_icmp .lt 43, 3) := by decide +kernel
theorem dM_blanks_18 : decode prog_13_method_31_code 18 = .ok (.aload_n 0, 1) := by decide +kernel
theorem dM_blanks_19 : decode prog_13_method_31_code 19 = .ok (.invokevirtual 217, 3) := by decide +kernel
theorem dM_blanks_22 : decode prog_13_method_31_code 22 = .ok (.bipush 13, 2) := by decide +kernel
theorem dM_blanks_24 : decode prog_13_method_31_code 24 = .ok (.if_icmp .gt 34, 3) := by decide +kernel
theorem dM_blanks_58 : decode prog_13_method_31_code 58 = .ok (.return_, 1) := by decide +kernel
theorem dM_cased_0 : decode prog_13_method_64_code 0 = .ok (.aload_n 0, 1) := by decide +kernel
theorem dM_cased_1 : decode prog_13_method_64_code 1 = .ok (.getfield 123, 3) := by decide +kernel
theorem dM_cased_4 : decode prog_13_method_64_code 4 = .ok (.istore_n 3, 1) := by decide +kernel
theorem dM_cased_5 : decode prog_13_method_64_code 5 = .ok (.iconst 0, 1) := by decide +kernel
theorem dM_cased_6 : decode prog_13_method_64_code 6 = .ok (.istore 4, 2) := by decide +kernel
theorem dM_cased_8 : decode prog_13_method_64_code 8 = .ok (.iload 4, 2) := by decide +kernel
theorem dM_cased_10 : decode prog_13_method_64_code 10 = .ok (.aload_n 0, 1) := by decide +kernel
theorem dM_cased_11 : decode prog_13_method_64_code 11 = .ok (.aload_n 1, 1) := by decide +kernel
theorem dM_cased_12 : decode prog_13_method_64_code 12 = .ok (.invokevirtual 341, 3) := by decide +kernel
theorem dM_clear_0 : decode prog_13_method_18_code 0 = .ok (.aload_n 0, 1) := by decide +kernel
theorem dM_clear_1 : decode prog_13_method_18_code 1 = .ok (.iconst 0, 1) := by decide +kernel
theorem dM_clear_2 : decode prog_13_method_18_code 2 = .ok (.putfield 89, 3) := by decide +kernel
theorem dM_clear_5 : decode prog_13_method_18_code 5 = .ok (.aload_n 0, 1) := by decide +kernel
theorem dM_clear_6 : decode prog_13_method_18_code 6 = .ok (.iconst 0, 1) := by decide +kernel
theorem dM_clear_7 : decode prog_13_method_18_code 7 = .ok (.putfield 123, 3) := by decide +kernel
theorem dM_clear_10 : decode prog_13_method_18_code 10 = .ok (.aload_n 0, 1) := by decide +kernel
theorem dM_clear_11 : decode prog_13_method_18_code 11 = .ok (.iconst 0, 1) := by decide +kernel
theorem dM_clear_12 : decode prog_13_method_18_code 12 = .ok (.putfield 145, 3) := by decide +kernel
theorem dM_clear_15 : decode prog_13_method_18_code 15 = .ok (.aload_n 0, 1) := by decide +kernel
theorem dM_clear_16 : decode prog_13_method_18_code 16 = .ok (.iconst 0, 1) := by decide +kernel
theorem dM_clear_17 : decode prog_13_method_18_code 17 = .ok (.putfield 142, 3) := by decide +kernel
theorem dM_clear_20 : decode prog_13_method_18_code 20 = .ok (.aload_n 0, 1) := by decide +kernel
theorem dM_clear_21 : decode prog_13_method_18_code 21 = .ok (.iconst 0, 1) := by decide +kernel
theorem dM_clear_22 : decode prog_13_method_18_code 22 = .ok (.putfield 156, 3) := by decide +kernel
theorem dM_clear_25 : decode prog_13_method_18_code 25 = .ok (.return_, 1) := by decide +kernel
theorem dM_compare_0 : decode prog_13_method_91_code 0 = .ok (.aload_n 0, 1) := by decide +kernel
theorem dM_compare_1 : decode prog_13_method_91_code 1 = .ok (.invokevirtual 424, 3) := by decide +kernel
theorem dM_compare_4 : decode prog_13_method_91_code 4 = .ok (.aload_n 0, 1) := by decide +kernel
theorem dM_compare_5 : decode prog_13_method_91_code 5 = .ok (.iload_n 1, 1) := by decide +kernel
theorem dM_compare_6 : decode prog_13_method_91_code 6 = .ok (.invokevirtual 427, 3) := by decide +kernel
theorem dM_compare_9 : decode prog_13_method_91_code 9 = .ok (.ifCond .ne 11, 3) := by decide +kernel
theorem dM_compare_12 : decode prog_13_method_91_code 12 = .ok (.aload_n 0, 1) := by decide +kernel
theorem dM_compare_13 : decode prog_13_method_91_code 13 = .ok (.iload_n 2, 1) := by decide +kernel
theorem dM_compare_14 : decode prog_13_method_91_code 14 = .ok (.invokevirtual 427, 3) := by decide +kernel
theorem dM_compare_17 : decode prog_13_method_91_code 17 = .ok (.ifCond .eq 9, 3) := by decide +kernel
theorem dM_compare_20 : decode prog_13_method_91_code 20 = .ok (.aload_n 0, 1) := by decide +kernel
theorem dM_compare_21 : decode prog_13_method_91_code 21 = .ok (.iconst 1, 1) := by decide +kernel
theorem dM_compare_22 : decode prog_13_method_91_code 22 = .ok (.invokevirtual 418, 3) := by decide +kernel
theorem dM_compare_25 : decode prog_13_method_91_code 25 = .ok (.ireturn, 1) := by decide +kernel
theorem dM_compare_26 : decode prog_13_method_91_code 26 = .ok (.aload_n 0, 1) := by decide +kernel
theorem dM_compare_27 : decode prog_13_method_91_code 27 = .ok (.aload_n 0, 1) := by decide +kernel
theorem dM_compare_28 : decode prog_13_method_91_code 28 = .ok (.iload_n 1, 1) := by decide +kernel
theorem dM_compare_29 : decode prog_13_method_91_code 29 = .ok (.invokevirtual 437, 3) := by decide +kernel
theorem dM_compare_32 : decode prog_13_method_91_code 32 = .ok (.aload_n 0, 1) := by decide +kernel
theorem dM_compare_33 : decode prog_13_method_91_code 33 = .ok (.iload_n 2, 1) := by decide +kernel
theorem dM_compare_34 : decode prog_13_method_91_code 34 = .ok (.invokevirtual 437, 3) := by decide +kernel
theorem dM_compare_37 : decode prog_13_method_91_code 37 = .ok (.invokevirtual 176, 3) := by decide +kernel
theorem dM_compare_40 : decode prog_13_method_91_code 40 = .ok (.istore_n 3, 1) := by decide +kernel
theorem dM_compare_41 : decode prog_13_method_91_code 41 = .ok (.iload_n 3, 1) := by decide +kernel
theorem dM_compare_42 : decode prog_13_method_91_code 42 = .ok (.ifCond .ge 7, 3) := by decide +kernel
theorem dM_compare_49 : decode prog_13_method_91_code 49 = .ok (.iload_n 3, 1) := by decide +kernel
theorem dM_compare_50 : decode prog_13_method_91_code 50 = .ok (.ifCond .le 7, 3) := by decide +kernel
theorem dM_compare_57 : decode prog_13_method_91_code 57 = .ok (.iconst 0, 1) := by decide +kernel
theorem dM_compare_58 : decode prog_13_method_91_code 58 = .ok (.ireturn, 1) := by decide +kernel
theorem dM_contains_0 : decode prog_13_method_70_code 0 = .ok (.aload_n 0, 1) := by decide +kernel
theorem dM_contains_1 : decode prog_13_method_70_code 1 = .ok (.aload_n 1, 1) := by decide +kernel
theorem dM_contains_2 : decode prog_13_method_70_code 2 = .ok (.aload_n 2, 1) := by decide +kernel
theorem dM_contains_3 : decode prog_13_method_70_code 3 = .ok (.invokevirtual 384, 3) := by decide +kernel
theorem dM_contains_6 : decode prog_13_method_70_code 6 = .ok (.ifCond .ne 5, 3) := by decide +kernel
theorem dM_contains_11 : decode prog_13_method_70_code 11 = .ok (.aload_n 1, 1) := by decide +kernel
theorem dM_contains_12 : decode prog_13_method_70_code 12 = .ok (.getfield 93, 3) := by decide +kernel
theorem dM_contains_15 : decode prog_13_method_70_code 15 = .ok (.iconst 4, 1) := by decide +kernel
theorem dM_contains_16 : decode prog_13_method_70_code 16 = .ok (.if_icmp .ne 38, 3) := by decide +kernel
theorem dM_contains_54 : decode prog_13_method_70_code 54 = .ok (.aload_n 1, 1) := by decide +kernel
theorem dM_contains_55 : decode prog_13_method_70_code 55 = .ok (.getfield 93, 3) := by decide +kernel
theorem dM_contains_58 : decode prog_13_method_70_code 58 = .ok (.iconst 5, 1) := by decide +kernel
theorem dM_contains_59 : decode prog_13_method_70_code 59 = .ok (.if_icmp .ge 10, 3) := by decide +kernel
theorem dM_contains_62 : decode prog_13_method_70_code 62 = .ok (.aload_n 0, 1) := by decide +kernel
theorem dM_contains_63 : decode prog_13_method_70_code 63 = .ok (.aload_n 1, 1) := by decide +kernel
theorem dM_contains_64 : decode prog_13_method_70_code 64 = .ok (.aload_n 2, 1) := by decide +kernel
theorem dM_contains_65 : decode prog_13_method_70_code 65 = .ok (.invokevirtual 173, 3) := by decide +kernel
theorem dM_contains_68 : decode prog_13_method_70_code 68 = .ok (.ireturn, 1) := by decide +kernel
theorem dM_count_0 : decode prog_13_method_88_code 0 = .ok (.aload_n 0, 1) := by decide +kernel
theorem dM_count_1 : decode prog_13_method_88_code 1 = .ok (.iconst 0, 1) := by decide +kernel
theorem dM_count_2 : decode prog_13_method_88_code 2 = .ok (.putfield 77, 3) := by decide +kernel
theorem dM_count_5 : decode prog_13_method_88_code 5 = .ok (.iload_n 1, 1) := by decide +kernel
theorem dM_count_6 : decode prog_13_method_88_code 6 = .ok (.ifCond .lt 8, 3) := by decide +kernel
theorem dM_count_9 : decode prog_13_method_88_code 9 = .ok (.iload_n 1, 1) := by decide +kernel
theorem dM_count_10 : decode prog_13_method_88_code 10 = .ok (.iconst 3, 1) := by decide +kernel
theorem dM_count_11 : decode prog_13_method_88_code 11 = .ok (.if_icmp .le 9, 3) := by decide +kernel
theorem dM_count_14 : decode prog_13_method_88_code 14 = .ok (.aload_n 0, 1) := by decide +kernel
theorem dM_count_15 : decode prog_13_method_88_code 15 = .ok (.iconst 1, 1) := by decide +kernel
theorem dM_count_16 : decode prog_13_method_88_code 16 = .ok (.invokevirtual 418, 3) := by decide +kernel
theorem dM_count_19 : decode prog_13_method_88_code 19 = .ok (.ireturn, 1) := by decide +kernel
theorem dM_count_20 : decode prog_13_method_88_code 20 = .ok (.iload_n 1, 1) := by decide +kernel
theorem dM_count_21 : decode prog_13_method_88_code 21 = .ok (.ifCond .ne 10, 3) := by decide +kernel
theorem dM_count_24 : decode prog_13_method_88_code 24 = .ok (.aload_n 0, 1) := by decide +kernel
theorem dM_count_25 : decode prog_13_method_88_code 25 = .ok (.getfield 421, 3) := by decide +kernel
theorem dM_count_28 : decode prog_13_method_88_code 28 = .ok (.goto 31, 3) := by decide +kernel
theorem dM_count_31 : decode prog_13_method_88_code 31 = .ok (.iload_n 1, 1) := by decide +kernel
theorem dM_count_32 : decode prog_13_method_88_code 32 = .ok (.iconst 1, 1) := by decide +kernel
theorem dM_count_33 : decode prog_13_method_88_code 33 = .ok (.if_icmp .ne 10, 3) := by decide +kernel
theorem dM_count_36 : decode prog_13_method_88_code 36 = .ok (.aload_n 0, 1) := by decide +kernel
theorem dM_count_37 : decode prog_13_method_88_code 37 = .ok (.getfield 434, 3) := by decide +kernel
theorem dM_count_40 : decode prog_13_method_88_code 40 = .ok (.goto 19, 3) := by decide +kernel
theorem dM_count_43 : decode prog_13_method_88_code 43 = .ok (.iload_n 1, 1) := by decide +kernel
theorem dM_count_44 : decode prog_13_method_88_code 44 = .ok (.iconst 2, 1) := by decide +kernel
theorem dM_count_45 : decode prog_13_method_88_code 45 = .ok (.if_icmp .ne 10, 3) := by decide +kernel
theorem dM_count_48 : decode prog_13_method_88_code 48 = .ok (.aload_n 0, 1) := by decide +kernel
theorem dM_count_49 : decode prog_13_method_88_code 49 = .ok (.getfield 66, 3) := by decide +kernel
theorem dM_count_52 : decode prog_13_method_88_code 52 = .ok (.goto 7, 3) := by decide +kernel
theorem dM_count_55 : decode prog_13_method_88_code 55 = .ok (.aload_n 0, 1) := by decide +kernel
theorem dM_count_56 : decode prog_13_method_88_code 56 = .ok (.getfield 415, 3) := by decide +kernel
theorem dM_count_59 : decode prog_13_method_88_code 59 = .ok (.ireturn, 1) := by decide +kernel
theorem dM_digit_0 : decode prog_13_method_30_code 0 = .ok (.iload_n 0, 1) := by decide +kernel
theorem dM_digit_1 : decode prog_13_method_30_code 1 = .ok (.bipush 48, 2) := by decide +kernel
theorem dM_digit_3 : decode prog_13_method_30_code 3 = .ok (.if_icmp .lt 13, 3) := by decide +kernel
theorem dM_digit_16 : decode prog_13_method_30_code 16 = .ok (.iconst 0, 1) := by decide +kernel
theorem dM_digit_17 : decode prog_13_method_30_code 17 = .ok (.ireturn, 1) := by decide +kernel
theorem dM_end_0 : decode prog_13_method_83_code 0 = .ok (.aload_n 0, 1) := by decide +kernel
theorem dM_end_1 : decode prog_13_method_83_code 1 = .ok (.iconst 0, 1) := by decide +kernel
theorem dM_end_2 : decode prog_13_method_83_code 2 = .ok (.putfield 77, 3) := by decide +kernel
theorem dM_end_5 : decode prog_13_method_83_code 5 = .ok (.iload_n 1, 1) := by decide +kernel
theorem dM_end_6 : decode prog_13_method_83_code 6 = .ok (.ifCond .lt 11, 3) := by decide +kernel
theorem dM_end_9 : decode prog_13_method_83_code 9 = .ok (.iload_n 1, 1) := by decide +kernel
theorem dM_end_10 : decode prog_13_method_83_code 10 = .ok (.aload_n 0, 1) := by decide +kernel
theorem dM_end_11 : decode prog_13_method_83_code 11 = .ok (.getfield 421, 3) := by decide +kernel
theorem dM_end_14 : decode prog_13_method_83_code 14 = .ok (.if_icmp .le 9, 3) := by decide +kernel
theorem dM_end_17 : decode prog_13_method_83_code 17 = .ok (.aload_n 0, 1) := by decide +kernel
theorem dM_end_18 : decode prog_13_method_83_code 18 = .ok (.iconst 1, 1) := by decide +kernel
theorem dM_end_19 : decode prog_13_method_83_code 19 = .ok (.invokevirtual 418, 3) := by decide +kernel
theorem dM_end_22 : decode prog_13_method_83_code 22 = .ok (.ireturn, 1) := by decide +kernel
theorem dM_end_23 : decode prog_13_method_83_code 23 = .ok (.aload_n 0, 1) := by decide +kernel
theorem dM_end_24 : decode prog_13_method_83_code 24 = .ok (.iload_n 1, 1) := by decide +kernel
theorem dM_end_25 : decode prog_13_method_83_code 25 = .ok (.putfield 421, 3) := by decide +kernel
theorem dM_end_28 : decode prog_13_method_83_code 28 = .ok (.iload_n 1, 1) := by decide +kernel
theorem dM_end_29 : decode prog_13_method_83_code 29 = .ok (.ireturn, 1) := by decide +kernel
theorem dM_explode_0 : decode prog_13_method_62_code 0 = .ok (.aload_n 0, 1) := by decide +kernel
theorem dM_explode_1 : decode prog_13_method_62_code 1 = .ok (.getfield 142, 3) := by decide +kernel
theorem dM_explode_4 : decode prog_13_method_62_code 4 = .ok (.istore_n 2, 1) := by decide +kernel
theorem dM_explode_5 : decode prog_13_method_62_code 5 = .ok (.iconst 0, 1) := by decide +kernel
theorem dM_explode_6 : decode prog_13_method_62_code 6 = .ok (.istore_n 3, 1) := by decide +kernel
theorem dM_explode_7 : decode prog_13_method_62_code 7 = .ok (.iload_n 3, 1) := by decide +kernel
theorem dM_explode_8 : decode prog_13_method_62_code 8 = .ok (.aload_n 0, 1) := by decide +kernel
theorem dM_explode_9 : decode prog_13_method_62_code 9 = .ok (.aload_n 1, 1) := by decide +kernel
theorem dM_explode_10 : decode prog_13_method_62_code 10 = .ok (.invokevirtual 341, 3) := by decide +kernel
theorem dM_fail_0 : decode prog_13_method_3_code 0 = .ok (.aload_n 0, 1) := by decide +kernel
theorem dM_fail_1 : decode prog_13_method_3_code 1 = .ok (.iload_n 1, 1) := by decide +kernel
theorem dM_fail_2 : decode prog_13_method_3_code 2 = .ok (.putfield 77, 3) := by decide +kernel
theorem dM_fail_5 : decode prog_13_method_3_code 5 = .ok (.iconst 0, 1) := by decide +kernel
theorem dM_fail_6 : decode prog_13_method_3_code 6 = .ok (.ireturn, 1) := by decide +kernel
theorem dM_feed_0 : decode prog_13_method_82_code 0 = .ok (.aload_n 0, 1) := by decide +kernel
theorem dM_feed_1 : decode prog_13_method_82_code 1 = .ok (.iconst 0, 1) := by decide +kernel
theorem dM_feed_2 : decode prog_13_method_82_code 2 = .ok (.putfield 77, 3) := by decide +kernel
theorem dM_feed_5 : decode prog_13_method_82_code 5 = .ok (.aload_n 0, 1) := by decide +kernel
theorem dM_feed_6 : decode prog_13_method_82_code 6 = .ok (.getfield 421, 3) := by decide +kernel
theorem dM_feed_9 : decode prog_13_method_82_code 9 = .ok (.bipush 20, 2) := by decide +kernel
theorem dM_feed_11 : decode prog_13_method_82_code 11 = .ok (.iadd, 1) := by decide +kernel
theorem dM_feed_12 : decode prog_13_method_82_code 12 = .ok (.sipush 4096, 3) := by decide +kernel
theorem dM_feed_15 : decode prog_13_method_82_code 15 = .ok (.if_icmp .le 9, 3) := by decide +kernel
theorem dM_feed_24 : decode prog_13_method_82_code 24 = .ok (.iconst 0, 1) := by decide +kernel
theorem dM_feed_25 : decode prog_13_method_82_code 25 = .ok (.istore 6, 2) := by decide +kernel
theorem dM_feed_27 : decode prog_13_method_82_code 27 = .ok (.iload 6, 2) := by decide +kernel
theorem dM_feed_29 : decode prog_13_method_82_code 29 = .ok (.bipush 20, 2) := by decide +kernel
theorem dM_feed_31 : decode prog_13_method_82_code 31 = .ok (.if_icmp .ge 90, 3) := by decide +kernel
theorem dM_feed_34 : decode prog_13_method_82_code 34 = .ok (.iload 6, 2) := by decide +kernel
theorem dM_feed_36 : decode prog_13_method_82_code 36 = .ok (.iconst 4, 1) := by decide +kernel
theorem dM_feed_37 : decode prog_13_method_82_code 37 = .ok (.if_icmp .ge 7, 3) := by decide +kernel
theorem dM_feed_40 : decode prog_13_method_82_code 40 = .ok (.iload_n 1, 1) := by decide +kernel
theorem dM_feed_41 : decode prog_13_method_82_code 41 = .ok (.goto 39, 3) := by decide +kernel
theorem dM_feed_44 : decode prog_13_method_82_code 44 = .ok (.iload 6, 2) := by decide +kernel
theorem dM_feed_46 : decode prog_13_method_82_code 46 = .ok (.bipush 8, 2) := by decide +kernel
theorem dM_feed_48 : decode prog_13_method_82_code 48 = .ok (.if_icmp .ge 7, 3) := by decide +kernel
theorem dM_feed_51 : decode prog_13_method_82_code 51 = .ok (.iload_n 2, 1) := by decide +kernel
theorem dM_feed_52 : decode prog_13_method_82_code 52 = .ok (.goto 28, 3) := by decide +kernel
theorem dM_feed_55 : decode prog_13_method_82_code 55 = .ok (.iload 6, 2) := by decide +kernel
theorem dM_feed_57 : decode prog_13_method_82_code 57 = .ok (.bipush 12, 2) := by decide +kernel
theorem dM_feed_59 : decode prog_13_method_82_code 59 = .ok (.if_icmp .ge 7, 3) := by decide +kernel
theorem dM_feed_62 : decode prog_13_method_82_code 62 = .ok (.iload_n 3, 1) := by decide +kernel
theorem dM_feed_63 : decode prog_13_method_82_code 63 = .ok (.goto 17, 3) := by decide +kernel
theorem dM_feed_66 : decode prog_13_method_82_code 66 = .ok (.iload 6, 2) := by decide +kernel
theorem dM_feed_68 : decode prog_13_method_82_code 68 = .ok (.bipush 16, 2) := by decide +kernel
theorem dM_feed_70 : decode prog_13_method_82_code 70 = .ok (.if_icmp .ge 8, 3) := by decide +kernel
theorem dM_feed_73 : decode prog_13_method_82_code 73 = .ok (.iload 4, 2) := by decide +kernel
theorem dM_feed_75 : decode prog_13_method_82_code 75 = .ok (.goto 5, 3) := by decide +kernel
theorem dM_feed_78 : decode prog_13_method_82_code 78 = .ok (.iload 5, 2) := by decide +kernel
theorem dM_feed_80 : decode prog_13_method_82_code 80 = .ok (.istore 7, 2) := by decide +kernel
theorem dM_feed_82 : decode prog_13_method_82_code 82 = .ok (.aload_n 0, 1) := by decide +kernel
theorem dM_feed_83 : decode prog_13_method_82_code 83 = .ok (.getfield 60, 3) := by decide +kernel
theorem dM_feed_86 : decode prog_13_method_82_code 86 = .ok (.aload_n 0, 1) := by decide +kernel
theorem dM_feed_87 : decode prog_13_method_82_code 87 = .ok (.getfield 421, 3) := by decide +kernel
theorem dM_feed_90 : decode prog_13_method_82_code 90 = .ok (.iload 7, 2) := by decide +kernel
theorem dM_feed_92 : decode prog_13_method_82_code 92 = .ok (.bipush 24, 2) := by decide +kernel
theorem dM_feed_94 : decode prog_13_method_82_code 94 = .ok (.bipush 8, 2) := by decide +kernel
theorem dM_feed_96 : decode prog_13_method_82_code 96 = .ok (.iload 6, 2) := by decide +kernel
theorem dM_feed_98 : decode prog_13_method_82_code 98 = .ok (.iconst 4, 1) := by decide +kernel
theorem dM_feed_99 : decode prog_13_method_82_code 99 = .ok (.irem, 1) := by decide +kernel
theorem dM_feed_100 : decode prog_13_method_82_code 100 = .ok (.imul, 1) := by decide +kernel
theorem dM_feed_101 : decode prog_13_method_82_code 101 = .ok (.isub, 1) := by decide +kernel
theorem dM_feed_102 : decode prog_13_method_82_code 102 = .ok (.ishr, 1) := by decide +kernel
theorem dM_feed_103 : decode prog_13_method_82_code 103 = .ok (.i2b, 1) := by decide +kernel
theorem dM_feed_104 : decode prog_13_method_82_code 104 = .ok (.bastore, 1) := by decide +kernel
theorem dM_feed_105 : decode prog_13_method_82_code 105 = .ok (.aload_n 0, 1) := by decide +kernel
theorem dM_feed_106 : decode prog_13_method_82_code 106 = .ok (.dup, 1) := by decide +kernel
theorem dM_feed_107 : decode prog_13_method_82_code 107 = .ok (.getfield 421, 3) := by decide +kernel
theorem dM_feed_110 : decode prog_13_method_82_code 110 = .ok (.iconst 1, 1) := by decide +kernel
theorem dM_feed_111 : decode prog_13_method_82_code 111 = .ok (.iadd, 1) := by decide +kernel
theorem dM_feed_112 : decode prog_13_method_82_code 112 = .ok (.putfield 421, 3) := by decide +kernel
theorem dM_feed_115 : decode prog_13_method_82_code 115 = .ok (.iinc 6 1, 3) := by decide +kernel
theorem dM_feed_118 : decode prog_13_method_82_code 118 = .ok (.goto (-91), 3) := by decide +kernel
theorem dM_feed_121 : decode prog_13_method_82_code 121 = .ok (.aload_n 0, 1) := by decide +kernel
theorem dM_feed_122 : decode prog_13_method_82_code 122 = .ok (.getfield 421, 3) := by decide +kernel
theorem dM_feed_125 : decode prog_13_method_82_code 125 = .ok (.ireturn, 1) := by decide +kernel
theorem dM_finish_0 : decode prog_13_method_90_code 0 = .ok (.aload_n 0, 1) := by decide +kernel
theorem dM_finish_1 : decode prog_13_method_90_code 1 = .ok (.iload 4, 2) := by decide +kernel
theorem dM_finish_3 : decode prog_13_method_90_code 3 = .ok (.invokevirtual 437, 3) := by decide +kernel
theorem dM_finish_6 : decode prog_13_method_90_code 6 = .ok (.astore 6, 2) := by decide +kernel
theorem dM_finish_8 : decode prog_13_method_90_code 8 = .ok (.iload_n 2, 1) := by decide +kernel
theorem dM_finish_9 : decode prog_13_method_90_code 9 = .ok (.iconst 1, 1) := by decide +kernel
theorem dM_finish_10 : decode prog_13_method_90_code 10 = .ok (.if_icmp .ne 7, 3) := by decide +kernel
theorem dM_finish_13 : decode prog_13_method_90_code 13 = .ok (.aconst_null, 1) := by decide +kernel
theorem dM_finish_14 : decode prog_13_method_90_code 14 = .ok (.goto 9, 3) := by decide +kernel
theorem dM_finish_17 : decode prog_13_method_90_code 17 = .ok (.aload_n 0, 1) := by decide +kernel
theorem dM_finish_18 : decode prog_13_method_90_code 18 = .ok (.iload 5, 2) := by decide +kernel
theorem dM_finish_20 : decode prog_13_method_90_code 20 = .ok (.invokevirtual 437, 3) := by decide +kernel
theorem dM_finish_23 : decode prog_13_method_90_code 23 = .ok (.astore 7, 2) := by decide +kernel
theorem dM_finish_25 : decode prog_13_method_90_code 25 = .ok (.iload_n 2, 1) := by decide +kernel
theorem dM_finish_26 : decode prog_13_method_90_code 26 = .ok (.ifCond .ne 17, 3) := by decide +kernel
theorem dM_finish_29 : decode prog_13_method_90_code 29 = .ok (.aload_n 0, 1) := by decide +kernel
theorem dM_finish_30 : decode prog_13_method_90_code 30 = .ok (.iload_n 3, 1) := by decide +kernel
theorem dM_finish_31 : decode prog_13_method_90_code 31 = .ok (.aload 6, 2) := by decide +kernel
theorem dM_finish_33 : decode prog_13_method_90_code 33 = .ok (.aload 7, 2) := by decide +kernel
theorem dM_finish_35 : decode prog_13_method_90_code 35 = .ok (.invokevirtual 446, 3) := by decide +kernel
theorem dM_finish_38 : decode prog_13_method_90_code 38 = .ok (.astore 8, 2) := by decide +kernel
theorem dM_finish_40 : decode prog_13_method_90_code 40 = .ok (.goto 79, 3) := by decide +kernel
theorem dM_finish_43 : decode prog_13_method_90_code 43 = .ok (.iload_n 2, 1) := by decide +kernel
theorem dM_finish_44 : decode prog_13_method_90_code 44 = .ok (.iconst 1, 1) := by decide +kernel
theorem dM_finish_45 : decode prog_13_method_90_code 45 = .ok (.if_icmp .ne 15, 3) := by decide +kernel
theorem dM_finish_48 : decode prog_13_method_90_code 48 = .ok (.aload_n 0, 1) := by decide +kernel
theorem dM_finish_49 : decode prog_13_method_90_code 49 = .ok (.iload_n 3, 1) := by decide +kernel
theorem dM_finish_50 : decode prog_13_method_90_code 50 = .ok (.aload 6, 2) := by decide +kernel
theorem dM_finish_52 : decode prog_13_method_90_code 52 = .ok (.invokevirtual 450, 3) := by decide +kernel
theorem dM_finish_55 : decode prog_13_method_90_code 55 = .ok (.astore 8, 2) := by decide +kernel
theorem dM_finish_57 : decode prog_13_method_90_code 57 = .ok (.goto 62, 3) := by decide +kernel
theorem dM_finish_60 : decode prog_13_method_90_code 60 = .ok (.iload_n 2, 1) := by decide +kernel
theorem dM_finish_61 : decode prog_13_method_90_code 61 = .ok (.iconst 2, 1) := by decide +kernel
theorem dM_finish_62 : decode prog_13_method_90_code 62 = .ok (.if_icmp .ne 17, 3) := by decide +kernel
theorem dM_finish_65 : decode prog_13_method_90_code 65 = .ok (.aload_n 0, 1) := by decide +kernel
theorem dM_finish_66 : decode prog_13_method_90_code 66 = .ok (.iload_n 3, 1) := by decide +kernel
theorem dM_finish_67 : decode prog_13_method_90_code 67 = .ok (.aload 6, 2) := by decide +kernel
theorem dM_finish_69 : decode prog_13_method_90_code 69 = .ok (.aload 7, 2) := by decide +kernel
theorem dM_finish_71 : decode prog_13_method_90_code 71 = .ok (.invokevirtual 454, 3) := by decide +kernel
theorem dM_finish_74 : decode prog_13_method_90_code 74 = .ok (.astore 8, 2) := by decide +kernel
theorem dM_finish_76 : decode prog_13_method_90_code 76 = .ok (.goto 43, 3) := by decide +kernel
theorem dM_finish_79 : decode prog_13_method_90_code 79 = .ok (.aload_n 0, 1) := by decide +kernel
theorem dM_finish_80 : decode prog_13_method_90_code 80 = .ok (.aload 6, 2) := by decide +kernel
theorem dM_finish_82 : decode prog_13_method_90_code 82 = .ok (.invokevirtual 337, 3) := by decide +kernel
theorem dM_finish_119 : decode prog_13_method_90_code 119 = .ok (.aload_n 0, 1) := by decide +kernel
theorem dM_finish_120 : decode prog_13_method_90_code 120 = .ok (.iload_n 1, 1) := by decide +kernel
theorem dM_finish_121 : decode prog_13_method_90_code 121 = .ok (.aload 8, 2) := by decide +kernel
theorem dM_finish_123 : decode prog_13_method_90_code 123 = .ok (.invokevirtual 430, 3) := by decide +kernel
theorem dM_finish_126 : decode prog_13_method_90_code 126 = .ok (.istore 9, 2) := by decide +kernel
theorem dM_finish_128 : decode prog_13_method_90_code 128 = .ok (.goto 28, 3) := by decide +kernel
theorem dM_finish_131 : decode prog_13_method_90_code 131 = .ok (.astore 6, 2) := by decide +kernel
theorem dM_finish_133 : decode prog_13_method_90_code 133 = .ok (.aload_n 0, 1) := by decide +kernel
theorem dM_finish_134 : decode prog_13_method_90_code 134 = .ok (.aload_n 0, 1) := by decide +kernel
theorem dM_finish_135 : decode prog_13_method_90_code 135 = .ok (.getfield 80, 3) := by decide +kernel
theorem dM_finish_138 : decode prog_13_method_90_code 138 = .ok (.putfield 415, 3) := by decide +kernel
theorem dM_finish_141 : decode prog_13_method_90_code 141 = .ok (.aload_n 0, 1) := by decide +kernel
theorem dM_finish_142 : decode prog_13_method_90_code 142 = .ok (.iconst 2, 1) := by decide +kernel
theorem dM_finish_143 : decode prog_13_method_90_code 143 = .ok (.putfield 77, 3) := by decide +kernel
theorem dM_finish_146 : decode prog_13_method_90_code 146 = .ok (.goto 10, 3) := by decide +kernel
theorem dM_finish_156 : decode prog_13_method_90_code 156 = .ok (.return_, 1) := by decide +kernel
theorem dM_flatten_0 : decode prog_13_method_74_code 0 = .ok (.aload_n 0, 1) := by decide +kernel
theorem dM_flatten_1 : decode prog_13_method_74_code 1 = .ok (.aload_n 1, 1) := by decide +kernel
theorem dM_flatten_2 : decode prog_13_method_74_code 2 = .ok (.invokevirtual 337, 3) := by decide +kernel
theorem dM_fresh_0 : decode prog_13_method_6_code 0 = .ok (.aload_n 0, 1) := by decide +kernel
theorem dM_fresh_1 : decode prog_13_method_6_code 1 = .ok (.getfield 89, 3) := by decide +kernel
theorem dM_fresh_4 : decode prog_13_method_6_code 4 = .ok (.aload_n 0, 1) := by decide +kernel
theorem dM_fresh_5 : decode prog_13_method_6_code 5 = .ok (.getfield 9, 3) := by decide +kernel
theorem dM_fresh_8 : decode prog_13_method_6_code 8 = .ok (.arraylength, 1) := by decide +kernel
theorem dM_fresh_9 : decode prog_13_method_6_code 9 = .ok (.if_icmp .ne 43, 3) := by decide +kernel
theorem dM_fresh_52 : decode prog_13_method_6_code 52 = .ok (.aload_n 0, 1) := by decide +kernel
theorem dM_fresh_53 : decode prog_13_method_6_code 53 = .ok (.getfield 9, 3) := by decide +kernel
theorem dM_fresh_56 : decode prog_13_method_6_code 56 = .ok (.aload_n 0, 1) := by decide +kernel
theorem dM_fresh_57 : decode prog_13_method_6_code 57 = .ok (.getfield 89, 3) := by decide +kernel
theorem dM_fresh_60 : decode prog_13_method_6_code 60 = .ok (.aaload, 1) := by decide +kernel
theorem dM_fresh_61 : decode prog_13_method_6_code 61 = .ok (.ifnonnull 19, 3) := by decide +kernel
theorem dM_fresh_64 : decode prog_13_method_6_code 64 = .ok (.aload_n 0, 1) := by decide +kernel
theorem dM_fresh_65 : decode prog_13_method_6_code 65 = .ok (.getfield 9, 3) := by decide +kernel
theorem dM_fresh_68 : decode prog_13_method_6_code 68 = .ok (.aload_n 0, 1) := by decide +kernel
theorem dM_fresh_69 : decode prog_13_method_6_code 69 = .ok (.getfield 89, 3) := by decide +kernel
theorem dM_fresh_72 : decode prog_13_method_6_code 72 = .ok (.new 7, 3) := by decide +kernel
theorem dM_fresh_75 : decode prog_13_method_6_code 75 = .ok (.dup, 1) := by decide +kernel
theorem dM_fresh_76 : decode prog_13_method_6_code 76 = .ok (.invokespecial 92, 3) := by decide +kernel
theorem dM_fresh_79 : decode prog_13_method_6_code 79 = .ok (.aastore, 1) := by decide +kernel
theorem dM_fresh_80 : decode prog_13_method_6_code 80 = .ok (.aload_n 0, 1) := by decide +kernel
theorem dM_fresh_81 : decode prog_13_method_6_code 81 = .ok (.getfield 9, 3) := by decide +kernel
theorem dM_fresh_84 : decode prog_13_method_6_code 84 = .ok (.aload_n 0, 1) := by decide +kernel
theorem dM_fresh_85 : decode prog_13_method_6_code 85 = .ok (.getfield 89, 3) := by decide +kernel
theorem dM_fresh_88 : decode prog_13_method_6_code 88 = .ok (.aaload, 1) := by decide +kernel
theorem dM_fresh_89 : decode prog_13_method_6_code 89 = .ok (.astore_n 2, 1) := by decide +kernel
theorem dM_fresh_90 : decode prog_13_method_6_code 90 = .ok (.aload_n 0, 1) := by decide +kernel
theorem dM_fresh_91 : decode prog_13_method_6_code 91 = .ok (.dup, 1) := by decide +kernel
theorem dM_fresh_92 : decode prog_13_method_6_code 92 = .ok (.getfield 89, 3) := by decide +kernel
theorem dM_fresh_95 : decode prog_13_method_6_code 95 = .ok (.iconst 1, 1) := by decide +kernel
theorem dM_fresh_96 : decode prog_13_method_6_code 96 = .ok (.iadd, 1) := by decide +kernel
theorem dM_fresh_97 : decode prog_13_method_6_code 97 = .ok (.putfield 89, 3) := by decide +kernel
theorem dM_fresh_100 : decode prog_13_method_6_code 100 = .ok (.aload_n 2, 1) := by decide +kernel
theorem dM_fresh_101 : decode prog_13_method_6_code 101 = .ok (.iload_n 1, 1) := by decide +kernel
theorem dM_fresh_102 : decode prog_13_method_6_code 102 = .ok (.putfield 93, 3) := by decide +kernel
theorem dM_fresh_105 : decode prog_13_method_6_code 105 = .ok (.aload_n 2, 1) := by decide +kernel
theorem dM_fresh_106 : decode prog_13_method_6_code 106 = .ok (.lconst 0, 1) := by decide +kernel
theorem dM_fresh_107 : decode prog_13_method_6_code 107 = .ok (.putfield 96, 3) := by decide +kernel
theorem dM_fresh_110 : decode prog_13_method_6_code 110 = .ok (.aload_n 2, 1) := by decide +kernel
theorem dM_fresh_111 : decode prog_13_method_6_code 111 = .ok (.iconst 0, 1) := by decide +kernel
theorem dM_fresh_112 : decode prog_13_method_6_code 112 = .ok (.putfield 100, 3) := by decide +kernel
theorem dM_fresh_115 : decode prog_13_method_6_code 115 = .ok (.aload_n 2, 1) := by decide +kernel
theorem dM_fresh_116 : decode prog_13_method_6_code 116 = .ok (.iconst 0, 1) := by decide +kernel
theorem dM_fresh_117 : decode prog_13_method_6_code 117 = .ok (.putfield 103, 3) := by decide +kernel
theorem dM_fresh_120 : decode prog_13_method_6_code 120 = .ok (.aload_n 2, 1) := by decide +kernel
theorem dM_fresh_121 : decode prog_13_method_6_code 121 = .ok (.iconst 0, 1) := by decide +kernel
theorem dM_fresh_122 : decode prog_13_method_6_code 122 = .ok (.putfield 106, 3) := by decide +kernel
theorem dM_fresh_125 : decode prog_13_method_6_code 125 = .ok (.aload_n 2, 1) := by decide +kernel
theorem dM_fresh_126 : decode prog_13_method_6_code 126 = .ok (.iconst 1, 1) := by decide +kernel
theorem dM_fresh_127 : decode prog_13_method_6_code 127 = .ok (.putfield 109, 3) := by decide +kernel
theorem dM_fresh_130 : decode prog_13_method_6_code 130 = .ok (.aload_n 2, 1) := by decide +kernel
theorem dM_fresh_131 : decode prog_13_method_6_code 131 = .ok (.areturn, 1) := by decide +kernel
theorem dM_fromJson_0 : decode prog_13_method_60_code 0 = .ok (.aload_n 0, 1) := by decide +kernel
theorem dM_fromJson_1 : decode prog_13_method_60_code 1 = .ok (.aload_n 1, 1) := by decide +kernel
theorem dM_fromJson_2 : decode prog_13_method_60_code 2 = .ok (.invokevirtual 341, 3) := by decide +kernel
theorem dM_has_0 : decode prog_13_method_67_code 0 = .ok (.aload_n 1, 1) := by decide +kernel
theorem dM_has_1 : decode prog_13_method_67_code 1 = .ok (.getfield 93, 3) := by decide +kernel
theorem dM_has_4 : decode prog_13_method_67_code 4 = .ok (.bipush 6, 2) := by decide +kernel
theorem dM_has_6 : decode prog_13_method_67_code 6 = .ok (.if_icmp .ne 30, 3) := by decide +kernel
theorem dM_has_36 : decode prog_13_method_67_code 36 = .ok (.aload_n 1, 1) := by decide +kernel
theorem dM_has_37 : decode prog_13_method_67_code 37 = .ok (.getfield 93, 3) := by decide +kernel
theorem dM_has_40 : decode prog_13_method_67_code 40 = .ok (.iconst 5, 1) := by decide +kernel
theorem dM_has_41 : decode prog_13_method_67_code 41 = .ok (.if_icmp .ne 43, 3) := by decide +kernel
theorem dM_has_84 : decode prog_13_method_67_code 84 = .ok (.aload_n 0, 1) := by decide +kernel
theorem dM_has_85 : decode prog_13_method_67_code 85 = .ok (.iconst 1, 1) := by decide +kernel
theorem dM_has_86 : decode prog_13_method_67_code 86 = .ok (.invokevirtual 116, 3) := by decide +kernel
theorem dM_implode_0 : decode prog_13_method_63_code 0 = .ok (.iconst 0, 1) := by decide +kernel
theorem dM_implode_1 : decode prog_13_method_63_code 1 = .ok (.istore_n 2, 1) := by decide +kernel
theorem dM_implode_2 : decode prog_13_method_63_code 2 = .ok (.iload_n 2, 1) := by decide +kernel
theorem dM_implode_3 : decode prog_13_method_63_code 3 = .ok (.aload_n 0, 1) := by decide +kernel
theorem dM_implode_4 : decode prog_13_method_63_code 4 = .ok (.aload_n 1, 1) := by decide +kernel
theorem dM_implode_5 : decode prog_13_method_63_code 5 = .ok (.invokevirtual 337, 3) := by decide +kernel
theorem dM_indices_0 : decode prog_13_method_72_code 0 = .ok (.aload_n 1, 1) := by decide +kernel
theorem dM_indices_1 : decode prog_13_method_72_code 1 = .ok (.getfield 93, 3) := by decide +kernel
theorem dM_indices_4 : decode prog_13_method_72_code 4 = .ok (.ifCond .ne 5, 3) := by decide +kernel
theorem dM_indices_7 : decode prog_13_method_72_code 7 = .ok (.aload_n 1, 1) := by decide +kernel
theorem dM_indices_8 : decode prog_13_method_72_code 8 = .ok (.areturn, 1) := by decide +kernel
theorem dM_init_0 : decode prog_13_method_1_code 0 = .ok (.aload_n 0, 1) := by decide +kernel
theorem dM_init_1 : decode prog_13_method_1_code 1 = .ok (.invokespecial 1, 3) := by decide +kernel
theorem dM_init_4 : decode prog_13_method_1_code 4 = .ok (.aload_n 0, 1) := by decide +kernel
theorem dM_init_5 : decode prog_13_method_1_code 5 = .ok (.sipush 1024, 3) := by decide +kernel
theorem dM_init_8 : decode prog_13_method_1_code 8 = .ok (.anewarray 7, 3) := by decide +kernel
theorem dM_init_11 : decode prog_13_method_1_code 11 = .ok (.putfield 9, 3) := by decide +kernel
theorem dM_init_14 : decode prog_13_method_1_code 14 = .ok (.aload_n 0, 1) := by decide +kernel
theorem dM_init_15 : decode prog_13_method_1_code 15 = .ok (.sipush 4096, 3) := by decide +kernel
theorem dM_init_18 : decode prog_13_method_1_code 18 = .ok (.newarray .byte, 2) := by decide +kernel
theorem dM_init_20 : decode prog_13_method_1_code 20 = .ok (.putfield 15, 3) := by decide +kernel
theorem dM_init_23 : decode prog_13_method_1_code 23 = .ok (.aload_n 0, 1) := by decide +kernel
theorem dM_init_24 : decode prog_13_method_1_code 24 = .ok (.sipush 1024, 3) := by decide +kernel
theorem dM_init_27 : decode prog_13_method_1_code 27 = .ok (.anewarray 7, 3) := by decide +kernel
theorem dM_init_30 : decode prog_13_method_1_code 30 = .ok (.putfield 19, 3) := by decide +kernel
theorem dM_init_33 : decode prog_13_method_1_code 33 = .ok (.aload_n 0, 1) := by decide +kernel
theorem dM_init_34 : decode prog_13_method_1_code 34 = .ok (.sipush 1024, 3) := by decide +kernel
theorem dM_init_37 : decode prog_13_method_1_code 37 = .ok (.anewarray 7, 3) := by decide +kernel
theorem dM_init_40 : decode prog_13_method_1_code 40 = .ok (.putfield 22, 3) := by decide +kernel
theorem dM_init_43 : decode prog_13_method_1_code 43 = .ok (.aload_n 0, 1) := by decide +kernel
theorem dM_init_44 : decode prog_13_method_1_code 44 = .ok (.sipush 256, 3) := by decide +kernel
theorem dM_init_47 : decode prog_13_method_1_code 47 = .ok (.anewarray 7, 3) := by decide +kernel
theorem dM_init_50 : decode prog_13_method_1_code 50 = .ok (.putfield 25, 3) := by decide +kernel
theorem dM_init_53 : decode prog_13_method_1_code 53 = .ok (.aload_n 0, 1) := by decide +kernel
theorem dM_init_54 : decode prog_13_method_1_code 54 = .ok (.sipush 256, 3) := by decide +kernel
theorem dM_init_57 : decode prog_13_method_1_code 57 = .ok (.anewarray 7, 3) := by decide +kernel
theorem dM_init_60 : decode prog_13_method_1_code 60 = .ok (.putfield 28, 3) := by decide +kernel
theorem dM_init_63 : decode prog_13_method_1_code 63 = .ok (.aload_n 0, 1) := by decide +kernel
theorem dM_init_64 : decode prog_13_method_1_code 64 = .ok (.bipush 64, 2) := by decide +kernel
theorem dM_init_66 : decode prog_13_method_1_code 66 = .ok (.newarray .int, 2) := by decide +kernel
theorem dM_init_68 : decode prog_13_method_1_code 68 = .ok (.putfield 31, 3) := by decide +kernel
theorem dM_init_71 : decode prog_13_method_1_code 71 = .ok (.aload_n 0, 1) := by decide +kernel
theorem dM_init_72 : decode prog_13_method_1_code 72 = .ok (.bipush 64, 2) := by decide +kernel
theorem dM_init_74 : decode prog_13_method_1_code 74 = .ok (.newarray .int, 2) := by decide +kernel
theorem dM_init_76 : decode prog_13_method_1_code 76 = .ok (.putfield 35, 3) := by decide +kernel
theorem dM_init_79 : decode prog_13_method_1_code 79 = .ok (.aload_n 0, 1) := by decide +kernel
theorem dM_init_80 : decode prog_13_method_1_code 80 = .ok (.bipush 40, 2) := by decide +kernel
theorem dM_init_82 : decode prog_13_method_1_code 82 = .ok (.putfield 38, 3) := by decide +kernel
theorem dM_init_85 : decode prog_13_method_1_code 85 = .ok (.aload_n 0, 1) := by decide +kernel
theorem dM_init_86 : decode prog_13_method_1_code 86 = .ok (.iconst (-1), 1) := by decide +kernel
theorem dM_init_87 : decode prog_13_method_1_code 87 = .ok (.putfield 42, 3) := by decide +kernel
theorem dM_init_90 : decode prog_13_method_1_code 90 = .ok (.aload_n 0, 1) := by decide +kernel
theorem dM_init_91 : decode prog_13_method_1_code 91 = .ok (.sipush 1024, 3) := by decide +kernel
theorem dM_init_94 : decode prog_13_method_1_code 94 = .ok (.newarray .byte, 2) := by decide +kernel
theorem dM_init_96 : decode prog_13_method_1_code 96 = .ok (.putfield 45, 3) := by decide +kernel
theorem dM_init_99 : decode prog_13_method_1_code 99 = .ok (.aload_n 0, 1) := by decide +kernel
theorem dM_init_100 : decode prog_13_method_1_code 100 = .ok (.ldc 48, 2) := by decide +kernel
theorem dM_init_102 : decode prog_13_method_1_code 102 = .ok (.putfield 49, 3) := by decide +kernel
theorem dM_init_105 : decode prog_13_method_1_code 105 = .ok (.aload_n 0, 1) := by decide +kernel
theorem dM_init_106 : decode prog_13_method_1_code 106 = .ok (.bipush 8, 2) := by decide +kernel
theorem dM_init_108 : decode prog_13_method_1_code 108 = .ok (.sipush 4096, 3) := by decide +kernel
theorem dM_init_111 : decode prog_13_method_1_code 111 = .ok (.multianewarray 52 2, 4) := by decide +kernel
theorem dM_init_115 : decode prog_13_method_1_code 115 = .ok (.putfield 54, 3) := by decide +kernel
theorem dM_init_118 : decode prog_13_method_1_code 118 = .ok (.aload_n 0, 1) := by decide +kernel
theorem dM_init_119 : decode prog_13_method_1_code 119 = .ok (.bipush 8, 2) := by decide +kernel
theorem dM_init_121 : decode prog_13_method_1_code 121 = .ok (.newarray .int, 2) := by decide +kernel
theorem dM_init_123 : decode prog_13_method_1_code 123 = .ok (.putfield 57, 3) := by decide +kernel
theorem dM_init_126 : decode prog_13_method_1_code 126 = .ok (.aload_n 0, 1) := by decide +kernel
theorem dM_init_127 : decode prog_13_method_1_code 127 = .ok (.sipush 4096, 3) := by decide +kernel
theorem dM_init_130 : decode prog_13_method_1_code 130 = .ok (.newarray .byte, 2) := by decide +kernel
theorem dM_init_132 : decode prog_13_method_1_code 132 = .ok (.putfield 60, 3) := by decide +kernel
theorem dM_init_135 : decode prog_13_method_1_code 135 = .ok (.aload_n 0, 1) := by decide +kernel
theorem dM_init_136 : decode prog_13_method_1_code 136 = .ok (.sipush 4096, 3) := by decide +kernel
theorem dM_init_139 : decode prog_13_method_1_code 139 = .ok (.newarray .byte, 2) := by decide +kernel
theorem dM_init_141 : decode prog_13_method_1_code 141 = .ok (.putfield 63, 3) := by decide +kernel
theorem dM_init_144 : decode prog_13_method_1_code 144 = .ok (.aload_n 0, 1) := by decide +kernel
theorem dM_init_145 : decode prog_13_method_1_code 145 = .ok (.iconst (-1), 1) := by decide +kernel
theorem dM_init_146 : decode prog_13_method_1_code 146 = .ok (.putfield 66, 3) := by decide +kernel
theorem dM_init_149 : decode prog_13_method_1_code 149 = .ok (.iconst 0, 1) := by decide +kernel
theorem dM_init_150 : decode prog_13_method_1_code 150 = .ok (.istore_n 1, 1) := by decide +kernel
theorem dM_init_151 : decode prog_13_method_1_code 151 = .ok (.iload_n 1, 1) := by decide +kernel
theorem dM_init_152 : decode prog_13_method_1_code 152 = .ok (.bipush 8, 2) := by decide +kernel
theorem dM_init_154 : decode prog_13_method_1_code 154 = .ok (.if_icmp .ge 44, 3) := by decide +kernel
theorem dM_init_157 : decode prog_13_method_1_code 157 = .ok (.iconst 0, 1) := by decide +kernel
theorem dM_init_158 : decode prog_13_method_1_code 158 = .ok (.istore_n 2, 1) := by decide +kernel
theorem dM_init_159 : decode prog_13_method_1_code 159 = .ok (.iload_n 2, 1) := by decide +kernel
theorem dM_init_160 : decode prog_13_method_1_code 160 = .ok (.iconst 4, 1) := by decide +kernel
theorem dM_init_161 : decode prog_13_method_1_code 161 = .ok (.if_icmp .ge 24, 3) := by decide +kernel
theorem dM_init_164 : decode prog_13_method_1_code 164 = .ok (.aload_n 0, 1) := by decide +kernel
theorem dM_init_165 : decode prog_13_method_1_code 165 = .ok (.getfield 54, 3) := by decide +kernel
theorem dM_init_168 : decode prog_13_method_1_code 168 = .ok (.iload_n 1, 1) := by decide +kernel
theorem dM_init_169 : decode prog_13_method_1_code 169 = .ok (.aaload, 1) := by decide +kernel
theorem dM_init_170 : decode prog_13_method_1_code 170 = .ok (.iload_n 2, 1) := by decide +kernel
theorem dM_init_171 : decode prog_13_method_1_code 171 = .ok (.ldc 69, 2) := by decide +kernel
theorem dM_init_173 : decode prog_13_method_1_code 173 = .ok (.iload_n 2, 1) := by decide +kernel
theorem dM_init_174 : decode prog_13_method_1_code 174 = .ok (.invokevirtual 71, 3) := by decide +kernel
theorem dM_init_177 : decode prog_13_method_1_code 177 = .ok (.i2b, 1) := by decide +kernel
theorem dM_init_178 : decode prog_13_method_1_code 178 = .ok (.bastore, 1) := by decide +kernel
theorem dM_init_179 : decode prog_13_method_1_code 179 = .ok (.iinc 2 1, 3) := by decide +kernel
theorem dM_init_182 : decode prog_13_method_1_code 182 = .ok (.goto (-23), 3) := by decide +kernel
theorem dM_init_185 : decode prog_13_method_1_code 185 = .ok (.aload_n 0, 1) := by decide +kernel
theorem dM_init_186 : decode prog_13_method_1_code 186 = .ok (.getfield 57, 3) := by decide +kernel
theorem dM_init_189 : decode prog_13_method_1_code 189 = .ok (.iload_n 1, 1) := by decide +kernel
theorem dM_init_190 : decode prog_13_method_1_code 190 = .ok (.iconst 4, 1) := by decide +kernel
theorem dM_init_191 : decode prog_13_method_1_code 191 = .ok (.iastore, 1) := by decide +kernel
theorem dM_init_192 : decode prog_13_method_1_code 192 = .ok (.iinc 1 1, 3) := by decide +kernel
theorem dM_init_195 : decode prog_13_method_1_code 195 = .ok (.goto (-44), 3) := by decide +kernel
theorem dM_init_198 : decode prog_13_method_1_code 198 = .ok (.return_, 1) := by decide +kernel
theorem dM_isTrue_0 : decode prog_13_method_65_code 0 = .ok (.aload_n 1, 1) := by decide +kernel
theorem dM_isTrue_1 : decode prog_13_method_65_code 1 = .ok (.getfield 93, 3) := by decide +kernel
theorem dM_isTrue_4 : decode prog_13_method_65_code 4 = .ok (.ifCond .eq 15, 3) := by decide +kernel
theorem dM_isTrue_19 : decode prog_13_method_65_code 19 = .ok (.iconst 0, 1) := by decide +kernel
theorem dM_isTrue_20 : decode prog_13_method_65_code 20 = .ok (.ireturn, 1) := by decide +kernel
theorem dM_joined_0 : decode prog_13_method_71_code 0 = .ok (.aload_n 0, 1) := by decide +kernel
theorem dM_joined_1 : decode prog_13_method_71_code 1 = .ok (.aload_n 1, 1) := by decide +kernel
theorem dM_joined_2 : decode prog_13_method_71_code 2 = .ok (.invokevirtual 337, 3) := by decide +kernel
theorem dM_json_0 : decode prog_13_method_32_code 0 = .ok (.aload_n 0, 1) := by decide +kernel
theorem dM_json_1 : decode prog_13_method_32_code 1 = .ok (.aload_n 1, 1) := by decide +kernel
theorem dM_json_2 : decode prog_13_method_32_code 2 = .ok (.putfield 214, 3) := by decide +kernel
theorem dM_json_5 : decode prog_13_method_32_code 5 = .ok (.aload_n 0, 1) := by decide +kernel
theorem dM_json_6 : decode prog_13_method_32_code 6 = .ok (.iload_n 2, 1) := by decide +kernel
theorem dM_json_7 : decode prog_13_method_32_code 7 = .ok (.putfield 208, 3) := by decide +kernel
theorem dM_json_10 : decode prog_13_method_32_code 10 = .ok (.aload_n 0, 1) := by decide +kernel
theorem dM_json_11 : decode prog_13_method_32_code 11 = .ok (.iload_n 3, 1) := by decide +kernel
theorem dM_json_12 : decode prog_13_method_32_code 12 = .ok (.putfield 211, 3) := by decide +kernel
theorem dM_json_15 : decode prog_13_method_32_code 15 = .ok (.aload_n 0, 1) := by decide +kernel
theorem dM_json_16 : decode prog_13_method_32_code 16 = .ok (.iconst 0, 1) := by decide +kernel
theorem dM_json_17 : decode prog_13_method_32_code 17 = .ok (.putfield 220, 3) := by decide +kernel
theorem dM_json_20 : decode prog_13_method_32_code 20 = .ok (.aload_n 0, 1) := by decide +kernel
theorem dM_json_21 : decode prog_13_method_32_code 21 = .ok (.invokevirtual 223, 3) := by decide +kernel
theorem dM_json_24 : decode prog_13_method_32_code 24 = .ok (.astore 4, 2) := by decide +kernel
theorem dM_json_26 : decode prog_13_method_32_code 26 = .ok (.aload_n 0, 1) := by decide +kernel
theorem dM_json_27 : decode prog_13_method_32_code 27 = .ok (.invokevirtual 226, 3) := by decide +kernel
theorem dM_json_30 : decode prog_13_method_32_code 30 = .ok (.aload_n 0, 1) := by decide +kernel
theorem dM_json_31 : decode prog_13_method_32_code 31 = .ok (.getfield 208, 3) := by decide +kernel
theorem dM_json_34 : decode prog_13_method_32_code 34 = .ok (.aload_n 0, 1) := by decide +kernel
theorem dM_json_35 : decode prog_13_method_32_code 35 = .ok (.getfield 211, 3) := by decide +kernel
theorem dM_json_38 : decode prog_13_method_32_code 38 = .ok (.if_icmp .ge 11, 3) := by decide +kernel
theorem dM_json_49 : decode prog_13_method_32_code 49 = .ok (.aload 4, 2) := by decide +kernel
theorem dM_json_51 : decode prog_13_method_32_code 51 = .ok (.areturn, 1) := by decide +kernel
theorem dM_keysOf_0 : decode prog_13_method_58_code 0 = .ok (.aload_n 1, 1) := by decide +kernel
theorem dM_keysOf_1 : decode prog_13_method_58_code 1 = .ok (.getfield 93, 3) := by decide +kernel
theorem dM_keysOf_4 : decode prog_13_method_58_code 4 = .ok (.bipush 6, 2) := by decide +kernel
theorem dM_keysOf_6 : decode prog_13_method_58_code 6 = .ok (.if_icmp .ne 10, 3) := by decide +kernel
theorem dM_keysOf_16 : decode prog_13_method_58_code 16 = .ok (.aload_n 0, 1) := by decide +kernel
theorem dM_keysOf_17 : decode prog_13_method_58_code 17 = .ok (.getfield 142, 3) := by decide +kernel
theorem dM_keysOf_20 : decode prog_13_method_58_code 20 = .ok (.istore_n 3, 1) := by decide +kernel
theorem dM_keysOf_21 : decode prog_13_method_58_code 21 = .ok (.iconst 0, 1) := by decide +kernel
theorem dM_keysOf_22 : decode prog_13_method_58_code 22 = .ok (.istore 4, 2) := by decide +kernel
theorem dM_keysOf_24 : decode prog_13_method_58_code 24 = .ok (.iload 4, 2) := by decide +kernel
theorem dM_keysOf_26 : decode prog_13_method_58_code 26 = .ok (.aload_n 0, 1) := by decide +kernel
theorem dM_keysOf_27 : decode prog_13_method_58_code 27 = .ok (.aload_n 1, 1) := by decide +kernel
theorem dM_keysOf_28 : decode prog_13_method_58_code 28 = .ok (.invokevirtual 337, 3) := by decide +kernel
theorem dM_length_0 : decode prog_13_method_57_code 0 = .ok (.aload_n 1, 1) := by decide +kernel
theorem dM_length_1 : decode prog_13_method_57_code 1 = .ok (.getfield 93, 3) := by decide +kernel
theorem dM_length_4 : decode prog_13_method_57_code 4 = .ok (.iconst 1, 1) := by decide +kernel
theorem dM_length_5 : decode prog_13_method_57_code 5 = .ok (.if_icmp .eq 11, 3) := by decide +kernel
theorem dM_length_8 : decode prog_13_method_57_code 8 = .ok (.aload_n 1, 1) := by decide +kernel
theorem dM_length_9 : decode prog_13_method_57_code 9 = .ok (.getfield 93, 3) := by decide +kernel
theorem dM_length_12 : decode prog_13_method_57_code 12 = .ok (.iconst 2, 1) := by decide +kernel
theorem dM_length_13 : decode prog_13_method_57_code 13 = .ok (.if_icmp .ne 9, 3) := by decide +kernel
theorem dM_length_22 : decode prog_13_method_57_code 22 = .ok (.aload_n 0, 1) := by decide +kernel
theorem dM_length_23 : decode prog_13_method_57_code 23 = .ok (.aload_n 1, 1) := by decide +kernel
theorem dM_length_24 : decode prog_13_method_57_code 24 = .ok (.getfield 93, 3) := by decide +kernel
theorem dM_length_27 : decode prog_13_method_57_code 27 = .ok (.ifCond .ne 7, 3) := by decide +kernel
theorem dM_length_30 : decode prog_13_method_57_code 30 = .ok (.lconst 0, 1) := by decide +kernel
theorem dM_length_31 : decode prog_13_method_57_code 31 = .ok (.goto 26, 3) := by decide +kernel
theorem dM_length_57 : decode prog_13_method_57_code 57 = .ok (.invokevirtual 265, 3) := by decide +kernel
theorem dM_length_60 : decode prog_13_method_57_code 60 = .ok (.areturn, 1) := by decide +kernel
theorem dM_letter_0 : decode prog_13_method_9_code 0 = .ok (.aload_n 0, 1) := by decide +kernel
theorem dM_letter_1 : decode prog_13_method_9_code 1 = .ok (.getfield 123, 3) := by decide +kernel
theorem dM_letter_4 : decode prog_13_method_9_code 4 = .ok (.aload_n 0, 1) := by decide +kernel
theorem dM_letter_5 : decode prog_13_method_9_code 5 = .ok (.getfield 15, 3) := by decide +kernel
theorem dM_letter_8 : decode prog_13_method_9_code 8 = .ok (.arraylength, 1) := by decide +kernel
theorem dM_letter_9 : decode prog_13_method_9_code 9 = .ok (.if_icmp .ne 42, 3) := by decide +kernel
theorem dM_letter_51 : decode prog_13_method_9_code 51 = .ok (.aload_n 0, 1) := by decide +kernel
theorem dM_letter_52 : decode prog_13_method_9_code 52 = .ok (.getfield 15, 3) := by decide +kernel
theorem dM_letter_55 : decode prog_13_method_9_code 55 = .ok (.aload_n 0, 1) := by decide +kernel
theorem dM_letter_56 : decode prog_13_method_9_code 56 = .ok (.getfield 123, 3) := by decide +kernel
theorem dM_letter_59 : decode prog_13_method_9_code 59 = .ok (.iload_n 1, 1) := by decide +kernel
theorem dM_letter_60 : decode prog_13_method_9_code 60 = .ok (.i2b, 1) := by decide +kernel
theorem dM_letter_61 : decode prog_13_method_9_code 61 = .ok (.bastore, 1) := by decide +kernel
theorem dM_letter_62 : decode prog_13_method_9_code 62 = .ok (.aload_n 0, 1) := by decide +kernel
theorem dM_letter_63 : decode prog_13_method_9_code 63 = .ok (.dup, 1) := by decide +kernel
theorem dM_letter_64 : decode prog_13_method_9_code 64 = .ok (.getfield 123, 3) := by decide +kernel
theorem dM_letter_67 : decode prog_13_method_9_code 67 = .ok (.iconst 1, 1) := by decide +kernel
theorem dM_letter_68 : decode prog_13_method_9_code 68 = .ok (.iadd, 1) := by decide +kernel
theorem dM_letter_69 : decode prog_13_method_9_code 69 = .ok (.putfield 123, 3) := by decide +kernel
theorem dM_letter_72 : decode prog_13_method_9_code 72 = .ok (.return_, 1) := by decide +kernel
theorem dM_number_0 : decode prog_13_method_7_code 0 = .ok (.lload_n 1, 1) := by decide +kernel
theorem dM_number_1 : decode prog_13_method_7_code 1 = .ok (.ldc2_w 112, 3) := by decide +kernel
theorem dM_number_4 : decode prog_13_method_7_code 4 = .ok (.lcmp, 1) := by decide +kernel
theorem dM_number_5 : decode prog_13_method_7_code 5 = .ok (.ifCond .gt 11, 3) := by decide +kernel
theorem dM_number_8 : decode prog_13_method_7_code 8 = .ok (.lload_n 1, 1) := by decide +kernel
theorem dM_number_9 : decode prog_13_method_7_code 9 = .ok (.ldc2_w 114, 3) := by decide +kernel
theorem dM_number_12 : decode prog_13_method_7_code 12 = .ok (.lcmp, 1) := by decide +kernel
theorem dM_number_13 : decode prog_13_method_7_code 13 = .ok (.ifCond .ge 9, 3) := by decide +kernel
theorem dM_number_22 : decode prog_13_method_7_code 22 = .ok (.aload_n 0, 1) := by decide +kernel
theorem dM_number_23 : decode prog_13_method_7_code 23 = .ok (.iconst 3, 1) := by decide +kernel
theorem dM_number_24 : decode prog_13_method_7_code 24 = .ok (.invokevirtual 120, 3) := by decide +kernel
theorem dM_number_27 : decode prog_13_method_7_code 27 = .ok (.astore_n 3, 1) := by decide +kernel
theorem dM_number_28 : decode prog_13_method_7_code 28 = .ok (.aload_n 3, 1) := by decide +kernel
theorem dM_number_29 : decode prog_13_method_7_code 29 = .ok (.lload_n 1, 1) := by decide +kernel
theorem dM_number_30 : decode prog_13_method_7_code 30 = .ok (.putfield 96, 3) := by decide +kernel
theorem dM_number_33 : decode prog_13_method_7_code 33 = .ok (.aload_n 3, 1) := by decide +kernel
theorem dM_number_34 : decode prog_13_method_7_code 34 = .ok (.areturn, 1) := by decide +kernel
theorem dM_one0_0 : decode prog_13_method_92_code 0 = .ok (.aload_n 0, 1) := by decide +kernel
theorem dM_one0_1 : decode prog_13_method_92_code 1 = .ok (.invokevirtual 424, 3) := by decide +kernel
theorem dM_one0_4 : decode prog_13_method_92_code 4 = .ok (.aload_n 0, 1) := by decide +kernel
theorem dM_one0_5 : decode prog_13_method_92_code 5 = .ok (.iload_n 1, 1) := by decide +kernel
theorem dM_one0_6 : decode prog_13_method_92_code 6 = .ok (.invokevirtual 427, 3) := by decide +kernel
theorem dM_one0_9 : decode prog_13_method_92_code 9 = .ok (.ifCond .ne 21, 3) := by decide +kernel
theorem dM_one0_12 : decode prog_13_method_92_code 12 = .ok (.iload_n 2, 1) := by decide +kernel
theorem dM_one0_13 : decode prog_13_method_92_code 13 = .ok (.ifCond .lt 17, 3) := by decide +kernel
theorem dM_one0_16 : decode prog_13_method_92_code 16 = .ok (.iload_n 2, 1) := by decide +kernel
theorem dM_one0_17 : decode prog_13_method_92_code 17 = .ok (.bipush 13, 2) := by decide +kernel
theorem dM_one0_19 : decode prog_13_method_92_code 19 = .ok (.if_icmp .gt 11, 3) := by decide +kernel
theorem dM_one0_22 : decode prog_13_method_92_code 22 = .ok (.aload_n 0, 1) := by decide +kernel
theorem dM_one0_23 : decode prog_13_method_92_code 23 = .ok (.iload_n 3, 1) := by decide +kernel
theorem dM_one0_24 : decode prog_13_method_92_code 24 = .ok (.invokevirtual 427, 3) := by decide +kernel
theorem dM_one0_27 : decode prog_13_method_92_code 27 = .ok (.ifCond .eq 11, 3) := by decide +kernel
theorem dM_one0_30 : decode prog_13_method_92_code 30 = .ok (.aload_n 0, 1) := by decide +kernel
theorem dM_one0_31 : decode prog_13_method_92_code 31 = .ok (.iconst 1, 1) := by decide +kernel
theorem dM_one0_32 : decode prog_13_method_92_code 32 = .ok (.putfield 77, 3) := by decide +kernel
theorem dM_one0_35 : decode prog_13_method_92_code 35 = .ok (.goto 12, 3) := by decide +kernel
theorem dM_one0_38 : decode prog_13_method_92_code 38 = .ok (.aload_n 0, 1) := by decide +kernel
theorem dM_one0_39 : decode prog_13_method_92_code 39 = .ok (.iload_n 1, 1) := by decide +kernel
theorem dM_one0_40 : decode prog_13_method_92_code 40 = .ok (.iconst 1, 1) := by decide +kernel
theorem dM_one0_41 : decode prog_13_method_92_code 41 = .ok (.iload_n 2, 1) := by decide +kernel
theorem dM_one0_42 : decode prog_13_method_92_code 42 = .ok (.iload_n 3, 1) := by decide +kernel
theorem dM_one0_43 : decode prog_13_method_92_code 43 = .ok (.iload_n 3, 1) := by decide +kernel
theorem dM_one0_44 : decode prog_13_method_92_code 44 = .ok (.invokevirtual 442, 3) := by decide +kernel
theorem dM_one0_47 : decode prog_13_method_92_code 47 = .ok (.return_, 1) := by decide +kernel
theorem dM_one1_0 : decode prog_13_method_66_code 0 = .ok (.iload_n 1, 1) := by decide +kernel
theorem dM_one1_1 : decode prog_13_method_66_code 1 = .ok (.tableswitch 178 0 12 #[67, 85, 91, 98, 105, 123, 129, 135, 141, 153, 159, 165, 171], 67) := by decide +kernel
theorem dM_one1_68 : decode prog_13_method_66_code 68 = .ok (.aload_n 0, 1) := by decide +kernel
theorem dM_one1_69 : decode prog_13_method_66_code 69 = .ok (.aload_n 0, 1) := by decide +kernel
theorem dM_one1_70 : decode prog_13_method_66_code 70 = .ok (.aload_n 2, 1) := by decide +kernel
theorem dM_one1_71 : decode prog_13_method_66_code 71 = .ok (.invokevirtual 350, 3) := by decide +kernel
theorem dM_one1_74 : decode prog_13_method_66_code 74 = .ok (.ifCond .ne 7, 3) := by decide +kernel
theorem dM_one1_77 : decode prog_13_method_66_code 77 = .ok (.iconst 1, 1) := by decide +kernel
theorem dM_one1_78 : decode prog_13_method_66_code 78 = .ok (.goto 4, 3) := by decide +kernel
theorem dM_one1_82 : decode prog_13_method_66_code 82 = .ok (.invokevirtual 354, 3) := by decide +kernel
theorem dM_one1_85 : decode prog_13_method_66_code 85 = .ok (.areturn, 1) := by decide +kernel
theorem dM_one1_86 : decode prog_13_method_66_code 86 = .ok (.aload_n 0, 1) := by decide +kernel
theorem dM_one1_87 : decode prog_13_method_66_code 87 = .ok (.aload_n 2, 1) := by decide +kernel
theorem dM_one1_88 : decode prog_13_method_66_code 88 = .ok (.invokevirtual 358, 3) := by decide +kernel
theorem dM_one1_91 : decode prog_13_method_66_code 91 = .ok (.areturn, 1) := by decide +kernel
theorem dM_one1_92 : decode prog_13_method_66_code 92 = .ok (.aload_n 0, 1) := by decide +kernel
theorem dM_one1_93 : decode prog_13_method_66_code 93 = .ok (.aload_n 2, 1) := by decide +kernel
theorem dM_one1_94 : decode prog_13_method_66_code 94 = .ok (.iconst 1, 1) := by decide +kernel
theorem dM_one1_95 : decode prog_13_method_66_code 95 = .ok (.invokevirtual 360, 3) := by decide +kernel
theorem dM_one1_99 : decode prog_13_method_66_code 99 = .ok (.aload_n 0, 1) := by decide +kernel
theorem dM_one1_100 : decode prog_13_method_66_code 100 = .ok (.aload_n 2, 1) := by decide +kernel
theorem dM_one1_101 : decode prog_13_method_66_code 101 = .ok (.iconst 0, 1) := by decide +kernel
theorem dM_one1_102 : decode prog_13_method_66_code 102 = .ok (.invokevirtual 360, 3) := by decide +kernel
theorem dM_one1_106 : decode prog_13_method_66_code 106 = .ok (.aload_n 2, 1) := by decide +kernel
theorem dM_one1_107 : decode prog_13_method_66_code 107 = .ok (.getfield 93, 3) := by decide +kernel
theorem dM_one1_110 : decode prog_13_method_66_code 110 = .ok (.iconst 4, 1) := by decide +kernel
theorem dM_one1_111 : decode prog_13_method_66_code 111 = .ok (.if_icmp .ne 7, 3) := by decide +kernel
theorem dM_one1_118 : decode prog_13_method_66_code 118 = .ok (.aload_n 0, 1) := by decide +kernel
theorem dM_one1_119 : decode prog_13_method_66_code 119 = .ok (.aload_n 2, 1) := by decide +kernel
theorem dM_one1_120 : decode prog_13_method_66_code 120 = .ok (.invokevirtual 363, 3) := by decide +kernel
theorem dM_one1_123 : decode prog_13_method_66_code 123 = .ok (.areturn, 1) := by decide +kernel
theorem dM_one1_124 : decode prog_13_method_66_code 124 = .ok (.aload_n 0, 1) := by decide +kernel
theorem dM_one1_125 : decode prog_13_method_66_code 125 = .ok (.aload_n 2, 1) := by decide +kernel
theorem dM_one1_126 : decode prog_13_method_66_code 126 = .ok (.invokevirtual 366, 3) := by decide +kernel
theorem dM_one1_130 : decode prog_13_method_66_code 130 = .ok (.aload_n 0, 1) := by decide +kernel
theorem dM_one1_131 : decode prog_13_method_66_code 131 = .ok (.aload_n 2, 1) := by decide +kernel
theorem dM_one1_132 : decode prog_13_method_66_code 132 = .ok (.invokevirtual 363, 3) := by decide +kernel
theorem dM_one1_135 : decode prog_13_method_66_code 135 = .ok (.areturn, 1) := by decide +kernel
theorem dM_one1_136 : decode prog_13_method_66_code 136 = .ok (.aload_n 0, 1) := by decide +kernel
theorem dM_one1_137 : decode prog_13_method_66_code 137 = .ok (.aload_n 2, 1) := by decide +kernel
theorem dM_one1_138 : decode prog_13_method_66_code 138 = .ok (.invokevirtual 369, 3) := by decide +kernel
theorem dM_one1_142 : decode prog_13_method_66_code 142 = .ok (.aload_n 0, 1) := by decide +kernel
theorem dM_one1_143 : decode prog_13_method_66_code 143 = .ok (.aload_n 0, 1) := by decide +kernel
theorem dM_one1_144 : decode prog_13_method_66_code 144 = .ok (.aload_n 2, 1) := by decide +kernel
theorem dM_one1_145 : decode prog_13_method_66_code 145 = .ok (.invokevirtual 337, 3) := by decide +kernel
theorem dM_one1_154 : decode prog_13_method_66_code 154 = .ok (.aload_n 0, 1) := by decide +kernel
theorem dM_one1_155 : decode prog_13_method_66_code 155 = .ok (.aload_n 2, 1) := by decide +kernel
theorem dM_one1_156 : decode prog_13_method_66_code 156 = .ok (.invokevirtual 372, 3) := by decide +kernel
theorem dM_one1_159 : decode prog_13_method_66_code 159 = .ok (.areturn, 1) := by decide +kernel
theorem dM_one1_160 : decode prog_13_method_66_code 160 = .ok (.aload_n 0, 1) := by decide +kernel
theorem dM_one1_161 : decode prog_13_method_66_code 161 = .ok (.aload_n 2, 1) := by decide +kernel
theorem dM_one1_162 : decode prog_13_method_66_code 162 = .ok (.invokevirtual 375, 3) := by decide +kernel
theorem dM_one1_166 : decode prog_13_method_66_code 166 = .ok (.aload_n 0, 1) := by decide +kernel
theorem dM_one1_167 : decode prog_13_method_66_code 167 = .ok (.aload_n 2, 1) := by decide +kernel
theorem dM_one1_168 : decode prog_13_method_66_code 168 = .ok (.invokevirtual 378, 3) := by decide +kernel
theorem dM_one1_172 : decode prog_13_method_66_code 172 = .ok (.aload_n 0, 1) := by decide +kernel
theorem dM_one1_173 : decode prog_13_method_66_code 173 = .ok (.aload_n 2, 1) := by decide +kernel
theorem dM_one1_174 : decode prog_13_method_66_code 174 = .ok (.iconst 0, 1) := by decide +kernel
theorem dM_one1_175 : decode prog_13_method_66_code 175 = .ok (.invokevirtual 381, 3) := by decide +kernel
theorem dM_one1_179 : decode prog_13_method_66_code 179 = .ok (.aload_n 0, 1) := by decide +kernel
theorem dM_one1_180 : decode prog_13_method_66_code 180 = .ok (.aload_n 2, 1) := by decide +kernel
theorem dM_one1_181 : decode prog_13_method_66_code 181 = .ok (.iconst 1, 1) := by decide +kernel
theorem dM_one1_182 : decode prog_13_method_66_code 182 = .ok (.invokevirtual 381, 3) := by decide +kernel
theorem dM_order_0 : decode prog_13_method_22_code 0 = .ok (.aload_n 1, 1) := by decide +kernel
theorem dM_order_1 : decode prog_13_method_22_code 1 = .ok (.getfield 93, 3) := by decide +kernel
theorem dM_order_4 : decode prog_13_method_22_code 4 = .ok (.aload_n 2, 1) := by decide +kernel
theorem dM_order_5 : decode prog_13_method_22_code 5 = .ok (.getfield 93, 3) := by decide +kernel
theorem dM_order_8 : decode prog_13_method_22_code 8 = .ok (.if_icmp .eq 13, 3) := by decide +kernel
theorem dM_order_21 : decode prog_13_method_22_code 21 = .ok (.aload_n 1, 1) := by decide +kernel
theorem dM_order_22 : decode prog_13_method_22_code 22 = .ok (.getfield 93, 3) := by decide +kernel
theorem dM_order_25 : decode prog_13_method_22_code 25 = .ok (.iconst 3, 1) := by decide +kernel
theorem dM_order_26 : decode prog_13_method_22_code 26 = .ok (.if_icmp .ne 37, 3) := by decide +kernel
theorem dM_order_63 : decode prog_13_method_22_code 63 = .ok (.aload_n 1, 1) := by decide +kernel
theorem dM_order_64 : decode prog_13_method_22_code 64 = .ok (.getfield 93, 3) := by decide +kernel
theorem dM_order_67 : decode prog_13_method_22_code 67 = .ok (.iconst 4, 1) := by decide +kernel
theorem dM_order_68 : decode prog_13_method_22_code 68 = .ok (.if_icmp .ne 86, 3) := by decide +kernel
theorem dM_order_154 : decode prog_13_method_22_code 154 = .ok (.aload_n 1, 1) := by decide +kernel
theorem dM_order_155 : decode prog_13_method_22_code 155 = .ok (.getfield 93, 3) := by decide +kernel
theorem dM_order_158 : decode prog_13_method_22_code 158 = .ok (.iconst 5, 1) := by decide +kernel
theorem dM_order_159 : decode prog_13_method_22_code 159 = .ok (.if_icmp .ne 63, 3) := by decide +kernel
theorem dM_order_222 : decode prog_13_method_22_code 222 = .ok (.aload_n 1, 1) := by decide +kernel
theorem dM_order_223 : decode prog_13_method_22_code 223 = .ok (.getfield 93, 3) := by decide +kernel
theorem dM_order_226 : decode prog_13_method_22_code 226 = .ok (.bipush 6, 2) := by decide +kernel
theorem dM_order_228 : decode prog_13_method_22_code 228 = .ok (.if_icmp .ne 12, 3) := by decide +kernel
theorem dM_order_240 : decode prog_13_method_22_code 240 = .ok (.iconst 0, 1) := by decide +kernel
theorem dM_order_241 : decode prog_13_method_22_code 241 = .ok (.ireturn, 1) := by decide +kernel
theorem dM_out_0 : decode prog_13_method_77_code 0 = .ok (.iload_n 1, 1) := by decide +kernel
theorem dM_out_1 : decode prog_13_method_77_code 1 = .ok (.ifCond .lt 9, 3) := by decide +kernel
theorem dM_out_4 : decode prog_13_method_77_code 4 = .ok (.iload_n 1, 1) := by decide +kernel
theorem dM_out_5 : decode prog_13_method_77_code 5 = .ok (.bipush 7, 2) := by decide +kernel
theorem dM_out_7 : decode prog_13_method_77_code 7 = .ok (.if_icmp .le 7, 3) := by decide +kernel
theorem dM_out_10 : decode prog_13_method_77_code 10 = .ok (.iconst 1, 1) := by decide +kernel
theorem dM_out_11 : decode prog_13_method_77_code 11 = .ok (.goto 4, 3) := by decide +kernel
theorem dM_out_14 : decode prog_13_method_77_code 14 = .ok (.iconst 0, 1) := by decide +kernel
theorem dM_out_15 : decode prog_13_method_77_code 15 = .ok (.ireturn, 1) := by decide +kernel
theorem dM_peek_0 : decode prog_13_method_29_code 0 = .ok (.aload_n 0, 1) := by decide +kernel
theorem dM_peek_1 : decode prog_13_method_29_code 1 = .ok (.getfield 208, 3) := by decide +kernel
theorem dM_peek_4 : decode prog_13_method_29_code 4 = .ok (.aload_n 0, 1) := by decide +kernel
theorem dM_peek_5 : decode prog_13_method_29_code 5 = .ok (.getfield 211, 3) := by decide +kernel
theorem dM_peek_8 : decode prog_13_method_29_code 8 = .ok (.if_icmp .ge 19, 3) := by decide +kernel
theorem dM_peek_11 : decode prog_13_method_29_code 11 = .ok (.aload_n 0, 1) := by decide +kernel
theorem dM_peek_12 : decode prog_13_method_29_code 12 = .ok (.getfield 214, 3) := by decide +kernel
theorem dM_peek_15 : decode prog_13_method_29_code 15 = .ok (.aload_n 0, 1) := by decide +kernel
theorem dM_peek_16 : decode prog_13_method_29_code 16 = .ok (.getfield 208, 3) := by decide +kernel
theorem dM_peek_19 : decode prog_13_method_29_code 19 = .ok (.baload, 1) := by decide +kernel
theorem dM_peek_20 : decode prog_13_method_29_code 20 = .ok (.sipush 255, 3) := by decide +kernel
theorem dM_peek_23 : decode prog_13_method_29_code 23 = .ok (.iand, 1) := by decide +kernel
theorem dM_peek_24 : decode prog_13_method_29_code 24 = .ok (.goto 4, 3) := by decide +kernel
theorem dM_peek_27 : decode prog_13_method_29_code 27 = .ok (.iconst (-1), 1) := by decide +kernel
theorem dM_peek_28 : decode prog_13_method_29_code 28 = .ok (.ireturn, 1) := by decide +kernel
theorem dM_print0_0 : decode prog_13_method_85_code 0 = .ok (.aload_n 0, 1) := by decide +kernel
theorem dM_print0_1 : decode prog_13_method_85_code 1 = .ok (.invokevirtual 424, 3) := by decide +kernel
theorem dM_print0_4 : decode prog_13_method_85_code 4 = .ok (.aload_n 0, 1) := by decide +kernel
theorem dM_print0_5 : decode prog_13_method_85_code 5 = .ok (.iload_n 1, 1) := by decide +kernel
theorem dM_print0_6 : decode prog_13_method_85_code 6 = .ok (.invokevirtual 427, 3) := by decide +kernel
theorem dM_print0_9 : decode prog_13_method_85_code 9 = .ok (.ifCond .eq 9, 3) := by decide +kernel
theorem dM_print0_12 : decode prog_13_method_85_code 12 = .ok (.aload_n 0, 1) := by decide +kernel
theorem dM_print0_13 : decode prog_13_method_85_code 13 = .ok (.iconst 1, 1) := by decide +kernel
theorem dM_print0_14 : decode prog_13_method_85_code 14 = .ok (.invokevirtual 418, 3) := by decide +kernel
theorem dM_print0_17 : decode prog_13_method_85_code 17 = .ok (.ireturn, 1) := by decide +kernel
theorem dM_print0_18 : decode prog_13_method_85_code 18 = .ok (.aload_n 0, 1) := by decide +kernel
theorem dM_print0_19 : decode prog_13_method_85_code 19 = .ok (.aload_n 0, 1) := by decide +kernel
theorem dM_print0_20 : decode prog_13_method_85_code 20 = .ok (.getfield 57, 3) := by decide +kernel
theorem dM_print0_23 : decode prog_13_method_85_code 23 = .ok (.iload_n 1, 1) := by decide +kernel
theorem dM_print0_24 : decode prog_13_method_85_code 24 = .ok (.iaload, 1) := by decide +kernel
theorem dM_print0_25 : decode prog_13_method_85_code 25 = .ok (.putfield 434, 3) := by decide +kernel
theorem dM_print0_28 : decode prog_13_method_85_code 28 = .ok (.iconst 0, 1) := by decide +kernel
theorem dM_print0_29 : decode prog_13_method_85_code 29 = .ok (.istore_n 2, 1) := by decide +kernel
theorem dM_print0_30 : decode prog_13_method_85_code 30 = .ok (.iload_n 2, 1) := by decide +kernel
theorem dM_print0_31 : decode prog_13_method_85_code 31 = .ok (.aload_n 0, 1) := by decide +kernel
theorem dM_print0_32 : decode prog_13_method_85_code 32 = .ok (.getfield 434, 3) := by decide +kernel
theorem dM_print0_35 : decode prog_13_method_85_code 35 = .ok (.if_icmp .ge 23, 3) := by decide +kernel
theorem dM_print0_38 : decode prog_13_method_85_code 38 = .ok (.aload_n 0, 1) := by decide +kernel
theorem dM_print0_39 : decode prog_13_method_85_code 39 = .ok (.getfield 63, 3) := by decide +kernel
theorem dM_print0_42 : decode prog_13_method_85_code 42 = .ok (.iload_n 2, 1) := by decide +kernel
theorem dM_print0_43 : decode prog_13_method_85_code 43 = .ok (.aload_n 0, 1) := by decide +kernel
theorem dM_print0_44 : decode prog_13_method_85_code 44 = .ok (.getfield 54, 3) := by decide +kernel
theorem dM_print0_47 : decode prog_13_method_85_code 47 = .ok (.iload_n 1, 1) := by decide +kernel
theorem dM_print0_48 : decode prog_13_method_85_code 48 = .ok (.aaload, 1) := by decide +kernel
theorem dM_print0_49 : decode prog_13_method_85_code 49 = .ok (.iload_n 2, 1) := by decide +kernel
theorem dM_print0_50 : decode prog_13_method_85_code 50 = .ok (.baload, 1) := by decide +kernel
theorem dM_print0_51 : decode prog_13_method_85_code 51 = .ok (.bastore, 1) := by decide +kernel
theorem dM_print0_52 : decode prog_13_method_85_code 52 = .ok (.iinc 2 1, 3) := by decide +kernel
theorem dM_print0_55 : decode prog_13_method_85_code 55 = .ok (.goto (-25), 3) := by decide +kernel
theorem dM_print0_58 : decode prog_13_method_85_code 58 = .ok (.aload_n 0, 1) := by decide +kernel
theorem dM_print0_59 : decode prog_13_method_85_code 59 = .ok (.getfield 434, 3) := by decide +kernel
theorem dM_print0_62 : decode prog_13_method_85_code 62 = .ok (.ireturn, 1) := by decide +kernel
theorem dM_print1_0 : decode prog_13_method_46_code 0 = .ok (.aload_n 1, 1) := by decide +kernel
theorem dM_print1_1 : decode prog_13_method_46_code 1 = .ok (.getfield 93, 3) := by decide +kernel
theorem dM_print1_4 : decode prog_13_method_46_code 4 = .ok (.tableswitch 72 0 4 #[36, 43, 50, 57, 66], 36) := by decide +kernel
theorem dM_print1_40 : decode prog_13_method_46_code 40 = .ok (.aload_n 0, 1) := by decide +kernel
theorem dM_print1_41 : decode prog_13_method_46_code 41 = .ok (.ldc 69, 2) := by decide +kernel
theorem dM_print1_43 : decode prog_13_method_46_code 43 = .ok (.invokevirtual 286, 3) := by decide +kernel
theorem dM_print1_46 : decode prog_13_method_46_code 46 = .ok (.return_, 1) := by decide +kernel
theorem dM_print1_54 : decode prog_13_method_46_code 54 = .ok (.aload_n 0, 1) := by decide +kernel
theorem dM_print1_55 : decode prog_13_method_46_code 55 = .ok (.ldc 236, 2) := by decide +kernel
theorem dM_print1_57 : decode prog_13_method_46_code 57 = .ok (.invokevirtual 286, 3) := by decide +kernel
theorem dM_print1_60 : decode prog_13_method_46_code 60 = .ok (.return_, 1) := by decide +kernel
theorem dM_print1_61 : decode prog_13_method_46_code 61 = .ok (.aload_n 0, 1) := by decide +kernel
theorem dM_print1_62 : decode prog_13_method_46_code 62 = .ok (.aload_n 1, 1) := by decide +kernel
theorem dM_print1_63 : decode prog_13_method_46_code 63 = .ok (.getfield 96, 3) := by decide +kernel
theorem dM_print1_66 : decode prog_13_method_46_code 66 = .ok (.invokevirtual 292, 3) := by decide +kernel
theorem dM_print1_69 : decode prog_13_method_46_code 69 = .ok (.return_, 1) := by decide +kernel
theorem dM_print1_70 : decode prog_13_method_46_code 70 = .ok (.aload_n 0, 1) := by decide +kernel
theorem dM_print1_71 : decode prog_13_method_46_code 71 = .ok (.aload_n 1, 1) := by decide +kernel
theorem dM_print1_72 : decode prog_13_method_46_code 72 = .ok (.invokevirtual 296, 3) := by decide +kernel
theorem dM_print1_75 : decode prog_13_method_46_code 75 = .ok (.return_, 1) := by decide +kernel
theorem dM_print1_76 : decode prog_13_method_46_code 76 = .ok (.aload_n 0, 1) := by decide +kernel
theorem dM_print1_77 : decode prog_13_method_46_code 77 = .ok (.aload_n 1, 1) := by decide +kernel
theorem dM_print1_78 : decode prog_13_method_46_code 78 = .ok (.getfield 93, 3) := by decide +kernel
theorem dM_print1_81 : decode prog_13_method_46_code 81 = .ok (.iconst 5, 1) := by decide +kernel
theorem dM_print1_82 : decode prog_13_method_46_code 82 = .ok (.if_icmp .ne 8, 3) := by decide +kernel
theorem dM_print1_85 : decode prog_13_method_46_code 85 = .ok (.bipush 91, 2) := by decide +kernel
theorem dM_print1_87 : decode prog_13_method_46_code 87 = .ok (.goto 5, 3) := by decide +kernel
theorem dM_print1_92 : decode prog_13_method_46_code 92 = .ok (.invokevirtual 279, 3) := by decide +kernel
theorem dM_print1_95 : decode prog_13_method_46_code 95 = .ok (.iconst 0, 1) := by decide +kernel
theorem dM_print1_96 : decode prog_13_method_46_code 96 = .ok (.istore_n 2, 1) := by decide +kernel
theorem dM_print1_97 : decode prog_13_method_46_code 97 = .ok (.iload_n 2, 1) := by decide +kernel
theorem dM_print1_98 : decode prog_13_method_46_code 98 = .ok (.aload_n 1, 1) := by decide +kernel
theorem dM_print1_99 : decode prog_13_method_46_code 99 = .ok (.getfield 103, 3) := by decide +kernel
theorem dM_print1_102 : decode prog_13_method_46_code 102 = .ok (.if_icmp .ge 54, 3) := by decide +kernel
theorem dM_print1_156 : decode prog_13_method_46_code 156 = .ok (.aload_n 0, 1) := by decide +kernel
theorem dM_print1_157 : decode prog_13_method_46_code 157 = .ok (.aload_n 1, 1) := by decide +kernel
theorem dM_print1_158 : decode prog_13_method_46_code 158 = .ok (.getfield 93, 3) := by decide +kernel
theorem dM_print1_161 : decode prog_13_method_46_code 161 = .ok (.iconst 5, 1) := by decide +kernel
theorem dM_print1_162 : decode prog_13_method_46_code 162 = .ok (.if_icmp .ne 8, 3) := by decide +kernel
theorem dM_print1_165 : decode prog_13_method_46_code 165 = .ok (.bipush 93, 2) := by decide +kernel
theorem dM_print1_167 : decode prog_13_method_46_code 167 = .ok (.goto 5, 3) := by decide +kernel
theorem dM_print1_172 : decode prog_13_method_46_code 172 = .ok (.invokevirtual 279, 3) := by decide +kernel
theorem dM_print1_175 : decode prog_13_method_46_code 175 = .ok (.return_, 1) := by decide +kernel
theorem dM_put0_0 : decode prog_13_method_41_code 0 = .ok (.aload_n 0, 1) := by decide +kernel
theorem dM_put0_1 : decode prog_13_method_41_code 1 = .ok (.getfield 276, 3) := by decide +kernel
theorem dM_put0_4 : decode prog_13_method_41_code 4 = .ok (.aload_n 0, 1) := by decide +kernel
theorem dM_put0_5 : decode prog_13_method_41_code 5 = .ok (.getfield 49, 3) := by decide +kernel
theorem dM_put0_8 : decode prog_13_method_41_code 8 = .ok (.if_icmp .ne 11, 3) := by decide +kernel
theorem dM_put0_19 : decode prog_13_method_41_code 19 = .ok (.aload_n 0, 1) := by decide +kernel
theorem dM_put0_20 : decode prog_13_method_41_code 20 = .ok (.getfield 276, 3) := by decide +kernel
theorem dM_put0_23 : decode prog_13_method_41_code 23 = .ok (.aload_n 0, 1) := by decide +kernel
theorem dM_put0_24 : decode prog_13_method_41_code 24 = .ok (.getfield 45, 3) := by decide +kernel
theorem dM_put0_27 : decode prog_13_method_41_code 27 = .ok (.arraylength, 1) := by decide +kernel
theorem dM_put0_28 : decode prog_13_method_41_code 28 = .ok (.if_icmp .ne 42, 3) := by decide +kernel
theorem dM_put0_70 : decode prog_13_method_41_code 70 = .ok (.aload_n 0, 1) := by decide +kernel
theorem dM_put0_71 : decode prog_13_method_41_code 71 = .ok (.getfield 45, 3) := by decide +kernel
theorem dM_put0_74 : decode prog_13_method_41_code 74 = .ok (.aload_n 0, 1) := by decide +kernel
theorem dM_put0_75 : decode prog_13_method_41_code 75 = .ok (.getfield 276, 3) := by decide +kernel
theorem dM_put0_78 : decode prog_13_method_41_code 78 = .ok (.iload_n 1, 1) := by decide +kernel
theorem dM_put0_79 : decode prog_13_method_41_code 79 = .ok (.i2b, 1) := by decide +kernel
theorem dM_put0_80 : decode prog_13_method_41_code 80 = .ok (.bastore, 1) := by decide +kernel
theorem dM_put0_81 : decode prog_13_method_41_code 81 = .ok (.aload_n 0, 1) := by decide +kernel
theorem dM_put0_82 : decode prog_13_method_41_code 82 = .ok (.dup, 1) := by decide +kernel
theorem dM_put0_83 : decode prog_13_method_41_code 83 = .ok (.getfield 276, 3) := by decide +kernel
theorem dM_put0_86 : decode prog_13_method_41_code 86 = .ok (.iconst 1, 1) := by decide +kernel
theorem dM_put0_87 : decode prog_13_method_41_code 87 = .ok (.iadd, 1) := by decide +kernel
theorem dM_put0_88 : decode prog_13_method_41_code 88 = .ok (.putfield 276, 3) := by decide +kernel
theorem dM_put0_91 : decode prog_13_method_41_code 91 = .ok (.return_, 1) := by decide +kernel
theorem dM_put1_0 : decode prog_13_method_42_code 0 = .ok (.iconst 0, 1) := by decide +kernel
theorem dM_put1_1 : decode prog_13_method_42_code 1 = .ok (.istore_n 2, 1) := by decide +kernel
theorem dM_put1_2 : decode prog_13_method_42_code 2 = .ok (.iload_n 2, 1) := by decide +kernel
theorem dM_put1_3 : decode prog_13_method_42_code 3 = .ok (.aload_n 1, 1) := by decide +kernel
theorem dM_put1_4 : decode prog_13_method_42_code 4 = .ok (.invokevirtual 131, 3) := by decide +kernel
theorem dM_put1_7 : decode prog_13_method_42_code 7 = .ok (.if_icmp .ge 18, 3) := by decide +kernel
theorem dM_put1_10 : decode prog_13_method_42_code 10 = .ok (.aload_n 0, 1) := by decide +kernel
theorem dM_put1_11 : decode prog_13_method_42_code 11 = .ok (.aload_n 1, 1) := by decide +kernel
theorem dM_put1_12 : decode prog_13_method_42_code 12 = .ok (.iload_n 2, 1) := by decide +kernel
theorem dM_put1_13 : decode prog_13_method_42_code 13 = .ok (.invokevirtual 71, 3) := by decide +kernel
theorem dM_put1_16 : decode prog_13_method_42_code 16 = .ok (.invokevirtual 279, 3) := by decide +kernel
theorem dM_put1_19 : decode prog_13_method_42_code 19 = .ok (.iinc 2 1, 3) := by decide +kernel
theorem dM_put1_22 : decode prog_13_method_42_code 22 = .ok (.goto (-20), 3) := by decide +kernel
theorem dM_put1_25 : decode prog_13_method_42_code 25 = .ok (.return_, 1) := by decide +kernel
theorem dM_putNumber_0 : decode prog_13_method_43_code 0 = .ok (.lload_n 1, 1) := by decide +kernel
theorem dM_putNumber_1 : decode prog_13_method_43_code 1 = .ok (.lconst 0, 1) := by decide +kernel
theorem dM_putNumber_2 : decode prog_13_method_43_code 2 = .ok (.lcmp, 1) := by decide +kernel
theorem dM_putNumber_3 : decode prog_13_method_43_code 3 = .ok (.ifCond .ge 9, 3) := by decide +kernel
theorem dM_putNumber_12 : decode prog_13_method_43_code 12 = .ok (.lload_n 1, 1) := by decide +kernel
theorem dM_putNumber_13 : decode prog_13_method_43_code 13 = .ok (.lconst 0, 1) := by decide +kernel
theorem dM_putNumber_14 : decode prog_13_method_43_code 14 = .ok (.lcmp, 1) := by decide +kernel
theorem dM_putNumber_15 : decode prog_13_method_43_code 15 = .ok (.ifCond .ge 8, 3) := by decide +kernel
theorem dM_putNumber_23 : decode prog_13_method_43_code 23 = .ok (.lload_n 1, 1) := by decide +kernel
theorem dM_putNumber_24 : decode prog_13_method_43_code 24 = .ok (.lstore_n 3, 1) := by decide +kernel
theorem dM_putNumber_25 : decode prog_13_method_43_code 25 = .ok (.lconst 1, 1) := by decide +kernel
theorem dM_putNumber_26 : decode prog_13_method_43_code 26 = .ok (.lstore 5, 2) := by decide +kernel
theorem dM_putNumber_28 : decode prog_13_method_43_code 28 = .ok (.lload_n 3, 1) := by decide +kernel
theorem dM_putNumber_29 : decode prog_13_method_43_code 29 = .ok (.lload 5, 2) := by decide +kernel
theorem dM_putNumber_31 : decode prog_13_method_43_code 31 = .ok (.ldiv, 1) := by decide +kernel
theorem dM_putNumber_32 : decode prog_13_method_43_code 32 = .ok (.ldc2_w 282, 3) := by decide +kernel
theorem dM_putNumber_35 : decode prog_13_method_43_code 35 = .ok (.lcmp, 1) := by decide +kernel
theorem dM_putNumber_36 : decode prog_13_method_43_code 36 = .ok (.ifCond .le 14, 3) := by decide +kernel
theorem dM_putNumber_50 : decode prog_13_method_43_code 50 = .ok (.lload 5, 2) := by decide +kernel
theorem dM_putNumber_52 : decode prog_13_method_43_code 52 = .ok (.lconst 0, 1) := by decide +kernel
theorem dM_putNumber_53 : decode prog_13_method_43_code 53 = .ok (.lcmp, 1) := by decide +kernel
theorem dM_putNumber_54 : decode prog_13_method_43_code 54 = .ok (.ifCond .le 31, 3) := by decide +kernel
theorem dM_putNumber_57 : decode prog_13_method_43_code 57 = .ok (.aload_n 0, 1) := by decide +kernel
theorem dM_putNumber_58 : decode prog_13_method_43_code 58 = .ok (.ldc2_w 258, 3) := by decide +kernel
theorem dM_putNumber_61 : decode prog_13_method_43_code 61 = .ok (.lload_n 3, 1) := by decide +kernel
theorem dM_putNumber_62 : decode prog_13_method_43_code 62 = .ok (.lload 5, 2) := by decide +kernel
theorem dM_putNumber_64 : decode prog_13_method_43_code 64 = .ok (.ldiv, 1) := by decide +kernel
theorem dM_putNumber_65 : decode prog_13_method_43_code 65 = .ok (.ldc2_w 256, 3) := by decide +kernel
theorem dM_putNumber_68 : decode prog_13_method_43_code 68 = .ok (.lrem, 1) := by decide +kernel
theorem dM_putNumber_69 : decode prog_13_method_43_code 69 = .ok (.ladd, 1) := by decide +kernel
theorem dM_putNumber_70 : decode prog_13_method_43_code 70 = .ok (.l2i, 1) := by decide +kernel
theorem dM_putNumber_71 : decode prog_13_method_43_code 71 = .ok (.invokevirtual 279, 3) := by decide +kernel
theorem dM_putNumber_74 : decode prog_13_method_43_code 74 = .ok (.lload 5, 2) := by decide +kernel
theorem dM_putNumber_76 : decode prog_13_method_43_code 76 = .ok (.ldc2_w 256, 3) := by decide +kernel
theorem dM_putNumber_79 : decode prog_13_method_43_code 79 = .ok (.ldiv, 1) := by decide +kernel
theorem dM_putNumber_80 : decode prog_13_method_43_code 80 = .ok (.lstore 5, 2) := by decide +kernel
theorem dM_putNumber_82 : decode prog_13_method_43_code 82 = .ok (.goto (-32), 3) := by decide +kernel
theorem dM_putNumber_85 : decode prog_13_method_43_code 85 = .ok (.return_, 1) := by decide +kernel
theorem dM_putString_0 : decode prog_13_method_45_code 0 = .ok (.aload_n 0, 1) := by decide +kernel
theorem dM_putString_1 : decode prog_13_method_45_code 1 = .ok (.bipush 34, 2) := by decide +kernel
theorem dM_putString_3 : decode prog_13_method_45_code 3 = .ok (.invokevirtual 279, 3) := by decide +kernel
theorem dM_putString_6 : decode prog_13_method_45_code 6 = .ok (.iconst 0, 1) := by decide +kernel
theorem dM_putString_7 : decode prog_13_method_45_code 7 = .ok (.istore_n 2, 1) := by decide +kernel
theorem dM_putString_8 : decode prog_13_method_45_code 8 = .ok (.iload_n 2, 1) := by decide +kernel
theorem dM_putString_9 : decode prog_13_method_45_code 9 = .ok (.aload_n 1, 1) := by decide +kernel
theorem dM_putString_10 : decode prog_13_method_45_code 10 = .ok (.getfield 103, 3) := by decide +kernel
theorem dM_putString_13 : decode prog_13_method_45_code 13 = .ok (.if_icmp .ge 170, 3) := by decide +kernel
theorem dM_putString_16 : decode prog_13_method_45_code 16 = .ok (.aload_n 0, 1) := by decide +kernel
theorem dM_putString_17 : decode prog_13_method_45_code 17 = .ok (.getfield 15, 3) := by decide +kernel
theorem dM_putString_20 : decode prog_13_method_45_code 20 = .ok (.aload_n 1, 1) := by decide +kernel
theorem dM_putString_21 : decode prog_13_method_45_code 21 = .ok (.getfield 100, 3) := by decide +kernel
theorem dM_putString_24 : decode prog_13_method_45_code 24 = .ok (.iload_n 2, 1) := by decide +kernel
theorem dM_putString_25 : decode prog_13_method_45_code 25 = .ok (.iadd, 1) := by decide +kernel
theorem dM_putString_26 : decode prog_13_method_45_code 26 = .ok (.baload, 1) := by decide +kernel
theorem dM_putString_27 : decode prog_13_method_45_code 27 = .ok (.istore_n 3, 1) := by decide +kernel
theorem dM_putString_28 : decode prog_13_method_45_code 28 = .ok (.iload_n 3, 1) := by decide +kernel
theorem dM_putString_29 : decode prog_13_method_45_code 29 = .ok (.bipush 34, 2) := by decide +kernel
theorem dM_putString_31 : decode prog_13_method_45_code 31 = .ok (.if_icmp .eq 9, 3) := by decide +kernel
theorem dM_putString_34 : decode prog_13_method_45_code 34 = .ok (.iload_n 3, 1) := by decide +kernel
theorem dM_putString_35 : decode prog_13_method_45_code 35 = .ok (.bipush 92, 2) := by decide +kernel
theorem dM_putString_37 : decode prog_13_method_45_code 37 = .ok (.if_icmp .ne 17, 3) := by decide +kernel
theorem dM_putString_54 : decode prog_13_method_45_code 54 = .ok (.iload_n 3, 1) := by decide +kernel
theorem dM_putString_55 : decode prog_13_method_45_code 55 = .ok (.bipush 32, 2) := by decide +kernel
theorem dM_putString_57 : decode prog_13_method_45_code 57 = .ok (.if_icmp .lt 17, 3) := by decide +kernel
theorem dM_putString_60 : decode prog_13_method_45_code 60 = .ok (.iload_n 3, 1) := by decide +kernel
theorem dM_putString_61 : decode prog_13_method_45_code 61 = .ok (.bipush 127, 2) := by decide +kernel
theorem dM_putString_63 : decode prog_13_method_45_code 63 = .ok (.if_icmp .ge 11, 3) := by decide +kernel
theorem dM_putString_66 : decode prog_13_method_45_code 66 = .ok (.aload_n 0, 1) := by decide +kernel
theorem dM_putString_67 : decode prog_13_method_45_code 67 = .ok (.iload_n 3, 1) := by decide +kernel
theorem dM_putString_68 : decode prog_13_method_45_code 68 = .ok (.invokevirtual 279, 3) := by decide +kernel
theorem dM_putString_71 : decode prog_13_method_45_code 71 = .ok (.goto 106, 3) := by decide +kernel
theorem dM_putString_177 : decode prog_13_method_45_code 177 = .ok (.iinc 2 1, 3) := by decide +kernel
theorem dM_putString_180 : decode prog_13_method_45_code 180 = .ok (.goto (-172), 3) := by decide +kernel
theorem dM_putString_183 : decode prog_13_method_45_code 183 = .ok (.aload_n 0, 1) := by decide +kernel
theorem dM_putString_184 : decode prog_13_method_45_code 184 = .ok (.bipush 34, 2) := by decide +kernel
theorem dM_putString_186 : decode prog_13_method_45_code 186 = .ok (.invokevirtual 279, 3) := by decide +kernel
theorem dM_putString_189 : decode prog_13_method_45_code 189 = .ok (.return_, 1) := by decide +kernel
theorem dM_read_0 : decode prog_13_method_84_code 0 = .ok (.aload_n 0, 1) := by decide +kernel
theorem dM_read_1 : decode prog_13_method_84_code 1 = .ok (.invokevirtual 424, 3) := by decide +kernel
theorem dM_read_4 : decode prog_13_method_84_code 4 = .ok (.aload_n 0, 1) := by decide +kernel
theorem dM_read_5 : decode prog_13_method_84_code 5 = .ok (.iload_n 1, 1) := by decide +kernel
theorem dM_read_6 : decode prog_13_method_84_code 6 = .ok (.invokevirtual 427, 3) := by decide +kernel
theorem dM_read_9 : decode prog_13_method_84_code 9 = .ok (.ifCond .eq 9, 3) := by decide +kernel
theorem dM_read_12 : decode prog_13_method_84_code 12 = .ok (.aload_n 0, 1) := by decide +kernel
theorem dM_read_13 : decode prog_13_method_84_code 13 = .ok (.iconst 1, 1) := by decide +kernel
theorem dM_read_14 : decode prog_13_method_84_code 14 = .ok (.invokevirtual 418, 3) := by decide +kernel
theorem dM_read_17 : decode prog_13_method_84_code 17 = .ok (.ireturn, 1) := by decide +kernel
theorem dM_read_18 : decode prog_13_method_84_code 18 = .ok (.aload_n 0, 1) := by decide +kernel
theorem dM_read_19 : decode prog_13_method_84_code 19 = .ok (.getfield 421, 3) := by decide +kernel
theorem dM_read_22 : decode prog_13_method_84_code 22 = .ok (.istore_n 2, 1) := by decide +kernel
theorem dM_read_23 : decode prog_13_method_84_code 23 = .ok (.aload_n 0, 1) := by decide +kernel
theorem dM_read_24 : decode prog_13_method_84_code 24 = .ok (.iconst 0, 1) := by decide +kernel
theorem dM_read_25 : decode prog_13_method_84_code 25 = .ok (.putfield 421, 3) := by decide +kernel
theorem dM_read_28 : decode prog_13_method_84_code 28 = .ok (.aload_n 0, 1) := by decide +kernel
theorem dM_read_29 : decode prog_13_method_84_code 29 = .ok (.iconst (-1), 1) := by decide +kernel
theorem dM_read_30 : decode prog_13_method_84_code 30 = .ok (.putfield 66, 3) := by decide +kernel
theorem dM_read_33 : decode prog_13_method_84_code 33 = .ok (.aload_n 0, 1) := by decide +kernel
theorem dM_read_34 : decode prog_13_method_84_code 34 = .ok (.bipush 40, 2) := by decide +kernel
theorem dM_read_36 : decode prog_13_method_84_code 36 = .ok (.putfield 38, 3) := by decide +kernel
theorem dM_read_39 : decode prog_13_method_84_code 39 = .ok (.aload_n 0, 1) := by decide +kernel
theorem dM_read_40 : decode prog_13_method_84_code 40 = .ok (.iload_n 1, 1) := by decide +kernel
theorem dM_read_41 : decode prog_13_method_84_code 41 = .ok (.aload_n 0, 1) := by decide +kernel
theorem dM_read_42 : decode prog_13_method_84_code 42 = .ok (.aload_n 0, 1) := by decide +kernel
theorem dM_read_43 : decode prog_13_method_84_code 43 = .ok (.getfield 60, 3) := by decide +kernel
theorem dM_read_46 : decode prog_13_method_84_code 46 = .ok (.iconst 0, 1) := by decide +kernel
theorem dM_read_47 : decode prog_13_method_84_code 47 = .ok (.iload_n 2, 1) := by decide +kernel
theorem dM_read_48 : decode prog_13_method_84_code 48 = .ok (.invokevirtual 344, 3) := by decide +kernel
theorem dM_read_55 : decode prog_13_method_84_code 55 = .ok (.astore_n 3, 1) := by decide +kernel
theorem dM_read_56 : decode prog_13_method_84_code 56 = .ok (.aload_n 0, 1) := by decide +kernel
theorem dM_read_57 : decode prog_13_method_84_code 57 = .ok (.aload_n 0, 1) := by decide +kernel
theorem dM_read_58 : decode prog_13_method_84_code 58 = .ok (.getfield 42, 3) := by decide +kernel
theorem dM_read_61 : decode prog_13_method_84_code 61 = .ok (.putfield 66, 3) := by decide +kernel
theorem dM_read_64 : decode prog_13_method_84_code 64 = .ok (.aload_n 0, 1) := by decide +kernel
theorem dM_read_65 : decode prog_13_method_84_code 65 = .ok (.iconst 2, 1) := by decide +kernel
theorem dM_read_66 : decode prog_13_method_84_code 66 = .ok (.invokevirtual 418, 3) := by decide +kernel
theorem dM_read_69 : decode prog_13_method_84_code 69 = .ok (.ireturn, 1) := by decide +kernel
theorem dM_refuse_0 : decode prog_13_method_4_code 0 = .ok (.aload_n 0, 1) := by decide +kernel
theorem dM_refuse_1 : decode prog_13_method_4_code 1 = .ok (.iload_n 1, 1) := by decide +kernel
theorem dM_refuse_2 : decode prog_13_method_4_code 2 = .ok (.putfield 80, 3) := by decide +kernel
theorem dM_refuse_5 : decode prog_13_method_4_code 5 = .ok (.new 83, 3) := by decide +kernel
theorem dM_refuse_8 : decode prog_13_method_4_code 8 = .ok (.dup, 1) := by decide +kernel
theorem dM_refuse_9 : decode prog_13_method_4_code 9 = .ok (.invokespecial 85, 3) := by decide +kernel
theorem dM_refuse_12 : decode prog_13_method_4_code 12 = .ok (.athrow, 1) := by decide +kernel
theorem dM_register_0 : decode prog_13_method_79_code 0 = .ok (.aload_n 0, 1) := by decide +kernel
theorem dM_register_1 : decode prog_13_method_79_code 1 = .ok (.bipush 100, 2) := by decide +kernel
theorem dM_register_3 : decode prog_13_method_79_code 3 = .ok (.putfield 38, 3) := by decide +kernel
theorem dM_register_6 : decode prog_13_method_79_code 6 = .ok (.aload_n 0, 1) := by decide +kernel
theorem dM_register_7 : decode prog_13_method_79_code 7 = .ok (.aload_n 0, 1) := by decide +kernel
theorem dM_register_8 : decode prog_13_method_79_code 8 = .ok (.getfield 54, 3) := by decide +kernel
theorem dM_register_11 : decode prog_13_method_79_code 11 = .ok (.iload_n 1, 1) := by decide +kernel
theorem dM_register_12 : decode prog_13_method_79_code 12 = .ok (.aaload, 1) := by decide +kernel
theorem dM_register_13 : decode prog_13_method_79_code 13 = .ok (.iconst 0, 1) := by decide +kernel
theorem dM_register_14 : decode prog_13_method_79_code 14 = .ok (.aload_n 0, 1) := by decide +kernel
theorem dM_register_15 : decode prog_13_method_79_code 15 = .ok (.getfield 57, 3) := by decide +kernel
theorem dM_register_18 : decode prog_13_method_79_code 18 = .ok (.iload_n 1, 1) := by decide +kernel
theorem dM_register_19 : decode prog_13_method_79_code 19 = .ok (.iaload, 1) := by decide +kernel
theorem dM_register_20 : decode prog_13_method_79_code 20 = .ok (.invokevirtual 344, 3) := by decide +kernel
theorem dM_register_23 : decode prog_13_method_79_code 23 = .ok (.areturn, 1) := by decide +kernel
theorem dM_reversed_0 : decode prog_13_method_61_code 0 = .ok (.aload_n 1, 1) := by decide +kernel
theorem dM_reversed_1 : decode prog_13_method_61_code 1 = .ok (.getfield 93, 3) := by decide +kernel
theorem dM_reversed_4 : decode prog_13_method_61_code 4 = .ok (.ifCond .ne 13, 3) := by decide +kernel
theorem dM_reversed_7 : decode prog_13_method_61_code 7 = .ok (.aload_n 0, 1) := by decide +kernel
theorem dM_reversed_8 : decode prog_13_method_61_code 8 = .ok (.iconst 5, 1) := by decide +kernel
theorem dM_reversed_9 : decode prog_13_method_61_code 9 = .ok (.aload_n 0, 1) := by decide +kernel
theorem dM_reversed_10 : decode prog_13_method_61_code 10 = .ok (.getfield 142, 3) := by decide +kernel
theorem dM_reversed_13 : decode prog_13_method_61_code 13 = .ok (.invokevirtual 190, 3) := by decide +kernel
theorem dM_reversed_16 : decode prog_13_method_61_code 16 = .ok (.areturn, 1) := by decide +kernel
theorem dM_same0_0 : decode prog_13_method_86_code 0 = .ok (.aload_n 0, 1) := by decide +kernel
theorem dM_same0_1 : decode prog_13_method_86_code 1 = .ok (.invokevirtual 424, 3) := by decide +kernel
theorem dM_same0_4 : decode prog_13_method_86_code 4 = .ok (.aload_n 0, 1) := by decide +kernel
theorem dM_same0_5 : decode prog_13_method_86_code 5 = .ok (.iload_n 1, 1) := by decide +kernel
theorem dM_same0_6 : decode prog_13_method_86_code 6 = .ok (.invokevirtual 427, 3) := by decide +kernel
theorem dM_same0_9 : decode prog_13_method_86_code 9 = .ok (.ifCond .ne 11, 3) := by decide +kernel
theorem dM_same0_12 : decode prog_13_method_86_code 12 = .ok (.aload_n 0, 1) := by decide +kernel
theorem dM_same0_13 : decode prog_13_method_86_code 13 = .ok (.iload_n 2, 1) := by decide +kernel
theorem dM_same0_14 : decode prog_13_method_86_code 14 = .ok (.invokevirtual 427, 3) := by decide +kernel
theorem dM_same0_17 : decode prog_13_method_86_code 17 = .ok (.ifCond .eq 17, 3) := by decide +kernel
theorem dM_same0_20 : decode prog_13_method_86_code 20 = .ok (.aload_n 0, 1) := by decide +kernel
theorem dM_same0_21 : decode prog_13_method_86_code 21 = .ok (.iconst 1, 1) := by decide +kernel
theorem dM_same0_22 : decode prog_13_method_86_code 22 = .ok (.invokevirtual 418, 3) := by decide +kernel
theorem dM_same0_25 : decode prog_13_method_86_code 25 = .ok (.ifCond .le 7, 3) := by decide +kernel
theorem dM_same0_32 : decode prog_13_method_86_code 32 = .ok (.iconst 0, 1) := by decide +kernel
theorem dM_same0_33 : decode prog_13_method_86_code 33 = .ok (.ireturn, 1) := by decide +kernel
theorem dM_same0_34 : decode prog_13_method_86_code 34 = .ok (.aload_n 0, 1) := by decide +kernel
theorem dM_same0_35 : decode prog_13_method_86_code 35 = .ok (.aload_n 0, 1) := by decide +kernel
theorem dM_same0_36 : decode prog_13_method_86_code 36 = .ok (.iload_n 1, 1) := by decide +kernel
theorem dM_same0_37 : decode prog_13_method_86_code 37 = .ok (.invokevirtual 437, 3) := by decide +kernel
theorem dM_same0_40 : decode prog_13_method_86_code 40 = .ok (.aload_n 0, 1) := by decide +kernel
theorem dM_same0_41 : decode prog_13_method_86_code 41 = .ok (.iload_n 2, 1) := by decide +kernel
theorem dM_same0_42 : decode prog_13_method_86_code 42 = .ok (.invokevirtual 437, 3) := by decide +kernel
theorem dM_same0_45 : decode prog_13_method_86_code 45 = .ok (.invokevirtual 173, 3) := by decide +kernel
theorem dM_same0_48 : decode prog_13_method_86_code 48 = .ok (.ireturn, 1) := by decide +kernel
theorem dM_same1_0 : decode prog_13_method_21_code 0 = .ok (.aload_n 1, 1) := by decide +kernel
theorem dM_same1_1 : decode prog_13_method_21_code 1 = .ok (.getfield 93, 3) := by decide +kernel
theorem dM_same1_4 : decode prog_13_method_21_code 4 = .ok (.aload_n 2, 1) := by decide +kernel
theorem dM_same1_5 : decode prog_13_method_21_code 5 = .ok (.getfield 93, 3) := by decide +kernel
theorem dM_same1_8 : decode prog_13_method_21_code 8 = .ok (.if_icmp .eq 5, 3) := by decide +kernel
theorem dM_same1_13 : decode prog_13_method_21_code 13 = .ok (.aload_n 1, 1) := by decide +kernel
theorem dM_same1_14 : decode prog_13_method_21_code 14 = .ok (.getfield 93, 3) := by decide +kernel
theorem dM_same1_17 : decode prog_13_method_21_code 17 = .ok (.iconst 3, 1) := by decide +kernel
theorem dM_same1_18 : decode prog_13_method_21_code 18 = .ok (.if_icmp .ne 21, 3) := by decide +kernel
theorem dM_same1_39 : decode prog_13_method_21_code 39 = .ok (.aload_n 1, 1) := by decide +kernel
theorem dM_same1_40 : decode prog_13_method_21_code 40 = .ok (.getfield 93, 3) := by decide +kernel
theorem dM_same1_43 : decode prog_13_method_21_code 43 = .ok (.iconst 4, 1) := by decide +kernel
theorem dM_same1_44 : decode prog_13_method_21_code 44 = .ok (.if_icmp .ne 10, 3) := by decide +kernel
theorem dM_same1_54 : decode prog_13_method_21_code 54 = .ok (.aload_n 1, 1) := by decide +kernel
theorem dM_same1_55 : decode prog_13_method_21_code 55 = .ok (.getfield 93, 3) := by decide +kernel
theorem dM_same1_58 : decode prog_13_method_21_code 58 = .ok (.iconst 5, 1) := by decide +kernel
theorem dM_same1_59 : decode prog_13_method_21_code 59 = .ok (.if_icmp .ge 5, 3) := by decide +kernel
theorem dM_same1_62 : decode prog_13_method_21_code 62 = .ok (.iconst 1, 1) := by decide +kernel
theorem dM_same1_63 : decode prog_13_method_21_code 63 = .ok (.ireturn, 1) := by decide +kernel
theorem dM_says_0 : decode prog_13_method_33_code 0 = .ok (.iconst 0, 1) := by decide +kernel
theorem dM_says_1 : decode prog_13_method_33_code 1 = .ok (.istore_n 3, 1) := by decide +kernel
theorem dM_says_2 : decode prog_13_method_33_code 2 = .ok (.iload_n 3, 1) := by decide +kernel
theorem dM_says_3 : decode prog_13_method_33_code 3 = .ok (.aload_n 1, 1) := by decide +kernel
theorem dM_says_4 : decode prog_13_method_33_code 4 = .ok (.invokevirtual 131, 3) := by decide +kernel
theorem dM_says_7 : decode prog_13_method_33_code 7 = .ok (.if_icmp .ge 39, 3) := by decide +kernel
theorem dM_says_10 : decode prog_13_method_33_code 10 = .ok (.aload_n 0, 1) := by decide +kernel
theorem dM_says_11 : decode prog_13_method_33_code 11 = .ok (.invokevirtual 217, 3) := by decide +kernel
theorem dM_says_14 : decode prog_13_method_33_code 14 = .ok (.aload_n 1, 1) := by decide +kernel
theorem dM_says_15 : decode prog_13_method_33_code 15 = .ok (.iload_n 3, 1) := by decide +kernel
theorem dM_says_16 : decode prog_13_method_33_code 16 = .ok (.invokevirtual 71, 3) := by decide +kernel
theorem dM_says_19 : decode prog_13_method_33_code 19 = .ok (.if_icmp .eq 11, 3) := by decide +kernel
theorem dM_says_30 : decode prog_13_method_33_code 30 = .ok (.aload_n 0, 1) := by decide +kernel
theorem dM_says_31 : decode prog_13_method_33_code 31 = .ok (.dup, 1) := by decide +kernel
theorem dM_says_32 : decode prog_13_method_33_code 32 = .ok (.getfield 208, 3) := by decide +kernel
theorem dM_says_35 : decode prog_13_method_33_code 35 = .ok (.iconst 1, 1) := by decide +kernel
theorem dM_says_36 : decode prog_13_method_33_code 36 = .ok (.iadd, 1) := by decide +kernel
theorem dM_says_37 : decode prog_13_method_33_code 37 = .ok (.putfield 208, 3) := by decide +kernel
theorem dM_says_40 : decode prog_13_method_33_code 40 = .ok (.iinc 3 1, 3) := by decide +kernel
theorem dM_says_43 : decode prog_13_method_33_code 43 = .ok (.goto (-41), 3) := by decide +kernel
theorem dM_says_46 : decode prog_13_method_33_code 46 = .ok (.aload_n 0, 1) := by decide +kernel
theorem dM_says_47 : decode prog_13_method_33_code 47 = .ok (.iload_n 2, 1) := by decide +kernel
theorem dM_says_48 : decode prog_13_method_33_code 48 = .ok (.invokevirtual 120, 3) := by decide +kernel
theorem dM_says_51 : decode prog_13_method_33_code 51 = .ok (.areturn, 1) := by decide +kernel
theorem dM_sort0_0 : decode prog_13_method_94_code 0 = .ok (.aload_n 0, 1) := by decide +kernel
theorem dM_sort0_1 : decode prog_13_method_94_code 1 = .ok (.invokevirtual 424, 3) := by decide +kernel
theorem dM_sort0_4 : decode prog_13_method_94_code 4 = .ok (.aload_n 0, 1) := by decide +kernel
theorem dM_sort0_5 : decode prog_13_method_94_code 5 = .ok (.iload_n 1, 1) := by decide +kernel
theorem dM_sort0_6 : decode prog_13_method_94_code 6 = .ok (.invokevirtual 427, 3) := by decide +kernel
theorem dM_sort0_9 : decode prog_13_method_94_code 9 = .ok (.ifCond .ne 29, 3) := by decide +kernel
theorem dM_sort0_12 : decode prog_13_method_94_code 12 = .ok (.iload_n 2, 1) := by decide +kernel
theorem dM_sort0_13 : decode prog_13_method_94_code 13 = .ok (.ifCond .lt 25, 3) := by decide +kernel
theorem dM_sort0_16 : decode prog_13_method_94_code 16 = .ok (.iload_n 2, 1) := by decide +kernel
theorem dM_sort0_17 : decode prog_13_method_94_code 17 = .ok (.iconst 4, 1) := by decide +kernel
theorem dM_sort0_18 : decode prog_13_method_94_code 18 = .ok (.if_icmp .gt 20, 3) := by decide +kernel
theorem dM_sort0_21 : decode prog_13_method_94_code 21 = .ok (.aload_n 0, 1) := by decide +kernel
theorem dM_sort0_22 : decode prog_13_method_94_code 22 = .ok (.iload_n 3, 1) := by decide +kernel
theorem dM_sort0_23 : decode prog_13_method_94_code 23 = .ok (.invokevirtual 427, 3) := by decide +kernel
theorem dM_sort0_26 : decode prog_13_method_94_code 26 = .ok (.ifCond .ne 12, 3) := by decide +kernel
theorem dM_sort0_29 : decode prog_13_method_94_code 29 = .ok (.aload_n 0, 1) := by decide +kernel
theorem dM_sort0_30 : decode prog_13_method_94_code 30 = .ok (.iload 4, 2) := by decide +kernel
theorem dM_sort0_32 : decode prog_13_method_94_code 32 = .ok (.invokevirtual 427, 3) := by decide +kernel
theorem dM_sort0_35 : decode prog_13_method_94_code 35 = .ok (.ifCond .eq 11, 3) := by decide +kernel
theorem dM_sort0_38 : decode prog_13_method_94_code 38 = .ok (.aload_n 0, 1) := by decide +kernel
theorem dM_sort0_39 : decode prog_13_method_94_code 39 = .ok (.iconst 1, 1) := by decide +kernel
theorem dM_sort0_40 : decode prog_13_method_94_code 40 = .ok (.putfield 77, 3) := by decide +kernel
theorem dM_sort0_43 : decode prog_13_method_94_code 43 = .ok (.goto 13, 3) := by decide +kernel
theorem dM_sort0_46 : decode prog_13_method_94_code 46 = .ok (.aload_n 0, 1) := by decide +kernel
theorem dM_sort0_47 : decode prog_13_method_94_code 47 = .ok (.iload_n 1, 1) := by decide +kernel
theorem dM_sort0_48 : decode prog_13_method_94_code 48 = .ok (.iconst 3, 1) := by decide +kernel
theorem dM_sort0_49 : decode prog_13_method_94_code 49 = .ok (.iload_n 2, 1) := by decide +kernel
theorem dM_sort0_50 : decode prog_13_method_94_code 50 = .ok (.iload_n 3, 1) := by decide +kernel
theorem dM_sort0_51 : decode prog_13_method_94_code 51 = .ok (.iload 4, 2) := by decide +kernel
theorem dM_sort0_53 : decode prog_13_method_94_code 53 = .ok (.invokevirtual 442, 3) := by decide +kernel
theorem dM_sort0_56 : decode prog_13_method_94_code 56 = .ok (.return_, 1) := by decide +kernel
theorem dM_store_0 : decode prog_13_method_80_code 0 = .ok (.aload_n 0, 1) := by decide +kernel
theorem dM_store_1 : decode prog_13_method_80_code 1 = .ok (.iconst 0, 1) := by decide +kernel
theorem dM_store_2 : decode prog_13_method_80_code 2 = .ok (.putfield 276, 3) := by decide +kernel
theorem dM_store_5 : decode prog_13_method_80_code 5 = .ok (.aload_n 0, 1) := by decide +kernel
theorem dM_store_6 : decode prog_13_method_80_code 6 = .ok (.sipush 4096, 3) := by decide +kernel
theorem dM_store_9 : decode prog_13_method_80_code 9 = .ok (.putfield 49, 3) := by decide +kernel
theorem dM_store_12 : decode prog_13_method_80_code 12 = .ok (.aload_n 0, 1) := by decide +kernel
theorem dM_store_13 : decode prog_13_method_80_code 13 = .ok (.aload_n 2, 1) := by decide +kernel
theorem dM_store_14 : decode prog_13_method_80_code 14 = .ok (.invokevirtual 299, 3) := by decide +kernel
theorem dM_store_17 : decode prog_13_method_80_code 17 = .ok (.iconst 0, 1) := by decide +kernel
theorem dM_store_18 : decode prog_13_method_80_code 18 = .ok (.istore_n 3, 1) := by decide +kernel
theorem dM_store_19 : decode prog_13_method_80_code 19 = .ok (.iload_n 3, 1) := by decide +kernel
theorem dM_store_20 : decode prog_13_method_80_code 20 = .ok (.aload_n 0, 1) := by decide +kernel
theorem dM_store_21 : decode prog_13_method_80_code 21 = .ok (.getfield 276, 3) := by decide +kernel
theorem dM_store_24 : decode prog_13_method_80_code 24 = .ok (.if_icmp .ge 23, 3) := by decide +kernel
theorem dM_store_27 : decode prog_13_method_80_code 27 = .ok (.aload_n 0, 1) := by decide +kernel
theorem dM_store_28 : decode prog_13_method_80_code 28 = .ok (.getfield 54, 3) := by decide +kernel
theorem dM_store_31 : decode prog_13_method_80_code 31 = .ok (.iload_n 1, 1) := by decide +kernel
theorem dM_store_32 : decode prog_13_method_80_code 32 = .ok (.aaload, 1) := by decide +kernel
theorem dM_store_33 : decode prog_13_method_80_code 33 = .ok (.iload_n 3, 1) := by decide +kernel
theorem dM_store_34 : decode prog_13_method_80_code 34 = .ok (.aload_n 0, 1) := by decide +kernel
theorem dM_store_35 : decode prog_13_method_80_code 35 = .ok (.getfield 45, 3) := by decide +kernel
theorem dM_store_38 : decode prog_13_method_80_code 38 = .ok (.iload_n 3, 1) := by decide +kernel
theorem dM_store_39 : decode prog_13_method_80_code 39 = .ok (.baload, 1) := by decide +kernel
theorem dM_store_40 : decode prog_13_method_80_code 40 = .ok (.bastore, 1) := by decide +kernel
theorem dM_store_41 : decode prog_13_method_80_code 41 = .ok (.iinc 3 1, 3) := by decide +kernel
theorem dM_store_44 : decode prog_13_method_80_code 44 = .ok (.goto (-25), 3) := by decide +kernel
theorem dM_store_47 : decode prog_13_method_80_code 47 = .ok (.aload_n 0, 1) := by decide +kernel
theorem dM_store_48 : decode prog_13_method_80_code 48 = .ok (.getfield 57, 3) := by decide +kernel
theorem dM_store_51 : decode prog_13_method_80_code 51 = .ok (.iload_n 1, 1) := by decide +kernel
theorem dM_store_52 : decode prog_13_method_80_code 52 = .ok (.aload_n 0, 1) := by decide +kernel
theorem dM_store_53 : decode prog_13_method_80_code 53 = .ok (.getfield 276, 3) := by decide +kernel
theorem dM_store_56 : decode prog_13_method_80_code 56 = .ok (.iastore, 1) := by decide +kernel
theorem dM_store_57 : decode prog_13_method_80_code 57 = .ok (.aload_n 0, 1) := by decide +kernel
theorem dM_store_58 : decode prog_13_method_80_code 58 = .ok (.getfield 276, 3) := by decide +kernel
theorem dM_store_61 : decode prog_13_method_80_code 61 = .ok (.ireturn, 1) := by decide +kernel
theorem dM_string_0 : decode prog_13_method_10_code 0 = .ok (.aload_n 0, 1) := by decide +kernel
theorem dM_string_1 : decode prog_13_method_10_code 1 = .ok (.iconst 4, 1) := by decide +kernel
theorem dM_string_2 : decode prog_13_method_10_code 2 = .ok (.invokevirtual 120, 3) := by decide +kernel
theorem dM_string_5 : decode prog_13_method_10_code 5 = .ok (.astore_n 2, 1) := by decide +kernel
theorem dM_string_6 : decode prog_13_method_10_code 6 = .ok (.aload_n 2, 1) := by decide +kernel
theorem dM_string_7 : decode prog_13_method_10_code 7 = .ok (.iload_n 1, 1) := by decide +kernel
theorem dM_string_8 : decode prog_13_method_10_code 8 = .ok (.putfield 100, 3) := by decide +kernel
theorem dM_string_11 : decode prog_13_method_10_code 11 = .ok (.aload_n 2, 1) := by decide +kernel
theorem dM_string_12 : decode prog_13_method_10_code 12 = .ok (.aload_n 0, 1) := by decide +kernel
theorem dM_string_13 : decode prog_13_method_10_code 13 = .ok (.getfield 123, 3) := by decide +kernel
theorem dM_string_16 : decode prog_13_method_10_code 16 = .ok (.iload_n 1, 1) := by decide +kernel
theorem dM_string_17 : decode prog_13_method_10_code 17 = .ok (.isub, 1) := by decide +kernel
theorem dM_string_18 : decode prog_13_method_10_code 18 = .ok (.putfield 103, 3) := by decide +kernel
theorem dM_string_21 : decode prog_13_method_10_code 21 = .ok (.aload_n 2, 1) := by decide +kernel
theorem dM_string_22 : decode prog_13_method_10_code 22 = .ok (.iconst 1, 1) := by decide +kernel
theorem dM_string_23 : decode prog_13_method_10_code 23 = .ok (.aload_n 2, 1) := by decide +kernel
theorem dM_string_24 : decode prog_13_method_10_code 24 = .ok (.getfield 103, 3) := by decide +kernel
theorem dM_string_27 : decode prog_13_method_10_code 27 = .ok (.iadd, 1) := by decide +kernel
theorem dM_string_28 : decode prog_13_method_10_code 28 = .ok (.putfield 109, 3) := by decide +kernel
theorem dM_string_31 : decode prog_13_method_10_code 31 = .ok (.aload_n 2, 1) := by decide +kernel
theorem dM_string_32 : decode prog_13_method_10_code 32 = .ok (.getfield 109, 3) := by decide +kernel
theorem dM_string_35 : decode prog_13_method_10_code 35 = .ok (.ldc 126, 2) := by decide +kernel
theorem dM_string_37 : decode prog_13_method_10_code 37 = .ok (.if_icmp .le 8, 3) := by decide +kernel
theorem dM_string_45 : decode prog_13_method_10_code 45 = .ok (.aload_n 2, 1) := by decide +kernel
theorem dM_string_46 : decode prog_13_method_10_code 46 = .ok (.areturn, 1) := by decide +kernel
theorem dM_text_0 : decode prog_13_method_56_code 0 = .ok (.aload_n 1, 1) := by decide +kernel
theorem dM_text_1 : decode prog_13_method_56_code 1 = .ok (.getfield 93, 3) := by decide +kernel
theorem dM_text_4 : decode prog_13_method_56_code 4 = .ok (.iconst 4, 1) := by decide +kernel
theorem dM_text_5 : decode prog_13_method_56_code 5 = .ok (.if_icmp .ne 7, 3) := by decide +kernel
theorem dM_text_12 : decode prog_13_method_56_code 12 = .ok (.aload_n 0, 1) := by decide +kernel
theorem dM_text_13 : decode prog_13_method_56_code 13 = .ok (.iconst 1, 1) := by decide +kernel
theorem dM_text_14 : decode prog_13_method_56_code 14 = .ok (.invokevirtual 116, 3) := by decide +kernel
theorem dM_thrown_0 : decode prog_13_method_2_code 0 = .ok (.aload_n 0, 1) := by decide +kernel
theorem dM_thrown_1 : decode prog_13_method_2_code 1 = .ok (.getfield 77, 3) := by decide +kernel
theorem dM_thrown_4 : decode prog_13_method_2_code 4 = .ok (.ireturn, 1) := by decide +kernel
theorem dM_times_0 : decode prog_13_method_51_code 0 = .ok (.aload_n 1, 1) := by decide +kernel
theorem dM_times_1 : decode prog_13_method_51_code 1 = .ok (.getfield 93, 3) := by decide +kernel
theorem dM_times_4 : decode prog_13_method_51_code 4 = .ok (.iconst 3, 1) := by decide +kernel
theorem dM_times_5 : decode prog_13_method_51_code 5 = .ok (.if_icmp .ne 65, 3) := by decide +kernel
theorem dM_times_70 : decode prog_13_method_51_code 70 = .ok (.aload_n 1, 1) := by decide +kernel
theorem dM_times_71 : decode prog_13_method_51_code 71 = .ok (.getfield 93, 3) := by decide +kernel
theorem dM_times_74 : decode prog_13_method_51_code 74 = .ok (.bipush 6, 2) := by decide +kernel
theorem dM_times_76 : decode prog_13_method_51_code 76 = .ok (.if_icmp .ne 19, 3) := by decide +kernel
theorem dM_times_95 : decode prog_13_method_51_code 95 = .ok (.aload_n 1, 1) := by decide +kernel
theorem dM_times_96 : decode prog_13_method_51_code 96 = .ok (.getfield 93, 3) := by decide +kernel
theorem dM_times_99 : decode prog_13_method_51_code 99 = .ok (.iconst 3, 1) := by decide +kernel
theorem dM_times_100 : decode prog_13_method_51_code 100 = .ok (.if_icmp .ne 18, 3) := by decide +kernel
theorem dM_times_118 : decode prog_13_method_51_code 118 = .ok (.aload_n 1, 1) := by decide +kernel
theorem dM_times_119 : decode prog_13_method_51_code 119 = .ok (.getfield 93, 3) := by decide +kernel
theorem dM_times_122 : decode prog_13_method_51_code 122 = .ok (.iconst 4, 1) := by decide +kernel
theorem dM_times_123 : decode prog_13_method_51_code 123 = .ok (.if_icmp .ne 11, 3) := by decide +kernel
theorem dM_times_134 : decode prog_13_method_51_code 134 = .ok (.aload_n 0, 1) := by decide +kernel
theorem dM_times_135 : decode prog_13_method_51_code 135 = .ok (.iconst 1, 1) := by decide +kernel
theorem dM_times_136 : decode prog_13_method_51_code 136 = .ok (.invokevirtual 116, 3) := by decide +kernel
theorem dM_toNumber_0 : decode prog_13_method_59_code 0 = .ok (.aload_n 1, 1) := by decide +kernel
theorem dM_toNumber_1 : decode prog_13_method_59_code 1 = .ok (.getfield 93, 3) := by decide +kernel
theorem dM_toNumber_4 : decode prog_13_method_59_code 4 = .ok (.iconst 3, 1) := by decide +kernel
theorem dM_toNumber_5 : decode prog_13_method_59_code 5 = .ok (.if_icmp .ne 5, 3) := by decide +kernel
theorem dM_toNumber_10 : decode prog_13_method_59_code 10 = .ok (.aload_n 0, 1) := by decide +kernel
theorem dM_toNumber_11 : decode prog_13_method_59_code 11 = .ok (.aload_n 1, 1) := by decide +kernel
theorem dM_toNumber_12 : decode prog_13_method_59_code 12 = .ok (.invokevirtual 341, 3) := by decide +kernel
theorem dM_told_0 : decode prog_13_method_47_code 0 = .ok (.aload_n 0, 1) := by decide +kernel
theorem dM_told_1 : decode prog_13_method_47_code 1 = .ok (.getfield 276, 3) := by decide +kernel
theorem dM_told_4 : decode prog_13_method_47_code 4 = .ok (.istore_n 2, 1) := by decide +kernel
theorem dM_told_5 : decode prog_13_method_47_code 5 = .ok (.aload_n 0, 1) := by decide +kernel
theorem dM_told_6 : decode prog_13_method_47_code 6 = .ok (.getfield 49, 3) := by decide +kernel
theorem dM_told_9 : decode prog_13_method_47_code 9 = .ok (.istore_n 3, 1) := by decide +kernel
theorem dM_told_10 : decode prog_13_method_47_code 10 = .ok (.aload_n 0, 1) := by decide +kernel
theorem dM_told_11 : decode prog_13_method_47_code 11 = .ok (.iload_n 2, 1) := by decide +kernel
theorem dM_told_12 : decode prog_13_method_47_code 12 = .ok (.ldc 126, 2) := by decide +kernel
theorem dM_told_14 : decode prog_13_method_47_code 14 = .ok (.iadd, 1) := by decide +kernel
theorem dM_told_15 : decode prog_13_method_47_code 15 = .ok (.putfield 49, 3) := by decide +kernel
theorem dM_told_18 : decode prog_13_method_47_code 18 = .ok (.aload_n 0, 1) := by decide +kernel
theorem dM_told_19 : decode prog_13_method_47_code 19 = .ok (.getfield 123, 3) := by decide +kernel
theorem dM_told_22 : decode prog_13_method_47_code 22 = .ok (.istore 4, 2) := by decide +kernel
theorem dM_told_24 : decode prog_13_method_47_code 24 = .ok (.aload_n 0, 1) := by decide +kernel
theorem dM_told_25 : decode prog_13_method_47_code 25 = .ok (.aload_n 1, 1) := by decide +kernel
theorem dM_told_26 : decode prog_13_method_47_code 26 = .ok (.invokevirtual 299, 3) := by decide +kernel
theorem dM_told_29 : decode prog_13_method_47_code 29 = .ok (.iload_n 2, 1) := by decide +kernel
theorem dM_told_30 : decode prog_13_method_47_code 30 = .ok (.istore 5, 2) := by decide +kernel
theorem dM_told_32 : decode prog_13_method_47_code 32 = .ok (.iload 5, 2) := by decide +kernel
theorem dM_told_34 : decode prog_13_method_47_code 34 = .ok (.aload_n 0, 1) := by decide +kernel
theorem dM_told_35 : decode prog_13_method_47_code 35 = .ok (.getfield 276, 3) := by decide +kernel
theorem dM_told_38 : decode prog_13_method_47_code 38 = .ok (.if_icmp .ge 20, 3) := by decide +kernel
theorem dM_told_41 : decode prog_13_method_47_code 41 = .ok (.aload_n 0, 1) := by decide +kernel
theorem dM_told_42 : decode prog_13_method_47_code 42 = .ok (.aload_n 0, 1) := by decide +kernel
theorem dM_told_43 : decode prog_13_method_47_code 43 = .ok (.getfield 45, 3) := by decide +kernel
theorem dM_told_46 : decode prog_13_method_47_code 46 = .ok (.iload 5, 2) := by decide +kernel
theorem dM_told_48 : decode prog_13_method_47_code 48 = .ok (.baload, 1) := by decide +kernel
theorem dM_told_49 : decode prog_13_method_47_code 49 = .ok (.invokevirtual 135, 3) := by decide +kernel
theorem dM_told_52 : decode prog_13_method_47_code 52 = .ok (.iinc 5 1, 3) := by decide +kernel
theorem dM_told_55 : decode prog_13_method_47_code 55 = .ok (.goto (-23), 3) := by decide +kernel
theorem dM_told_58 : decode prog_13_method_47_code 58 = .ok (.aload_n 0, 1) := by decide +kernel
theorem dM_told_59 : decode prog_13_method_47_code 59 = .ok (.iload_n 2, 1) := by decide +kernel
theorem dM_told_60 : decode prog_13_method_47_code 60 = .ok (.putfield 276, 3) := by decide +kernel
theorem dM_told_63 : decode prog_13_method_47_code 63 = .ok (.aload_n 0, 1) := by decide +kernel
theorem dM_told_64 : decode prog_13_method_47_code 64 = .ok (.iload_n 3, 1) := by decide +kernel
theorem dM_told_65 : decode prog_13_method_47_code 65 = .ok (.putfield 49, 3) := by decide +kernel
theorem dM_told_68 : decode prog_13_method_47_code 68 = .ok (.aload_n 0, 1) := by decide +kernel
theorem dM_told_69 : decode prog_13_method_47_code 69 = .ok (.iload 4, 2) := by decide +kernel
theorem dM_told_71 : decode prog_13_method_47_code 71 = .ok (.invokevirtual 139, 3) := by decide +kernel
theorem dM_told_74 : decode prog_13_method_47_code 74 = .ok (.areturn, 1) := by decide +kernel
theorem dM_truth_0 : decode prog_13_method_8_code 0 = .ok (.aload_n 0, 1) := by decide +kernel
theorem dM_truth_1 : decode prog_13_method_8_code 1 = .ok (.iload_n 1, 1) := by decide +kernel
theorem dM_truth_2 : decode prog_13_method_8_code 2 = .ok (.ifCond .eq 7, 3) := by decide +kernel
theorem dM_truth_5 : decode prog_13_method_8_code 5 = .ok (.iconst 2, 1) := by decide +kernel
theorem dM_truth_6 : decode prog_13_method_8_code 6 = .ok (.goto 4, 3) := by decide +kernel
theorem dM_truth_10 : decode prog_13_method_8_code 10 = .ok (.invokevirtual 120, 3) := by decide +kernel
theorem dM_truth_13 : decode prog_13_method_8_code 13 = .ok (.areturn, 1) := by decide +kernel
theorem dM_two0_0 : decode prog_13_method_93_code 0 = .ok (.aload_n 0, 1) := by decide +kernel
theorem dM_two0_1 : decode prog_13_method_93_code 1 = .ok (.invokevirtual 424, 3) := by decide +kernel
theorem dM_two0_4 : decode prog_13_method_93_code 4 = .ok (.aload_n 0, 1) := by decide +kernel
theorem dM_two0_5 : decode prog_13_method_93_code 5 = .ok (.iload_n 1, 1) := by decide +kernel
theorem dM_two0_6 : decode prog_13_method_93_code 6 = .ok (.invokevirtual 427, 3) := by decide +kernel
theorem dM_two0_9 : decode prog_13_method_93_code 9 = .ok (.ifCond .ne 30, 3) := by decide +kernel
theorem dM_two0_12 : decode prog_13_method_93_code 12 = .ok (.iload_n 2, 1) := by decide +kernel
theorem dM_two0_13 : decode prog_13_method_93_code 13 = .ok (.ifCond .lt 26, 3) := by decide +kernel
theorem dM_two0_16 : decode prog_13_method_93_code 16 = .ok (.iload_n 2, 1) := by decide +kernel
theorem dM_two0_17 : decode prog_13_method_93_code 17 = .ok (.bipush 9, 2) := by decide +kernel
theorem dM_two0_19 : decode prog_13_method_93_code 19 = .ok (.if_icmp .gt 20, 3) := by decide +kernel
theorem dM_two0_22 : decode prog_13_method_93_code 22 = .ok (.aload_n 0, 1) := by decide +kernel
theorem dM_two0_23 : decode prog_13_method_93_code 23 = .ok (.iload_n 3, 1) := by decide +kernel
theorem dM_two0_24 : decode prog_13_method_93_code 24 = .ok (.invokevirtual 427, 3) := by decide +kernel
theorem dM_two0_27 : decode prog_13_method_93_code 27 = .ok (.ifCond .ne 12, 3) := by decide +kernel
theorem dM_two0_30 : decode prog_13_method_93_code 30 = .ok (.aload_n 0, 1) := by decide +kernel
theorem dM_two0_31 : decode prog_13_method_93_code 31 = .ok (.iload 4, 2) := by decide +kernel
theorem dM_two0_33 : decode prog_13_method_93_code 33 = .ok (.invokevirtual 427, 3) := by decide +kernel
theorem dM_two0_36 : decode prog_13_method_93_code 36 = .ok (.ifCond .eq 11, 3) := by decide +kernel
theorem dM_two0_39 : decode prog_13_method_93_code 39 = .ok (.aload_n 0, 1) := by decide +kernel
theorem dM_two0_40 : decode prog_13_method_93_code 40 = .ok (.iconst 1, 1) := by decide +kernel
theorem dM_two0_41 : decode prog_13_method_93_code 41 = .ok (.putfield 77, 3) := by decide +kernel
theorem dM_two0_44 : decode prog_13_method_93_code 44 = .ok (.goto 13, 3) := by decide +kernel
theorem dM_two0_47 : decode prog_13_method_93_code 47 = .ok (.aload_n 0, 1) := by decide +kernel
theorem dM_two0_48 : decode prog_13_method_93_code 48 = .ok (.iload_n 1, 1) := by decide +kernel
theorem dM_two0_49 : decode prog_13_method_93_code 49 = .ok (.iconst 2, 1) := by decide +kernel
theorem dM_two0_50 : decode prog_13_method_93_code 50 = .ok (.iload_n 2, 1) := by decide +kernel
theorem dM_two0_51 : decode prog_13_method_93_code 51 = .ok (.iload_n 3, 1) := by decide +kernel
theorem dM_two0_52 : decode prog_13_method_93_code 52 = .ok (.iload 4, 2) := by decide +kernel
theorem dM_two0_54 : decode prog_13_method_93_code 54 = .ok (.invokevirtual 442, 3) := by decide +kernel
theorem dM_two0_57 : decode prog_13_method_93_code 57 = .ok (.return_, 1) := by decide +kernel
theorem dM_two1_0 : decode prog_13_method_76_code 0 = .ok (.iload_n 1, 1) := by decide +kernel
theorem dM_two1_1 : decode prog_13_method_76_code 1 = .ok (.tableswitch 253 0 8 #[51, 58, 86, 93, 137, 191, 211, 239, 246], 51) := by decide +kernel
theorem dM_two1_52 : decode prog_13_method_76_code 52 = .ok (.aload_n 0, 1) := by decide +kernel
theorem dM_two1_53 : decode prog_13_method_76_code 53 = .ok (.aload_n 2, 1) := by decide +kernel
theorem dM_two1_54 : decode prog_13_method_76_code 54 = .ok (.aload_n 3, 1) := by decide +kernel
theorem dM_two1_55 : decode prog_13_method_76_code 55 = .ok (.invokevirtual 401, 3) := by decide +kernel
theorem dM_two1_59 : decode prog_13_method_76_code 59 = .ok (.aload_n 0, 1) := by decide +kernel
theorem dM_two1_60 : decode prog_13_method_76_code 60 = .ok (.aload_n 2, 1) := by decide +kernel
theorem dM_two1_61 : decode prog_13_method_76_code 61 = .ok (.aload_n 3, 1) := by decide +kernel
theorem dM_two1_62 : decode prog_13_method_76_code 62 = .ok (.invokevirtual 384, 3) := by decide +kernel
theorem dM_two1_65 : decode prog_13_method_76_code 65 = .ok (.ifCond .eq 16, 3) := by decide +kernel
theorem dM_two1_68 : decode prog_13_method_76_code 68 = .ok (.aload_n 0, 1) := by decide +kernel
theorem dM_two1_69 : decode prog_13_method_76_code 69 = .ok (.aload_n 0, 1) := by decide +kernel
theorem dM_two1_70 : decode prog_13_method_76_code 70 = .ok (.aload_n 2, 1) := by decide +kernel
theorem dM_two1_71 : decode prog_13_method_76_code 71 = .ok (.aload_n 3, 1) := by decide +kernel
theorem dM_two1_72 : decode prog_13_method_76_code 72 = .ok (.invokevirtual 391, 3) := by decide +kernel
theorem dM_two1_75 : decode prog_13_method_76_code 75 = .ok (.invokevirtual 354, 3) := by decide +kernel
theorem dM_two1_78 : decode prog_13_method_76_code 78 = .ok (.goto 8, 3) := by decide +kernel
theorem dM_two1_86 : decode prog_13_method_76_code 86 = .ok (.areturn, 1) := by decide +kernel
theorem dM_two1_87 : decode prog_13_method_76_code 87 = .ok (.aload_n 0, 1) := by decide +kernel
theorem dM_two1_88 : decode prog_13_method_76_code 88 = .ok (.aload_n 2, 1) := by decide +kernel
theorem dM_two1_89 : decode prog_13_method_76_code 89 = .ok (.aload_n 3, 1) := by decide +kernel
theorem dM_two1_90 : decode prog_13_method_76_code 90 = .ok (.invokevirtual 404, 3) := by decide +kernel
theorem dM_two1_94 : decode prog_13_method_76_code 94 = .ok (.aload_n 2, 1) := by decide +kernel
theorem dM_two1_95 : decode prog_13_method_76_code 95 = .ok (.getfield 93, 3) := by decide +kernel
theorem dM_two1_98 : decode prog_13_method_76_code 98 = .ok (.iconst 4, 1) := by decide +kernel
theorem dM_two1_99 : decode prog_13_method_76_code 99 = .ok (.if_icmp .ne 37, 3) := by decide +kernel
theorem dM_two1_136 : decode prog_13_method_76_code 136 = .ok (.aload_n 2, 1) := by decide +kernel
theorem dM_two1_137 : decode prog_13_method_76_code 137 = .ok (.areturn, 1) := by decide +kernel
theorem dM_two1_138 : decode prog_13_method_76_code 138 = .ok (.aload_n 2, 1) := by decide +kernel
theorem dM_two1_139 : decode prog_13_method_76_code 139 = .ok (.getfield 93, 3) := by decide +kernel
theorem dM_two1_142 : decode prog_13_method_76_code 142 = .ok (.iconst 4, 1) := by decide +kernel
theorem dM_two1_143 : decode prog_13_method_76_code 143 = .ok (.if_icmp .ne 47, 3) := by decide +kernel
theorem dM_two1_190 : decode prog_13_method_76_code 190 = .ok (.aload_n 2, 1) := by decide +kernel
theorem dM_two1_191 : decode prog_13_method_76_code 191 = .ok (.areturn, 1) := by decide +kernel
theorem dM_two1_192 : decode prog_13_method_76_code 192 = .ok (.aload_n 0, 1) := by decide +kernel
theorem dM_two1_193 : decode prog_13_method_76_code 193 = .ok (.aload_n 0, 1) := by decide +kernel
theorem dM_two1_194 : decode prog_13_method_76_code 194 = .ok (.aload_n 0, 1) := by decide +kernel
theorem dM_two1_195 : decode prog_13_method_76_code 195 = .ok (.aload_n 2, 1) := by decide +kernel
theorem dM_two1_196 : decode prog_13_method_76_code 196 = .ok (.invokevirtual 341, 3) := by decide +kernel
theorem dM_two1_212 : decode prog_13_method_76_code 212 = .ok (.aload_n 0, 1) := by decide +kernel
theorem dM_two1_213 : decode prog_13_method_76_code 213 = .ok (.aload_n 0, 1) := by decide +kernel
theorem dM_two1_214 : decode prog_13_method_76_code 214 = .ok (.aload_n 0, 1) := by decide +kernel
theorem dM_two1_215 : decode prog_13_method_76_code 215 = .ok (.aload_n 2, 1) := by decide +kernel
theorem dM_two1_216 : decode prog_13_method_76_code 216 = .ok (.invokevirtual 341, 3) := by decide +kernel
theorem dM_two1_240 : decode prog_13_method_76_code 240 = .ok (.aload_n 0, 1) := by decide +kernel
theorem dM_two1_241 : decode prog_13_method_76_code 241 = .ok (.aload_n 2, 1) := by decide +kernel
theorem dM_two1_242 : decode prog_13_method_76_code 242 = .ok (.aload_n 3, 1) := by decide +kernel
theorem dM_two1_243 : decode prog_13_method_76_code 243 = .ok (.invokevirtual 398, 3) := by decide +kernel
theorem dM_two1_246 : decode prog_13_method_76_code 246 = .ok (.areturn, 1) := by decide +kernel
theorem dM_two1_247 : decode prog_13_method_76_code 247 = .ok (.aload_n 0, 1) := by decide +kernel
theorem dM_two1_248 : decode prog_13_method_76_code 248 = .ok (.aload_n 2, 1) := by decide +kernel
theorem dM_two1_249 : decode prog_13_method_76_code 249 = .ok (.aload_n 3, 1) := by decide +kernel
theorem dM_two1_250 : decode prog_13_method_76_code 250 = .ok (.invokevirtual 407, 3) := by decide +kernel
theorem dM_two1_254 : decode prog_13_method_76_code 254 = .ok (.aload_n 0, 1) := by decide +kernel
theorem dM_two1_255 : decode prog_13_method_76_code 255 = .ok (.aload_n 2, 1) := by decide +kernel
theorem dM_two1_256 : decode prog_13_method_76_code 256 = .ok (.aload_n 3, 1) := by decide +kernel
theorem dM_two1_257 : decode prog_13_method_76_code 257 = .ok (.invokevirtual 410, 3) := by decide +kernel
theorem dM_two1_260 : decode prog_13_method_76_code 260 = .ok (.areturn, 1) := by decide +kernel
theorem dM_value_0 : decode prog_13_method_34_code 0 = .ok (.aload_n 0, 1) := by decide +kernel
theorem dM_value_1 : decode prog_13_method_34_code 1 = .ok (.invokevirtual 226, 3) := by decide +kernel
theorem dM_value_4 : decode prog_13_method_34_code 4 = .ok (.aload_n 0, 1) := by decide +kernel
theorem dM_value_5 : decode prog_13_method_34_code 5 = .ok (.invokevirtual 217, 3) := by decide +kernel
theorem dM_value_8 : decode prog_13_method_34_code 8 = .ok (.istore_n 1, 1) := by decide +kernel
theorem dM_value_9 : decode prog_13_method_34_code 9 = .ok (.iload_n 1, 1) := by decide +kernel
theorem dM_value_10 : decode prog_13_method_34_code 10 = .ok (.bipush 110, 2) := by decide +kernel
theorem dM_value_12 : decode prog_13_method_34_code 12 = .ok (.if_icmp .ne 11, 3) := by decide +kernel
theorem dM_value_15 : decode prog_13_method_34_code 15 = .ok (.aload_n 0, 1) := by decide +kernel
theorem dM_value_16 : decode prog_13_method_34_code 16 = .ok (.ldc 69, 2) := by decide +kernel
theorem dM_value_18 : decode prog_13_method_34_code 18 = .ok (.iconst 0, 1) := by decide +kernel
theorem dM_value_19 : decode prog_13_method_34_code 19 = .ok (.invokevirtual 232, 3) := by decide +kernel
theorem dM_value_22 : decode prog_13_method_34_code 22 = .ok (.areturn, 1) := by decide +kernel
theorem dM_value_23 : decode prog_13_method_34_code 23 = .ok (.iload_n 1, 1) := by decide +kernel
theorem dM_value_24 : decode prog_13_method_34_code 24 = .ok (.bipush 116, 2) := by decide +kernel
theorem dM_value_26 : decode prog_13_method_34_code 26 = .ok (.if_icmp .ne 11, 3) := by decide +kernel
theorem dM_value_37 : decode prog_13_method_34_code 37 = .ok (.iload_n 1, 1) := by decide +kernel
theorem dM_value_38 : decode prog_13_method_34_code 38 = .ok (.bipush 102, 2) := by decide +kernel
theorem dM_value_40 : decode prog_13_method_34_code 40 = .ok (.if_icmp .ne 11, 3) := by decide +kernel
theorem dM_value_51 : decode prog_13_method_34_code 51 = .ok (.iload_n 1, 1) := by decide +kernel
theorem dM_value_52 : decode prog_13_method_34_code 52 = .ok (.bipush 34, 2) := by decide +kernel
theorem dM_value_54 : decode prog_13_method_34_code 54 = .ok (.if_icmp .ne 8, 3) := by decide +kernel
theorem dM_value_62 : decode prog_13_method_34_code 62 = .ok (.iload_n 1, 1) := by decide +kernel
theorem dM_value_63 : decode prog_13_method_34_code 63 = .ok (.bipush 45, 2) := by decide +kernel
theorem dM_value_65 : decode prog_13_method_34_code 65 = .ok (.if_icmp .eq 10, 3) := by decide +kernel
theorem dM_value_68 : decode prog_13_method_34_code 68 = .ok (.iload_n 1, 1) := by decide +kernel
theorem dM_value_69 : decode prog_13_method_34_code 69 = .ok (.invokestatic 243, 3) := by decide +kernel
theorem dM_value_72 : decode prog_13_method_34_code 72 = .ok (.ifCond .eq 8, 3) := by decide +kernel
theorem dM_value_80 : decode prog_13_method_34_code 80 = .ok (.iload_n 1, 1) := by decide +kernel
theorem dM_value_81 : decode prog_13_method_34_code 81 = .ok (.bipush 91, 2) := by decide +kernel
theorem dM_value_83 : decode prog_13_method_34_code 83 = .ok (.if_icmp .eq 9, 3) := by decide +kernel
theorem dM_value_86 : decode prog_13_method_34_code 86 = .ok (.iload_n 1, 1) := by decide +kernel
theorem dM_value_87 : decode prog_13_method_34_code 87 = .ok (.bipush 123, 2) := by decide +kernel
theorem dM_value_89 : decode prog_13_method_34_code 89 = .ok (.if_icmp .ne 14, 3) := by decide +kernel
theorem dM_value_103 : decode prog_13_method_34_code 103 = .ok (.aload_n 0, 1) := by decide +kernel
theorem dM_value_104 : decode prog_13_method_34_code 104 = .ok (.aload_n 0, 1) := by decide +kernel
theorem dM_value_105 : decode prog_13_method_34_code 105 = .ok (.getfield 208, 3) := by decide +kernel
theorem dM_value_108 : decode prog_13_method_34_code 108 = .ok (.invokevirtual 229, 3) := by decide +kernel
theorem dM_whole_0 : decode prog_13_method_15_code 0 = .ok (.aload_n 0, 1) := by decide +kernel
theorem dM_whole_1 : decode prog_13_method_15_code 1 = .ok (.iload_n 1, 1) := by decide +kernel
theorem dM_whole_2 : decode prog_13_method_15_code 2 = .ok (.invokevirtual 120, 3) := by decide +kernel
theorem dM_whole_5 : decode prog_13_method_15_code 5 = .ok (.astore_n 3, 1) := by decide +kernel
theorem dM_whole_6 : decode prog_13_method_15_code 6 = .ok (.aload_n 3, 1) := by decide +kernel
theorem dM_whole_7 : decode prog_13_method_15_code 7 = .ok (.aload_n 0, 1) := by decide +kernel
theorem dM_whole_8 : decode prog_13_method_15_code 8 = .ok (.getfield 145, 3) := by decide +kernel
theorem dM_whole_11 : decode prog_13_method_15_code 11 = .ok (.putfield 100, 3) := by decide +kernel
theorem dM_whole_14 : decode prog_13_method_15_code 14 = .ok (.aload_n 3, 1) := by decide +kernel
theorem dM_whole_15 : decode prog_13_method_15_code 15 = .ok (.aload_n 0, 1) := by decide +kernel
theorem dM_whole_16 : decode prog_13_method_15_code 16 = .ok (.getfield 142, 3) := by decide +kernel
theorem dM_whole_19 : decode prog_13_method_15_code 19 = .ok (.iload_n 2, 1) := by decide +kernel
theorem dM_whole_20 : decode prog_13_method_15_code 20 = .ok (.isub, 1) := by decide +kernel
theorem dM_whole_21 : decode prog_13_method_15_code 21 = .ok (.putfield 103, 3) := by decide +kernel
theorem dM_whole_24 : decode prog_13_method_15_code 24 = .ok (.aload_n 0, 1) := by decide +kernel
theorem dM_whole_25 : decode prog_13_method_15_code 25 = .ok (.getfield 145, 3) := by decide +kernel
theorem dM_whole_28 : decode prog_13_method_15_code 28 = .ok (.aload_n 3, 1) := by decide +kernel
theorem dM_whole_29 : decode prog_13_method_15_code 29 = .ok (.getfield 103, 3) := by decide +kernel
theorem dM_whole_32 : decode prog_13_method_15_code 32 = .ok (.iadd, 1) := by decide +kernel
theorem dM_whole_33 : decode prog_13_method_15_code 33 = .ok (.aload_n 0, 1) := by decide +kernel
theorem dM_whole_34 : decode prog_13_method_15_code 34 = .ok (.getfield 19, 3) := by decide +kernel
theorem dM_whole_37 : decode prog_13_method_15_code 37 = .ok (.arraylength, 1) := by decide +kernel
theorem dM_whole_38 : decode prog_13_method_15_code 38 = .ok (.if_icmp .le 84, 3) := by decide +kernel
theorem dM_whole_122 : decode prog_13_method_15_code 122 = .ok (.lconst 1, 1) := by decide +kernel
theorem dM_whole_123 : decode prog_13_method_15_code 123 = .ok (.lstore 4, 2) := by decide +kernel
theorem dM_whole_125 : decode prog_13_method_15_code 125 = .ok (.iconst 0, 1) := by decide +kernel
theorem dM_whole_126 : decode prog_13_method_15_code 126 = .ok (.istore 6, 2) := by decide +kernel
theorem dM_whole_128 : decode prog_13_method_15_code 128 = .ok (.iload_n 2, 1) := by decide +kernel
theorem dM_whole_129 : decode prog_13_method_15_code 129 = .ok (.istore 7, 2) := by decide +kernel
theorem dM_whole_131 : decode prog_13_method_15_code 131 = .ok (.iload 7, 2) := by decide +kernel
theorem dM_whole_133 : decode prog_13_method_15_code 133 = .ok (.aload_n 0, 1) := by decide +kernel
theorem dM_whole_134 : decode prog_13_method_15_code 134 = .ok (.getfield 142, 3) := by decide +kernel
theorem dM_whole_137 : decode prog_13_method_15_code 137 = .ok (.if_icmp .ge 105, 3) := by decide +kernel
theorem dM_whole_242 : decode prog_13_method_15_code 242 = .ok (.aload_n 0, 1) := by decide +kernel
theorem dM_whole_243 : decode prog_13_method_15_code 243 = .ok (.iload_n 2, 1) := by decide +kernel
theorem dM_whole_244 : decode prog_13_method_15_code 244 = .ok (.putfield 142, 3) := by decide +kernel
theorem dM_whole_247 : decode prog_13_method_15_code 247 = .ok (.aload_n 3, 1) := by decide +kernel
theorem dM_whole_248 : decode prog_13_method_15_code 248 = .ok (.iload 6, 2) := by decide +kernel
theorem dM_whole_250 : decode prog_13_method_15_code 250 = .ok (.iconst 1, 1) := by decide +kernel
theorem dM_whole_251 : decode prog_13_method_15_code 251 = .ok (.iadd, 1) := by decide +kernel
theorem dM_whole_252 : decode prog_13_method_15_code 252 = .ok (.putfield 106, 3) := by decide +kernel
theorem dM_whole_255 : decode prog_13_method_15_code 255 = .ok (.aload_n 3, 1) := by decide +kernel
theorem dM_whole_256 : decode prog_13_method_15_code 256 = .ok (.getfield 106, 3) := by decide +kernel
theorem dM_whole_259 : decode prog_13_method_15_code 259 = .ok (.bipush 60, 2) := by decide +kernel
theorem dM_whole_261 : decode prog_13_method_15_code 261 = .ok (.if_icmp .gt 12, 3) := by decide +kernel
theorem dM_whole_264 : decode prog_13_method_15_code 264 = .ok (.lload 4, 2) := by decide +kernel
theorem dM_whole_266 : decode prog_13_method_15_code 266 = .ok (.ldc2_w 154, 3) := by decide +kernel
theorem dM_whole_269 : decode prog_13_method_15_code 269 = .ok (.lcmp, 1) := by decide +kernel
theorem dM_whole_270 : decode prog_13_method_15_code 270 = .ok (.ifCond .le 8, 3) := by decide +kernel
theorem dM_whole_278 : decode prog_13_method_15_code 278 = .ok (.aload_n 3, 1) := by decide +kernel
theorem dM_whole_279 : decode prog_13_method_15_code 279 = .ok (.lload 4, 2) := by decide +kernel
theorem dM_whole_281 : decode prog_13_method_15_code 281 = .ok (.l2i, 1) := by decide +kernel
theorem dM_whole_282 : decode prog_13_method_15_code 282 = .ok (.putfield 109, 3) := by decide +kernel
theorem dM_whole_285 : decode prog_13_method_15_code 285 = .ok (.aload_n 3, 1) := by decide +kernel
theorem dM_whole_286 : decode prog_13_method_15_code 286 = .ok (.areturn, 1) := by decide +kernel
theorem dM_word_0 : decode prog_13_method_87_code 0 = .ok (.aload_n 0, 1) := by decide +kernel
theorem dM_word_1 : decode prog_13_method_87_code 1 = .ok (.iconst 0, 1) := by decide +kernel
theorem dM_word_2 : decode prog_13_method_87_code 2 = .ok (.putfield 77, 3) := by decide +kernel
theorem dM_word_5 : decode prog_13_method_87_code 5 = .ok (.iload_n 1, 1) := by decide +kernel
theorem dM_word_6 : decode prog_13_method_87_code 6 = .ok (.ifCond .lt 11, 3) := by decide +kernel
theorem dM_word_9 : decode prog_13_method_87_code 9 = .ok (.iload_n 1, 1) := by decide +kernel
theorem dM_word_10 : decode prog_13_method_87_code 10 = .ok (.aload_n 0, 1) := by decide +kernel
theorem dM_word_11 : decode prog_13_method_87_code 11 = .ok (.getfield 434, 3) := by decide +kernel
theorem dM_word_14 : decode prog_13_method_87_code 14 = .ok (.if_icmp .lt 10, 3) := by decide +kernel
theorem dM_word_17 : decode prog_13_method_87_code 17 = .ok (.aload_n 0, 1) := by decide +kernel
theorem dM_word_18 : decode prog_13_method_87_code 18 = .ok (.iconst 1, 1) := by decide +kernel
theorem dM_word_19 : decode prog_13_method_87_code 19 = .ok (.invokevirtual 418, 3) := by decide +kernel
theorem dM_word_22 : decode prog_13_method_87_code 22 = .ok (.i2l, 1) := by decide +kernel
theorem dM_word_23 : decode prog_13_method_87_code 23 = .ok (.lreturn, 1) := by decide +kernel
theorem dO_isSame_0 : decode prog_4_method_3_code 0 = .ok (.aload_n 0, 1) := by decide +kernel
theorem dO_isSame_1 : decode prog_4_method_3_code 1 = .ok (.iload_n 1, 1) := by decide +kernel
theorem dO_isSame_2 : decode prog_4_method_3_code 2 = .ok (.invokevirtual 43, 3) := by decide +kernel
theorem dO_isSame_5 : decode prog_4_method_3_code 5 = .ok (.aload_n 2, 1) := by decide +kernel
theorem dO_isSame_6 : decode prog_4_method_3_code 6 = .ok (.iload_n 3, 1) := by decide +kernel
theorem dO_isSame_7 : decode prog_4_method_3_code 7 = .ok (.invokevirtual 43, 3) := by decide +kernel
theorem dO_isSame_10 : decode prog_4_method_3_code 10 = .ok (.lcmp, 1) := by decide +kernel
theorem dO_isSame_11 : decode prog_4_method_3_code 11 = .ok (.ifCond .ne 18, 3) := by decide +kernel
theorem dO_isSame_14 : decode prog_4_method_3_code 14 = .ok (.aload_n 0, 1) := by decide +kernel
theorem dO_isSame_15 : decode prog_4_method_3_code 15 = .ok (.iload_n 1, 1) := by decide +kernel
theorem dO_isSame_16 : decode prog_4_method_3_code 16 = .ok (.aload_n 2, 1) := by decide +kernel
theorem dO_isSame_17 : decode prog_4_method_3_code 17 = .ok (.iload_n 3, 1) := by decide +kernel
theorem dO_isSame_18 : decode prog_4_method_3_code 18 = .ok (.iconst 0, 1) := by decide +kernel
theorem dO_isSame_19 : decode prog_4_method_3_code 19 = .ok (.invokestatic 46, 3) := by decide +kernel
theorem dO_isSame_22 : decode prog_4_method_3_code 22 = .ok (.ifCond .ne 7, 3) := by decide +kernel
theorem dO_isSame_25 : decode prog_4_method_3_code 25 = .ok (.iconst 1, 1) := by decide +kernel
theorem dO_isSame_26 : decode prog_4_method_3_code 26 = .ok (.goto 4, 3) := by decide +kernel
theorem dO_isSame_30 : decode prog_4_method_3_code 30 = .ok (.ireturn, 1) := by decide +kernel
theorem dO_of_0 : decode prog_4_method_2_code 0 = .ok (.aload_n 0, 1) := by decide +kernel
theorem dO_of_1 : decode prog_4_method_2_code 1 = .ok (.iload_n 1, 1) := by decide +kernel
theorem dO_of_2 : decode prog_4_method_2_code 2 = .ok (.invokevirtual 9, 3) := by decide +kernel
theorem dO_of_5 : decode prog_4_method_2_code 5 = .ok (.aload_n 2, 1) := by decide +kernel
theorem dO_of_6 : decode prog_4_method_2_code 6 = .ok (.iload_n 3, 1) := by decide +kernel
theorem dO_of_7 : decode prog_4_method_2_code 7 = .ok (.invokevirtual 9, 3) := by decide +kernel
theorem dO_of_10 : decode prog_4_method_2_code 10 = .ok (.if_icmp .ne 10, 3) := by decide +kernel
theorem dO_of_13 : decode prog_4_method_2_code 13 = .ok (.iload 4, 2) := by decide +kernel
theorem dO_of_15 : decode prog_4_method_2_code 15 = .ok (.bipush 60, 2) := by decide +kernel
theorem dO_of_17 : decode prog_4_method_2_code 17 = .ok (.if_icmp .le 17, 3) := by decide +kernel
theorem dO_of_34 : decode prog_4_method_2_code 34 = .ok (.aload_n 0, 1) := by decide +kernel
theorem dO_of_35 : decode prog_4_method_2_code 35 = .ok (.iload_n 1, 1) := by decide +kernel
theorem dO_of_36 : decode prog_4_method_2_code 36 = .ok (.invokevirtual 9, 3) := by decide +kernel
theorem dO_of_39 : decode prog_4_method_2_code 39 = .ok (.tableswitch 71 3 6 #[29, 43, 51, 61], 29) := by decide +kernel
theorem dO_of_110 : decode prog_4_method_2_code 110 = .ok (.iconst 0, 1) := by decide +kernel
theorem dO_of_111 : decode prog_4_method_2_code 111 = .ok (.ireturn, 1) := by decide +kernel
theorem dP_letterOf_0 : decode prog_6_method_6_code 0 = .ok (.iload_n 0, 1) := by decide +kernel
theorem dP_letterOf_1 : decode prog_6_method_6_code 1 = .ok (.lookupswitch 84 #[(8, 69), (9, 72), (10, 75), (12, 78), (13, 81), (34, 67), (92, 67)], 67) := by decide +kernel
theorem dP_letterOf_85 : decode prog_6_method_6_code 85 = .ok (.iconst (-1), 1) := by decide +kernel
theorem dP_letterOf_86 : decode prog_6_method_6_code 86 = .ok (.ireturn, 1) := by decide +kernel
theorem dP_write_0 : decode prog_6_method_2_code 0 = .ok (.aload_n 0, 1) := by decide +kernel
theorem dP_write_1 : decode prog_6_method_2_code 1 = .ok (.iload_n 1, 1) := by decide +kernel
theorem dP_write_2 : decode prog_6_method_2_code 2 = .ok (.invokevirtual 9, 3) := by decide +kernel
theorem dP_write_5 : decode prog_6_method_2_code 5 = .ok (.tableswitch 83 0 4 #[35, 44, 53, 62, 74], 35) := by decide +kernel
theorem dP_write_40 : decode prog_6_method_2_code 40 = .ok (.aload_n 2, 1) := by decide +kernel
theorem dP_write_41 : decode prog_6_method_2_code 41 = .ok (.ldc 15, 2) := by decide +kernel
theorem dP_write_43 : decode prog_6_method_2_code 43 = .ok (.invokevirtual 17, 3) := by decide +kernel
theorem dP_write_46 : decode prog_6_method_2_code 46 = .ok (.goto 49, 3) := by decide +kernel
theorem dP_write_58 : decode prog_6_method_2_code 58 = .ok (.aload_n 2, 1) := by decide +kernel
theorem dP_write_59 : decode prog_6_method_2_code 59 = .ok (.ldc 25, 2) := by decide +kernel
theorem dP_write_61 : decode prog_6_method_2_code 61 = .ok (.invokevirtual 17, 3) := by decide +kernel
theorem dP_write_64 : decode prog_6_method_2_code 64 = .ok (.goto 31, 3) := by decide +kernel
theorem dP_write_67 : decode prog_6_method_2_code 67 = .ok (.aload_n 2, 1) := by decide +kernel
theorem dP_write_68 : decode prog_6_method_2_code 68 = .ok (.aload_n 0, 1) := by decide +kernel
theorem dP_write_69 : decode prog_6_method_2_code 69 = .ok (.iload_n 1, 1) := by decide +kernel
theorem dP_write_70 : decode prog_6_method_2_code 70 = .ok (.invokevirtual 27, 3) := by decide +kernel
theorem dP_write_73 : decode prog_6_method_2_code 73 = .ok (.invokevirtual 31, 3) := by decide +kernel
theorem dP_write_76 : decode prog_6_method_2_code 76 = .ok (.goto 19, 3) := by decide +kernel
theorem dP_write_79 : decode prog_6_method_2_code 79 = .ok (.aload_n 0, 1) := by decide +kernel
theorem dP_write_80 : decode prog_6_method_2_code 80 = .ok (.iload_n 1, 1) := by decide +kernel
theorem dP_write_81 : decode prog_6_method_2_code 81 = .ok (.aload_n 2, 1) := by decide +kernel
theorem dP_write_82 : decode prog_6_method_2_code 82 = .ok (.invokestatic 35, 3) := by decide +kernel
theorem dP_write_85 : decode prog_6_method_2_code 85 = .ok (.goto 10, 3) := by decide +kernel
theorem dP_write_88 : decode prog_6_method_2_code 88 = .ok (.aload_n 0, 1) := by decide +kernel
theorem dP_write_89 : decode prog_6_method_2_code 89 = .ok (.iload_n 1, 1) := by decide +kernel
theorem dP_write_90 : decode prog_6_method_2_code 90 = .ok (.aload_n 2, 1) := by decide +kernel
theorem dP_write_91 : decode prog_6_method_2_code 91 = .ok (.iload_n 3, 1) := by decide +kernel
theorem dP_write_92 : decode prog_6_method_2_code 92 = .ok (.invokestatic 41, 3) := by decide +kernel
theorem dP_write_95 : decode prog_6_method_2_code 95 = .ok (.return_, 1) := by decide +kernel
theorem dP_writeCode_0 : decode prog_6_method_5_code 0 = .ok (.iload_n 0, 1) := by decide +kernel
theorem dP_writeCode_1 : decode prog_6_method_5_code 1 = .ok (.invokestatic 73, 3) := by decide +kernel
theorem dP_writeCode_4 : decode prog_6_method_5_code 4 = .ok (.istore_n 2, 1) := by decide +kernel
theorem dP_writeCode_5 : decode prog_6_method_5_code 5 = .ok (.iload_n 2, 1) := by decide +kernel
theorem dP_writeCode_6 : decode prog_6_method_5_code 6 = .ok (.iconst (-1), 1) := by decide +kernel
theorem dP_writeCode_7 : decode prog_6_method_5_code 7 = .ok (.if_icmp .eq 17, 3) := by decide +kernel
theorem dP_writeCode_24 : decode prog_6_method_5_code 24 = .ok (.iload_n 0, 1) := by decide +kernel
theorem dP_writeCode_25 : decode prog_6_method_5_code 25 = .ok (.bipush 32, 2) := by decide +kernel
theorem dP_writeCode_27 : decode prog_6_method_5_code 27 = .ok (.if_icmp .lt 9, 3) := by decide +kernel
theorem dP_writeCode_30 : decode prog_6_method_5_code 30 = .ok (.iload_n 0, 1) := by decide +kernel
theorem dP_writeCode_31 : decode prog_6_method_5_code 31 = .ok (.bipush 127, 2) := by decide +kernel
theorem dP_writeCode_33 : decode prog_6_method_5_code 33 = .ok (.if_icmp .ne 58, 3) := by decide +kernel
theorem dP_writeCode_91 : decode prog_6_method_5_code 91 = .ok (.aload_n 1, 1) := by decide +kernel
theorem dP_writeCode_92 : decode prog_6_method_5_code 92 = .ok (.iload_n 0, 1) := by decide +kernel
theorem dP_writeCode_93 : decode prog_6_method_5_code 93 = .ok (.invokevirtual 52, 3) := by decide +kernel
theorem dP_writeCode_96 : decode prog_6_method_5_code 96 = .ok (.return_, 1) := by decide +kernel
theorem dP_writeList_0 : decode prog_6_method_3_code 0 = .ok (.iload_n 3, 1) := by decide +kernel
theorem dP_writeList_1 : decode prog_6_method_3_code 1 = .ok (.bipush 60, 2) := by decide +kernel
theorem dP_writeList_3 : decode prog_6_method_3_code 3 = .ok (.if_icmp .lt 8, 3) := by decide +kernel
theorem dP_writeList_11 : decode prog_6_method_3_code 11 = .ok (.aload_n 0, 1) := by decide +kernel
theorem dP_writeList_12 : decode prog_6_method_3_code 12 = .ok (.iload_n 1, 1) := by decide +kernel
theorem dP_writeList_13 : decode prog_6_method_3_code 13 = .ok (.bipush 6, 2) := by decide +kernel
theorem dP_writeList_15 : decode prog_6_method_3_code 15 = .ok (.invokevirtual 48, 3) := by decide +kernel
theorem dP_writeList_18 : decode prog_6_method_3_code 18 = .ok (.istore 4, 2) := by decide +kernel
theorem dP_writeList_20 : decode prog_6_method_3_code 20 = .ok (.aload_n 2, 1) := by decide +kernel
theorem dP_writeList_21 : decode prog_6_method_3_code 21 = .ok (.iload 4, 2) := by decide +kernel
theorem dP_writeList_23 : decode prog_6_method_3_code 23 = .ok (.ifCond .eq 8, 3) := by decide +kernel
theorem dP_writeList_31 : decode prog_6_method_3_code 31 = .ok (.bipush 91, 2) := by decide +kernel
theorem dP_writeList_33 : decode prog_6_method_3_code 33 = .ok (.invokevirtual 52, 3) := by decide +kernel
theorem dP_writeList_36 : decode prog_6_method_3_code 36 = .ok (.iload_n 1, 1) := by decide +kernel
theorem dP_writeList_37 : decode prog_6_method_3_code 37 = .ok (.iconst 1, 1) := by decide +kernel
theorem dP_writeList_38 : decode prog_6_method_3_code 38 = .ok (.iadd, 1) := by decide +kernel
theorem dP_writeList_39 : decode prog_6_method_3_code 39 = .ok (.istore 5, 2) := by decide +kernel
theorem dP_writeList_41 : decode prog_6_method_3_code 41 = .ok (.iconst 0, 1) := by decide +kernel
theorem dP_writeList_42 : decode prog_6_method_3_code 42 = .ok (.istore 6, 2) := by decide +kernel
theorem dP_writeList_44 : decode prog_6_method_3_code 44 = .ok (.iload 6, 2) := by decide +kernel
theorem dP_writeList_46 : decode prog_6_method_3_code 46 = .ok (.aload_n 0, 1) := by decide +kernel
theorem dP_writeList_47 : decode prog_6_method_3_code 47 = .ok (.iload_n 1, 1) := by decide +kernel
theorem dP_writeList_48 : decode prog_6_method_3_code 48 = .ok (.invokevirtual 56, 3) := by decide +kernel
theorem dP_writeList_51 : decode prog_6_method_3_code 51 = .ok (.if_icmp .ge 64, 3) := by decide +kernel
theorem dP_writeList_115 : decode prog_6_method_3_code 115 = .ok (.aload_n 2, 1) := by decide +kernel
theorem dP_writeList_116 : decode prog_6_method_3_code 116 = .ok (.iload 4, 2) := by decide +kernel
theorem dP_writeList_118 : decode prog_6_method_3_code 118 = .ok (.ifCond .eq 8, 3) := by decide +kernel
theorem dP_writeList_126 : decode prog_6_method_3_code 126 = .ok (.bipush 93, 2) := by decide +kernel
theorem dP_writeList_128 : decode prog_6_method_3_code 128 = .ok (.invokevirtual 52, 3) := by decide +kernel
theorem dP_writeList_131 : decode prog_6_method_3_code 131 = .ok (.return_, 1) := by decide +kernel
theorem dP_writeString_0 : decode prog_6_method_4_code 0 = .ok (.aload_n 2, 1) := by decide +kernel
theorem dP_writeString_1 : decode prog_6_method_4_code 1 = .ok (.bipush 34, 2) := by decide +kernel
theorem dP_writeString_3 : decode prog_6_method_4_code 3 = .ok (.invokevirtual 52, 3) := by decide +kernel
theorem dP_writeString_6 : decode prog_6_method_4_code 6 = .ok (.iconst 0, 1) := by decide +kernel
theorem dP_writeString_7 : decode prog_6_method_4_code 7 = .ok (.istore_n 3, 1) := by decide +kernel
theorem dP_writeString_8 : decode prog_6_method_4_code 8 = .ok (.iload_n 3, 1) := by decide +kernel
theorem dP_writeString_9 : decode prog_6_method_4_code 9 = .ok (.aload_n 0, 1) := by decide +kernel
theorem dP_writeString_10 : decode prog_6_method_4_code 10 = .ok (.iload_n 1, 1) := by decide +kernel
theorem dP_writeString_11 : decode prog_6_method_4_code 11 = .ok (.invokevirtual 56, 3) := by decide +kernel
theorem dP_writeString_14 : decode prog_6_method_4_code 14 = .ok (.if_icmp .ge 19, 3) := by decide +kernel
theorem dP_writeString_17 : decode prog_6_method_4_code 17 = .ok (.aload_n 0, 1) := by decide +kernel
theorem dP_writeString_18 : decode prog_6_method_4_code 18 = .ok (.iload_n 1, 1) := by decide +kernel
theorem dP_writeString_19 : decode prog_6_method_4_code 19 = .ok (.iload_n 3, 1) := by decide +kernel
theorem dP_writeString_20 : decode prog_6_method_4_code 20 = .ok (.invokevirtual 65, 3) := by decide +kernel
theorem dP_writeString_23 : decode prog_6_method_4_code 23 = .ok (.aload_n 2, 1) := by decide +kernel
theorem dP_writeString_24 : decode prog_6_method_4_code 24 = .ok (.invokestatic 69, 3) := by decide +kernel
theorem dP_writeString_27 : decode prog_6_method_4_code 27 = .ok (.iinc 3 1, 3) := by decide +kernel
theorem dP_writeString_30 : decode prog_6_method_4_code 30 = .ok (.goto (-22), 3) := by decide +kernel
theorem dP_writeString_33 : decode prog_6_method_4_code 33 = .ok (.aload_n 2, 1) := by decide +kernel
theorem dP_writeString_34 : decode prog_6_method_4_code 34 = .ok (.bipush 34, 2) := by decide +kernel
theorem dP_writeString_36 : decode prog_6_method_4_code 36 = .ok (.invokevirtual 52, 3) := by decide +kernel
theorem dP_writeString_39 : decode prog_6_method_4_code 39 = .ok (.return_, 1) := by decide +kernel
theorem dR_after_0 : decode prog_8_method_11_code 0 = .ok (.iload_n 1, 1) := by decide +kernel
theorem dR_after_1 : decode prog_8_method_11_code 1 = .ok (.ifCond .lt 28, 3) := by decide +kernel
theorem dR_after_4 : decode prog_8_method_11_code 4 = .ok (.iload_n 1, 1) := by decide +kernel
theorem dR_after_5 : decode prog_8_method_11_code 5 = .ok (.aload_n 0, 1) := by decide +kernel
theorem dR_after_6 : decode prog_8_method_11_code 6 = .ok (.getfield 15, 3) := by decide +kernel
theorem dR_after_9 : decode prog_8_method_11_code 9 = .ok (.if_icmp .ge 20, 3) := by decide +kernel
theorem dR_after_12 : decode prog_8_method_11_code 12 = .ok (.aload_n 0, 1) := by decide +kernel
theorem dR_after_13 : decode prog_8_method_11_code 13 = .ok (.getfield 9, 3) := by decide +kernel
theorem dR_after_16 : decode prog_8_method_11_code 16 = .ok (.iload_n 1, 1) := by decide +kernel
theorem dR_after_17 : decode prog_8_method_11_code 17 = .ok (.laload, 1) := by decide +kernel
theorem dR_after_18 : decode prog_8_method_11_code 18 = .ok (.ldc2_w 28, 3) := by decide +kernel
theorem dR_after_21 : decode prog_8_method_11_code 21 = .ok (.land, 1) := by decide +kernel
theorem dR_after_22 : decode prog_8_method_11_code 22 = .ok (.ldc2_w 30, 3) := by decide +kernel
theorem dR_after_25 : decode prog_8_method_11_code 25 = .ok (.lcmp, 1) := by decide +kernel
theorem dR_after_26 : decode prog_8_method_11_code 26 = .ok (.ifCond .ge 7, 3) := by decide +kernel
theorem dR_after_29 : decode prog_8_method_11_code 29 = .ok (.iload_n 1, 1) := by decide +kernel
theorem dR_after_30 : decode prog_8_method_11_code 30 = .ok (.iconst 1, 1) := by decide +kernel
theorem dR_after_31 : decode prog_8_method_11_code 31 = .ok (.iadd, 1) := by decide +kernel
theorem dR_after_32 : decode prog_8_method_11_code 32 = .ok (.ireturn, 1) := by decide +kernel
theorem dR_cell_0 : decode prog_8_method_5_code 0 = .ok (.iload_n 1, 1) := by decide +kernel
theorem dR_cell_1 : decode prog_8_method_5_code 1 = .ok (.ifCond .lt 20, 3) := by decide +kernel
theorem dR_cell_4 : decode prog_8_method_5_code 4 = .ok (.iload_n 1, 1) := by decide +kernel
theorem dR_cell_5 : decode prog_8_method_5_code 5 = .ok (.aload_n 0, 1) := by decide +kernel
theorem dR_cell_6 : decode prog_8_method_5_code 6 = .ok (.getfield 15, 3) := by decide +kernel
theorem dR_cell_9 : decode prog_8_method_5_code 9 = .ok (.if_icmp .ge 12, 3) := by decide +kernel
theorem dR_cell_12 : decode prog_8_method_5_code 12 = .ok (.aload_n 0, 1) := by decide +kernel
theorem dR_cell_13 : decode prog_8_method_5_code 13 = .ok (.getfield 9, 3) := by decide +kernel
theorem dR_cell_16 : decode prog_8_method_5_code 16 = .ok (.iload_n 1, 1) := by decide +kernel
theorem dR_cell_17 : decode prog_8_method_5_code 17 = .ok (.laload, 1) := by decide +kernel
theorem dR_cell_18 : decode prog_8_method_5_code 18 = .ok (.goto 4, 3) := by decide +kernel
theorem dR_cell_22 : decode prog_8_method_5_code 22 = .ok (.lreturn, 1) := by decide +kernel
theorem dR_clear_0 : decode prog_8_method_2_code 0 = .ok (.aload_n 0, 1) := by decide +kernel
theorem dR_clear_1 : decode prog_8_method_2_code 1 = .ok (.iconst 0, 1) := by decide +kernel
theorem dR_clear_2 : decode prog_8_method_2_code 2 = .ok (.putfield 15, 3) := by decide +kernel
theorem dR_clear_5 : decode prog_8_method_2_code 5 = .ok (.aload_n 0, 1) := by decide +kernel
theorem dR_clear_6 : decode prog_8_method_2_code 6 = .ok (.iconst 0, 1) := by decide +kernel
theorem dR_clear_7 : decode prog_8_method_2_code 7 = .ok (.putfield 19, 3) := by decide +kernel
theorem dR_clear_10 : decode prog_8_method_2_code 10 = .ok (.return_, 1) := by decide +kernel
theorem dR_close_0 : decode prog_8_method_26_code 0 = .ok (.aload_n 0, 1) := by decide +kernel
theorem dR_close_1 : decode prog_8_method_26_code 1 = .ok (.getfield 19, 3) := by decide +kernel
theorem dR_close_4 : decode prog_8_method_26_code 4 = .ok (.ifCond .ne 39, 3) := by decide +kernel
theorem dR_close_7 : decode prog_8_method_26_code 7 = .ok (.iload_n 1, 1) := by decide +kernel
theorem dR_close_8 : decode prog_8_method_26_code 8 = .ok (.ifCond .lt 35, 3) := by decide +kernel
theorem dR_close_11 : decode prog_8_method_26_code 11 = .ok (.iload_n 1, 1) := by decide +kernel
theorem dR_close_12 : decode prog_8_method_26_code 12 = .ok (.aload_n 0, 1) := by decide +kernel
theorem dR_close_13 : decode prog_8_method_26_code 13 = .ok (.getfield 15, 3) := by decide +kernel
theorem dR_close_16 : decode prog_8_method_26_code 16 = .ok (.if_icmp .ge 27, 3) := by decide +kernel
theorem dR_close_19 : decode prog_8_method_26_code 19 = .ok (.aload_n 0, 1) := by decide +kernel
theorem dR_close_20 : decode prog_8_method_26_code 20 = .ok (.getfield 9, 3) := by decide +kernel
theorem dR_close_23 : decode prog_8_method_26_code 23 = .ok (.iload_n 1, 1) := by decide +kernel
theorem dR_close_24 : decode prog_8_method_26_code 24 = .ok (.aload_n 0, 1) := by decide +kernel
theorem dR_close_25 : decode prog_8_method_26_code 25 = .ok (.getfield 15, 3) := by decide +kernel
theorem dR_close_28 : decode prog_8_method_26_code 28 = .ok (.iload_n 1, 1) := by decide +kernel
theorem dR_close_29 : decode prog_8_method_26_code 29 = .ok (.isub, 1) := by decide +kernel
theorem dR_close_30 : decode prog_8_method_26_code 30 = .ok (.i2l, 1) := by decide +kernel
theorem dR_close_31 : decode prog_8_method_26_code 31 = .ok (.bipush 19, 2) := by decide +kernel
theorem dR_close_33 : decode prog_8_method_26_code 33 = .ok (.lshl, 1) := by decide +kernel
theorem dR_close_34 : decode prog_8_method_26_code 34 = .ok (.iload_n 3, 1) := by decide +kernel
theorem dR_close_35 : decode prog_8_method_26_code 35 = .ok (.i2l, 1) := by decide +kernel
theorem dR_close_36 : decode prog_8_method_26_code 36 = .ok (.iconst 3, 1) := by decide +kernel
theorem dR_close_37 : decode prog_8_method_26_code 37 = .ok (.lshl, 1) := by decide +kernel
theorem dR_close_38 : decode prog_8_method_26_code 38 = .ok (.lor, 1) := by decide +kernel
theorem dR_close_39 : decode prog_8_method_26_code 39 = .ok (.iload_n 2, 1) := by decide +kernel
theorem dR_close_40 : decode prog_8_method_26_code 40 = .ok (.i2l, 1) := by decide +kernel
theorem dR_close_41 : decode prog_8_method_26_code 41 = .ok (.lor, 1) := by decide +kernel
theorem dR_close_42 : decode prog_8_method_26_code 42 = .ok (.lastore, 1) := by decide +kernel
theorem dR_close_43 : decode prog_8_method_26_code 43 = .ok (.return_, 1) := by decide +kernel
theorem dR_code_0 : decode prog_8_method_10_code 0 = .ok (.iload_n 1, 1) := by decide +kernel
theorem dR_code_1 : decode prog_8_method_10_code 1 = .ok (.iconst 1, 1) := by decide +kernel
theorem dR_code_2 : decode prog_8_method_10_code 2 = .ok (.iadd, 1) := by decide +kernel
theorem dR_code_3 : decode prog_8_method_10_code 3 = .ok (.iload_n 2, 1) := by decide +kernel
theorem dR_code_4 : decode prog_8_method_10_code 4 = .ok (.iadd, 1) := by decide +kernel
theorem dR_code_5 : decode prog_8_method_10_code 5 = .ok (.istore_n 3, 1) := by decide +kernel
theorem dR_code_6 : decode prog_8_method_10_code 6 = .ok (.iload_n 3, 1) := by decide +kernel
theorem dR_code_7 : decode prog_8_method_10_code 7 = .ok (.ifCond .lt 21, 3) := by decide +kernel
theorem dR_code_10 : decode prog_8_method_10_code 10 = .ok (.iload_n 3, 1) := by decide +kernel
theorem dR_code_11 : decode prog_8_method_10_code 11 = .ok (.aload_n 0, 1) := by decide +kernel
theorem dR_code_12 : decode prog_8_method_10_code 12 = .ok (.getfield 15, 3) := by decide +kernel
theorem dR_code_15 : decode prog_8_method_10_code 15 = .ok (.if_icmp .ge 13, 3) := by decide +kernel
theorem dR_code_18 : decode prog_8_method_10_code 18 = .ok (.aload_n 0, 1) := by decide +kernel
theorem dR_code_19 : decode prog_8_method_10_code 19 = .ok (.getfield 9, 3) := by decide +kernel
theorem dR_code_22 : decode prog_8_method_10_code 22 = .ok (.iload_n 3, 1) := by decide +kernel
theorem dR_code_23 : decode prog_8_method_10_code 23 = .ok (.laload, 1) := by decide +kernel
theorem dR_code_24 : decode prog_8_method_10_code 24 = .ok (.l2i, 1) := by decide +kernel
theorem dR_code_25 : decode prog_8_method_10_code 25 = .ok (.goto 4, 3) := by decide +kernel
theorem dR_code_29 : decode prog_8_method_10_code 29 = .ok (.ireturn, 1) := by decide +kernel
theorem dR_init_0 : decode prog_8_method_1_code 0 = .ok (.aload_n 0, 1) := by decide +kernel
theorem dR_init_1 : decode prog_8_method_1_code 1 = .ok (.invokespecial 3, 3) := by decide +kernel
theorem dR_init_4 : decode prog_8_method_1_code 4 = .ok (.aload_n 0, 1) := by decide +kernel
theorem dR_init_5 : decode prog_8_method_1_code 5 = .ok (.sipush 4096, 3) := by decide +kernel
theorem dR_init_8 : decode prog_8_method_1_code 8 = .ok (.newarray .long, 2) := by decide +kernel
theorem dR_init_10 : decode prog_8_method_1_code 10 = .ok (.putfield 9, 3) := by decide +kernel
theorem dR_init_13 : decode prog_8_method_1_code 13 = .ok (.aload_n 0, 1) := by decide +kernel
theorem dR_init_14 : decode prog_8_method_1_code 14 = .ok (.iconst 1, 1) := by decide +kernel
theorem dR_init_15 : decode prog_8_method_1_code 15 = .ok (.putfield 15, 3) := by decide +kernel
theorem dR_init_18 : decode prog_8_method_1_code 18 = .ok (.aload_n 0, 1) := by decide +kernel
theorem dR_init_19 : decode prog_8_method_1_code 19 = .ok (.iconst 0, 1) := by decide +kernel
theorem dR_init_20 : decode prog_8_method_1_code 20 = .ok (.putfield 19, 3) := by decide +kernel
theorem dR_init_23 : decode prog_8_method_1_code 23 = .ok (.return_, 1) := by decide +kernel
theorem dR_is_0 : decode prog_8_method_7_code 0 = .ok (.aload_n 0, 1) := by decide +kernel
theorem dR_is_1 : decode prog_8_method_7_code 1 = .ok (.iload_n 1, 1) := by decide +kernel
theorem dR_is_2 : decode prog_8_method_7_code 2 = .ok (.invokevirtual 23, 3) := by decide +kernel
theorem dR_is_5 : decode prog_8_method_7_code 5 = .ok (.iload_n 2, 1) := by decide +kernel
theorem dR_is_6 : decode prog_8_method_7_code 6 = .ok (.if_icmp .ne 7, 3) := by decide +kernel
theorem dR_is_9 : decode prog_8_method_7_code 9 = .ok (.iconst 1, 1) := by decide +kernel
theorem dR_is_10 : decode prog_8_method_7_code 10 = .ok (.goto 4, 3) := by decide +kernel
theorem dR_is_13 : decode prog_8_method_7_code 13 = .ok (.iconst 0, 1) := by decide +kernel
theorem dR_is_14 : decode prog_8_method_7_code 14 = .ok (.ireturn, 1) := by decide +kernel
theorem dR_isOver_0 : decode prog_8_method_4_code 0 = .ok (.aload_n 0, 1) := by decide +kernel
theorem dR_isOver_1 : decode prog_8_method_4_code 1 = .ok (.getfield 19, 3) := by decide +kernel
theorem dR_isOver_4 : decode prog_8_method_4_code 4 = .ok (.ireturn, 1) := by decide +kernel
theorem dR_kind_0 : decode prog_8_method_6_code 0 = .ok (.iload_n 1, 1) := by decide +kernel
theorem dR_kind_1 : decode prog_8_method_6_code 1 = .ok (.ifCond .lt 24, 3) := by decide +kernel
theorem dR_kind_4 : decode prog_8_method_6_code 4 = .ok (.iload_n 1, 1) := by decide +kernel
theorem dR_kind_5 : decode prog_8_method_6_code 5 = .ok (.aload_n 0, 1) := by decide +kernel
theorem dR_kind_6 : decode prog_8_method_6_code 6 = .ok (.getfield 15, 3) := by decide +kernel
theorem dR_kind_9 : decode prog_8_method_6_code 9 = .ok (.if_icmp .ge 16, 3) := by decide +kernel
theorem dR_kind_12 : decode prog_8_method_6_code 12 = .ok (.aload_n 0, 1) := by decide +kernel
theorem dR_kind_13 : decode prog_8_method_6_code 13 = .ok (.getfield 9, 3) := by decide +kernel
theorem dR_kind_16 : decode prog_8_method_6_code 16 = .ok (.iload_n 1, 1) := by decide +kernel
theorem dR_kind_17 : decode prog_8_method_6_code 17 = .ok (.laload, 1) := by decide +kernel
theorem dR_kind_18 : decode prog_8_method_6_code 18 = .ok (.l2i, 1) := by decide +kernel
theorem dR_kind_19 : decode prog_8_method_6_code 19 = .ok (.bipush 7, 2) := by decide +kernel
theorem dR_kind_21 : decode prog_8_method_6_code 21 = .ok (.iand, 1) := by decide +kernel
theorem dR_kind_22 : decode prog_8_method_6_code 22 = .ok (.goto 4, 3) := by decide +kernel
theorem dR_kind_26 : decode prog_8_method_6_code 26 = .ok (.ireturn, 1) := by decide +kernel
theorem dR_length_0 : decode prog_8_method_9_code 0 = .ok (.iload_n 1, 1) := by decide +kernel
theorem dR_length_1 : decode prog_8_method_9_code 1 = .ok (.ifCond .lt 26, 3) := by decide +kernel
theorem dR_length_4 : decode prog_8_method_9_code 4 = .ok (.iload_n 1, 1) := by decide +kernel
theorem dR_length_5 : decode prog_8_method_9_code 5 = .ok (.aload_n 0, 1) := by decide +kernel
theorem dR_length_6 : decode prog_8_method_9_code 6 = .ok (.getfield 15, 3) := by decide +kernel
theorem dR_length_9 : decode prog_8_method_9_code 9 = .ok (.if_icmp .ge 18, 3) := by decide +kernel
theorem dR_length_12 : decode prog_8_method_9_code 12 = .ok (.aload_n 0, 1) := by decide +kernel
theorem dR_length_13 : decode prog_8_method_9_code 13 = .ok (.getfield 9, 3) := by decide +kernel
theorem dR_length_16 : decode prog_8_method_9_code 16 = .ok (.iload_n 1, 1) := by decide +kernel
theorem dR_length_17 : decode prog_8_method_9_code 17 = .ok (.laload, 1) := by decide +kernel
theorem dR_length_18 : decode prog_8_method_9_code 18 = .ok (.iconst 3, 1) := by decide +kernel
theorem dR_length_19 : decode prog_8_method_9_code 19 = .ok (.lshr, 1) := by decide +kernel
theorem dR_length_20 : decode prog_8_method_9_code 20 = .ok (.l2i, 1) := by decide +kernel
theorem dR_length_21 : decode prog_8_method_9_code 21 = .ok (.ldc 27, 2) := by decide +kernel
theorem dR_length_23 : decode prog_8_method_9_code 23 = .ok (.iand, 1) := by decide +kernel
theorem dR_length_24 : decode prog_8_method_9_code 24 = .ok (.goto 4, 3) := by decide +kernel
theorem dR_length_28 : decode prog_8_method_9_code 28 = .ok (.ireturn, 1) := by decide +kernel
theorem dR_number_0 : decode prog_8_method_8_code 0 = .ok (.iload_n 1, 1) := by decide +kernel
theorem dR_number_1 : decode prog_8_method_8_code 1 = .ok (.ifCond .lt 22, 3) := by decide +kernel
theorem dR_number_4 : decode prog_8_method_8_code 4 = .ok (.iload_n 1, 1) := by decide +kernel
theorem dR_number_5 : decode prog_8_method_8_code 5 = .ok (.aload_n 0, 1) := by decide +kernel
theorem dR_number_6 : decode prog_8_method_8_code 6 = .ok (.getfield 15, 3) := by decide +kernel
theorem dR_number_9 : decode prog_8_method_8_code 9 = .ok (.if_icmp .ge 14, 3) := by decide +kernel
theorem dR_number_12 : decode prog_8_method_8_code 12 = .ok (.aload_n 0, 1) := by decide +kernel
theorem dR_number_13 : decode prog_8_method_8_code 13 = .ok (.getfield 9, 3) := by decide +kernel
theorem dR_number_16 : decode prog_8_method_8_code 16 = .ok (.iload_n 1, 1) := by decide +kernel
theorem dR_number_17 : decode prog_8_method_8_code 17 = .ok (.laload, 1) := by decide +kernel
theorem dR_number_18 : decode prog_8_method_8_code 18 = .ok (.iconst 3, 1) := by decide +kernel
theorem dR_number_19 : decode prog_8_method_8_code 19 = .ok (.lshr, 1) := by decide +kernel
theorem dR_number_20 : decode prog_8_method_8_code 20 = .ok (.goto 4, 3) := by decide +kernel
theorem dR_number_24 : decode prog_8_method_8_code 24 = .ok (.lreturn, 1) := by decide +kernel
theorem dR_open_0 : decode prog_8_method_25_code 0 = .ok (.aload_n 0, 1) := by decide +kernel
theorem dR_open_1 : decode prog_8_method_25_code 1 = .ok (.lconst 0, 1) := by decide +kernel
theorem dR_open_2 : decode prog_8_method_25_code 2 = .ok (.invokevirtual 52, 3) := by decide +kernel
theorem dR_open_5 : decode prog_8_method_25_code 5 = .ok (.aload_n 0, 1) := by decide +kernel
theorem dR_open_6 : decode prog_8_method_25_code 6 = .ok (.getfield 15, 3) := by decide +kernel
theorem dR_open_9 : decode prog_8_method_25_code 9 = .ok (.iconst 1, 1) := by decide +kernel
theorem dR_open_10 : decode prog_8_method_25_code 10 = .ok (.isub, 1) := by decide +kernel
theorem dR_open_11 : decode prog_8_method_25_code 11 = .ok (.ireturn, 1) := by decide +kernel
theorem dR_put_0 : decode prog_8_method_16_code 0 = .ok (.aload_n 0, 1) := by decide +kernel
theorem dR_put_1 : decode prog_8_method_16_code 1 = .ok (.getfield 19, 3) := by decide +kernel
theorem dR_put_4 : decode prog_8_method_16_code 4 = .ok (.ifCond .ne 13, 3) := by decide +kernel
theorem dR_put_7 : decode prog_8_method_16_code 7 = .ok (.aload_n 0, 1) := by decide +kernel
theorem dR_put_8 : decode prog_8_method_16_code 8 = .ok (.getfield 15, 3) := by decide +kernel
theorem dR_put_11 : decode prog_8_method_16_code 11 = .ok (.sipush 4096, 3) := by decide +kernel
theorem dR_put_14 : decode prog_8_method_16_code 14 = .ok (.if_icmp .lt 9, 3) := by decide +kernel
theorem dR_put_23 : decode prog_8_method_16_code 23 = .ok (.aload_n 0, 1) := by decide +kernel
theorem dR_put_24 : decode prog_8_method_16_code 24 = .ok (.getfield 9, 3) := by decide +kernel
theorem dR_put_27 : decode prog_8_method_16_code 27 = .ok (.aload_n 0, 1) := by decide +kernel
theorem dR_put_28 : decode prog_8_method_16_code 28 = .ok (.getfield 15, 3) := by decide +kernel
theorem dR_put_31 : decode prog_8_method_16_code 31 = .ok (.lload_n 1, 1) := by decide +kernel
theorem dR_put_32 : decode prog_8_method_16_code 32 = .ok (.lastore, 1) := by decide +kernel
theorem dR_put_33 : decode prog_8_method_16_code 33 = .ok (.aload_n 0, 1) := by decide +kernel
theorem dR_put_34 : decode prog_8_method_16_code 34 = .ok (.dup, 1) := by decide +kernel
theorem dR_put_35 : decode prog_8_method_16_code 35 = .ok (.getfield 15, 3) := by decide +kernel
theorem dR_put_38 : decode prog_8_method_16_code 38 = .ok (.iconst 1, 1) := by decide +kernel
theorem dR_put_39 : decode prog_8_method_16_code 39 = .ok (.iadd, 1) := by decide +kernel
theorem dR_put_40 : decode prog_8_method_16_code 40 = .ok (.putfield 15, 3) := by decide +kernel
theorem dR_put_43 : decode prog_8_method_16_code 43 = .ok (.return_, 1) := by decide +kernel
theorem dR_putCells_0 : decode prog_8_method_24_code 0 = .ok (.aload_n 0, 1) := by decide +kernel
theorem dR_putCells_1 : decode prog_8_method_24_code 1 = .ok (.getfield 19, 3) := by decide +kernel
theorem dR_putCells_4 : decode prog_8_method_24_code 4 = .ok (.ifCond .ne 33, 3) := by decide +kernel
theorem dR_putCells_7 : decode prog_8_method_24_code 7 = .ok (.iload_n 2, 1) := by decide +kernel
theorem dR_putCells_8 : decode prog_8_method_24_code 8 = .ok (.ifCond .lt 29, 3) := by decide +kernel
theorem dR_putCells_11 : decode prog_8_method_24_code 11 = .ok (.iload_n 3, 1) := by decide +kernel
theorem dR_putCells_12 : decode prog_8_method_24_code 12 = .ok (.ifCond .lt 25, 3) := by decide +kernel
theorem dR_putCells_15 : decode prog_8_method_24_code 15 = .ok (.iload_n 2, 1) := by decide +kernel
theorem dR_putCells_16 : decode prog_8_method_24_code 16 = .ok (.iload_n 3, 1) := by decide +kernel
theorem dR_putCells_17 : decode prog_8_method_24_code 17 = .ok (.iadd, 1) := by decide +kernel
theorem dR_putCells_18 : decode prog_8_method_24_code 18 = .ok (.aload_n 1, 1) := by decide +kernel
theorem dR_putCells_19 : decode prog_8_method_24_code 19 = .ok (.getfield 15, 3) := by decide +kernel
theorem dR_putCells_22 : decode prog_8_method_24_code 22 = .ok (.if_icmp .gt 15, 3) := by decide +kernel
theorem dR_putCells_25 : decode prog_8_method_24_code 25 = .ok (.aload_n 0, 1) := by decide +kernel
theorem dR_putCells_26 : decode prog_8_method_24_code 26 = .ok (.getfield 15, 3) := by decide +kernel
theorem dR_putCells_29 : decode prog_8_method_24_code 29 = .ok (.iload_n 3, 1) := by decide +kernel
theorem dR_putCells_30 : decode prog_8_method_24_code 30 = .ok (.iadd, 1) := by decide +kernel
theorem dR_putCells_31 : decode prog_8_method_24_code 31 = .ok (.sipush 4096, 3) := by decide +kernel
theorem dR_putCells_34 : decode prog_8_method_24_code 34 = .ok (.if_icmp .le 9, 3) := by decide +kernel
theorem dR_putCells_43 : decode prog_8_method_24_code 43 = .ok (.aload_n 1, 1) := by decide +kernel
theorem dR_putCells_44 : decode prog_8_method_24_code 44 = .ok (.getfield 9, 3) := by decide +kernel
theorem dR_putCells_47 : decode prog_8_method_24_code 47 = .ok (.iload_n 2, 1) := by decide +kernel
theorem dR_putCells_48 : decode prog_8_method_24_code 48 = .ok (.aload_n 0, 1) := by decide +kernel
theorem dR_putCells_49 : decode prog_8_method_24_code 49 = .ok (.getfield 9, 3) := by decide +kernel
theorem dR_putCells_52 : decode prog_8_method_24_code 52 = .ok (.aload_n 0, 1) := by decide +kernel
theorem dR_putCells_53 : decode prog_8_method_24_code 53 = .ok (.getfield 15, 3) := by decide +kernel
theorem dR_putCells_56 : decode prog_8_method_24_code 56 = .ok (.iload_n 3, 1) := by decide +kernel
theorem dR_putCells_57 : decode prog_8_method_24_code 57 = .ok (.invokestatic 81, 3) := by decide +kernel
theorem dR_putCells_60 : decode prog_8_method_24_code 60 = .ok (.aload_n 0, 1) := by decide +kernel
theorem dR_putCells_61 : decode prog_8_method_24_code 61 = .ok (.dup, 1) := by decide +kernel
theorem dR_putCells_62 : decode prog_8_method_24_code 62 = .ok (.getfield 15, 3) := by decide +kernel
theorem dR_putCells_65 : decode prog_8_method_24_code 65 = .ok (.iload_n 3, 1) := by decide +kernel
theorem dR_putCells_66 : decode prog_8_method_24_code 66 = .ok (.iadd, 1) := by decide +kernel
theorem dR_putCells_67 : decode prog_8_method_24_code 67 = .ok (.putfield 15, 3) := by decide +kernel
theorem dR_putCells_70 : decode prog_8_method_24_code 70 = .ok (.return_, 1) := by decide +kernel
theorem dR_putCopy_0 : decode prog_8_method_22_code 0 = .ok (.aload_n 0, 1) := by decide +kernel
theorem dR_putCopy_1 : decode prog_8_method_22_code 1 = .ok (.aload_n 1, 1) := by decide +kernel
theorem dR_putCopy_2 : decode prog_8_method_22_code 2 = .ok (.iload_n 2, 1) := by decide +kernel
theorem dR_putCopy_3 : decode prog_8_method_22_code 3 = .ok (.aload_n 1, 1) := by decide +kernel
theorem dR_putCopy_4 : decode prog_8_method_22_code 4 = .ok (.iload_n 2, 1) := by decide +kernel
theorem dR_putCopy_5 : decode prog_8_method_22_code 5 = .ok (.invokevirtual 35, 3) := by decide +kernel
theorem dR_putCopy_8 : decode prog_8_method_22_code 8 = .ok (.iload_n 2, 1) := by decide +kernel
theorem dR_putCopy_9 : decode prog_8_method_22_code 9 = .ok (.isub, 1) := by decide +kernel
theorem dR_putCopy_10 : decode prog_8_method_22_code 10 = .ok (.invokevirtual 77, 3) := by decide +kernel
theorem dR_putCopy_13 : decode prog_8_method_22_code 13 = .ok (.return_, 1) := by decide +kernel
theorem dR_putNull_0 : decode prog_8_method_19_code 0 = .ok (.aload_n 0, 1) := by decide +kernel
theorem dR_putNull_1 : decode prog_8_method_19_code 1 = .ok (.lconst 0, 1) := by decide +kernel
theorem dR_putNull_2 : decode prog_8_method_19_code 2 = .ok (.invokevirtual 52, 3) := by decide +kernel
theorem dR_putNull_5 : decode prog_8_method_19_code 5 = .ok (.return_, 1) := by decide +kernel
theorem dR_putNumber_0 : decode prog_8_method_17_code 0 = .ok (.aload_n 0, 1) := by decide +kernel
theorem dR_putNumber_1 : decode prog_8_method_17_code 1 = .ok (.lload_n 1, 1) := by decide +kernel
theorem dR_putNumber_2 : decode prog_8_method_17_code 2 = .ok (.iconst 3, 1) := by decide +kernel
theorem dR_putNumber_3 : decode prog_8_method_17_code 3 = .ok (.lshl, 1) := by decide +kernel
theorem dR_putNumber_4 : decode prog_8_method_17_code 4 = .ok (.ldc2_w 50, 3) := by decide +kernel
theorem dR_putNumber_7 : decode prog_8_method_17_code 7 = .ok (.lor, 1) := by decide +kernel
theorem dR_putNumber_8 : decode prog_8_method_17_code 8 = .ok (.invokevirtual 52, 3) := by decide +kernel
theorem dR_putNumber_11 : decode prog_8_method_17_code 11 = .ok (.return_, 1) := by decide +kernel
theorem dR_putText_0 : decode prog_8_method_20_code 0 = .ok (.aload_n 0, 1) := by decide +kernel
theorem dR_putText_1 : decode prog_8_method_20_code 1 = .ok (.invokevirtual 58, 3) := by decide +kernel
theorem dR_putText_4 : decode prog_8_method_20_code 4 = .ok (.istore_n 2, 1) := by decide +kernel
theorem dR_putText_5 : decode prog_8_method_20_code 5 = .ok (.iconst 0, 1) := by decide +kernel
theorem dR_putText_6 : decode prog_8_method_20_code 6 = .ok (.istore_n 3, 1) := by decide +kernel
theorem dR_putText_7 : decode prog_8_method_20_code 7 = .ok (.iload_n 3, 1) := by decide +kernel
theorem dR_putText_8 : decode prog_8_method_20_code 8 = .ok (.aload_n 1, 1) := by decide +kernel
theorem dR_putText_9 : decode prog_8_method_20_code 9 = .ok (.invokevirtual 62, 3) := by decide +kernel
theorem dR_putText_12 : decode prog_8_method_20_code 12 = .ok (.if_icmp .ge 19, 3) := by decide +kernel
theorem dR_putText_15 : decode prog_8_method_20_code 15 = .ok (.aload_n 0, 1) := by decide +kernel
theorem dR_putText_16 : decode prog_8_method_20_code 16 = .ok (.aload_n 1, 1) := by decide +kernel
theorem dR_putText_17 : decode prog_8_method_20_code 17 = .ok (.iload_n 3, 1) := by decide +kernel
theorem dR_putText_18 : decode prog_8_method_20_code 18 = .ok (.invokevirtual 66, 3) := by decide +kernel
theorem dR_putText_21 : decode prog_8_method_20_code 21 = .ok (.i2l, 1) := by decide +kernel
theorem dR_putText_22 : decode prog_8_method_20_code 22 = .ok (.invokevirtual 52, 3) := by decide +kernel
theorem dR_putText_25 : decode prog_8_method_20_code 25 = .ok (.iinc 3 1, 3) := by decide +kernel
theorem dR_putText_28 : decode prog_8_method_20_code 28 = .ok (.goto (-21), 3) := by decide +kernel
theorem dR_putText_31 : decode prog_8_method_20_code 31 = .ok (.aload_n 0, 1) := by decide +kernel
theorem dR_putText_32 : decode prog_8_method_20_code 32 = .ok (.iload_n 2, 1) := by decide +kernel
theorem dR_putText_33 : decode prog_8_method_20_code 33 = .ok (.iconst 4, 1) := by decide +kernel
theorem dR_putText_34 : decode prog_8_method_20_code 34 = .ok (.aload_n 1, 1) := by decide +kernel
theorem dR_putText_35 : decode prog_8_method_20_code 35 = .ok (.invokevirtual 62, 3) := by decide +kernel
theorem dR_putText_38 : decode prog_8_method_20_code 38 = .ok (.invokevirtual 69, 3) := by decide +kernel
theorem dR_putText_41 : decode prog_8_method_20_code 41 = .ok (.aload_n 0, 1) := by decide +kernel
theorem dR_putText_42 : decode prog_8_method_20_code 42 = .ok (.aload_n 0, 1) := by decide +kernel
theorem dR_putText_43 : decode prog_8_method_20_code 43 = .ok (.getfield 19, 3) := by decide +kernel
theorem dR_putText_46 : decode prog_8_method_20_code 46 = .ok (.ifCond .ne 10, 3) := by decide +kernel
theorem dR_putText_49 : decode prog_8_method_20_code 49 = .ok (.aload_n 1, 1) := by decide +kernel
theorem dR_putText_50 : decode prog_8_method_20_code 50 = .ok (.invokevirtual 73, 3) := by decide +kernel
theorem dR_putText_53 : decode prog_8_method_20_code 53 = .ok (.ifCond .eq 7, 3) := by decide +kernel
theorem dR_putText_60 : decode prog_8_method_20_code 60 = .ok (.iconst 0, 1) := by decide +kernel
theorem dR_putText_61 : decode prog_8_method_20_code 61 = .ok (.putfield 19, 3) := by decide +kernel
theorem dR_putText_64 : decode prog_8_method_20_code 64 = .ok (.return_, 1) := by decide +kernel
theorem dR_putTruth_0 : decode prog_8_method_18_code 0 = .ok (.aload_n 0, 1) := by decide +kernel
theorem dR_putTruth_1 : decode prog_8_method_18_code 1 = .ok (.iload_n 1, 1) := by decide +kernel
theorem dR_putTruth_2 : decode prog_8_method_18_code 2 = .ok (.ifCond .eq 9, 3) := by decide +kernel
theorem dR_putTruth_5 : decode prog_8_method_18_code 5 = .ok (.ldc2_w 56, 3) := by decide +kernel
theorem dR_putTruth_8 : decode prog_8_method_18_code 8 = .ok (.goto 4, 3) := by decide +kernel
theorem dR_putTruth_12 : decode prog_8_method_18_code 12 = .ok (.invokevirtual 52, 3) := by decide +kernel
theorem dR_putTruth_15 : decode prog_8_method_18_code 15 = .ok (.return_, 1) := by decide +kernel
theorem dS_init_0 : decode prog_10_method_1_code 0 = .ok (.aload_n 0, 1) := by decide +kernel
theorem dS_init_1 : decode prog_10_method_1_code 1 = .ok (.invokespecial 3, 3) := by decide +kernel
theorem dS_init_4 : decode prog_10_method_1_code 4 = .ok (.aload_n 0, 1) := by decide +kernel
theorem dS_init_5 : decode prog_10_method_1_code 5 = .ok (.sipush 2048, 3) := by decide +kernel
theorem dS_init_8 : decode prog_10_method_1_code 8 = .ok (.newarray .int, 2) := by decide +kernel
theorem dS_init_10 : decode prog_10_method_1_code 10 = .ok (.putfield 11, 3) := by decide +kernel
theorem dS_init_13 : decode prog_10_method_1_code 13 = .ok (.aload_n 0, 1) := by decide +kernel
theorem dS_init_14 : decode prog_10_method_1_code 14 = .ok (.sipush 2048, 3) := by decide +kernel
theorem dS_init_17 : decode prog_10_method_1_code 17 = .ok (.newarray .int, 2) := by decide +kernel
theorem dS_init_19 : decode prog_10_method_1_code 19 = .ok (.putfield 15, 3) := by decide +kernel
theorem dS_init_22 : decode prog_10_method_1_code 22 = .ok (.aload_n 0, 1) := by decide +kernel
theorem dS_init_23 : decode prog_10_method_1_code 23 = .ok (.sipush 2048, 3) := by decide +kernel
theorem dS_init_26 : decode prog_10_method_1_code 26 = .ok (.newarray .int, 2) := by decide +kernel
theorem dS_init_28 : decode prog_10_method_1_code 28 = .ok (.putfield 18, 3) := by decide +kernel
theorem dS_init_31 : decode prog_10_method_1_code 31 = .ok (.aload_n 0, 1) := by decide +kernel
theorem dS_init_32 : decode prog_10_method_1_code 32 = .ok (.sipush 2048, 3) := by decide +kernel
theorem dS_init_35 : decode prog_10_method_1_code 35 = .ok (.newarray .int, 2) := by decide +kernel
theorem dS_init_37 : decode prog_10_method_1_code 37 = .ok (.putfield 21, 3) := by decide +kernel
theorem dS_init_40 : decode prog_10_method_1_code 40 = .ok (.aload_n 0, 1) := by decide +kernel
theorem dS_init_41 : decode prog_10_method_1_code 41 = .ok (.iconst 0, 1) := by decide +kernel
theorem dS_init_42 : decode prog_10_method_1_code 42 = .ok (.putfield 24, 3) := by decide +kernel
theorem dS_init_45 : decode prog_10_method_1_code 45 = .ok (.return_, 1) := by decide +kernel
theorem dT_add_0 : decode prog_11_method_8_code 0 = .ok (.aload_n 0, 1) := by decide +kernel
theorem dT_add_1 : decode prog_11_method_8_code 1 = .ok (.getfield 15, 3) := by decide +kernel
theorem dT_add_4 : decode prog_11_method_8_code 4 = .ok (.sipush 4096, 3) := by decide +kernel
theorem dT_add_7 : decode prog_11_method_8_code 7 = .ok (.if_icmp .lt 9, 3) := by decide +kernel
theorem dT_add_16 : decode prog_11_method_8_code 16 = .ok (.aload_n 0, 1) := by decide +kernel
theorem dT_add_17 : decode prog_11_method_8_code 17 = .ok (.getfield 9, 3) := by decide +kernel
theorem dT_add_20 : decode prog_11_method_8_code 20 = .ok (.aload_n 0, 1) := by decide +kernel
theorem dT_add_21 : decode prog_11_method_8_code 21 = .ok (.getfield 15, 3) := by decide +kernel
theorem dT_add_24 : decode prog_11_method_8_code 24 = .ok (.iload_n 1, 1) := by decide +kernel
theorem dT_add_25 : decode prog_11_method_8_code 25 = .ok (.i2b, 1) := by decide +kernel
theorem dT_add_26 : decode prog_11_method_8_code 26 = .ok (.bastore, 1) := by decide +kernel
theorem dT_add_27 : decode prog_11_method_8_code 27 = .ok (.aload_n 0, 1) := by decide +kernel
theorem dT_add_28 : decode prog_11_method_8_code 28 = .ok (.dup, 1) := by decide +kernel
theorem dT_add_29 : decode prog_11_method_8_code 29 = .ok (.getfield 15, 3) := by decide +kernel
theorem dT_add_32 : decode prog_11_method_8_code 32 = .ok (.iconst 1, 1) := by decide +kernel
theorem dT_add_33 : decode prog_11_method_8_code 33 = .ok (.iadd, 1) := by decide +kernel
theorem dT_add_34 : decode prog_11_method_8_code 34 = .ok (.putfield 15, 3) := by decide +kernel
theorem dT_add_37 : decode prog_11_method_8_code 37 = .ok (.return_, 1) := by decide +kernel
theorem dT_addInt_0 : decode prog_11_method_9_code 0 = .ok (.bipush 24, 2) := by decide +kernel
theorem dT_addInt_2 : decode prog_11_method_9_code 2 = .ok (.istore_n 2, 1) := by decide +kernel
theorem dT_addInt_3 : decode prog_11_method_9_code 3 = .ok (.iload_n 2, 1) := by decide +kernel
theorem dT_addInt_4 : decode prog_11_method_9_code 4 = .ok (.ifCond .lt 16, 3) := by decide +kernel
theorem dT_addInt_7 : decode prog_11_method_9_code 7 = .ok (.aload_n 0, 1) := by decide +kernel
theorem dT_addInt_8 : decode prog_11_method_9_code 8 = .ok (.iload_n 1, 1) := by decide +kernel
theorem dT_addInt_9 : decode prog_11_method_9_code 9 = .ok (.iload_n 2, 1) := by decide +kernel
theorem dT_addInt_10 : decode prog_11_method_9_code 10 = .ok (.ishr, 1) := by decide +kernel
theorem dT_addInt_11 : decode prog_11_method_9_code 11 = .ok (.invokevirtual 32, 3) := by decide +kernel
theorem dT_addInt_14 : decode prog_11_method_9_code 14 = .ok (.iinc 2 (-8), 3) := by decide +kernel
theorem dT_addInt_17 : decode prog_11_method_9_code 17 = .ok (.goto (-14), 3) := by decide +kernel
theorem dT_addInt_20 : decode prog_11_method_9_code 20 = .ok (.return_, 1) := by decide +kernel
theorem dT_addNumber_0 : decode prog_11_method_12_code 0 = .ok (.lload_n 1, 1) := by decide +kernel
theorem dT_addNumber_1 : decode prog_11_method_12_code 1 = .ok (.lconst 0, 1) := by decide +kernel
theorem dT_addNumber_2 : decode prog_11_method_12_code 2 = .ok (.lcmp, 1) := by decide +kernel
theorem dT_addNumber_3 : decode prog_11_method_12_code 3 = .ok (.ifCond .ge 9, 3) := by decide +kernel
theorem dT_addNumber_12 : decode prog_11_method_12_code 12 = .ok (.lload_n 1, 1) := by decide +kernel
theorem dT_addNumber_13 : decode prog_11_method_12_code 13 = .ok (.invokestatic 53, 3) := by decide +kernel
theorem dT_addNumber_16 : decode prog_11_method_12_code 16 = .ok (.lstore_n 3, 1) := by decide +kernel
theorem dT_addNumber_17 : decode prog_11_method_12_code 17 = .ok (.lconst 1, 1) := by decide +kernel
theorem dT_addNumber_18 : decode prog_11_method_12_code 18 = .ok (.lstore 5, 2) := by decide +kernel
theorem dT_addNumber_20 : decode prog_11_method_12_code 20 = .ok (.lload 5, 2) := by decide +kernel
theorem dT_addNumber_22 : decode prog_11_method_12_code 22 = .ok (.ldc2_w 57, 3) := by decide +kernel
theorem dT_addNumber_25 : decode prog_11_method_12_code 25 = .ok (.lcmp, 1) := by decide +kernel
theorem dT_addNumber_26 : decode prog_11_method_12_code 26 = .ok (.ifCond .gt 25, 3) := by decide +kernel
theorem dT_addNumber_29 : decode prog_11_method_12_code 29 = .ok (.lload_n 3, 1) := by decide +kernel
theorem dT_addNumber_30 : decode prog_11_method_12_code 30 = .ok (.lload 5, 2) := by decide +kernel
theorem dT_addNumber_32 : decode prog_11_method_12_code 32 = .ok (.ldiv, 1) := by decide +kernel
theorem dT_addNumber_33 : decode prog_11_method_12_code 33 = .ok (.ldc2_w 59, 3) := by decide +kernel
theorem dT_addNumber_36 : decode prog_11_method_12_code 36 = .ok (.lcmp, 1) := by decide +kernel
theorem dT_addNumber_37 : decode prog_11_method_12_code 37 = .ok (.ifCond .lt 14, 3) := by decide +kernel
theorem dT_addNumber_51 : decode prog_11_method_12_code 51 = .ok (.lload 5, 2) := by decide +kernel
theorem dT_addNumber_53 : decode prog_11_method_12_code 53 = .ok (.lconst 0, 1) := by decide +kernel
theorem dT_addNumber_54 : decode prog_11_method_12_code 54 = .ok (.lcmp, 1) := by decide +kernel
theorem dT_addNumber_55 : decode prog_11_method_12_code 55 = .ok (.ifCond .le 31, 3) := by decide +kernel
theorem dT_addNumber_58 : decode prog_11_method_12_code 58 = .ok (.aload_n 0, 1) := by decide +kernel
theorem dT_addNumber_59 : decode prog_11_method_12_code 59 = .ok (.ldc2_w 61, 3) := by decide +kernel
theorem dT_addNumber_62 : decode prog_11_method_12_code 62 = .ok (.lload_n 3, 1) := by decide +kernel
theorem dT_addNumber_63 : decode prog_11_method_12_code 63 = .ok (.lload 5, 2) := by decide +kernel
theorem dT_addNumber_65 : decode prog_11_method_12_code 65 = .ok (.ldiv, 1) := by decide +kernel
theorem dT_addNumber_66 : decode prog_11_method_12_code 66 = .ok (.ldc2_w 59, 3) := by decide +kernel
theorem dT_addNumber_69 : decode prog_11_method_12_code 69 = .ok (.lrem, 1) := by decide +kernel
theorem dT_addNumber_70 : decode prog_11_method_12_code 70 = .ok (.ladd, 1) := by decide +kernel
theorem dT_addNumber_71 : decode prog_11_method_12_code 71 = .ok (.l2i, 1) := by decide +kernel
theorem dT_addNumber_72 : decode prog_11_method_12_code 72 = .ok (.invokevirtual 32, 3) := by decide +kernel
theorem dT_addNumber_75 : decode prog_11_method_12_code 75 = .ok (.lload 5, 2) := by decide +kernel
theorem dT_addNumber_77 : decode prog_11_method_12_code 77 = .ok (.ldc2_w 59, 3) := by decide +kernel
theorem dT_addNumber_80 : decode prog_11_method_12_code 80 = .ok (.ldiv, 1) := by decide +kernel
theorem dT_addNumber_81 : decode prog_11_method_12_code 81 = .ok (.lstore 5, 2) := by decide +kernel
theorem dT_addNumber_83 : decode prog_11_method_12_code 83 = .ok (.goto (-32), 3) := by decide +kernel
theorem dT_addNumber_86 : decode prog_11_method_12_code 86 = .ok (.return_, 1) := by decide +kernel
theorem dT_addWord_0 : decode prog_11_method_10_code 0 = .ok (.iconst 0, 1) := by decide +kernel
theorem dT_addWord_1 : decode prog_11_method_10_code 1 = .ok (.istore_n 2, 1) := by decide +kernel
theorem dT_addWord_2 : decode prog_11_method_10_code 2 = .ok (.iload_n 2, 1) := by decide +kernel
theorem dT_addWord_3 : decode prog_11_method_10_code 3 = .ok (.aload_n 1, 1) := by decide +kernel
theorem dT_addWord_4 : decode prog_11_method_10_code 4 = .ok (.invokevirtual 36, 3) := by decide +kernel
theorem dT_addWord_7 : decode prog_11_method_10_code 7 = .ok (.if_icmp .ge 18, 3) := by decide +kernel
theorem dT_addWord_10 : decode prog_11_method_10_code 10 = .ok (.aload_n 0, 1) := by decide +kernel
theorem dT_addWord_11 : decode prog_11_method_10_code 11 = .ok (.aload_n 1, 1) := by decide +kernel
theorem dT_addWord_12 : decode prog_11_method_10_code 12 = .ok (.iload_n 2, 1) := by decide +kernel
theorem dT_addWord_13 : decode prog_11_method_10_code 13 = .ok (.invokevirtual 41, 3) := by decide +kernel
theorem dT_addWord_16 : decode prog_11_method_10_code 16 = .ok (.invokevirtual 32, 3) := by decide +kernel
theorem dT_addWord_19 : decode prog_11_method_10_code 19 = .ok (.iinc 2 1, 3) := by decide +kernel
theorem dT_addWord_22 : decode prog_11_method_10_code 22 = .ok (.goto (-20), 3) := by decide +kernel
theorem dT_addWord_25 : decode prog_11_method_10_code 25 = .ok (.return_, 1) := by decide +kernel
theorem dT_at_0 : decode prog_11_method_7_code 0 = .ok (.iload_n 1, 1) := by decide +kernel
theorem dT_at_1 : decode prog_11_method_7_code 1 = .ok (.ifCond .lt 24, 3) := by decide +kernel
theorem dT_at_4 : decode prog_11_method_7_code 4 = .ok (.iload_n 1, 1) := by decide +kernel
theorem dT_at_5 : decode prog_11_method_7_code 5 = .ok (.aload_n 0, 1) := by decide +kernel
theorem dT_at_6 : decode prog_11_method_7_code 6 = .ok (.getfield 15, 3) := by decide +kernel
theorem dT_at_9 : decode prog_11_method_7_code 9 = .ok (.if_icmp .ge 16, 3) := by decide +kernel
theorem dT_at_12 : decode prog_11_method_7_code 12 = .ok (.aload_n 0, 1) := by decide +kernel
theorem dT_at_13 : decode prog_11_method_7_code 13 = .ok (.getfield 9, 3) := by decide +kernel
theorem dT_at_16 : decode prog_11_method_7_code 16 = .ok (.iload_n 1, 1) := by decide +kernel
theorem dT_at_17 : decode prog_11_method_7_code 17 = .ok (.baload, 1) := by decide +kernel
theorem dT_at_18 : decode prog_11_method_7_code 18 = .ok (.sipush 255, 3) := by decide +kernel
theorem dT_at_21 : decode prog_11_method_7_code 21 = .ok (.iand, 1) := by decide +kernel
theorem dT_at_22 : decode prog_11_method_7_code 22 = .ok (.goto 4, 3) := by decide +kernel
theorem dT_at_25 : decode prog_11_method_7_code 25 = .ok (.iconst (-1), 1) := by decide +kernel
theorem dT_at_26 : decode prog_11_method_7_code 26 = .ok (.ireturn, 1) := by decide +kernel
theorem dT_clear_0 : decode prog_11_method_2_code 0 = .ok (.aload_n 0, 1) := by decide +kernel
theorem dT_clear_1 : decode prog_11_method_2_code 1 = .ok (.iconst 0, 1) := by decide +kernel
theorem dT_clear_2 : decode prog_11_method_2_code 2 = .ok (.putfield 15, 3) := by decide +kernel
theorem dT_clear_5 : decode prog_11_method_2_code 5 = .ok (.aload_n 0, 1) := by decide +kernel
theorem dT_clear_6 : decode prog_11_method_2_code 6 = .ok (.iconst 0, 1) := by decide +kernel
theorem dT_clear_7 : decode prog_11_method_2_code 7 = .ok (.putfield 19, 3) := by decide +kernel
theorem dT_clear_10 : decode prog_11_method_2_code 10 = .ok (.return_, 1) := by decide +kernel
theorem dT_init_0 : decode prog_11_method_1_code 0 = .ok (.aload_n 0, 1) := by decide +kernel
theorem dT_init_1 : decode prog_11_method_1_code 1 = .ok (.invokespecial 3, 3) := by decide +kernel
theorem dT_init_4 : decode prog_11_method_1_code 4 = .ok (.aload_n 0, 1) := by decide +kernel
theorem dT_init_5 : decode prog_11_method_1_code 5 = .ok (.sipush 4096, 3) := by decide +kernel
theorem dT_init_8 : decode prog_11_method_1_code 8 = .ok (.newarray .byte, 2) := by decide +kernel
theorem dT_init_10 : decode prog_11_method_1_code 10 = .ok (.putfield 9, 3) := by decide +kernel
theorem dT_init_13 : decode prog_11_method_1_code 13 = .ok (.aload_n 0, 1) := by decide +kernel
theorem dT_init_14 : decode prog_11_method_1_code 14 = .ok (.iconst 0, 1) := by decide +kernel
theorem dT_init_15 : decode prog_11_method_1_code 15 = .ok (.putfield 15, 3) := by decide +kernel
theorem dT_init_18 : decode prog_11_method_1_code 18 = .ok (.aload_n 0, 1) := by decide +kernel
theorem dT_init_19 : decode prog_11_method_1_code 19 = .ok (.iconst 0, 1) := by decide +kernel
theorem dT_init_20 : decode prog_11_method_1_code 20 = .ok (.putfield 19, 3) := by decide +kernel
theorem dT_init_23 : decode prog_11_method_1_code 23 = .ok (.return_, 1) := by decide +kernel
theorem dT_isOver_0 : decode prog_11_method_5_code 0 = .ok (.aload_n 0, 1) := by decide +kernel
theorem dT_isOver_1 : decode prog_11_method_5_code 1 = .ok (.getfield 19, 3) := by decide +kernel
theorem dT_isOver_4 : decode prog_11_method_5_code 4 = .ok (.ireturn, 1) := by decide +kernel
theorem dT_keep_0 : decode prog_11_method_3_code 0 = .ok (.aload_n 0, 1) := by decide +kernel
theorem dT_keep_1 : decode prog_11_method_3_code 1 = .ok (.iconst 0, 1) := by decide +kernel
theorem dT_keep_2 : decode prog_11_method_3_code 2 = .ok (.iload_n 1, 1) := by decide +kernel
theorem dT_keep_3 : decode prog_11_method_3_code 3 = .ok (.aload_n 0, 1) := by decide +kernel
theorem dT_keep_4 : decode prog_11_method_3_code 4 = .ok (.getfield 15, 3) := by decide +kernel
theorem dT_keep_7 : decode prog_11_method_3_code 7 = .ok (.invokestatic 23, 3) := by decide +kernel
theorem dT_keep_10 : decode prog_11_method_3_code 10 = .ok (.invokestatic 29, 3) := by decide +kernel
theorem dT_keep_13 : decode prog_11_method_3_code 13 = .ok (.putfield 15, 3) := by decide +kernel
theorem dT_keep_16 : decode prog_11_method_3_code 16 = .ok (.return_, 1) := by decide +kernel
theorem dT_size_0 : decode prog_11_method_4_code 0 = .ok (.aload_n 0, 1) := by decide +kernel
theorem dT_size_1 : decode prog_11_method_4_code 1 = .ok (.getfield 15, 3) := by decide +kernel
theorem dT_size_4 : decode prog_11_method_4_code 4 = .ok (.ireturn, 1) := by decide +kernel
theorem dV_init_0 : decode prog_14_method_1_code 0 = .ok (.aload_n 0, 1) := by decide +kernel
theorem dV_init_1 : decode prog_14_method_1_code 1 = .ok (.invokespecial 1, 3) := by decide +kernel
theorem dV_init_4 : decode prog_14_method_1_code 4 = .ok (.return_, 1) := by decide +kernel
